-- the reference, its texts read, with any book
def RX (A : AB) (B : Bk) (σ : St) : Prop := tM σ 0 (a0 A) ∧ tM σ 1 (a1 A) ∧ rdM σ 0 (a0 A) ∧ rdM σ 1 (a1 A) ∧ sM σ (aS A) ∧ σ 0 15 = nI (aE A) ∧ shM σ (aSh A) ∧ σ 0 4 = nI (aFi A) ∧ bkM σ (hdA A) B
def frX (σ σ' : St) : Prop := (∀ c, ((0 < c ∧ c < 12 ∧ c ≠ 4) ∨ c = 23 ∨ 25 ≤ c) → σ' c = σ c) ∧ ∀ j, j ≠ 21 → j ≠ 33 → σ' 0 j = σ 0 j
theorem frX.rf {σ : St} : frX σ σ := ⟨fun _ _ => rfl, fun _ _ _ => rfl⟩
theorem frX.tr {a b c : St} (h1 : frX a b) (h2 : frX b c) : frX a c := ⟨fun k q => by rw [h2.1 k q, h1.1 k q], fun j q q' => by rw [h2.2 j q q', h1.2 j q q']⟩
theorem frX.ofL {σ σ' : St} (h : frL σ σ') : frX σ σ' := ⟨fun c q => h.1 c (by omega) (by omega), fun j q _ => h.2 j q⟩
theorem frX.hi {σ σ' : St} (h : frX σ σ') : hiM σ σ' := fun c q => h.1 c (by omega)
theorem frX.s {σ0 σ : St} {c j : Nat} {v : Int32} (h : frX σ0 σ) (hc : c = 24 ∨ (12 ≤ c ∧ c < 23) ∨ c = 4) : frX σ0 (s2 σ c j v) := ⟨fun k q => by rw [s2_ne (by omega)]; exact h.1 k q, fun i q q' => by rw [s2_nk (by omega)]; exact h.2 i q q'⟩
theorem frX.s0 {σ0 σ : St} {j : Nat} {v : Int32} (h : frX σ0 σ) (hc : j = 21 ∨ j = 33) : frX σ0 (s2 σ 0 j v) := ⟨fun k q => by rw [s2_ne (by omega)]; exact h.1 k q, fun i q q' => by rw [s2_nj (by omega)]; exact h.2 i q q'⟩
theorem bkM.frX {σ σ' : St} {H : Hd} {B : Bk} (h : bkM σ H B) (hF : frX σ σ') : bkM σ' H B := by
  obtain ⟨⟨a1, a2⟩, ⟨b1, b2, b3⟩, ⟨c1, c2, c3⟩, ⟨d1, d2, d3⟩, ⟨e1, e2, e3⟩, r⟩ := h
  have z : ∀ c, 4 < c → c < 12 → σ' c = σ c := fun c h1 h2 => hF.1 c (by omega)
  refine ⟨⟨by rw [z 7 (by decide) (by decide)]; exact a1, fun h w h1 h2 => by rw [z 8 (by decide) (by decide)]; exact a2 h w h1 h2⟩, ⟨by rw [hF.2 9 (by decide) (by decide)]; exact b1, b2, fun k hk => ?_⟩, ⟨by rw [hF.2 11 (by decide) (by decide)]; exact c1, c2, fun k hk => ?_⟩, ⟨by rw [hF.2 13 (by decide) (by decide)]; exact d1, d2, fun k hk => ?_⟩, ⟨by rw [hF.2 26 (by decide) (by decide)]; exact e1, by rw [hF.2 27 (by decide) (by decide)]; exact e2, e3⟩, r⟩
  · rw [z 9 (by decide) (by decide)]; exact b3 k hk
  · rw [z 10 (by decide) (by decide)]; exact c3 k hk
  · rw [z 11 (by decide) (by decide)]; exact d3 k hk
theorem RX.book {A : AB} {B B' : Bk} {σ σ' : St} (h : RX A B σ) (hF : ∀ c, ((0 < c ∧ c < 9 ∧ c ≠ 4) ∨ c = 23) → σ' c = σ c) (h0 : ∀ j, j < 9 ∨ j = 15 ∨ j = 30 → σ' 0 j = σ 0 j) (hB : bkM σ' (hdA A) B') : RX A B' σ' := by
  obtain ⟨t0, t1, r0, r1, s, e, sh, fi, b⟩ := h
  have z : ∀ c, 4 < c → c < 9 → σ' c = σ c := fun c h1 h2 => hF c (by omega)
  refine ⟨t0.keep (z 5 (by decide) (by decide)) (z 6 (by decide) (by decide)), t1.keep (z 5 (by decide) (by decide)) (z 6 (by decide) (by decide)), ?_, ?_, s.frame (h0 30 (by decide)) (hF 23 (by decide)), by rw [h0 15 (by decide)]; exact e, sh.frame (hF 1 (by decide)) (hF 2 (by decide)) (hF 3 (by decide)), by rw [h0 4 (by decide)]; exact fi, hB⟩
  · unfold rdM; rw [z 7 (by decide) (by decide), z 8 (by decide) (by decide)]; exact r0
  · unfold rdM; rw [z 7 (by decide) (by decide), z 8 (by decide) (by decide)]; exact r1
theorem RX.frame {A : AB} {B : Bk} {σ σ' : St} (h : RX A B σ) (hF : frX σ σ') : RX A B σ' :=
  h.book (fun c q => hF.1 c (by omega)) (fun j q => hF.2 j (by omega) (by omega)) (h.2.2.2.2.2.2.2.2.frX hF)
theorem bkM_of {A : AB} {σ : St} (h : RMr A σ) (hA : okAB A) : bkM σ (hdA A) (bkA A) := by
  obtain ⟨⟨t0, t1, l, f, p, s, e, sh, fi, n1, n2⟩, r0, r1⟩ := h
  refine ⟨⟨r0.1, fun k w q1 q2 => ?_⟩, ⟨l.1, ?_, l.2⟩, ⟨f.1, hA.2.2.1.2, f.2⟩, ⟨p.1, ?_, p.2⟩, ⟨n1, n2, fun v hv => ?_, fun v hv => ?_⟩, okH_hd hA, hA.2.1.1, hA.2.2.1.1, hA.2.2.2.1.1⟩
  · have := r0.2 k w q1 q2
    rw [show 32 * 0 + 4 * k + w = 4 * k + w by omega] at this; exact this
  · have := hA.2.1.2; show (aL A).length ≤ 52; omega
  · have := hA.2.2.2.1.2; show (aP A).length ≤ 11; omega
  · cases hv
  · cases hv
theorem RX_of {A : AB} {σ : St} (h : RMr A σ) (hA : okAB A) : RX A (bkA A) σ := by
  have hb := bkM_of h hA
  obtain ⟨⟨t0, t1, l, f, p, s, e, sh, fi, n1, n2⟩, r0, r1⟩ := h
  exact ⟨t0, t1, r0, r1, s, e, sh, fi, hb⟩
theorem RX.to {A : AB} {σ : St} (h : RX A (bkA A) σ) : RMr A σ := by
  obtain ⟨t0, t1, r0, r1, s, e, sh, fi, hb⟩ := h
  obtain ⟨-, ⟨b1, b2, b3⟩, ⟨c1, c2, c3⟩, ⟨d1, d2, d3⟩, ⟨e1, e2, e3⟩, r⟩ := hb
  exact ⟨⟨t0, t1, ⟨b1, b3⟩, ⟨c1, c3⟩, ⟨d1, d3⟩, s, e, sh, fi, e1, e2⟩, r0, r1⟩
def isX {α : Type} (A : AB) (B : Bk) (x : Option (α × St)) (σ : St) (v : α) : Prop := Ok x (fun r σ' => r = v ∧ RX A B σ' ∧ hiM σ σ')
theorem isX_some {α : Type} {A : AB} {B : Bk} {σ0 σ : St} {v w : α} (h : RX A B σ) (hi : hiM σ0 σ) (e : w = v) : Ok (some (w, σ)) (fun r σ' => r = v ∧ RX A B σ' ∧ hiM σ0 σ') := ok_some.mpr ⟨e, h, hi⟩
theorem hiM.tr {a b c : St} (h1 : hiM a b) (h2 : hiM b c) : hiM a c := fun k q => by rw [h2 k q, h1 k q]
theorem loC.tr {a b c : St} (h1 : loC a b) (h2 : loC b c) : loC a c := fun k q => by rw [h2 k q, h1 k q]
theorem x_lives {A : AB} {B : Bk} {σ : St} {d : Nat} (hd : d < 40) (h : RX A B σ) : Ok (M8_lives (nI d) σ) (fun _ σ' => RX A B σ' ∧ mG σ' (hdA A) B (d + 1) (sim (hdA A) B (d + 1)) ∧ frX σ σ') :=
  (t8_lives hd h.2.2.2.2.2.2.2.2).mono (fun _ _ hp => ⟨h.frame (frX.ofL hp.1), hp.2, frX.ofL hp.1⟩)
/-- a call of the reference that reads the texts first -/
theorem m_rd {A : AB} {σ : St} {f : Unit → St → Option (Int32 × St)} {s : Int32} (h : RM A σ) (hA : okAB A) (k : ∀ σ1, RX A (bkA A) σ1 → isX A (bkA A) (f () σ1) σ1 s) : isM (bd (M8_reads σ) f) σ (s, A) := by
  unfold isM
  refine ok_call (m_reads h) ?_
  rintro ⟨⟩ σ1 ⟨hR, hi⟩
  exact (k σ1 (RX_of hR hA)).mono (fun r σ' hp => ⟨hp.1, hp.2.1.to.1, hi.tr hp.2.2⟩)
theorem isX_tail {α : Type} {A : AB} {B : Bk} {σ : St} {x : Option (α × St)} {v : α} (h : isX A B x σ v) : isX A B (bd x fun r s => some (r, s)) σ v := by
  unfold isX
  exact ok_call h (fun r σ' hp => ok_some.mpr hp)
-- the class: the course that was told
theorem bkC_of {A : AB} {σ : St} (h : RC A σ) (hA : okAB A) : bkC σ 32 (hdA A) (bkA A) := by
  obtain ⟨t0, t1, r1, r2, r3, r4, l, e, sh, fi, st⟩ := h
  exact ⟨⟨t0.2.2.1, t0.2.2.2⟩, ⟨r1, r2, r3⟩, ⟨rfl, rfl⟩, okH_hd hA, hA.2.1.1, hA.2.2.1.1, hA.2.2.2.1.1⟩
/-- the class's world as cells stay, but for the courses, the other book and what the matches use -/
theorem RC.keep {A : AB} {σ σ' : St} (hA : okAB A) (h : RC A σ) (hF : ∀ c, ((26 ≤ c ∧ c < 39) ∨ c = 46 ∨ c = 47 ∨ (90 ≤ c ∧ c < 98)) → σ' c = σ c) (h40 : σ' 40 0 = σ 40 0) (h42 : σ' 42 0 = σ 42 0) (h44 : σ' 44 0 = σ 44 0) (h11 : σ' 25 11 = σ 25 11) (h12 : σ' 25 12 = σ 25 12) (st : stC σ' A) : RC A σ' := by
  obtain ⟨t0, t1, r1, r2, r3, r4, ⟨l1, l2, l3, l4, l5, l6, l7⟩, e, sh, fi, -⟩ := h
  refine ⟨t0.frame (hF _ (by decide)) (hF _ (by decide)) (hF _ (by decide)), t1.frame (hF _ (by decide)) (hF _ (by decide)) (hF _ (by decide)), r1.frame (hF _ (by decide)) (hF _ (by decide)), r2.frame (hF _ (by decide)) (hF _ (by decide)), r3.frame (hF _ (by decide)) (hF _ (by decide)), r4.frame (hF _ (by decide)) (hF _ (by decide)), ?_, by rw [h11]; exact e, sh.frame (fun c q1 q2 => hF c (by omega)), by rw [h12]; exact fi, st⟩
  unfold lmC; rw [hF 33 (by decide), hF 35 (by decide), hF 37 (by decide), hF 46 (by decide), h40, h42, h44]; exact ⟨l1, l2, l3, l4, l5, l6, l7⟩
def toC (σ : St) (A : AB) : Prop := fol σ 48 (hdA A) (bkA A) 40
theorem c_told {A : AB} {σ : St} (h : RC A σ) (hA : okAB A) : Ok (M7_toldCourse σ) (fun r σ' => r = 48 ∧ RC A σ' ∧ toC σ' A ∧ loC σ σ') := by
  unfold M7_toldCourse
  rcases h.2.2.2.2.2.2.2.2.2.2 with s | ⟨s, f⟩
  · refine ok_F (by rw [s]; decide) ?_
    refine ok_call (t1_follow (o := 48) (b := 32) (last := 39) ⟨Or.inl rfl, Or.inl rfl⟩ (by decide) (bkC_of h hA) (by have := hA.2.1.2; show (aL A).length ≤ 52; omega)) ?_
    rintro - σ1 ⟨hF, hf⟩
    rw [ok_lt, ok_some]
    have hf' : toC (s2 σ1 25 5 0) A := hf.frame (itm_hd hA) (fun c q1 q2 => s2_ne (by omega))
    refine ⟨rfl, h.keep hA (fun c q => ?_) ?_ ?_ ?_ ?_ ?_ (Or.inr ⟨s2_eq, hf'⟩), hf', fun c q => ?_⟩
    · rw [s2_ne (by omega), hF c (by omega)]
    · rw [s2_nk (by decide), hF 40 (by decide)]
    · rw [s2_nk (by decide), hF 42 (by decide)]
    · rw [s2_nk (by decide), hF 44 (by decide)]
    · rw [s2_nj (by decide), hF 25 (by decide)]
    · rw [s2_nj (by decide), hF 25 (by decide)]
    · rw [s2_ne (by omega), hF c (by omega)]
  · refine ok_T s ?_
    rw [ok_some]
    exact ⟨rfl, h, f, loC.rf⟩
-- views of a day
abbrev Vw : Type := Nat → Nat × Nat × Bool
def vw (G : Gs) : Vw := fun h => (gw G h, gd G h, (gou G h).isNone)
def simA (A : AB) (d : Nat) : Gs := sim (hdA A) (bkA A) d
def vwA (A : AB) (d : Nat) : Vw := vw (simA A (d + 1))
def cV (σ : St) (o d n : Nat) (V : Vw) : Prop := ∀ h, h < n → σ (o + 2) (d * 8 + h) = nI (V h).1 ∧ σ (o + 3) (d * 8 + h) = nI (V h).2.1 ∧ (σ (o + 4) (d * 8 + h) = -1 ↔ (V h).2.2 = true)
def mV (σ : St) (n : Nat) (V : Vw) : Prop := ∀ h, h < n → σ 12 h = nI (V h).1 ∧ σ 13 h = nI (V h).2.1 ∧ (σ 14 h = -1 ↔ (V h).2.2 = true)
def okV (n : Nat) (V : Vw) : Prop := n ≤ 8 ∧ ∀ h, h < n → 1 ≤ (V h).1 ∧ (V h).1 ≤ 9 ∧ 1 ≤ (V h).2.1 ∧ (V h).2.1 ≤ 9
theorem oI_none {o : Option Nat} {n : Nat} (h : ∀ v, o = some v → v < n) (hn : n ≤ 2 ^ 31) : oI o = -1 ↔ o.isNone = true := by
  rw [oI_sm h hn]; cases o <;> simp
theorem gou_lt {H : Hd} {B : Bk} {d h : Nat} (hH : okH H) (hL : okL B.1) (hh : h < H.1) : ∀ v, gou (sim H B d) h = some v → v < B.1.length := fun v hv => ((okG_sim hH hL d) h hh).2.2.2.2 v hv |>.1
theorem cV_of {σ : St} {o D d : Nat} {H : Hd} {B : Bk} (hH : okH H) (hL : okL B.1) (hbl : B.1.length ≤ 52) (hf : fol σ o H B D) (hd : d < D) : cV σ o d H.1 (vw (sim H B (d + 1))) := by
  intro h hh
  obtain ⟨s1, s2, s3⟩ := (hf.2 d hd).1 h hh
  exact ⟨s1, s2, by rw [s3, oI_none (gou_lt hH hL hh) (by omega)]; rfl⟩
theorem mV_of {σ : St} {d : Nat} {H : Hd} {B : Bk} (hH : okH H) (hL : okL B.1) (hbl : B.1.length ≤ 52) (hm : mG σ H B d (sim H B d)) : mV σ H.1 (vw (sim H B d)) := by
  intro h hh
  obtain ⟨s1, s2, s3, -⟩ := hm.1 h hh
  exact ⟨s1, s2, by rw [s3, oI_none (gou_lt hH hL hh) (by omega)]; rfl⟩
theorem okV_of {d : Nat} {H : Hd} {B : Bk} (hH : okH H) (hL : okL B.1) : okV H.1 (vw (sim H B d)) := by
  refine ⟨hH.1, fun h hh => ?_⟩
  obtain ⟨a1, a2, a3, a4, -⟩ := okG_sim hH hL d h hh
  exact ⟨a1, a2, a3, a4⟩
theorem x_livesV {A : AB} {B : Bk} {σ : St} {d : Nat} (hd : d < 40) (h : RX A B σ) : Ok (M8_lives (nI d) σ) (fun _ σ' => RX A B σ' ∧ mV σ' (itm 0 (a0 A)) (vw (sim (hdA A) B (d + 1))) ∧ frX σ σ') :=
  (x_lives hd h).mono (fun _ _ hp => ⟨hp.1, mV_of hp.1.2.2.2.2.2.2.2.2.2.2.2.2.2.1 hp.1.2.2.2.2.2.2.2.2.2.2.2.2.2.2.1 hp.1.2.2.2.2.2.2.2.2.2.1.2.1 hp.2.1, hp.2.2⟩)
theorem ix8 {d h : Nat} : nI d * 8 + nI h = nI (d * 8 + h) := by rw [show (8 : Int32) = nI 8 from rfl, pk_mul, nI_add]
theorem e1_wide {σ : St} {o d n h : Nat} {V : Vw} (hv : cV σ o d n V) (hn : n ≤ 8) (hd : d < 40) (hh : h < n) : M1_wideBehind o (nI d) (nI h) σ = some (nI (V h).1, σ) := by
  unfold M1_wideBehind
  rw [ix8, if_pos ((inb_nI (by omega)).mpr (by omega)), nI_clamp (n := d * 8 + h) (by omega), (hv h hh).1]
theorem e1_deep {σ : St} {o d n h : Nat} {V : Vw} (hv : cV σ o d n V) (hn : n ≤ 8) (hd : d < 40) (hh : h < n) : M1_deepBehind o (nI d) (nI h) σ = some (nI (V h).2.1, σ) := by
  unfold M1_deepBehind
  rw [ix8, if_pos ((inb_nI (by omega)).mpr (by omega)), nI_clamp (n := d * 8 + h) (by omega), (hv h hh).2.1]
theorem e1_loan {σ : St} {o d h : Nat} (hd : d < 40) (hh : h < 8) : M1_loanBehind o (nI d) (nI h) σ = some (σ (o + 4) (d * 8 + h), σ) := by
  unfold M1_loanBehind
  rw [ix8, if_pos ((inb_nI (by omega)).mpr (by omega)), nI_clamp (n := d * 8 + h) (by omega)]
def lk (V : Vw) (h : Nat) : Nat := if (V h).2.2 then (V h).1 else 0
theorem e1_sight {σ : St} {o d n h : Nat} {V : Vw} (hv : cV σ o d n V) (hn : n ≤ 8) (hd : d < 40) (hh : h < n) : M1_sightOf o (nI d) (nI h) σ = some (nI (lk V h), σ) := by
  unfold M1_sightOf lk
  rw [e1_loan hd (by omega), bind_s]
  by_cases e : (V h).2.2 = true
  · rw [if_pos ((hv h hh).2.2.mpr e), if_pos e, e1_wide hv hn hd hh, bind_s]
  · rw [if_neg (fun q => e ((hv h hh).2.2.mp q)), if_neg e]; rfl
theorem e8_looks {σ : St} {n h : Nat} {V : Vw} (hv : mV σ n V) (hn : n ≤ 8) (hh : h < n) : M8_looksNow (nI h) σ = some (nI (lk V h), σ) := by
  unfold M8_looksNow lk
  rw [if_pos ((inb_nI (by omega)).mpr (by omega)), nI_clamp (n := h) (by omega), (hv h hh).1]
  by_cases e : (V h).2.2 = true
  · rw [if_pos ((hv h hh).2.2.mpr e), if_pos e]
  · rw [if_neg (fun q => e ((hv h hh).2.2.mp q)), if_neg e]; rfl
-- the vault
def vlt (V : Vw) : Nat → Nat
  | 0 => 0
  | n + 1 => vlt V n + if (V n).2.2 then (V n).1 * (V n).2.1 else 0
theorem e1_vault {σ : St} {o d n : Nat} {V : Vw} (hv : cV σ o d n V) (h9 : σ o 9 = nI n) (hn : n ≤ 8) (hd : d < 40) : M1_vaultBehind o (nI d) σ = some (nI (vlt V n), σ) := by
  unfold M1_vaultBehind
  have key : ∀ fu k, k ≤ n → n + 1 ≤ fu + k → M1_vaultBehind_L4 o (nI d) (fun v σ => some (v, σ)) fu (nI (vlt V k)) (nI k) σ = some (nI (vlt V n), σ) := by
    intro fu
    induction fu with
    | zero => intro k _ _; omega
    | succ fu ih =>
      intro k hk hf
      rw [M1_vaultBehind_L4, h9]
      by_cases e : n ≤ k
      · rw [if_pos ((nI_leI (by omega) (by omega)).mpr e), show k = n by omega]
      · rw [if_neg (fun q => e ((nI_leI (by omega) (by omega)).mp q)), e1_loan hd (by omega), bind_s]
        have hs : vlt V (k + 1) = vlt V k + if (V k).2.2 then (V k).1 * (V k).2.1 else 0 := rfl
        by_cases q : (V k).2.2 = true
        · rw [if_pos ((hv k (by omega)).2.2.mpr q), e1_wide hv hn hd (by omega), bind_s, e1_deep hv hn hd (by omega), bind_s]
          unfold lt M1_vaultBehind_J38 lt
          rw [pk_mul, nI_add, nI_1]
          rw [if_pos q] at hs
          rw [← hs]
          exact ih (k + 1) (by omega) (by omega)
        · rw [if_neg (fun z => q ((hv k (by omega)).2.2.mp z))]
          unfold M1_vaultBehind_J38 lt
          rw [nI_1]
          rw [if_neg q] at hs
          rw [show vlt V k = vlt V (k + 1) by omega]
          exact ih (k + 1) (by omega) (by omega)
  exact key FU 0 (by omega) (by have := FU_ge; omega)
theorem e8_vault {σ : St} {n : Nat} {V : Vw} (hv : mV σ n V) (h7 : σ 7 0 = nI n) (hn : n ≤ 8) : M8_vaultNow σ = some (nI (vlt V n), σ) := by
  unfold M8_vaultNow
  have key : ∀ fu k, k ≤ n → n + 1 ≤ fu + k → M8_vaultNow_L4 (fun v σ => some (v, σ)) fu (nI (vlt V k)) (nI k) σ = some (nI (vlt V n), σ) := by
    intro fu
    induction fu with
    | zero => intro k _ _; omega
    | succ fu ih =>
      intro k hk hf
      rw [M8_vaultNow_L4, h7]
      by_cases e : n ≤ k
      · rw [if_pos ((nI_leI (by omega) (by omega)).mpr e), show k = n by omega]
      · rw [if_neg (fun q => e ((nI_leI (by omega) (by omega)).mp q)), if_pos ((inb_nI (by omega)).mpr (by omega)), nI_clamp (n := k) (by omega), (hv k (by omega)).1, (hv k (by omega)).2.1]
        have hs : vlt V (k + 1) = vlt V k + if (V k).2.2 then (V k).1 * (V k).2.1 else 0 := rfl
        unfold M8_vaultNow_J42 lt
        by_cases q : (V k).2.2 = true
        · rw [if_pos ((hv k (by omega)).2.2.mpr q), pk_mul, nI_add, nI_1]
          rw [if_pos q] at hs
          rw [← hs]
          exact ih (k + 1) (by omega) (by omega)
        · rw [if_neg (fun z => q ((hv k (by omega)).2.2.mp z)), nI_1, show (0 : Int32) = nI 0 from rfl, nI_add]
          rw [if_neg q] at hs
          rw [← hs]
          exact ih (k + 1) (by omega) (by omega)
  exact key FU 0 (by omega) (by have := FU_ge; omega)
-- whether a hole, so wide and so deep, serves a work
def su (A : AB) (w h x d : Nat) : Bool := decide ((fig 1 (a1 A) w 0 = 3 ∨ fig 1 (a1 A) w 0 = fig 0 (a0 A) h 0) ∧ fig 1 (a1 A) w 1 ≤ x ∧ x ≤ fig 1 (a1 A) w 1 + aE A ∧ fig 1 (a1 A) w 2 ≤ d)
theorem fig_lt {t : Nat} {b : List Nat} (k w : Nat) : fig t b k w < 256 := by
  unfold fig
  cases e : tg t w (b.getD (5 * k + w) 0) with
  | none => decide
  | some v => have := tg_lt e; show v < 256; omega
