def snp (σ : St) (o d h : Nat) (G : Gs) : Prop := σ (o + 2) (d * 8 + h) = nI (gw G h) ∧ σ (o + 3) (d * 8 + h) = nI (gd G h) ∧ σ (o + 4) (d * 8 + h) = oI (gou G h)
theorem e1_note {σ : St} {o d h : Nat} (hd : d < 40) (hh : h < 8) : M1_note o (nI d) (nI h) σ = some ((), s2 (s2 (s2 σ (o + 2) (d * 8 + h) (σ (hc o h) 1)) (o + 3) (d * 8 + h) (σ (hc o h) 2)) (o + 4) (d * 8 + h) (σ (hc o h) 4)) := by
  unfold M1_note
  have e : nI d * 8 + nI h = nI (d * 8 + h) := by rw [show (8 : Int32) = nI 8 from rfl, pk_mul, nI_add]
  rw [e]
  unfold lt
  dsimp only
  rw [if_pos ((inb_nI (by omega)).mpr hh), if_pos ((inb_nI (by omega)).mpr (by omega)), nI_clamp (n := d * 8 + h) (by omega), nI_clamp (n := h) (by omega)]
  have e1 : s2 σ (o + 2) (d * 8 + h) (σ (o + 1 + 9 + h) 1) (o + 1 + 9 + h) 2 = σ (o + 1 + 9 + h) 2 := s2_nk (by omega)
  have e2 : ∀ v, s2 (s2 σ (o + 2) (d * 8 + h) (σ (o + 1 + 9 + h) 1)) (o + 3) (d * 8 + h) v (o + 1 + 9 + h) 4 = σ (o + 1 + 9 + h) 4 := fun v => by rw [s2_nk (by omega), s2_nk (by omega)]
  rw [e1, e2]; rfl
theorem passS_other {H : Hd} {dy : Nat → Nat} {d k h : Nat} {G : Gs} (e : h ≠ k) : gw (passS H dy d k G) h = gw G h ∧ gd (passS H dy d k G) h = gd G h ∧ gou (passS H dy d k G) h = gou G h := by
  unfold passS
  split
  · exact ⟨rfl, rfl, rfl⟩
  · dsimp only
    split <;> simp [gw, gd, gou, up, e]
theorem passD_later {H : Hd} {B : Bk} {d k h : Nat} {G : Gs} (hk : h < k) : ∀ m, k ≤ m → gw (passD H B d G m) h = gw (passD H B d G k) h ∧ gd (passD H B d G m) h = gd (passD H B d G k) h ∧ gou (passD H B d G m) h = gou (passD H B d G k) h := by
  intro m
  induction m with
  | zero => intro hm; omega
  | succ m ih =>
    intro hm
    by_cases e : k = m + 1
    · subst e; exact ⟨rfl, rfl, rfl⟩
    · obtain ⟨a, b, c⟩ := ih (by omega)
      obtain ⟨a2, b2, c2⟩ := passS_other (H := H) (dy := dyB B) (d := d) (k := m) (h := h) (G := passD H B d G m) (by omega)
      rw [passD_succ]
      exact ⟨a2.trans a, b2.trans b, c2.trans c⟩
/-- while the holes of day d pass: other cells, and what was noted of earlier days, stay -/
def frP (o d : Nat) (σ σ' : St) : Prop := (∀ c, (c < o + 2 ∨ c = o + 5 ∨ c = o + 6 ∨ o + 18 ≤ c) → σ' c = σ c) ∧ ∀ c i, o + 2 ≤ c → c ≤ o + 4 → i < d * 8 → σ' c i = σ c i
theorem frP.rf {o d : Nat} {σ : St} : frP o d σ σ := ⟨fun _ _ => rfl, fun _ _ _ _ _ => rfl⟩
theorem frP.ofC {o d : Nat} {a b c : St} (h1 : frP o d a b) (h2 : frC o b c) : frP o d a c := ⟨fun k q => by rw [h2 k (by omega)]; exact h1.1 k q, fun k i q1 q2 q3 => by rw [h2 k (by omega)]; exact h1.2 k i q1 q2 q3⟩
theorem l1_pass {o b : Nat} (ho : okO o b) {H : Hd} {B : Bk} {d : Nat} {x3 : Int32} (hd : d < 40) {σ0 : St} {G0 : Gs} (hB : bkC σ0 b H B) (hbl : B.1.length ≤ 52) (hA : okA H B d G0) {kx : St → Option (Unit × St)} {P : Unit → St → Prop}
    (hx : ∀ σ, frP o d σ0 σ → cG σ o H (passD H B d G0 H.1) → (∀ h, h < H.1 → snp σ o d h (passD H B d G0 H.1)) → Ok (kx σ) P) :
    ∀ (n k : Nat) (σ : St), k ≤ H.1 → H.1 + 1 ≤ n + k → frP o d σ0 σ → cG σ o H (passD H B d G0 k) → (∀ h, h < k → snp σ o d h (passD H B d G0 H.1)) → Ok (M1_follow_L123 o b x3 (nI d) kx n (nI k) σ) P := by
  intro n
  induction n with
  | zero => intro k σ a b; omega
  | succ n ih =>
    intro k σ hk hn hF hm hs
    obtain ⟨ho1, ho2⟩ := id ho
    have hB' := hB.frame (σ' := σ) ho2 (fun c hc => hF.1 c (Or.inl (by omega)))
    have h8 := hB.2.2.2.1.1
    rw [M1_follow_L123, hm.1]
    by_cases he : k = H.1
    · refine ok_T ((nI_leI (by omega) (by omega)).mpr (by omega)) ?_
      subst he
      exact hx σ hF hm hs
    · refine ok_F (fun q => he (by have := (nI_leI (by omega) (by omega)).mp q; omega)) ?_
      have hk' : k < H.1 := by omega
      refine ok_T ((inb_nI (by omega)).mpr (by omega)) ?_
      rw [nI_clamp (n := k) (by omega)]
      have hAk := okA_passD hA k hk
      have hsuc := passD_succ (H := H) (B := B) (d := d) (k := k) (G := G0)
      obtain ⟨m0, m1, m2, m3, m4, m7, m5⟩ := hm.2.1 k hk'
      have hid := (hAk.1 k hk').2.2.2.2
      have hJ : ∀ σ, frP o d σ0 σ → cG σ o H (passD H B d G0 (k + 1)) → (∀ h, h < k → snp σ o d h (passD H B d G0 H.1)) → Ok (M1_follow_J163 (fun x5 σ => M1_follow_L123 o b x3 (nI d) kx n x5 σ) o b x3 (nI d) (nI k) σ) P := by
        intro σ hF hm hs
        unfold M1_follow_J163
        rw [e1_note hd (by omega), bind_s, ok_lt, nI_1]
        obtain ⟨c0, c1, c2, c3, c4, c7, c5⟩ := hm.2.1 k hk'
        have hcb : ∀ h, o + 10 ≤ hc o h := by intro h; unfold hc; omega
        refine ih (k + 1) _ (by omega) (by omega) ⟨fun c q => ?_, fun c i q1 q2 q3 => ?_⟩ ⟨?_, fun h hh => (hm.2.1 h hh).frame ?_, fun j hj => (hm.2.2 j hj).frame ?_ ?_ ?_⟩ (fun h hh => ?_)
        · rw [s2_ne (by omega), s2_ne (by omega), s2_ne (by omega)]; exact hF.1 c q
        · have : ∀ v w x, s2 (s2 (s2 σ (o + 2) (d * 8 + k) v) (o + 3) (d * 8 + k) w) (o + 4) (d * 8 + k) x c i = σ c i := by
            intro v w x
            have hi : i ≠ d * 8 + k := by omega
            simp only [s2, hi, and_false, if_false]
          rw [this]; exact hF.2 c i q1 q2 q3
        · rw [s2_nk (by omega), s2_nk (by omega), s2_nk (by omega)]; exact hm.1
        · have := hcb h
          rw [s2_ne (by omega), s2_ne (by omega), s2_ne (by omega)]
        · rw [s2_nk (by omega), s2_nk (by omega), s2_nk (by omega)]
        · rw [s2_nk (by omega), s2_nk (by omega), s2_nk (by omega)]
        · rw [s2_nk (by omega), s2_nk (by omega), s2_nk (by omega)]
        · by_cases eh : h = k
          · subst eh
            obtain ⟨l1, l2, l3⟩ := passD_later (H := H) (B := B) (d := d) (k := h + 1) (h := h) (G := G0) (by omega) H.1 (by omega)
            refine ⟨?_, ?_, ?_⟩
            · rw [s2_nk (by omega), s2_nk (by omega), s2_eq, c1, l1]
            · rw [s2_nk (by omega), s2_eq, c2, l2]
            · rw [s2_eq, c4, l3]
          · have hs' := hs h (by omega)
            have hi : d * 8 + h ≠ d * 8 + k := by omega
            refine ⟨?_, ?_, ?_⟩
            · rw [s2_nk (by omega), s2_nk (by omega), s2_nj hi]; exact hs'.1
            · rw [s2_nk (by omega), s2_nj hi, s2_nk (by omega)]; exact hs'.2.1
            · rw [s2_nj hi, s2_nk (by omega), s2_nk (by omega)]; exact hs'.2.2
      show Ok (if σ (hc o k) 4 = -1 then _ else bd (M1_passDayOut o (nI d) (hc o k) (b + 1) σ) _) _
      rw [m4]
      cases hou : gou (passD H B d G0 k) k with
      | none =>
        refine ok_T rfl ?_
        refine hJ σ hF ?_ hs
        rw [hsuc]; unfold passS; rw [hou]; exact hm
      | some i =>
        refine ok_F (nI_m1 (by have := (hid i hou).1; omega)) ?_
        refine ok_call (t1_pass ho hB' hbl hAk hm hk' hou) ?_
        rintro - σ2 ⟨hF2, hm2⟩
        refine hJ σ2 (hF.ofC hF2) (by rw [hsuc]; exact hm2) (fun h hh => ?_)
        have := hs h hh
        unfold snp at this ⊢
        rw [hF2 (o + 2) (by omega), hF2 (o + 3) (by omega), hF2 (o + 4) (by omega)]; exact this
theorem bm_or {f : Nat → Bool} {k : Nat} (hk : k < 8) (hf : f k = true) : nI (bm f k) ||| ((1 : Int32) <<< (nI k &&& 31)) = nI (bm f (k + 1)) := by
  have hl := bm_lt f k
  have h256 : bm f k < 256 := Nat.lt_trans hl (by have := Nat.pow_lt_pow_right (show 1 < 2 by decide) hk; simpa using this)
  rw [(bits_dec ⟨bm f k, h256⟩ ⟨k, hk⟩).2.1]
  congr 1
  apply Nat.eq_of_testBit_eq
  intro i
  rw [Nat.testBit_or, bm_bit, bm_bit, Nat.testBit_two_pow]
  by_cases e : k = i
  · subst e; simp [hf]
  · by_cases h1 : i < k
    · simp [h1, e, show i < k + 1 by omega]
    · simp [h1, e, show ¬ i < k + 1 by omega]
theorem bm_skip {f : Nat → Bool} {k : Nat} (hf : f k = false) : bm f (k + 1) = bm f k := by simp [bm, hf]
theorem e1_bitsAtBank {o : Nat} {H : Hd} {G : Gs} {σ : St} {N : Nat} (h8 : H.1 ≤ 8) (hm : cG σ o H G) (hid : ∀ h id, h < H.1 → gou G h = some id → id < N) (hN : N ≤ 52) : M1_bitsAtBank o σ = some (nI (bm (fun h => (gou G h).isNone) H.1), σ) := by
  unfold M1_bitsAtBank
  have key : ∀ (n k : Nat), k ≤ H.1 → H.1 + 1 ≤ n + k → M1_bitsAtBank_L4 o (fun v σ => some (v, σ)) n (nI (bm (fun h => (gou G h).isNone) k)) (nI k) σ = some (nI (bm (fun h => (gou G h).isNone) H.1), σ) := by
    intro n
    induction n with
    | zero => intro k a b; omega
    | succ n ih =>
      intro k hk hn
      rw [M1_bitsAtBank_L4, hm.1]
      by_cases he : k = H.1
      · rw [if_pos ((nI_leI (by omega) (by omega)).mpr (by omega)), he]
      · rw [if_neg (fun q => he (by have := (nI_leI (by omega) (by omega)).mp q; omega)), if_pos ((inb_nI (by omega)).mpr (by omega)), nI_clamp (n := k) (by omega)]
        have m4 : σ (o + 1 + 9 + k) 4 = oI (gou G k) := (hm.2.1 k (by omega)).2.2.2.2.1
        unfold M1_bitsAtBank_J31 lt
        dsimp only
        rw [m4, nI_1]
        cases hou : gou G k with
        | none =>
          rw [if_pos (show oI none = -1 from rfl), bm_or (by omega) (by simp [hou])]
          exact ih (k + 1) (by omega) (by omega)
        | some i =>
          have := hid k i (by omega) hou
          rw [if_neg (show ¬ oI (some i) = -1 from nI_m1 (by omega))]
          have := ih (k + 1) (by omega) (by omega)
          rw [bm_skip (by simp [hou])] at this; exact this
  exact key FU 0 (Nat.zero_le _) (by have := FU_ge; omega)
theorem e1_bitsFilled {o : Nat} {H : Hd} {G : Gs} {σ : St} (h8 : H.1 ≤ 8) (hm : cG σ o H G) : M1_bitsFilled o σ = some (nI (bm (gfl G) H.1), σ) := by
  unfold M1_bitsFilled
  have key : ∀ (n k : Nat), k ≤ H.1 → H.1 + 1 ≤ n + k → M1_bitsFilled_L4 o (fun v σ => some (v, σ)) n (nI (bm (gfl G) k)) (nI k) σ = some (nI (bm (gfl G) H.1), σ) := by
    intro n
    induction n with
    | zero => intro k a b; omega
    | succ n ih =>
      intro k hk hn
      rw [M1_bitsFilled_L4, hm.1]
      by_cases he : k = H.1
      · rw [if_pos ((nI_leI (by omega) (by omega)).mpr (by omega)), he]
      · rw [if_neg (fun q => he (by have := (nI_leI (by omega) (by omega)).mp q; omega)), if_pos ((inb_nI (by omega)).mpr (by omega)), nI_clamp (n := k) (by omega)]
        have m7 : σ (o + 1 + 9 + k) 7 = (if gfl G k then 1 else 0) := (hm.2.1 k (by omega)).2.2.2.2.2.1
        unfold M1_bitsFilled_J30 lt
        dsimp only
        rw [m7, nI_1]
        by_cases hf : gfl G k = true
        · rw [if_pos hf, if_neg (by decide), bm_or (by omega) hf]
          exact ih (k + 1) (by omega) (by omega)
        · rw [if_neg hf, if_pos rfl]
          have := ih (k + 1) (by omega) (by omega)
          rw [bm_skip (by simpa using hf)] at this; exact this
  exact key FU 0 (Nat.zero_le _) (by have := FU_ge; omega)
theorem tJ_fill {c : Nat} {x : Int32} {σ0 : St} (hl : ln c ≤ 100000) : Ok (MJ7_fill_53178 c x σ0) (fun _ σ => (∀ c', c' ≠ c → σ c' = σ0 c') ∧ ∀ j, j < ln c → σ c j = x) := by
  unfold MJ7_fill_53178
  rw [ok_lt]
  have key : ∀ (n k : Nat) (σ : St), k ≤ ln c → ln c + 1 ≤ n + k → (∀ c', c' ≠ c → σ c' = σ0 c') → (∀ j, j < k → σ c j = x) → Ok (MJ7_fill_53178_L5 c x (nI (ln c)) (fun σ => some ((), σ)) n (nI k) σ) (fun _ σ => (∀ c', c' ≠ c → σ c' = σ0 c') ∧ ∀ j, j < ln c → σ c j = x) := by
    intro n
    induction n with
    | zero => intro k σ a b; omega
    | succ n ih =>
      intro k σ hk hn hF hv
      rw [MJ7_fill_53178_L5]
      by_cases he : k = ln c
      · refine ok_T ((nI_leI (by omega) (by omega)).mpr (by omega)) ?_
        rw [ok_some]
        exact ⟨hF, fun j hj => hv j (by omega)⟩
      · refine ok_F (fun q => he (by have := (nI_leI (by omega) (by omega)).mp q; omega)) ?_
        refine ok_T ((inb_nI (by omega)).mpr (by omega)) ?_
        rw [ok_lt, ok_lt, nI_clamp (n := k) (by omega), nI_1]
        refine ih (k + 1) _ (by omega) (by omega) (fun c' q => by rw [s2_ne q]; exact hF c' q) (fun j hj => ?_)
        by_cases e : j = k
        · subst e; exact s2_eq
        · rw [s2_nj e]; exact hv j (by omega)
  exact key FU 0 σ0 (Nat.zero_le _) (by have := FU_ge; omega) (fun _ _ => rfl) (fun j hj => by omega)
/-- a course that has been followed through D days -/
def fol (σ : St) (o : Nat) (H : Hd) (B : Bk) (D : Nat) : Prop := cG σ o H (sim H B D) ∧ ∀ d, d < D → (∀ h, h < H.1 → snp σ o d h (sim H B (d + 1))) ∧ σ (o + 5) d = nI (bm (fun h => (gou (midD H B d (sim H B d)) h).isNone) H.1) ∧ σ (o + 6) d = nI (bm (gfl (sim H B (d + 1))) H.1)
def frF (o : Nat) (σ σ' : St) : Prop := ∀ c, (c < o ∨ o + 18 ≤ c) → σ' c = σ c
theorem t2_begin {σ : St} {o h : Nat} {H : Hd} {B : Bk} {b : Nat} (ho : 48 ≤ o) (hB : bkC σ b H B) (hh : h < H.1) : Ok (M2_begin (hc o h) 26 (nI h) σ) (fun _ σ' => (∀ c, c ≠ hc o h → σ' c = σ c) ∧ cH σ' o H (begS H) h) := by
  obtain ⟨⟨a1, a2⟩, -, -, hH, -⟩ := hB
  have h8 := hH.1
  have hf : ∀ (w : Nat) (σ' : St), w < 4 → (∀ c, c ≠ hc o h → σ' c = σ c) → M6_figure 26 (nI h) (nI w) σ' = some (nI (H.2 h w), σ') := by
    intro w σ' hw hq
    unfold M6_figure
    have e : nI h * 4 + nI w = nI (h * 4 + w) := by rw [show (4 : Int32) = nI 4 from rfl, pk_mul, nI_add]
    rw [e, if_pos ((inb_nI (by omega)).mpr (by omega)), nI_clamp (n := h * 4 + w) (by omega), hq (26 + 2) (by unfold hc; omega), show h * 4 + w = 4 * h + w by omega]
    exact congrArg (fun z => some (z, σ')) (a2 h w hh hw)
  unfold M2_begin
  have f1 : ∀ (j : Nat) (v : Int32) (σ' : St), (∀ c, c ≠ hc o h → σ' c = σ c) → ∀ c, c ≠ hc o h → s2 σ' (hc o h) j v c = σ c := fun j v σ' hq c hc' => by rw [s2_ne hc']; exact hq c hc'
  have g0 : ∀ c, c ≠ hc o h → σ c = σ c := fun _ _ => rfl
  rw [show M6_figure 26 (nI h) 0 σ = _ from hf 0 σ (by decide) g0, bind_s, ok_lt]
  have g1 := f1 0 (nI (H.2 h 0)) σ g0
  rw [show M6_figure 26 (nI h) 1 _ = _ from hf 1 _ (by decide) g1, bind_s, ok_lt]
  have g2 := f1 1 (nI (H.2 h 1)) _ g1
  rw [show M6_figure 26 (nI h) 2 _ = _ from hf 2 _ (by decide) g2, bind_s, ok_lt]
  have g3 := f1 2 (nI (H.2 h 2)) _ g2
  rw [show M6_figure 26 (nI h) 3 _ = _ from hf 3 _ (by decide) g3, bind_s, ok_lt, ok_lt, ok_lt, ok_lt, ok_lt, ok_some]
  have g4 := f1 7 0 _ (f1 6 0 _ (f1 5 0 _ (f1 4 (-1) _ (f1 3 (nI (H.2 h 3)) _ g3))))
  refine ⟨g4, ?_, ?_, ?_, ?_, ?_, ?_, fun id hid => by cases hid⟩
  · simp [s2]
  · simp [s2, begS, gw]
  · simp [s2, begS, gd]
  · simp [s2]
  · simp [s2, begS, gou, oI]
  · simp [s2, begS, gfl]
theorem t1_follow {o b last : Nat} (ho : okO o b) {H : Hd} {B : Bk} (hl : last < 40) {σ0 : St} (hB : bkC σ0 b H B) (hbl : B.1.length ≤ 52) : Ok (M1_follow o 26 b (nI last) σ0) (fun _ σ => frF o σ0 σ ∧ fol σ o H B (last + 1)) := by
  obtain ⟨ho1, ho2⟩ := id ho
  have hH := hB.2.2.2.1
  have hL : okL B.1 := hB.2.2.2.2.1
  have h8 := hH.1
  have hsk1 : B.2.1 = none := hB.2.2.1.1
  have hsk2 : B.2.2.2.2 = none := hB.2.2.1.2
  unfold M1_follow
  rw [ok_lt, hB.1.1]
  have hBf : ∀ σ, frF o σ0 σ → bkC σ b H B := fun σ hF => hB.frame ho2 (fun c hc => hF c (Or.inl (by omega)))
  -- the days
  have days : ∀ (n d : Nat) (σ : St), d ≤ last + 1 → last + 2 ≤ n + d → frF o σ0 σ → fol σ o H B d → Ok (M1_follow_L66 o b (nI last) (fun σ => some ((), σ)) n (nI d) σ) (fun _ σ => frF o σ0 σ ∧ fol σ o H B (last + 1)) := by
    intro n
    induction n with
    | zero => intro d σ a c; omega
    | succ n ih =>
      intro d σ hd hn hF hm
      rw [M1_follow_L66]
      by_cases he : d = last + 1
      · refine ok_T ((nI_ltI (by omega) (by omega)).mpr (by omega)) ?_
        rw [ok_some]; subst he; exact ⟨hF, hm⟩
      · refine ok_F (fun q => he (by have := (nI_ltI (by omega) (by omega)).mp q; omega)) ?_
        refine ok_F (fun q => by have := (nI_leI (a := 40) (by decide) (by omega)).mp q; omega) ?_
        have hd40 : d < 40 := by omega
        have G0 := okG_sim hH hL d
        have G1 := okG_lendD (d := d) hL G0
        have G2 := okG_fillD (d := d) G1
        have D0 := okD_sim (H := H) (B := B) d
        refine ok_call (P0 := fun _ σ1 => frC o σ σ1 ∧ cG σ1 o H (lendD H B d (sim H B d))) ?_ ?_
        · unfold M1_lendAll
          refine l1_lends ho hd40 (hBf σ hF) G0 FU 0 σ (Nat.zero_le _) (by have := FU_ge; omega) frC.rf hm.1 (fun id _ => ?_)
          cases hb : gba (sim H B d) id with
          | none => exact Or.inl hb
          | some v => exact Or.inr (by have := D0.1 id (by rw [hb]; simp); omega)
        rintro - σ1 ⟨hF1, hm1⟩
        have hF1' : frF o σ0 σ1 := fun c q => by rw [hF1 c (by omega)]; exact hF c q
        refine ok_call (P0 := fun _ σ2 => frC o σ1 σ2 ∧ cG σ2 o H (fillD H B d (lendD H B d (sim H B d)))) ?_ ?_
        · unfold M1_fillAll
          exact l1_fills ho hd40 (hBf σ1 hF1') G1 hbl FU 0 σ1 (Nat.zero_le _) (by have := FU_ge; have := (hBf σ1 hF1').2.1.2.1.2.1; have := (hBf σ1 hF1').2.1.2.1.2.2.1; omega) frC.rf hm1
        rintro - σ2 ⟨hF2, hm2⟩
        have hF2' : frF o σ0 σ2 := fun c q => by rw [hF2 c (by omega)]; exact hF1' c q
        refine ok_call (P0 := fun _ σ3 => frC o σ2 σ3 ∧ cG σ3 o H (midD H B d (sim H B d))) ?_ ?_
        · unfold M1_patchAll
          exact l1_patches ho hd40 (hBf σ2 hF2') G2 hbl FU 0 σ2 (Nat.zero_le _) (by have := FU_ge; have := (hBf σ2 hF2').2.1.2.2.2.1; have := (hBf σ2 hF2').2.1.2.2.2.2.1; omega) frC.rf hm2
        rintro - σ3 ⟨hF3, hm3⟩
        have hF3' : frF o σ0 σ3 := fun c q => by rw [hF3 c (by omega)]; exact hF2' c q
        have hFC : frC o σ σ3 := (hF1.tr hF2).tr hF3
        have GM := okG_mid (d := d) hH hL
        rw [e1_bitsAtBank (N := B.1.length) h8 hm3 (fun h id hh hid => ((GM h hh).2.2.2.2 id hid).1) hbl, bind_s]
        refine ok_T ((inb_nI (by omega)).mpr hd40) ?_
        rw [ok_lt, nI_clamp (n := d) (by omega)]
        generalize hbits : nI (bm (fun h => (gou (midD H B d (sim H B d)) h).isNone) H.1) = bits
        have hF4 : frF o σ0 (s2 σ3 (o + 5) d bits) := fun c q => by rw [s2_ne (by omega)]; exact hF3' c q
        have hcb : ∀ h, o + 10 ≤ hc o h := by intro h; unfold hc; omega
        have hm4 : cG (s2 σ3 (o + 5) d bits) o H (passD H B d (midD H B d (sim H B d)) 0) := ⟨by rw [s2_nk (by omega)]; exact hm3.1, fun h hh => (hm3.2.1 h hh).frame (s2_ne (by have := hcb h; omega)), fun j hj => (hm3.2.2 j hj).frame (s2_nk (by omega)) (s2_nk (by omega)) (s2_nk (by omega))⟩
        refine l1_pass ho hd40 (hBf _ hF4) hbl (okA_mid hH hL) ?_ FU 0 _ (Nat.zero_le _) (by have := FU_ge; omega) frP.rf hm4 (fun h hh => by omega)
        intro σ5 hP5 hm5 hs5
        rw [e1_bitsFilled h8 hm5, bind_s, ok_lt, ok_lt, nI_1]
        refine ih (d + 1) _ (by omega) (by omega) (fun c q => ?_) ⟨⟨?_, fun h hh => (hm5.2.1 h hh).frame ?_, fun j hj => (hm5.2.2 j hj).frame ?_ ?_ ?_⟩, fun d' hd' => ?_⟩
        · rw [s2_ne (by omega), hP5.1 c (by omega)]; exact hF4 c q
        · rw [s2_nk (by omega)]; exact hm5.1
        · rw [s2_ne (by have := hcb h; omega)]
        · rw [s2_nk (by omega)]
        · rw [s2_nk (by omega)]
        · rw [s2_nk (by omega)]
        · by_cases e : d' = d
          · subst e
            refine ⟨fun h hh => ?_, ?_, ?_⟩
            · have := hs5 h hh
              unfold snp at this ⊢
              rw [s2_nk (by omega), s2_nk (by omega), s2_nk (by omega)]; exact this
            · rw [s2_nk (by omega), hP5.1 (o + 5) (by omega), s2_eq, ← hbits]
            · rw [s2_eq]; rfl
          · obtain ⟨y1, y2, y3⟩ := hm.2 d' (by omega)
            refine ⟨fun h hh => ?_, ?_, ?_⟩
            · have := y1 h hh
              unfold snp at this ⊢
              rw [s2_nk (by omega), s2_nk (by omega), s2_nk (by omega), hP5.2 (o + 2) _ (by omega) (by omega) (by omega), hP5.2 (o + 3) _ (by omega) (by omega) (by omega), hP5.2 (o + 4) _ (by omega) (by omega) (by omega), s2_nk (by omega), s2_nk (by omega), s2_nk (by omega), hFC (o + 2) (by omega), hFC (o + 3) (by omega), hFC (o + 4) (by omega)]
              exact this
            · rw [s2_nk (by omega), hP5.1 (o + 5) (by omega), s2_nj e, hFC (o + 5) (by omega)]; exact y2
            · rw [s2_nj e, hP5.1 (o + 6) (by omega), s2_nk (by omega), hFC (o + 6) (by omega)]; exact y3
  -- the beginning
  have beg : ∀ (n k : Nat) (σ : St), k ≤ H.1 → H.1 + 1 ≤ n + k → frF o σ0 σ → σ o 9 = nI H.1 → (∀ h, h < k → cH σ o H (begS H) h) → Ok (M1_follow_L11 o 26 b (nI last) (fun σ6 => bd (MJ7_fill_53178 (o + 7) 0 σ6) fun _ σ7 => bd (MJ7_fill_53178 (o + 8) (-1) σ7) fun _ σ8 => bd (MJ7_fill_53178 (o + 9) 0 σ8) fun _ σ9 => M1_follow_L66 o b (nI last) (fun σ30 => some ((), σ30)) FU 0 σ9) n (nI k) σ) (fun _ σ => frF o σ0 σ ∧ fol σ o H B (last + 1)) := by
    intro n
    induction n with
    | zero => intro k σ a c; omega
    | succ n ih =>
      intro k σ hk hn hF h9 hs
      rw [M1_follow_L11, h9]
      by_cases he : k = H.1
      · refine ok_T ((nI_leI (by omega) (by omega)).mpr (by omega)) ?_
        have l7 : ln (o + 7) = 52 := by rcases ho1 with rfl | rfl <;> rfl
        have l8 : ln (o + 8) = 52 := by rcases ho1 with rfl | rfl <;> rfl
        have l9 : ln (o + 9) = 52 := by rcases ho1 with rfl | rfl <;> rfl
        refine ok_call (tJ_fill (by omega)) ?_
        rintro - σ7 ⟨f7, v7⟩
        refine ok_call (tJ_fill (by omega)) ?_
        rintro - σ8 ⟨f8, v8⟩
        refine ok_call (tJ_fill (by omega)) ?_
        rintro - σ9 ⟨f9, v9⟩
        refine days FU 0 σ9 (Nat.zero_le _) (by have := FU_ge; omega) (fun c q => ?_) ⟨⟨?_, fun h hh => (hs h (by omega)).frame ?_, fun j hj => ⟨?_, ?_, ?_⟩⟩, fun d' hd' => by omega⟩
        · rw [f9 c (by omega), f8 c (by omega), f7 c (by omega)]; exact hF c q
        · rw [f9 o (by omega), f8 o (by omega), f7 o (by omega)]; exact h9
        · have : o + 10 ≤ hc o h := by unfold hc; omega
          rw [f9 _ (by omega), f8 _ (by omega), f7 _ (by omega)]
        · rw [f9 _ (by omega), f8 _ (by omega), v7 j (by omega)]; rfl
        · rw [f9 _ (by omega), v8 j (by omega)]; rfl
        · rw [v9 j (by omega)]; rfl
      · refine ok_F (fun q => he (by have := (nI_leI (by omega) (by omega)).mp q; omega)) ?_
        refine ok_T ((inb_nI (by omega)).mpr (by omega)) ?_
        rw [nI_clamp (n := k) (by omega)]
        refine ok_call (t2_begin (o := o) (by omega) (hBf σ hF) (show k < H.1 by omega)) ?_
        rintro - σ2 ⟨f2, c2⟩
        rw [ok_lt, nI_1]
        refine ih (k + 1) σ2 (by omega) (by omega) (fun c q => ?_) ?_ (fun h hh => ?_)
        · rw [f2 c (by unfold hc; omega)]; exact hF c q
        · rw [f2 o (by unfold hc; omega)]; exact h9
        · by_cases e : h = k
          · subst e; exact c2
          · exact (hs h (by omega)).frame (f2 _ (hc_ne e))
  exact beg FU 0 _ (Nat.zero_le _) (by have := FU_ge; omega) (fun c q => s2_ne (by omega)) s2_eq (fun h hh => by omega)
