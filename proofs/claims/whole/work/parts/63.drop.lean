-- a book with a row left out, and one with the row dropped
def rho (k j : Nat) : Nat := if j < k then j else j + 1
theorem eL_drop {L : List Q4} {k : Nat} (hk : k < L.length) : eL L (some k) L.length = (eL (L.eraseIdx k) none (L.length - 1)).map (fun x => (rho k x.1, x.2)) := by
  have low : ∀ n, n ≤ k → eL L (some k) n = (eL (L.eraseIdx k) none n).map (fun x => (rho k x.1, x.2)) := by
    intro n
    induction n with
    | zero => intro _; rfl
    | succ n ih =>
      intro hn
      rw [eL_succ, eL_succ, List.map_append, ih (by omega), if_pos (by intro q; cases q; omega), if_pos (by intro q; cases q)]
      congr 1
      show [(n, g4 L n)] = [(rho k n, g4 (L.eraseIdx k) n)]
      rw [g4_er, if_pos (by omega)]
      unfold rho
      rw [if_pos (by omega)]
  have high : ∀ n, k ≤ n → eL L (some k) (n + 1) = (eL (L.eraseIdx k) none n).map (fun x => (rho k x.1, x.2)) := by
    intro n
    induction n with
    | zero =>
      intro h
      have : k = 0 := by omega
      subst this
      rfl
    | succ n ih =>
      intro hn
      by_cases e : k ≤ n
      · rw [eL_succ, ih e, eL_succ, List.map_append, if_pos (by intro q; cases q; omega), if_pos (by intro q; cases q)]
        congr 1
        show [(n + 1, g4 L (n + 1))] = [(rho k n, g4 (L.eraseIdx k) n)]
        rw [g4_er, if_neg (by omega)]
        unfold rho
        rw [if_neg (by omega)]
      · have : k = n + 1 := by omega
        rw [eL_succ, low (n + 1) (by omega), if_neg (by intro q; exact q (by rw [this]))]
        simp
  have := high (L.length - 1) (by omega)
  rw [show L.length - 1 + 1 = L.length by omega] at this
  exact this
theorem eP_drop {L : List Q4} {k : Nat} (hk : k < L.length) : eP L (some k) L.length = eP (L.eraseIdx k) none (L.length - 1) := by
  have low : ∀ n, n ≤ k → eP L (some k) n = eP (L.eraseIdx k) none n := by
    intro n
    induction n with
    | zero => intro _; rfl
    | succ n ih =>
      intro hn
      rw [eP_succ, eP_succ, ih (by omega), if_pos (by intro q; cases q; omega), if_pos (by intro q; cases q)]
      congr 1
      rw [g4_er, if_pos (by omega)]
  have high : ∀ n, k ≤ n → eP L (some k) (n + 1) = eP (L.eraseIdx k) none n := by
    intro n
    induction n with
    | zero =>
      intro h
      have : k = 0 := by omega
      subst this
      rfl
    | succ n ih =>
      intro hn
      by_cases e : k ≤ n
      · rw [eP_succ, ih e, eP_succ, if_pos (by intro q; cases q; omega), if_pos (by intro q; cases q)]
        congr 1
        rw [g4_er, if_neg (by omega)]
      · have : k = n + 1 := by omega
        rw [eP_succ, low (n + 1) (by omega), if_neg (by intro q; exact q (by rw [this]))]
        simp
  have := high (L.length - 1) (by omega)
  rw [show L.length - 1 + 1 = L.length by omega] at this
  exact this
theorem foldl_rel {α β γ : Type} {R : β → γ → Prop} {f : β → α → β} {g : γ → α → γ} : ∀ {l : List α} {b : β} {c : γ}, R b c → (∀ b c x, x ∈ l → R b c → R (f b x) (g c x)) → R (l.foldl f b) (l.foldl g c) := by
  intro l
  induction l with
  | nil => intro b c h _; exact h
  | cons a l ih => intro b c h hs; exact ih (hs b c a List.mem_cons_self h) (fun b c x hx h' => hs b c x (List.mem_cons_of_mem _ hx) h')
def eqG (k : Nat) (G1 G2 : Gs) : Prop := gw G1 = gw G2 ∧ gd G1 = gd G2 ∧ (∀ h, gou G1 h = (gou G2 h).map (rho k)) ∧ gdd G1 = gdd G2 ∧ gfl G1 = gfl G2
theorem map_none {o : Option Nat} {f : Nat → Nat} : o.map f = none ↔ o = none := by cases o <;> simp
theorem eqG_lend {k n d : Nat} {x : Nat × Q4} {G1 G2 : Gs} (h : eqG k G1 G2) : eqG k (lendS n d (rho k x.1, x.2) G1) (lendS n d x G2) := by
  obtain ⟨h1, h2, h3, h4, h5⟩ := h
  unfold lendS
  dsimp only
  by_cases c : x.2.1 = d ∧ x.2.2.1 < n ∧ gou G2 x.2.2.1 = none
  · rw [if_pos ⟨c.1, c.2.1, by rw [h3, c.2.2]; rfl⟩, if_pos c]
    refine ⟨h1, h2, fun h => ?_, ?_, h5⟩
    · simp only [gou, up]
      split
      · rfl
      · exact h3 h
    · simp only [gdd] at h4 ⊢; rw [h4]
  · rw [if_neg (fun q => c ⟨q.1, q.2.1, map_none.mp (by rw [← h3]; exact q.2.2)⟩), if_neg c]
    exact ⟨h1, h2, h3, h4, h5⟩
theorem eqG_fill {k n d : Nat} {q : Q4} {G1 G2 : Gs} (h : eqG k G1 G2) : eqG k (fillS n d q G1) (fillS n d q G2) := by
  obtain ⟨h1, h2, h3, h4, h5⟩ := h
  unfold fillS
  by_cases c : q.1 = d ∧ q.2.1 < n ∧ gou G2 q.2.1 ≠ none
  · rw [if_pos ⟨c.1, c.2.1, fun z => c.2.2 (map_none.mp (by rw [← h3]; exact z))⟩, if_pos c]
    refine ⟨h1, h2, h3, h4, ?_⟩
    simp only [gfl] at h5 ⊢; rw [h5]
  · rw [if_neg (fun z => c ⟨z.1, z.2.1, fun w => z.2.2 (by rw [h3, w]; rfl)⟩), if_neg c]
    exact ⟨h1, h2, h3, h4, h5⟩
theorem eqG_patch {k n d : Nat} {q : Q4} {G1 G2 : Gs} (h : eqG k G1 G2) : eqG k (patchS n d q G1) (patchS n d q G2) := by
  obtain ⟨h1, h2, h3, h4, h5⟩ := h
  unfold patchS
  by_cases c : q.1 = d ∧ q.2.1 < n ∧ gou G2 q.2.1 = none
  · rw [if_pos ⟨c.1, c.2.1, by rw [h3, c.2.2]; rfl⟩, if_pos c]
    refine ⟨?_, h2, h3, h4, h5⟩
    simp only [gw] at h1 ⊢; rw [h1]
  · rw [if_neg (fun z => c ⟨z.1, z.2.1, map_none.mp (by rw [← h3]; exact z.2.2)⟩), if_neg c]
    exact ⟨h1, h2, h3, h4, h5⟩
theorem eqG_pass {k d h0 : Nat} {H : Hd} {y1 y2 : Nat → Nat} {G1 G2 : Gs} (hy : ∀ id, y1 (rho k id) = y2 id) (h : eqG k G1 G2) : eqG k (passS H y1 d h0 G1) (passS H y2 d h0 G2) := by
  obtain ⟨h1, h2, h3, h4, h5⟩ := h
  unfold passS
  have h3' := h3 h0
  cases e : gou G2 h0 with
  | none =>
    rw [e] at h3'
    rw [h3']
    exact ⟨h1, h2, h3, h4, h5⟩
  | some id =>
    rw [e] at h3'
    rw [show gou G1 h0 = some (rho k id) from h3']
    dsimp only
    rw [hy id, h4, h1, h2]
    split
    · refine ⟨rfl, rfl, fun h => ?_, rfl, ?_⟩
      · simp only [gou, up]
        split
        · rfl
        · exact h3 h
      · simp only [gfl] at h5 ⊢; rw [h5]
    · exact ⟨rfl, rfl, h3, rfl, h5⟩
theorem eqG_sim {H : Hd} {L F P : List Q4} {k : Nat} (hk : k < L.length) : ∀ n, eqG k (sim H (L, some k, F, P, none) n) (sim H (L.eraseIdx k, none, F, P, none) n) := by
  intro n
  induction n with
  | zero => exact ⟨rfl, rfl, fun _ => rfl, rfl, rfl⟩
  | succ d ih =>
    have hlen : (L.eraseIdx k).length = L.length - 1 := List.length_eraseIdx_of_lt hk
    have g1 : eqG k (lendD H (L, some k, F, P, none) d (sim H (L, some k, F, P, none) d)) (lendD H (L.eraseIdx k, none, F, P, none) d (sim H (L.eraseIdx k, none, F, P, none) d)) := by
      unfold lendD
      dsimp only
      rw [eL_drop hk, hlen, List.foldl_map]
      exact foldl_rel ih (fun b c x _ hb => eqG_lend hb)
    have g2 := foldl_rel (R := eqG k) (l := eP F none F.length) (f := fun G x => fillS H.1 d x G) (g := fun G x => fillS H.1 d x G) g1 (fun b c x _ hb => eqG_fill hb)
    have g3 := foldl_rel (R := eqG k) (l := eP P none P.length) (f := fun G x => patchS H.1 d x G) (g := fun G x => patchS H.1 d x G) g2 (fun b c x _ hb => eqG_patch hb)
    exact foldl_rel (R := eqG k) (l := List.range H.1) (f := fun G h => passS H (dyB (L, some k, F, P, none)) d h G) (g := fun G h => passS H (dyB (L.eraseIdx k, none, F, P, none)) d h G) g3 (fun b c x _ hb => eqG_pass (fun id => by
      unfold dyB rho
      dsimp only
      rw [g4_er]
      split <;> rfl) hb)
theorem vw_dropL {H : Hd} {L F P : List Q4} {k : Nat} (hk : k < L.length) (n : Nat) : vw (sim H (L.eraseIdx k, none, F, P, none) n) = vw (sim H (L, some k, F, P, none) n) := by
  obtain ⟨h1, h2, h3, -⟩ := eqG_sim (H := H) (F := F) (P := P) hk n
  funext h
  unfold vw
  rw [h1, h2, h3 h]
  cases gou (sim H (L.eraseIdx k, none, F, P, none) n) h <;> rfl
theorem sim_dropP {H : Hd} {L F P : List Q4} {k : Nat} (hk : k < P.length) : ∀ n, sim H (L, none, F, P.eraseIdx k, none) n = sim H (L, none, F, P, some k) n := by
  intro n
  have hlen : (P.eraseIdx k).length = P.length - 1 := List.length_eraseIdx_of_lt hk
  induction n with
  | zero => rfl
  | succ d ih =>
    show dayS H _ d _ = dayS H _ d _
    rw [ih]
    unfold dayS midD patchD
    dsimp only
    rw [eP_drop hk, hlen]
    rfl
-- the class: another book
theorem t4_takeAll {σ : St} {o0 o1 lim : Nat} {L : List Q4} (h : rC σ o1 L) (hne : o0 ≠ o1) (hne2 : o0 ≠ o1 + 1) (hne3 : o0 + 1 ≠ o1) (hl : σ o0 0 = nI lim) (hlim : lim < 1000) (hle : L.length ≤ lim) (hsz : 4 * lim ≤ ln (o0 + 1)) (hsz2 : ln (o0 + 1) ≤ 208) : Ok (M4_takeAll o0 o1 σ) (fun _ σ' => rC σ' o0 L ∧ (∀ j, j ≠ 2 → σ' o0 j = σ o0 j) ∧ ∀ c', c' ≠ o0 → c' ≠ o0 + 1 → σ' c' = σ c') := by
  obtain ⟨h1, h2, h3, h4⟩ := h
  unfold M4_takeAll
  have e0 : (if (σ o0 0) < (σ o1 2) then σ o0 0 else σ o1 2) = nI L.length := by
    rw [hl, h1, if_neg (fun q => by have := (nI_ltI (by omega) (by omega)).mp q; omega)]
  rw [e0, ok_lt]
  have e1 : s2 σ o0 2 (nI L.length) o0 2 * 4 = nI (L.length * 4) := by rw [s2_eq, show (4 : Int32) = nI 4 from rfl, pk_mul]
  rw [e1]
  have c1 : (nI (L.length * 4)).toNatClampNeg = L.length * 4 := nI_clamp (by omega)
  have c0 : ((0 : Int32)).toNatClampNeg = 0 := rfl
  refine ok_T ⟨by decide, by decide, nI_pos' (by omega), by rw [c1, c0]; omega, by rw [c1, c0]; omega⟩ ?_
  rw [ok_lt, ok_some, c1, c0]
  refine ⟨⟨?_, by omega, hsz2, fun k c hk hc => ?_⟩, fun j hj => ?_, fun c' q1 q2 => ?_⟩
  · rw [s1_ne (by omega), s2_eq]
  · rw [s1_row, pk_cpy_in (by omega) (by omega), s2_ne (by omega), show 0 + (k * 4 + c - 0) = k * 4 + c by omega]
    exact h4 k c hk hc
  · rw [s1_ne (by omega), s2_nj hj]
  · rw [s1_ne q2, s2_ne q1]
def frW (σ σ' : St) : Prop := (∀ c, (c < 39 ∨ (46 ≤ c ∧ c < 66) ∨ 84 ≤ c) → σ' c = σ c) ∧ σ' 40 0 = σ 40 0 ∧ σ' 42 0 = σ 42 0 ∧ σ' 44 0 = σ 44 0
theorem frW.tr {a b c : St} (h1 : frW a b) (h2 : frW b c) : frW a c := ⟨fun k q => by rw [h2.1 k q, h1.1 k q], by rw [h2.2.1, h1.2.1], by rw [h2.2.2.1, h1.2.2.1], by rw [h2.2.2.2, h1.2.2.2]⟩
theorem frW.rf {a : St} : frW a a := ⟨fun _ _ => rfl, rfl, rfl, rfl⟩
theorem frW.lo {a b : St} (h : frW a b) : loC a b := fun c q => h.1 c (by omega)
theorem toC.keep {A : AB} {σ σ' : St} (hA : okAB A) (h : toC σ A) (hF : ∀ c, 48 ≤ c → c < 66 → σ' c = σ c) : toC σ' A := h.frame (itm_hd hA) (fun c q1 q2 => hF c q1 q2)
theorem RC.frW {A : AB} {σ σ' : St} (hA : okAB A) (h : RC A σ) (hF : frW σ σ') : RC A σ' := by
  refine h.keep hA (fun c q => hF.1 c (by omega)) hF.2.1 hF.2.2.1 hF.2.2.2 (by rw [hF.1 25 (by decide)]) (by rw [hF.1 25 (by decide)]) ?_
  rcases h.2.2.2.2.2.2.2.2.2.2 with s | ⟨s, f⟩
  · left; rw [hF.1 25 (by decide)]; exact s
  · right; exact ⟨by rw [hF.1 25 (by decide)]; exact s, f.frame (itm_hd hA) (fun c q1 q2 => hF.1 c (by omega))⟩
theorem t0_takeAll {A : AB} {σ : St} (h : RC A σ) (hA : okAB A) : Ok (M0_takeAll 39 32 σ) (fun _ σ' => rC σ' 40 (aL A) ∧ rC σ' 42 (aF A) ∧ rC σ' 44 (aP A) ∧ frW σ σ') := by
  obtain ⟨t0, t1, r1, r2, r3, r4, ⟨l1, l2, l3, l4, l5, l6, l7⟩, e, sh, fi, st⟩ := h
  unfold M0_takeAll
  have n1 := hA.2.1.2
  have n2 := hA.2.2.1.2
  have n3 := hA.2.2.2.1.2
  refine ok_call (t4_takeAll (o0 := 40) (o1 := 33) (lim := 52) r1 (by decide) (by decide) (by decide) l5 (by decide) (by omega) (by decide) (by decide)) ?_
  rintro - σ1 ⟨a1, a2, a3⟩
  refine ok_call (t4_takeAll (o0 := 42) (o1 := 35) (lim := 8) (r2.frame (a3 _ (by decide) (by decide)) (a3 _ (by decide) (by decide))) (by decide) (by decide) (by decide) (by rw [a3 42 (by decide) (by decide)]; exact l6) (by decide) n2 (by decide) (by decide)) ?_
  rintro - σ2 ⟨b1, b2, b3⟩
  refine ok_call (t4_takeAll (o0 := 44) (o1 := 37) (lim := 8) (r3.frame (by rw [b3 37 (by decide) (by decide), a3 37 (by decide) (by decide)]) (by rw [b3 38 (by decide) (by decide), a3 38 (by decide) (by decide)])) (by decide) (by decide) (by decide) (by rw [b3 44 (by decide) (by decide), a3 44 (by decide) (by decide)]; exact l7) (by decide) n3 (by decide) (by decide)) ?_
  rintro - σ3 ⟨c1, c2, c3⟩
  rw [ok_some]
  refine ⟨a1.frame (by rw [c3 40 (by decide) (by decide), b3 40 (by decide) (by decide)]) (by rw [c3 41 (by decide) (by decide), b3 41 (by decide) (by decide)]), b1.frame (c3 42 (by decide) (by decide)) (c3 43 (by decide) (by decide)), c1, fun c q => by rw [c3 c (by omega) (by omega), b3 c (by omega) (by omega), a3 c (by omega) (by omega)], ?_, ?_, ?_⟩
  · rw [c3 40 (by decide) (by decide), b3 40 (by decide) (by decide), a2 0 (by decide)]
  · rw [c3 42 (by decide) (by decide), b2 0 (by decide), a3 42 (by decide) (by decide)]
  · rw [c2 0 (by decide), b3 44 (by decide) (by decide), a3 44 (by decide) (by decide)]
theorem g4_er_lt {L : List Q4} {k j : Nat} (hk : k < L.length) (hj : j < (L.eraseIdx k).length) : ∃ i, i < L.length ∧ g4 (L.eraseIdx k) j = g4 L i := by
  rw [List.length_eraseIdx_of_lt hk] at hj
  rw [g4_er]
  split
  · exact ⟨j, by omega, rfl⟩
  · exact ⟨j + 1, by omega, rfl⟩
theorem okL_er {L : List Q4} {k : Nat} (h : okL L) (hk : k < L.length) : okL (L.eraseIdx k) := fun j hj => by
  obtain ⟨i, hi, e⟩ := g4_er_lt hk hj
  rw [e]; exact h i hi
theorem okP_er {L : List Q4} {k : Nat} (h : okP L) (hk : k < L.length) : okP (L.eraseIdx k) := fun j hj => by
  obtain ⟨i, hi, e⟩ := g4_er_lt hk hj
  rw [e]; exact h i hi
def bkL (A : AB) (k : Nat) : Bk := (aL A, some k, aF A, aP A, none)
def bkP (A : AB) (k : Nat) : Bk := (aL A, none, aF A, aP A, some k)
/-- the course of a book, as it is seen behind the days before D -/
def seC (σ : St) (A : AB) (B : Bk) (D : Nat) : Prop := ∀ d, d < D → cV σ 66 d (itm 0 (a0 A)) (vw (sim (hdA A) B (d + 1)))
theorem seC.keep {σ σ' : St} {A : AB} {B : Bk} {D : Nat} (h : seC σ A B D) (hF : ∀ c, 66 ≤ c → c < 84 → σ' c = σ c) : seC σ' A B D := by
  intro d hd k hk
  rw [hF _ (by omega) (by omega), hF _ (by omega) (by omega), hF _ (by omega) (by omega)]; exact h d hd k hk
theorem c_wol {A : AB} {σ : St} {k last : Nat} (h : RC A σ) (hA : okAB A) (hk : k < (aL A).length) (hl : last < 40) : Ok (M7_courseWithoutLoan (nI k) (nI last) σ) (fun r σ' => r = 66 ∧ RC A σ' ∧ seC σ' A (bkL A k) (last + 1) ∧ σ' 66 9 = nI (itm 0 (a0 A)) ∧ frW σ σ') := by
  unfold M7_courseWithoutLoan
  refine ok_call (t0_takeAll h hA) ?_
  rintro - σ1 ⟨r1, r2, r3, hF⟩
  refine ok_call (t4_drop r1 hk) ?_
  rintro - σ2 ⟨-, d1, d2, d3⟩
  have h2 : frW σ σ2 := hF.tr ⟨fun c q => d3 c (by omega) (by omega), d2 0 (by decide), by rw [d3 42 (by decide) (by decide)], by rw [d3 44 (by decide) (by decide)]⟩
  have hR2 := h.frW hA h2
  have hn := hA.2.1.2
  have hlen : ((aL A).eraseIdx k).length ≤ 52 := by rw [List.length_eraseIdx_of_lt hk]; omega
  have hB : bkC σ2 39 (hdA A) ((aL A).eraseIdx k, none, aF A, aP A, none) :=
    ⟨⟨hR2.1.2.2.1, hR2.1.2.2.2⟩, ⟨d1, r2.frame (d3 _ (by decide) (by decide)) (d3 _ (by decide) (by decide)), r3.frame (d3 _ (by decide) (by decide)) (d3 _ (by decide) (by decide))⟩, ⟨rfl, rfl⟩, okH_hd hA, okL_er hA.2.1.1 hk, hA.2.2.1.1, hA.2.2.2.1.1⟩
  refine ok_call (t1_follow (o := 66) (b := 39) ⟨Or.inr rfl, Or.inr rfl⟩ hl hB hlen) ?_
  rintro - σ3 ⟨hF3, hf⟩
  rw [ok_some]
  have h3 : frW σ σ3 := h2.tr ⟨fun c q => hF3 c (by omega), by rw [hF3 40 (by decide)], by rw [hF3 42 (by decide)], by rw [hF3 44 (by decide)]⟩
  refine ⟨rfl, h.frW hA h3, fun d hd => ?_, hf.1.1, h3⟩
  have := cV_of (okH_hd hA) (okL_er hA.2.1.1 hk) hlen hf hd
  rw [vw_dropL hk] at this
  exact this
theorem c_wop {A : AB} {σ : St} {k last : Nat} (h : RC A σ) (hA : okAB A) (hk : k < (aP A).length) (hl : last < 40) : Ok (M7_courseWithoutPatch (nI k) (nI last) σ) (fun r σ' => r = 66 ∧ RC A σ' ∧ seC σ' A (bkP A k) (last + 1) ∧ frW σ σ') := by
  unfold M7_courseWithoutPatch
  refine ok_call (t0_takeAll h hA) ?_
  rintro - σ1 ⟨r1, r2, r3, hF⟩
  refine ok_call (t4_drop r3 hk) ?_
  rintro - σ2 ⟨-, d1, d2, d3⟩
  have h2 : frW σ σ2 := hF.tr ⟨fun c q => d3 c (by omega) (by omega), by rw [d3 40 (by decide) (by decide)], by rw [d3 42 (by decide) (by decide)], d2 0 (by decide)⟩
  have hR2 := h.frW hA h2
  have hn := hA.2.1.2
  have hB : bkC σ2 39 (hdA A) (aL A, none, aF A, (aP A).eraseIdx k, none) :=
    ⟨⟨hR2.1.2.2.1, hR2.1.2.2.2⟩, ⟨r1.frame (d3 _ (by decide) (by decide)) (d3 _ (by decide) (by decide)), r2.frame (d3 _ (by decide) (by decide)) (d3 _ (by decide) (by decide)), d1⟩, ⟨rfl, rfl⟩, okH_hd hA, hA.2.1.1, hA.2.2.1.1, okP_er hA.2.2.2.1.1 hk⟩
  refine ok_call (t1_follow (o := 66) (b := 39) ⟨Or.inr rfl, Or.inr rfl⟩ hl hB (by show (aL A).length ≤ 52; omega)) ?_
  rintro - σ3 ⟨hF3, hf⟩
  rw [ok_some]
  have h3 : frW σ σ3 := h2.tr ⟨fun c q => hF3 c (by omega), by rw [hF3 40 (by decide)], by rw [hF3 42 (by decide)], by rw [hF3 44 (by decide)]⟩
  refine ⟨rfl, h.frW hA h3, fun d hd => ?_, h3⟩
  have := cV_of (okH_hd hA) hA.2.1.1 (by show (aL A).length ≤ 52; omega) hf hd
  rw [sim_dropP hk] at this
  exact this
