theorem lt_eq {α β : Type} {x : α} {f : α → Option β} : lt x f = f x := rfl
/-- loans that are out, or came back, count -/
def okC (G : Gs) : Prop := (∀ id, gba G id ≠ none → gct G id = true) ∧ (∀ h id, gou G h = some id → gct G id = true) ∧ ∀ id, gbr G id ≠ none → gba G id ≠ none
theorem okC_lend {n d : Nat} {x : Nat × Q4} {G : Gs} (h : okC G) : okC (lendS n d x G) := by
  unfold lendS
  split
  · refine ⟨fun id hid => ?_, fun h' id hid => ?_, h.2.2⟩
    · simp only [gct, up]; split
      · rfl
      · exact h.1 id hid
    · simp only [gou, gct, up] at hid ⊢
      split
      · rfl
      · rename_i e
        by_cases e2 : h' = x.2.2.1
        · rw [if_pos e2] at hid; cases hid; exact absurd rfl e
        · rw [if_neg e2] at hid; exact h.2.1 h' id hid
  · exact h
theorem okC_pass {H : Hd} {dy : Nat → Nat} {d h0 : Nat} {G : Gs} (h : okC G) : okC (passS H dy d h0 G) := by
  unfold passS
  split
  · exact h
  · rename_i id hid
    dsimp only
    split
    · refine ⟨fun j hj => ?_, fun h' j hj => ?_, fun j hj => ?_⟩
      · simp only [gba, up] at hj
        by_cases e : j = id
        · subst e; exact h.2.1 _ _ hid
        · rw [if_neg e] at hj; exact h.1 j hj
      · simp only [gou, up] at hj
        by_cases e : h' = h0
        · rw [if_pos e] at hj; cases hj
        · rw [if_neg e] at hj; exact h.2.1 h' j hj
      · simp only [gba, gbr, up] at hj ⊢
        by_cases e : j = id
        · rw [if_pos e]; intro q; cases q
        · rw [if_neg e] at hj ⊢; exact h.2.2 j hj
    · exact h
theorem okC_sim {H : Hd} {B : Bk} : ∀ d, okC (sim H B d) := by
  intro d
  induction d with
  | zero => exact ⟨fun id h => absurd rfl h, fun h id hid => (by cases hid), fun id h => absurd rfl h⟩
  | succ d ih =>
    have h1 : okC (lendD H B d (sim H B d)) := by
      unfold lendD
      exact foldl_inv ih (fun G x hx hG => okC_lend hG)
    have h2 : okC (fillD H B d (lendD H B d (sim H B d))) := foldl_inv h1 (fun G x hx hG => by unfold fillS; split <;> exact hG)
    have h3 : okC (midD H B d (sim H B d)) := foldl_inv h2 (fun G x hx hG => by unfold patchS; split <;> exact hG)
    show okC (passD H B d (midD H B d (sim H B d)) H.1)
    unfold passD
    exact foldl_inv h3 (fun G x hx hG => okC_pass hG)
/-- a breach is on a day -/
def okB (d : Nat) (G : Gs) : Prop := (∀ id v, gbr G id = some v → v < d) ∧ ∀ id v, gba G id = some v → v < 2 ^ 31
theorem okB_sim {H : Hd} {B : Bk} (hH : okH H) (hL : okL B.1) : ∀ d, okB d (sim H B d) := by
  intro d
  induction d with
  | zero => exact ⟨fun id v h => (by cases h), fun id v h => (by cases h)⟩
  | succ d ih =>
    have h0 : okB (d + 1) (sim H B d) := ⟨fun id v h => by have := ih.1 id v h; omega, ih.2⟩
    have h1 : okB (d + 1) (lendD H B d (sim H B d)) := by
      unfold lendD
      exact foldl_inv h0 (fun G x hx hG => by unfold lendS; split <;> exact hG)
    have h2 : okB (d + 1) (fillD H B d (lendD H B d (sim H B d))) := foldl_inv h1 (fun G x hx hG => by unfold fillS; split <;> exact hG)
    have h3 : okB (d + 1) (midD H B d (sim H B d)) := foldl_inv h2 (fun G x hx hG => by unfold patchS; split <;> exact hG)
    have h4 : okB (d + 1) (passD H B d (midD H B d (sim H B d)) H.1) ∧ okG H B (passD H B d (midD H B d (sim H B d)) H.1) := by
      unfold passD
      refine foldl_inv (P := fun G => okB (d + 1) G ∧ okG H B G) ⟨h3, okG_mid hH hL⟩ (fun G x hx hG => ⟨?_, okG_pass hG.2 (List.mem_range.mp hx)⟩)
      obtain ⟨hB, hG⟩ := hG
      have hx' := List.mem_range.mp hx
      obtain ⟨b1, b2, b3, b4, b5⟩ := hG x hx'
      have gk := gr_ok' (sh := H.2 x 0) b1 b2 b3 b4
      unfold passS
      split
      · exact hB
      · dsimp only
        split
        · refine ⟨fun id v hv => ?_, fun id v hv => ?_⟩
          · simp only [gbr, up] at hv
            split at hv
            · split at hv
              · cases hv; omega
              · cases hv
            · exact hB.1 id v hv
          · simp only [gba, up] at hv
            split at hv
            · cases hv
              have e1 : (if H.2 x 3 ≠ 0 ∧ (gdd G x + 1) % H.2 x 3 = 0 then grW (H.2 x 0) (gw G x) else gw G x) ≤ 9 := by split <;> omega
              have e2 : (if H.2 x 3 ≠ 0 ∧ (gdd G x + 1) % H.2 x 3 = 0 then grD (H.2 x 0) (gd G x) else gd G x) ≤ 9 := by split <;> omega
              have := Nat.mul_le_mul e1 e2
              omega
            · exact hB.2 id v hv
        · exact hB
    exact h4.1
-- came
def cameV (A : AB) (k w : Nat) : Int32 := if w = 0 then (if gct (simA A 40) k then 1 else 0) else if w = 1 then (if gbr (simA A 40) k = none then 0 else 1) else mo (simA A 40) k
theorem cameV_1 {A : AB} {k : Nat} : cameV A k 1 = if gbr (simA A 40) k = none then 0 else 1 := by unfold cameV; rw [if_neg (by decide), if_pos rfl]
theorem cameV_2 {A : AB} {k : Nat} : cameV A k 2 = mo (simA A 40) k := by unfold cameV; rw [if_neg (by decide), if_neg (by decide)]
def sCame (x y : Int32) (A : AB) : Sp := (if inb x (aL A).length ∧ inb y 3 then cameV A x.toNatClampNeg y.toNatClampNeg else -1002, A)
theorem br_m1 {A : AB} (hA : okAB A) (k : Nat) : oI (gbr (simA A 40) k) = -1 ↔ gbr (simA A 40) k = none := oI_m1 (fun v hv => by have := (okB_sim (B := bkA A) (okH_hd hA) hA.2.1.1 40).1 k v hv; omega)
theorem ba_m1 {A : AB} (hA : okAB A) (k : Nat) : oI (gba (simA A 40) k) = -1 ↔ gba (simA A 40) k = none := oI_m1 (fun v hv => (okB_sim (B := bkA A) (okH_hd hA) hA.2.1.1 40).2 k v hv)
theorem c_came {A : AB} {σ : St} (x y : Int32) (h : RC A σ) (hA : okAB A) : isC (M7_came x y σ) σ (sCame x y A) := by
  unfold M7_came sCame isC
  have hl := hA.2.1.2
  rw [e7_isBelow x _ σ (n := (aL A).length) h.2.2.1.1 (by omega), bind_s]
  by_cases q1 : inb x (aL A).length
  · rw [if_pos q1, if_neg (by decide), e7_isBelow y 3 σ (n := 3) rfl (by decide), bind_s]
    by_cases q2 : inb y 3
    · rw [if_pos q2, if_neg (by decide), if_pos (show inb x (aL A).length ∧ inb y 3 from ⟨q1, q2⟩)]
      obtain ⟨k, hk, rfl, hx⟩ := inb_ex q1
      obtain ⟨w, hw, rfl, hy⟩ := inb_ex q2
      rw [nI_clamp hx, nI_clamp hy]
      refine ok_call (c_told h hA) ?_
      rintro _ σ1 ⟨rfl, hR, hT, hlo⟩
      refine ok_T rfl ?_
      obtain ⟨c1, c2, c3⟩ := hT.1.2.2 k (by omega)
      have hin : inb (nI k) 52 := (inb_nI (by omega)).mpr (by omega)
      rcases (show w = 0 ∨ w = 1 ∨ w = 2 by omega) with rfl | rfl | rfl
      · exact ok_T rfl (ok_T hin (isC_A hR hlo c1))
      · refine ok_F (by decide) (ok_T rfl (ok_T hin (isC_A hR hlo ?_)))
        rw [c2]
        refine Eq.trans ?_ cameV_1.symm
        exact itx (br_m1 hA k) _ _
      · exact ok_F (by decide) (ok_F (by decide) (ok_T hin (isC_A hR hlo c3)))
    · rw [if_neg q2, if_pos rfl, if_neg (fun z => q2 z.2)]
      exact isC_A h loC.rf rfl
  · rw [if_neg q1, if_pos rfl, if_neg (fun z => q1 z.1)]
    exact isC_A h loC.rf rfl
theorem x_came {A : AB} {σ : St} {k w : Nat} (hR : RX A (bkA A) σ) (hA : okAB A) (hk : k < (aL A).length) (hw : w < 3) : isX A (bkA A) (M8_cameOf (nI k) (nI w) σ) σ (cameV A k w) := by
  unfold M8_cameOf isX
  have hl := hA.2.1.2
  refine ok_call (x_lives (d := 39) (by decide) hR) ?_
  rintro _ σ1 ⟨hR1, hm, hF⟩
  obtain ⟨m1, m2, m3, m4⟩ := hm.2.2 k hk
  have hin : inb (nI k) 52 := (inb_nI (by omega)).mpr (by omega)
  rw [nI_clamp (n := k) (by omega)]
  rcases (show w = 0 ∨ w = 1 ∨ w = 2 by omega) with rfl | rfl | rfl
  · exact ok_T rfl (ok_T hin (isX_some hR1 hF.hi m1))
  · refine ok_F (by decide) (ok_T rfl (ok_T hin (isX_some hR1 hF.hi ?_)))
    rw [m2]
    refine Eq.trans ?_ cameV_1.symm
    exact itx (br_m1 hA k) _ _
  · refine ok_F (by decide) (ok_F (by decide) (ok_T hin (isX_some hR1 hF.hi ?_)))
    rw [m3]
    refine Eq.trans ?_ cameV_2.symm
    unfold mo
    show (if oI (gba (simA A 40) k) = -1 then (0 : Int32) else _) = _
    rw [itx (ba_m1 hA k)]
    cases e : gba (simA A 40) k with
    | none => rfl
    | some v =>
      have e' : gba (sim (hdA A) (bkA A) (39 + 1)) k = some v := e
      rw [if_neg (by intro q; cases q), e', m4 ((okC_sim (H := hdA A) (B := bkA A) 40).1 k (by rw [e']; intro q; cases q))]
      rfl
theorem e8_loanIn {A : AB} {σ : St} (x : Int32) (h : RX A (bkA A) σ) (hA : okAB A) : M8_in x.toInt64 0 (((σ 0 9) - 1).toInt64) σ = some (if inb x (aL A).length then 1 else 0, σ) := by
  have hl := hA.2.1.2
  have hb : (((σ 0 9) - 1).toInt64).toInt = ((aL A).length : Int) - 1 := by
    rw [h.2.2.2.2.2.2.2.2.2.1.1, Int32.toInt_toInt64, show (1 : Int32) = nI 1 from rfl, pk_sub_toInt (by show (aL A).length < _; omega) (by decide)]; rfl
  exact e8_in0 x _ σ hb
theorem m_came {A : AB} {σ : St} (x y : Int32) (h : RM A σ) (hA : okAB A) : isM (M8_came x y σ) σ (sCame x y A) := by
  unfold M8_came sCame
  refine m_rd h hA (fun σ1 hR => ?_)
  rw [e8_loanIn x hR hA, bind_s]
  by_cases q1 : inb x (aL A).length
  · rw [if_pos q1, if_neg (by decide), e8_in0 y 2 σ1 (n := 3) rfl, bind_s]
    by_cases q2 : inb y 3
    · rw [if_pos q2, if_neg (by decide), if_pos (show inb x (aL A).length ∧ inb y 3 from ⟨q1, q2⟩)]
      obtain ⟨d, hd, rfl, hx⟩ := inb_ex q1
      obtain ⟨k, hk, rfl, hy⟩ := inb_ex q2
      rw [nI_clamp hx, nI_clamp hy]
      exact isX_tail (x_came hR hA hd hk)
    · rw [if_neg q2, if_pos rfl, if_neg (fun z => q2 z.2)]
      exact isX_some hR hiM.rf rfl
  · rw [if_neg q1, if_pos rfl, if_neg (fun z => q1 z.1)]
    exact isX_some hR hiM.rf rfl
-- breaches
def brN (A : AB) (p : Nat) : Nat → Nat
  | 0 => 0
  | k + 1 => brN A p k + if gbr (simA A 40) k ≠ none ∧ (g4 (aL A) k).2.2.1 = p then 1 else 0
def brV (A : AB) (p : Nat) : Int32 := nI (brN A p (aL A).length)
def sBreaches (x : Int32) (A : AB) : Sp := (if inb x 6 then brV A x.toNatClampNeg else -2, A)
theorem c_breaches {A : AB} {σ : St} (x : Int32) (h : RC A σ) (hA : okAB A) : isC (M7_breaches x σ) σ (sBreaches x A) := by
  unfold M7_breaches sBreaches isC
  have hl := hA.2.1.2
  rw [e7_isBelow x 6 σ (n := 6) rfl (by decide), bind_s]
  by_cases q1 : inb x 6
  · rw [if_pos q1, if_neg (by decide), if_pos q1]
    obtain ⟨p, hp, rfl, hx⟩ := inb_ex q1
    rw [nI_clamp hx]
    refine ok_call (c_told h hA) ?_
    rintro _ σ1 ⟨rfl, hR, hT, hlo⟩
    refine ok_T rfl ?_
    have key : ∀ fu k, k ≤ (aL A).length → (aL A).length + 1 ≤ fu + k → M7_breaches_L22 (nI p) 48 (fun v σ => some (v, σ)) fu (nI (brN A p k)) (nI k) σ1 = some (brV A p, σ1) := by
      intro fu
      induction fu with
      | zero => intro k _ _; omega
      | succ fu ih =>
        intro k hk hf
        rw [M7_breaches_L22, hR.2.2.1.1]
        by_cases e : (aL A).length ≤ k
        · rw [if_pos ((nI_leI (by omega) (by omega)).mpr e), show k = (aL A).length by omega]; rfl
        · rw [if_neg (fun q => e ((nI_leI (by omega) (by omega)).mp q)), if_pos ((inb_nI (by omega)).mpr (by omega)), nI_clamp (n := k) (by omega), show σ1 (48 + 8) k = oI (gbr (simA A 40) k) from (hT.1.2.2 k (by omega)).2.1]
          have hs : brN A p (k + 1) = brN A p k + if gbr (simA A 40) k ≠ none ∧ (g4 (aL A) k).2.2.1 = p then 1 else 0 := rfl
          rw [itx (br_m1 hA k)]
          unfold M7_breaches_J68 lt
          have hpk := hA.2.1.1 k (by omega)
          by_cases c1 : gbr (simA A 40) k = none
          · rw [if_pos c1]
            rw [if_neg (fun q => q.1 c1)] at hs
            dsimp only
            rw [nI_1, show brN A p k = brN A p (k + 1) by omega]
            exact ih (k + 1) (by omega) (by omega)
          · rw [if_neg c1, show M4_cell 33 (nI k) 2 σ1 = _ from e4_cell (c := 2) hR.2.2.1 (by omega) (by decide), bind_s]
            by_cases c2 : (g4 (aL A) k).2.2.1 = p
            · rw [if_pos (show nI (q4 (g4 (aL A) k) 2) = nI p by rw [← c2]; rfl)]
              rw [if_pos ⟨c1, c2⟩] at hs
              dsimp only
              rw [nI_1, nI_1, ← hs]
              exact ih (k + 1) (by omega) (by omega)
            · rw [if_neg (show ¬ nI (q4 (g4 (aL A) k) 2) = nI p from fun q => c2 ((nI_eq (by show (g4 (aL A) k).2.2.1 < _; omega) (by omega)).mp q))]
              rw [if_neg (fun q => c2 q.2)] at hs
              dsimp only
              rw [nI_1, show brN A p k = brN A p (k + 1) by omega]
              exact ih (k + 1) (by omega) (by omega)
    rw [show M7_breaches_L22 (nI p) 48 (fun v σ => some (v, σ)) FU 0 0 σ1 = _ from key FU 0 (by omega) (by have := FU_ge; omega)]
    exact isC_A hR hlo rfl
  · rw [if_neg q1, if_pos rfl, if_neg q1]
    exact isC_A h loC.rf rfl
theorem x_breaches {A : AB} {σ : St} {p : Nat} (hR : RX A (bkA A) σ) (hA : okAB A) (hp : p < 6) : isX A (bkA A) (M8_breachesOf (nI p) σ) σ (brV A p) := by
  unfold M8_breachesOf isX
  have hl := hA.2.1.2
  refine ok_call (x_lives (d := 39) (by decide) hR) ?_
  rintro _ σ1 ⟨hR1, hm, hF⟩
  have h9 : σ1 0 9 = nI (aL A).length := hR1.2.2.2.2.2.2.2.2.2.1.1
  have key : ∀ fu k, k ≤ (aL A).length → (aL A).length + 1 ≤ fu + k → M8_breachesOf_L10 (nI p) (fun v σ => some (v, σ)) fu (nI (brN A p k)) (nI k) σ1 = some (brV A p, σ1) := by
    intro fu
    induction fu with
    | zero => intro k _ _; omega
    | succ fu ih =>
      intro k hk hf
      rw [M8_breachesOf_L10, h9]
      by_cases e : (aL A).length ≤ k
      · rw [if_pos ((nI_leI (by omega) (by omega)).mpr e), show k = (aL A).length by omega]; rfl
      · rw [if_neg (fun q => e ((nI_leI (by omega) (by omega)).mp q)), if_pos ((inb_nI (by omega)).mpr (by omega)), nI_clamp (n := k) (by omega), show σ1 18 k = oI (gbr (simA A 40) k) from (hm.2.2 k (show k < (aL A).length by omega)).2.1]
        have hs : brN A p (k + 1) = brN A p k + if gbr (simA A 40) k ≠ none ∧ (g4 (aL A) k).2.2.1 = p then 1 else 0 := rfl
        rw [itx (br_m1 hA k)]
        unfold M8_breachesOf_J47 M8_breachesOf_J48 lt
        have hpk := hA.2.1.1 k (by omega)
        have e4 : (4 : Int32) * nI k + 2 = nI (4 * k + 2) := by show nI 4 * nI k + nI 2 = _; rw [pk_mul, nI_add]
        by_cases c1 : gbr (simA A 40) k = none
        · rw [if_pos c1]
          rw [if_neg (fun q => q.1 c1)] at hs
          dsimp only
          rw [nI_1, show (0 : Int32) = nI 0 from rfl, nI_add, ← hs]
          exact ih (k + 1) (by omega) (by omega)
        · rw [if_neg c1, e4, if_pos ((inb_nI (by omega)).mpr (by omega)), nI_clamp (n := 4 * k + 2) (by omega), (hR1.2.2.2.2.2.2.2.2.2.1.2.2 k (show k < (aL A).length by omega)).2.2.1]
          show (if nI (g4 (aL A) k).2.2.1 = nI p then _ else _) = _
          by_cases c2 : (g4 (aL A) k).2.2.1 = p
          · rw [if_pos (by rw [c2])]
            rw [if_pos ⟨c1, c2⟩] at hs
            dsimp only
            rw [nI_1, nI_1, ← hs]
            exact ih (k + 1) (by omega) (by omega)
          · rw [if_neg (fun q => c2 ((nI_eq (by omega) (by omega)).mp q))]
            rw [if_neg (fun q => c2 q.2)] at hs
            dsimp only
            rw [nI_1, show (0 : Int32) = nI 0 from rfl, nI_add, ← hs]
            exact ih (k + 1) (by omega) (by omega)
  rw [show M8_breachesOf_L10 (nI p) (fun v σ => some (v, σ)) FU 0 0 σ1 = _ from key FU 0 (by omega) (by have := FU_ge; omega)]
  exact isX_some hR1 hF.hi rfl
theorem m_breaches {A : AB} {σ : St} (x : Int32) (h : RM A σ) (hA : okAB A) : isM (M8_breaches x σ) σ (sBreaches x A) := by
  unfold M8_breaches sBreaches
  refine m_rd h hA (fun σ1 hR => ?_)
  rw [e8_in0 x 5 σ1 (n := 6) rfl, bind_s]
  by_cases q1 : inb x 6
  · rw [if_pos q1, if_neg (by decide), if_pos q1]
    obtain ⟨d, hd, rfl, hx⟩ := inb_ex q1
    rw [nI_clamp hx]
    exact isX_tail (x_breaches hR hA hd)
  · rw [if_neg q1, if_pos rfl, if_neg q1]
    exact isX_some hR hiM.rf rfl
-- first
def fsN (A : AB) : Nat → Option Nat
  | 0 => none
  | k + 1 => match gbr (simA A 40) k with
    | none => fsN A k
    | some d => match fsN A k with
      | none => some k
      | some j => if (gbr (simA A 40) j).getD 0 ≤ d then some j else some k
def fsV (A : AB) : Int32 := oI (fsN A (aL A).length)
def sFirst (A : AB) : Sp := (fsV A, A)
theorem fsN_ok {A : AB} : ∀ k j, fsN A k = some j → j < k ∧ ∃ d, gbr (simA A 40) j = some d := by
  intro k
  induction k with
  | zero => intro j h; cases h
  | succ k ih =>
    intro j h
    unfold fsN at h
    cases e : gbr (simA A 40) k with
    | none => rw [e] at h; obtain ⟨a, b⟩ := ih j h; exact ⟨by omega, b⟩
    | some d =>
      rw [e] at h
      cases e2 : fsN A k with
      | none => rw [e2] at h; cases h; exact ⟨by omega, d, e⟩
      | some i =>
        rw [e2] at h
        obtain ⟨a, b⟩ := ih i e2
        dsimp only at h
        split at h
        · cases h; exact ⟨by omega, b⟩
        · cases h; exact ⟨by omega, d, e⟩
def fsD (A : AB) (o : Option Nat) : Nat := match o with
  | none => 40
  | some j => (gbr (simA A 40) j).getD 0
theorem l7_first {A : AB} {σ1 : St} (hA : okAB A) (hR : RC A σ1) (hT : toC σ1 A) : ∀ fu k, k ≤ (aL A).length → (aL A).length + 1 ≤ fu + k → M7_first_L13 48 (fun v σ => some (v, σ)) fu (oI (fsN A k)) (nI (fsD A (fsN A k))) (nI k) σ1 = some (fsV A, σ1) := by
  have hl := hA.2.1.2
  have hbd : ∀ k v, gbr (simA A 40) k = some v → v < 40 := (okB_sim (B := bkA A) (okH_hd hA) hA.2.1.1 40).1
  have hbr : ∀ k, k < 52 → σ1 (48 + 8) k = oI (gbr (simA A 40) k) := fun k hk => (hT.1.2.2 k hk).2.1
  intro fu
  induction fu with
  | zero => intro k _ _; omega
  | succ fu ih =>
    intro k hk hf
    rw [M7_first_L13, hR.2.2.1.1]
    by_cases e : (aL A).length ≤ k
    · rw [if_pos ((nI_leI (by omega) (by omega)).mpr e), show k = (aL A).length by omega]; rfl
    · rw [if_neg (fun q => e ((nI_leI (by omega) (by omega)).mp q)), if_pos ((inb_nI (by omega)).mpr (by omega)), nI_clamp (n := k) (by omega), hbr k (by omega)]
      rw [lt_eq, M7_first_J55, lt_eq, nI_1]
      have hs : fsN A (k + 1) = (match gbr (simA A 40) k with
        | none => fsN A k
        | some d => match fsN A k with
          | none => some k
          | some j => if (gbr (simA A 40) j).getD 0 ≤ d then some j else some k) := rfl
      have := ih (k + 1) (by omega) (by omega)
      cases e1 : gbr (simA A 40) k with
      | none =>
        rw [e1] at hs
        rw [hs] at this
        rw [if_pos (show oI none = -1 from rfl), if_pos (show oI none = -1 from rfl)]; exact this
      | some d =>
        have hd : d < 40 := hbd k d e1
        rw [e1] at hs
        rw [if_neg (show ¬ oI (some d) = -1 from nI_m1 (a := d) (by omega)), if_neg (show ¬ oI (some d) = -1 from nI_m1 (a := d) (by omega))]
        cases e2 : fsN A k with
        | none =>
          rw [e2] at hs
          rw [hs] at this
          have ed : fsD A (some k) = d := by show (gbr (simA A 40) k).getD 0 = d; rw [e1]; rfl
          rw [ed] at this
          have z40 : ¬ nI (fsD A none) ≤ nI d := by
            rw [show fsD A none = 40 from rfl, nI_leI (by omega) (by omega)]; omega
          rw [show oI (some d) = nI d from rfl, if_neg z40, if_neg z40]
          exact this
        | some j =>
          rw [e2] at hs
          obtain ⟨-, dj, hdj⟩ := fsN_ok k j e2
          have hdj' : dj < 40 := hbd j dj hdj
          have ej : fsD A (some j) = dj := by show (gbr (simA A 40) j).getD 0 = dj; rw [hdj]; rfl
          dsimp only at hs
          rw [hdj] at hs
          rw [ej]
          by_cases c : dj ≤ d
          · rw [if_pos (show (some dj).getD 0 ≤ d from c)] at hs
            rw [hs, ej] at this
            rw [if_pos (show nI dj ≤ oI (some d) from (nI_leI (by omega) (by omega)).mpr c), if_pos (show nI dj ≤ oI (some d) from (nI_leI (by omega) (by omega)).mpr c)]
            exact this
          · rw [if_neg (show ¬ (some dj).getD 0 ≤ d from c)] at hs
            have ed : fsD A (some k) = d := by show (gbr (simA A 40) k).getD 0 = d; rw [e1]; rfl
            rw [hs, ed] at this
            rw [if_neg (show ¬ nI dj ≤ oI (some d) from fun q => c ((nI_leI (by omega) (by omega)).mp q)), if_neg (show ¬ nI dj ≤ oI (some d) from fun q => c ((nI_leI (by omega) (by omega)).mp q))]
            exact this
theorem c_first {A : AB} {σ : St} (h : RC A σ) (hA : okAB A) : isC (M7_first σ) σ (sFirst A) := by
  unfold M7_first sFirst isC
  have hl := hA.2.1.2
  refine ok_call (c_told h hA) ?_
  rintro _ σ1 ⟨rfl, hR, hT, hlo⟩
  refine ok_T rfl ?_
  have k0 := l7_first hA hR hT FU 0 (by omega) (by have := FU_ge; omega)
  rw [show oI (fsN A 0) = -1 from rfl, show nI (fsD A (fsN A 0)) = 40 from rfl, show nI 0 = 0 from rfl] at k0
  rw [k0]
  exact isC_A hR hlo rfl
theorem x_first {A : AB} {σ : St} (hR : RX A (bkA A) σ) (hA : okAB A) : isX A (bkA A) (M8_firstNow σ) σ (fsV A) := by
  unfold M8_firstNow isX
  have hl := hA.2.1.2
  refine ok_call (x_lives (d := 39) (by decide) hR) ?_
  rintro _ σ1 ⟨hR1, hm, hF⟩
  have h9 : σ1 0 9 = nI (aL A).length := hR1.2.2.2.2.2.2.2.2.2.1.1
  have hbd := (okB_sim (B := bkA A) (okH_hd hA) hA.2.1.1 40).1
  have hbr : ∀ k, k < (aL A).length → σ1 18 k = oI (gbr (simA A 40) k) := fun k hk => (hm.2.2 k hk).2.1
  have key : ∀ fu k, k ≤ (aL A).length → (aL A).length + 1 ≤ fu + k → M8_firstNow_L10 (fun v σ => some (v, σ)) fu (oI (fsN A k)) (nI k) σ1 = some (fsV A, σ1) := by
    intro fu
    induction fu with
    | zero => intro k _ _; omega
    | succ fu ih =>
      intro k hk hf
      rw [M8_firstNow_L10, h9]
      by_cases e : (aL A).length ≤ k
      · rw [if_pos ((nI_leI (by omega) (by omega)).mpr e), show k = (aL A).length by omega]; rfl
      · rw [if_neg (fun q => e ((nI_leI (by omega) (by omega)).mp q)), if_pos ((inb_nI (by omega)).mpr (by omega)), nI_clamp (n := k) (by omega), hbr k (by omega)]
        unfold M8_firstNow_J52 M8_firstNow_J48 M8_firstNow_J53 lt
        dsimp only
        rw [nI_1]
        have hs : fsN A (k + 1) = (match gbr (simA A 40) k with
          | none => fsN A k
          | some d => match fsN A k with
            | none => some k
            | some j => if (gbr (simA A 40) j).getD 0 ≤ d then some j else some k) := rfl
        have := ih (k + 1) (by omega) (by omega)
        cases e1 : gbr (simA A 40) k with
        | none =>
          rw [e1] at hs
          rw [hs] at this
          rw [if_pos (show oI none = -1 from rfl)]; exact this
        | some d =>
          have hd : d < 40 := hbd k d e1
          rw [e1] at hs
          rw [if_neg (show ¬ oI (some d) = -1 from nI_m1 (a := d) (by omega))]
          cases e2 : fsN A k with
          | none =>
            rw [e2] at hs
            rw [hs] at this
            rw [if_pos (show oI none = -1 from rfl)]
            exact this
          | some j =>
            rw [e2] at hs
            obtain ⟨hjk, dj, hdj⟩ := fsN_ok k j e2
            have hdj' : dj < 40 := hbd j dj hdj
            dsimp only at hs
            rw [hdj] at hs
            rw [if_neg (show ¬ oI (some j) = -1 from nI_m1 (a := j) (by omega)), if_pos (show inb (oI (some j)) 52 from (inb_nI (by omega)).mpr (by omega)), show (oI (some j)).toNatClampNeg = j from nI_clamp (by omega), hbr j (by omega), hdj]
            by_cases c : dj ≤ d
            · rw [if_pos (show (some dj).getD 0 ≤ d from c)] at hs
              rw [hs] at this
              rw [if_pos (show oI (some dj) ≤ oI (some d) from (nI_leI (by omega) (by omega)).mpr c)]
              exact this
            · rw [if_neg (show ¬ (some dj).getD 0 ≤ d from c)] at hs
              rw [hs] at this
              rw [if_neg (show ¬ oI (some dj) ≤ oI (some d) from fun q => c ((nI_leI (by omega) (by omega)).mp q))]
              exact this
  have k0 := key FU 0 (by omega) (by have := FU_ge; omega)
  rw [show oI (fsN A 0) = -1 from rfl, show nI 0 = 0 from rfl] at k0
  rw [k0]
  exact isX_some hR1 hF.hi rfl
theorem m_first {A : AB} {σ : St} (h : RM A σ) (hA : okAB A) : isM (M8_first σ) σ (sFirst A) := by
  unfold M8_first sFirst
  exact m_rd h hA (fun σ1 hR => isX_tail (x_first hR hA))
