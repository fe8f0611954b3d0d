theorem fig_lt' {t : Nat} {b : List Nat} (k w : Nat) : fig t b k w < 10 := by
  unfold fig
  cases e : tg t w (b.getD (5 * k + w) 0) with
  | none => decide
  | some v => have := tg_lt e; show v < 10; omega
theorem e7_suits {A : AB} {σ : St} {w h x d : Nat} (hR : RC A σ) (hA : okAB A) (hw : w < itm 1 (a1 A)) (hh : h < itm 0 (a0 A)) (hx : x < 1000) (hd : d < 1000) : M7_suits (nI w) (nI h) (nI x) (nI d) σ = some (if su A w h x d then 1 else 0, σ) := by
  unfold M7_suits
  have f1 := fig_lt' (t := 1) (b := a1 A) w 0
  have f2 := fig_lt' (t := 1) (b := a1 A) w 1
  have f3 := fig_lt' (t := 1) (b := a1 A) w 2
  have f4 := fig_lt' (t := 0) (b := a0 A) h 0
  have hE := hA.2.2.2.2.2.1
  have J : M7_suits_J42 (nI w) (nI x) (nI d) (nI (fig 1 (a1 A) w 1)) σ = some (if fig 1 (a1 A) w 1 ≤ x ∧ x ≤ fig 1 (a1 A) w 1 + aE A ∧ fig 1 (a1 A) w 2 ≤ d then 1 else 0, σ) := by
    unfold M7_suits_J42
    rw [hR.2.2.2.2.2.2.2.1, nI_add]
    by_cases c1 : x < fig 1 (a1 A) w 1
    · rw [if_pos ((nI_ltI (by omega) (by omega)).mpr c1), if_neg (by omega)]
    · rw [if_neg (fun q => c1 ((nI_ltI (by omega) (by omega)).mp q))]
      by_cases c2 : fig 1 (a1 A) w 1 + aE A < x
      · rw [if_pos ((nI_ltI (by omega) (by omega)).mpr c2), if_neg (by omega)]
      · rw [if_neg (fun q => c2 ((nI_ltI (by omega) (by omega)).mp q)), show M6_figure 29 (nI w) 2 σ = _ from e6_figure (w := 2) hR.2.1 hA.1.2.1 hw (by decide), bind_s]
        by_cases c3 : d < fig 1 (a1 A) w 2
        · rw [if_pos ((nI_ltI (by omega) (by omega)).mpr c3), if_neg (by omega)]
        · rw [if_neg (fun q => c3 ((nI_ltI (by omega) (by omega)).mp q)), if_pos (by omega)]
  rw [show M6_figure 29 (nI w) 0 σ = _ from e6_figure (w := 0) hR.2.1 hA.1.2.1 hw (by decide), bind_s, show M6_figure 29 (nI w) 1 σ = _ from e6_figure (w := 1) hR.2.1 hA.1.2.1 hw (by decide), bind_s]
  unfold su
  by_cases c0 : fig 1 (a1 A) w 0 = 3
  · rw [if_pos (by rw [c0]; rfl), J]
    by_cases c : fig 1 (a1 A) w 1 ≤ x ∧ x ≤ fig 1 (a1 A) w 1 + aE A ∧ fig 1 (a1 A) w 2 ≤ d <;> simp [c, c0]
  · rw [if_neg (show ¬ nI (fig 1 (a1 A) w 0) = 3 from fun q => c0 ((nI_eq (b := 3) (by omega) (by decide)).mp q)), show M6_figure 26 (nI h) 0 σ = _ from e6_figure (w := 0) hR.1 hA.1.1 hh (by decide), bind_s]
    by_cases c4 : fig 1 (a1 A) w 0 = fig 0 (a0 A) h 0
    · rw [if_pos (by rw [c4]), J]
      by_cases c : fig 1 (a1 A) w 1 ≤ x ∧ x ≤ fig 1 (a1 A) w 1 + aE A ∧ fig 1 (a1 A) w 2 ≤ d <;> simp [c, c4]
    · rw [if_neg (fun q => c4 ((nI_eq (by omega) (by omega)).mp q))]
      simp [c0, c4]
theorem e8_servesBy {A : AB} {B : Bk} {σ : St} {w h x : Nat} {V : Vw} (hR : RX A B σ) (hA : okAB A) (hv : mV σ (itm 0 (a0 A)) V) (hV : okV (itm 0 (a0 A)) V) (hw : w < itm 1 (a1 A)) (hh : h < itm 0 (a0 A)) (hx : x < 1000) : M8_servesBy (nI h) (nI w) (nI x) σ = some (if su A w h x (V h).2.1 then 1 else 0, σ) := by
  unfold M8_servesBy lt
  have f1 := fig_lt' (t := 1) (b := a1 A) w 0
  have f2 := fig_lt' (t := 1) (b := a1 A) w 1
  have f3 := fig_lt' (t := 1) (b := a1 A) w 2
  have f4 := fig_lt' (t := 0) (b := a0 A) h 0
  have hE := hA.2.2.2.2.2.1
  have h8 := itm_le (t := 0) hA.1.1
  have w8 := itm_le (t := 1) hA.1.2.1
  have hd := hV.2 h hh
  have g : ∀ j, j < 4 → σ 8 (32 + 4 * w + j) = nI (fig 1 (a1 A) w j) := fun j hj => hR.2.2.2.1.2 w j hw hj
  have g0 : σ 8 (4 * h) = nI (fig 0 (a0 A) h 0) := by
    have := hR.2.2.1.2 h 0 hh (by decide)
    rw [show 32 * 0 + 4 * h + 0 = 4 * h by omega] at this; exact this
  have e1 : (32 : Int32) + 4 * nI w = nI (32 + 4 * w) := by rw [show (4 : Int32) = nI 4 from rfl, pk_mul, show (32 : Int32) = nI 32 from rfl, nI_add]
  have e2 : (4 : Int32) * nI h = nI (4 * h) := by rw [show (4 : Int32) = nI 4 from rfl, pk_mul]
  have J : ∀ y : Int32, (y = 0 ∨ y = 1) → M8_servesBy_J42 (nI h) (nI x) (nI (32 + 4 * w)) y σ = some (if y = 1 ∧ fig 1 (a1 A) w 1 ≤ x ∧ x ≤ fig 1 (a1 A) w 1 + aE A ∧ fig 1 (a1 A) w 2 ≤ (V h).2.1 then 1 else 0, σ) := by
    intro y hy
    unfold M8_servesBy_J42
    rcases hy with rfl | rfl
    · rw [if_pos rfl, if_neg (fun q => absurd q.1 (by decide))]
    · rw [if_neg (by decide), nI_1, show nI (32 + 4 * w) + 2 = nI (32 + 4 * w + 2) from nI_add _ 2, if_pos ((inb_nI (by omega)).mpr (by omega)), nI_clamp (n := 32 + 4 * w + 1) (by omega), nI_clamp (n := 32 + 4 * w + 2) (by omega), g 1 (by decide), hR.2.2.2.2.2.1, nI_add]
      rw [e8_inx (nI x) _ _ σ (a := (fig 1 (a1 A) w 1 : Nat)) (b := (fig 1 (a1 A) w 1 + aE A : Nat)) (by rw [Int32.toInt_toInt64, nI_toInt (by omega)]) (by rw [Int32.toInt_toInt64, nI_toInt (by omega)]), bind_s, nI_toInt (show x < 2 ^ 31 by omega)]
      by_cases c : (fig 1 (a1 A) w 1 : Int) ≤ x ∧ (x : Int) ≤ (fig 1 (a1 A) w 1 + aE A : Nat)
      · rw [if_pos c, if_neg (by decide), if_pos ((inb_nI (by omega)).mpr (by omega)), if_pos ((inb_nI (by omega)).mpr (by omega)), g 2 (by decide), nI_clamp (n := h) (by omega), (hv h hh).2.1]
        by_cases c3 : (V h).2.1 < fig 1 (a1 A) w 2
        · rw [if_pos ((nI_ltI (by omega) (by omega)).mpr c3), if_neg (by omega)]
        · rw [if_neg (fun q => c3 ((nI_ltI (by omega) (by omega)).mp q)), if_pos ⟨rfl, by omega⟩]
      · rw [if_neg c, if_pos rfl, if_neg (by omega)]
  rw [e1, e2]
  dsimp only
  rw [if_pos ((inb_nI (by omega)).mpr (by omega)), nI_clamp (n := 32 + 4 * w) (by omega), show σ 8 (32 + 4 * w) = _ from g 0 (by decide)]
  unfold su M8_servesBy_J37
  by_cases c0 : fig 1 (a1 A) w 0 = 3
  · rw [if_pos (by rw [c0]; rfl), J 1 (Or.inr rfl)]
    by_cases c : fig 1 (a1 A) w 1 ≤ x ∧ x ≤ fig 1 (a1 A) w 1 + aE A ∧ fig 1 (a1 A) w 2 ≤ (V h).2.1 <;> simp [c, c0]
  · rw [if_neg (show ¬ nI (fig 1 (a1 A) w 0) = 3 from fun q => c0 ((nI_eq (b := 3) (by omega) (by decide)).mp q)), if_pos ((inb_nI (by omega)).mpr (by omega)), nI_clamp (n := 4 * h) (by omega), g0]
    by_cases c4 : fig 1 (a1 A) w 0 = fig 0 (a0 A) h 0
    · rw [if_pos (by rw [c4]), J 1 (Or.inr rfl)]
      by_cases c : fig 1 (a1 A) w 1 ≤ x ∧ x ≤ fig 1 (a1 A) w 1 + aE A ∧ fig 1 (a1 A) w 2 ≤ (V h).2.1 <;> simp [c, c4]
    · rw [if_neg (fun q => c4 ((nI_eq (by omega) (by omega)).mp q)), J 0 (Or.inl rfl)]
      simp [c0, c4]
theorem e8_servesNow {A : AB} {B : Bk} {σ : St} {w h : Nat} {V : Vw} (hR : RX A B σ) (hA : okAB A) (hv : mV σ (itm 0 (a0 A)) V) (hV : okV (itm 0 (a0 A)) V) (hw : w < itm 1 (a1 A)) (hh : h < itm 0 (a0 A)) : M8_servesNow (nI h) (nI w) σ = some (if su A w h (V h).1 (V h).2.1 then 1 else 0, σ) := by
  unfold M8_servesNow
  have h8 := itm_le (t := 0) hA.1.1
  have := hV.2 h hh
  rw [if_pos ((inb_nI (by omega)).mpr (by omega)), nI_clamp (n := h) (by omega), (hv h hh).1, e8_servesBy hR hA hv hV hw hh (by omega), bind_s]
  by_cases c : su A w h (V h).1 (V h).2.1 = true <;> simp [c]
-- validity of a day of what is told
theorem okV_A {A : AB} (hA : okAB A) (d : Nat) : okV (itm 0 (a0 A)) (vwA A d) := okV_of (okH_hd hA) hA.2.1.1
theorem cV_A {A : AB} {σ : St} {d : Nat} (hA : okAB A) (h : toC σ A) (hd : d < 40) : cV σ 48 d (itm 0 (a0 A)) (vwA A d) := cV_of (okH_hd hA) hA.2.1.1 (by have := hA.2.1.2; show (aL A).length ≤ 52; omega) h hd
-- is
def isV (A : AB) (d h w : Nat) : Int32 := if w = 0 then nI (gw (simA A (d + 1)) h) else if w = 1 then nI (gd (simA A (d + 1)) h) else match gou (simA A (d + 1)) h with
  | none => -1
  | some id => nI (g4 (aL A) id).2.2.1
def sIs (x y z : Int32) (A : AB) : Sp := (if inb x 40 ∧ inb y (itm 0 (a0 A)) ∧ inb z 3 then isV A x.toNatClampNeg y.toNatClampNeg z.toNatClampNeg else -2, A)
theorem isV_2 {A : AB} {d h : Nat} : isV A d h 2 = match gou (simA A (d + 1)) h with
  | none => -1
  | some id => nI (g4 (aL A) id).2.2.1 := by unfold isV; rw [if_neg (by decide), if_neg (by decide)]
theorem isC_A {A : AB} {σ0 σ : St} {r v : Int32} (h : RC A σ) (hl : loC σ0 σ) (e : v = r) : Ok (some (v, σ)) (fun r' σ' => r' = (r, A).1 ∧ RC (r, A).2 σ' ∧ loC σ0 σ') := ok_some.mpr ⟨e, h, hl⟩
theorem c_is {A : AB} {σ : St} (x y z : Int32) (h : RC A σ) (hA : okAB A) : isC (M7_is x y z σ) σ (sIs x y z A) := by
  unfold M7_is sIs isC
  have h8 := itm_le (t := 0) hA.1.1
  have hl := hA.2.1.2
  rw [e7_isBelow x 40 σ (n := 40) rfl (by decide), bind_s]
  by_cases q1 : inb x 40
  · rw [if_pos q1, if_neg (by decide), e7_isHole y h hA, bind_s]
    by_cases q2 : inb y (itm 0 (a0 A))
    · rw [if_pos q2, if_neg (by decide), e7_isBelow z 3 σ (n := 3) rfl (by decide), bind_s]
      by_cases q3 : inb z 3
      · rw [if_pos q3, if_neg (by decide), if_pos (show inb x 40 ∧ inb y (itm 0 (a0 A)) ∧ inb z 3 from ⟨q1, q2, q3⟩)]
        obtain ⟨d, hd, rfl, hx⟩ := inb_ex q1
        obtain ⟨k, hk, rfl, hy⟩ := inb_ex q2
        obtain ⟨w, hw, rfl, hz⟩ := inb_ex q3
        rw [nI_clamp hx, nI_clamp hy, nI_clamp hz]
        refine ok_call (c_told h hA) ?_
        rintro _ σ1 ⟨rfl, hR, hT, hlo⟩
        have hv := cV_A hA hT hd
        refine ok_T rfl ?_
        rcases (show w = 0 ∨ w = 1 ∨ w = 2 by omega) with rfl | rfl | rfl
        · refine ok_T rfl ?_
          rw [e1_wide hv h8 hd hk, bind_s]
          exact isC_A hR hlo rfl
        · refine ok_F (by decide) (ok_T rfl ?_)
          rw [e1_deep hv h8 hd hk, bind_s]
          exact isC_A hR hlo rfl
        · refine ok_F (by decide) (ok_F (by decide) ?_)
          rw [e1_loan hd (by omega), bind_s, ((hT.2 d hd).1 k hk).2.2]
          have hlt := gou_lt (B := bkA A) (d := d + 1) (okH_hd hA) hA.2.1.1 hk
          rw [isV_2]
          show Ok (if oI (gou (simA A (d + 1)) k) = -1 then _ else _) _
          cases e : gou (simA A (d + 1)) k with
          | none => exact ok_T rfl (isC_A hR hlo rfl)
          | some id =>
            have hid : id < (aL A).length := hlt id e
            refine ok_F (nI_m1 (by omega)) ?_
            have e' : gou (sim (hdA A) (bkA A) (d + 1)) k = some id := e
            rw [e', show M4_cell 33 (oI (some id)) 2 σ1 = _ from e4_cell (c := 2) hR.2.2.1 hid (by decide), bind_s]
            exact isC_A hR hlo rfl
      · rw [if_neg q3, if_pos rfl, if_neg (fun z => q3 z.2.2)]
        exact isC_A h loC.rf rfl
    · rw [if_neg q2, if_pos rfl, if_neg (fun z => q2 z.2.1)]
      exact isC_A h loC.rf rfl
  · rw [if_neg q1, if_pos rfl, if_neg (fun z => q1 z.1)]
    exact isC_A h loC.rf rfl
theorem x_is {A : AB} {σ : St} {d h w : Nat} (hR : RX A (bkA A) σ) (hA : okAB A) (hd : d < 40) (hh : h < itm 0 (a0 A)) (hw : w < 3) : isX A (bkA A) (M8_isOf (nI d) (nI h) (nI w) σ) σ (isV A d h w) := by
  unfold M8_isOf isX
  have h8 := itm_le (t := 0) hA.1.1
  have hl := hA.2.1.2
  refine ok_call (x_lives hd hR) ?_
  rintro _ σ1 ⟨hR1, hm, hF⟩
  obtain ⟨m1, m2, m3, -⟩ := hm.1 h hh
  rw [nI_clamp (n := h) (by omega), m1, m2, m3]
  have hin : inb (nI h) 8 := (inb_nI (by omega)).mpr (by omega)
  rcases (show w = 0 ∨ w = 1 ∨ w = 2 by omega) with rfl | rfl | rfl
  · exact ok_T rfl (ok_T hin (isX_some hR1 hF.hi rfl))
  · exact ok_F (by decide) (ok_T rfl (ok_T hin (isX_some hR1 hF.hi rfl)))
  · refine ok_F (by decide) (ok_F (by decide) (ok_T hin ?_))
    have hlt := gou_lt (B := bkA A) (d := d + 1) (okH_hd hA) hA.2.1.1 hh
    rw [isV_2]
    show Ok (if oI (gou (simA A (d + 1)) h) = -1 then _ else _) _
    cases e : gou (simA A (d + 1)) h with
    | none => exact ok_T rfl (isX_some hR1 hF.hi rfl)
    | some id =>
      have hid : id < (aL A).length := hlt id e
      refine ok_F (nI_m1 (by omega)) ?_
      have e' : gou (sim (hdA A) (bkA A) (d + 1)) h = some id := e
      rw [e', show (4 : Int32) * oI (some id) + 2 = nI (4 * id + 2) from by show nI 4 * nI id + nI 2 = _; rw [pk_mul, nI_add]]
      refine ok_T ((inb_nI (by omega)).mpr (by omega)) ?_
      rw [nI_clamp (n := 4 * id + 2) (by omega)]
      exact isX_some hR1 hF.hi (hR1.2.2.2.2.2.2.2.2.2.1.2.2 id hid).2.2.1
theorem m_is {A : AB} {σ : St} (x y z : Int32) (h : RM A σ) (hA : okAB A) : isM (M8_is x y z σ) σ (sIs x y z A) := by
  unfold M8_is sIs
  refine m_rd h hA (fun σ1 hR => ?_)
  rw [e8_isDay, bind_s]
  by_cases q1 : inb x 40
  · rw [if_pos q1, if_neg (by decide), e8_isHoleR y hR.to hA, bind_s]
    by_cases q2 : inb y (itm 0 (a0 A))
    · rw [if_pos q2, if_neg (by decide), e8_in0 z 2 σ1 (n := 3) rfl, bind_s]
      by_cases q3 : inb z 3
      · rw [if_pos q3, if_neg (by decide), if_pos (show inb x 40 ∧ inb y (itm 0 (a0 A)) ∧ inb z 3 from ⟨q1, q2, q3⟩)]
        obtain ⟨d, hd, rfl, hx⟩ := inb_ex q1
        obtain ⟨k, hk, rfl, hy⟩ := inb_ex q2
        obtain ⟨w, hw, rfl, hz⟩ := inb_ex q3
        rw [nI_clamp hx, nI_clamp hy, nI_clamp hz]
        exact isX_tail (x_is hR hA hd hk hw)
      · rw [if_neg q3, if_pos rfl, if_neg (fun z => q3 z.2.2)]
        exact isX_some hR hiM.rf rfl
    · rw [if_neg q2, if_pos rfl, if_neg (fun z => q2 z.2.1)]
      exact isX_some hR hiM.rf rfl
  · rw [if_neg q1, if_pos rfl, if_neg (fun z => q1 z.1)]
    exact isX_some hR hiM.rf rfl
-- behind
def behV (A : AB) (d w : Nat) : Int32 := if w = 0 then nI (vlt (vwA A d) (itm 0 (a0 A))) else nI (bm (gfl (simA A (d + 1))) 8)
def sBehind (x y : Int32) (A : AB) : Sp := (if inb x 40 ∧ inb y 2 then behV A x.toNatClampNeg y.toNatClampNeg else -2, A)
theorem bm_up {f : Nat → Bool} {n m : Nat} (h : n ≤ m) (hf : ∀ j, n ≤ j → f j = false) : bm f m = bm f n := by
  induction m with
  | zero => rw [show n = 0 by omega]
  | succ m ih =>
    by_cases e : n = m + 1
    · rw [e]
    · rw [bm_skip (hf m (by omega))]; exact ih (by omega)
theorem c_behind {A : AB} {σ : St} (x y : Int32) (h : RC A σ) (hA : okAB A) : isC (M7_behind x y σ) σ (sBehind x y A) := by
  unfold M7_behind sBehind isC
  have h8 := itm_le (t := 0) hA.1.1
  rw [e7_isBelow x 40 σ (n := 40) rfl (by decide), bind_s]
  by_cases q1 : inb x 40
  · rw [if_pos q1, if_neg (by decide), e7_isBelow y 2 σ (n := 2) rfl (by decide), bind_s]
    by_cases q2 : inb y 2
    · rw [if_pos q2, if_neg (by decide), if_pos (show inb x 40 ∧ inb y 2 from ⟨q1, q2⟩)]
      obtain ⟨d, hd, rfl, hx⟩ := inb_ex q1
      obtain ⟨k, hk, rfl, hy⟩ := inb_ex q2
      rw [nI_clamp hx, nI_clamp hy]
      refine ok_call (c_told h hA) ?_
      rintro _ σ1 ⟨rfl, hR, hT, hlo⟩
      refine ok_T rfl ?_
      rcases (show k = 0 ∨ k = 1 by omega) with rfl | rfl
      · refine ok_T rfl ?_
        rw [e1_vault (cV_A hA hT hd) hT.1.1 h8 hd, bind_s]
        exact isC_A hR hlo rfl
      · refine ok_F (by decide) (ok_T q1 ?_)
        refine isC_A hR hlo ?_
        rw [(hT.2 d hd).2.2]
        show nI (bm (gfl (simA A (d + 1))) (itm 0 (a0 A))) = nI (bm (gfl (simA A (d + 1))) 8)
        exact congrArg nI (bm_up (f := gfl (simA A (d + 1))) h8 (fun j hj => okFl_sim (H := hdA A) (B := bkA A) (d + 1) j hj)).symm
    · rw [if_neg q2, if_pos rfl, if_neg (fun z => q2 z.2)]
      exact isC_A h loC.rf rfl
  · rw [if_neg q1, if_pos rfl, if_neg (fun z => q1 z.1)]
    exact isC_A h loC.rf rfl
theorem x_behind {A : AB} {σ : St} {d w : Nat} (hR : RX A (bkA A) σ) (hA : okAB A) (hd : d < 40) (hw : w < 2) : isX A (bkA A) (M8_behindOf (nI d) (nI w) σ) σ (behV A d w) := by
  unfold M8_behindOf isX
  have h8 := itm_le (t := 0) hA.1.1
  have hl := hA.2.1.2
  refine ok_call (x_lives hd hR) ?_
  rintro _ σ1 ⟨hR1, hm, hF⟩
  rcases (show w = 0 ∨ w = 1 by omega) with rfl | rfl
  · refine ok_T rfl ?_
    rw [e8_vault (mV_of (okH_hd hA) hA.2.1.1 (by show (aL A).length ≤ 52; omega) hm) hR1.2.2.2.2.2.2.2.2.1.1 h8, bind_s]
    exact isX_some hR1 hF.hi rfl
  · refine ok_F (by decide) ?_
    exact isX_some hR1 hF.hi hm.2.1
theorem m_behind {A : AB} {σ : St} (x y : Int32) (h : RM A σ) (hA : okAB A) : isM (M8_behind x y σ) σ (sBehind x y A) := by
  unfold M8_behind sBehind
  refine m_rd h hA (fun σ1 hR => ?_)
  rw [e8_isDay, bind_s]
  by_cases q1 : inb x 40
  · rw [if_pos q1, if_neg (by decide), e8_isTwo, bind_s]
    by_cases q2 : inb y 2
    · rw [if_pos q2, if_neg (by decide), if_pos (show inb x 40 ∧ inb y 2 from ⟨q1, q2⟩)]
      obtain ⟨d, hd, rfl, hx⟩ := inb_ex q1
      obtain ⟨k, hk, rfl, hy⟩ := inb_ex q2
      rw [nI_clamp hx, nI_clamp hy]
      exact isX_tail (x_behind hR hA hd hk)
    · rw [if_neg q2, if_pos rfl, if_neg (fun z => q2 z.2)]
      exact isX_some hR hiM.rf rfl
  · rw [if_neg q1, if_pos rfl, if_neg (fun z => q1 z.1)]
    exact isX_some hR hiM.rf rfl
