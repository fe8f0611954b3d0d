-- serves
def srV (A : AB) (d h : Nat) : Int32 := nI (bm (fun w => su A w h (vwA A d h).1 (vwA A d h).2.1) (itm 1 (a1 A)))
def sServes (x y : Int32) (A : AB) : Sp := (if inb x 40 ∧ inb y (itm 0 (a0 A)) then srV A x.toNatClampNeg y.toNatClampNeg else -2, A)
theorem c_serves {A : AB} {σ : St} (x y : Int32) (h : RC A σ) (hA : okAB A) : isC (M7_serves x y σ) σ (sServes x y A) := by
  unfold M7_serves sServes isC
  have h8 := itm_le (t := 0) hA.1.1
  have w8 := itm_le (t := 1) hA.1.2.1
  rw [e7_isBelow x 40 σ (n := 40) rfl (by decide), bind_s]
  by_cases q1 : inb x 40
  · rw [if_pos q1, if_neg (by decide), e7_isHole y h hA, bind_s]
    by_cases q2 : inb y (itm 0 (a0 A))
    · rw [if_pos q2, if_neg (by decide), if_pos (show inb x 40 ∧ inb y (itm 0 (a0 A)) from ⟨q1, q2⟩)]
      obtain ⟨d, hd, rfl, hx⟩ := inb_ex q1
      obtain ⟨k, hk, rfl, hy⟩ := inb_ex q2
      rw [nI_clamp hx, nI_clamp hy]
      refine ok_call (c_told h hA) ?_
      rintro _ σ1 ⟨rfl, hR, hT, hlo⟩
      have hv := cV_A hA hT hd
      have hV := (okV_A hA d).2 k hk
      refine ok_T rfl ?_
      have key : ∀ fu w, w ≤ itm 1 (a1 A) → itm 1 (a1 A) + 1 ≤ fu + w → M7_serves_L31 (nI d) (nI k) 48 (fun v σ => some (v, σ)) fu (nI (bm (fun w => su A w k (vwA A d k).1 (vwA A d k).2.1) w)) (nI w) σ1 = some (srV A d k, σ1) := by
        intro fu
        induction fu with
        | zero => intro w _ _; omega
        | succ fu ih =>
          intro w hw hf
          rw [M7_serves_L31, hR.2.1.2.2.1]
          by_cases e : itm 1 (a1 A) ≤ w
          · rw [if_pos ((nI_leI (by omega) (by omega)).mpr e), show w = itm 1 (a1 A) by omega]; rfl
          · rw [if_neg (fun q => e ((nI_leI (by omega) (by omega)).mp q)), e1_wide hv h8 hd hk, bind_s, e1_deep hv h8 hd hk, bind_s, e7_suits hR hA (by omega) hk (by omega) (by omega), bind_s]
            by_cases c : su A w k (vwA A d k).1 (vwA A d k).2.1 = true
            · rw [if_pos c, if_neg (by decide), lt_eq, M7_serves_J74, lt_eq, nI_1, bm_or (f := fun w => su A w k (vwA A d k).1 (vwA A d k).2.1) (by omega) c]
              exact ih (w + 1) (by omega) (by omega)
            · rw [if_neg c, if_pos rfl, M7_serves_J74, lt_eq, nI_1, ← bm_skip (f := fun w => su A w k (vwA A d k).1 (vwA A d k).2.1) (by simpa using c)]
              exact ih (w + 1) (by omega) (by omega)
      have k0 := key FU 0 (by omega) (by have := FU_ge; omega)
      rw [show nI (bm (fun w => su A w k (vwA A d k).1 (vwA A d k).2.1) 0) = 0 from rfl, show nI 0 = 0 from rfl] at k0
      rw [k0]
      exact isC_A hR hlo rfl
    · rw [if_neg q2, if_pos rfl, if_neg (fun z => q2 z.2)]
      exact isC_A h loC.rf rfl
  · rw [if_neg q1, if_pos rfl, if_neg (fun z => q1 z.1)]
    exact isC_A h loC.rf rfl
theorem x_serves {A : AB} {σ : St} {d k : Nat} (hR0 : RX A (bkA A) σ) (hA : okAB A) (hd : d < 40) (hk : k < itm 0 (a0 A)) : isX A (bkA A) (M8_servesOf (nI d) (nI k) σ) σ (srV A d k) := by
  unfold M8_servesOf isX
  have h8 := itm_le (t := 0) hA.1.1
  have w8 := itm_le (t := 1) hA.1.2.1
  refine ok_call (x_livesV hd hR0) ?_
  rintro _ σ1 ⟨hR, hv, hF⟩
  have hv : mV σ1 (itm 0 (a0 A)) (vwA A d) := hv
  have hV := okV_A hA d
  have key : ∀ fu w, w ≤ itm 1 (a1 A) → itm 1 (a1 A) + 1 ≤ fu + w → M8_servesOf_L10 (nI k) (fun v σ => some (v, σ)) fu (nI (bm (fun w => su A w k (vwA A d k).1 (vwA A d k).2.1) w)) (nI w) σ1 = some (srV A d k, σ1) := by
    intro fu
    induction fu with
    | zero => intro w _ _; omega
    | succ fu ih =>
      intro w hw hf
      rw [M8_servesOf_L10, hR.2.2.2.1.1]
      by_cases e : itm 1 (a1 A) ≤ w
      · rw [if_pos ((nI_leI (by omega) (by omega)).mpr e), show w = itm 1 (a1 A) by omega]; rfl
      · rw [if_neg (fun q => e ((nI_leI (by omega) (by omega)).mp q)), e8_servesNow hR hA hv hV (by omega) hk, bind_s, M8_servesOf_J40, lt_eq, lt_eq, nI_1]
        by_cases c : su A w k (vwA A d k).1 (vwA A d k).2.1 = true
        · rw [if_pos c, if_neg (by decide), bm_or (f := fun w => su A w k (vwA A d k).1 (vwA A d k).2.1) (by omega) c]
          exact ih (w + 1) (by omega) (by omega)
        · rw [if_neg c, if_pos rfl, Int32.or_zero, ← bm_skip (f := fun w => su A w k (vwA A d k).1 (vwA A d k).2.1) (by simpa using c)]
          exact ih (w + 1) (by omega) (by omega)
  have k0 := key FU 0 (by omega) (by have := FU_ge; omega)
  rw [show nI (bm (fun w => su A w k (vwA A d k).1 (vwA A d k).2.1) 0) = 0 from rfl, show nI 0 = 0 from rfl] at k0
  rw [k0]
  exact isX_some hR hF.hi rfl
theorem m_serves {A : AB} {σ : St} (x y : Int32) (h : RM A σ) (hA : okAB A) : isM (M8_serves x y σ) σ (sServes x y A) := by
  unfold M8_serves sServes
  refine m_rd h hA (fun σ1 hR => ?_)
  rw [e8_isDay, bind_s]
  by_cases q1 : inb x 40
  · rw [if_pos q1, if_neg (by decide), e8_isHoleR y hR.to hA, bind_s]
    by_cases q2 : inb y (itm 0 (a0 A))
    · rw [if_pos q2, if_neg (by decide), if_pos (show inb x 40 ∧ inb y (itm 0 (a0 A)) from ⟨q1, q2⟩)]
      obtain ⟨d, hd, rfl, hx⟩ := inb_ex q1
      obtain ⟨k, hk, rfl, hy⟩ := inb_ex q2
      rw [nI_clamp hx, nI_clamp hy]
      exact isX_tail (x_serves hR hA hd hk)
    · rw [if_neg q2, if_pos rfl, if_neg (fun z => q2 z.2)]
      exact isX_some hR hiM.rf rfl
  · rw [if_neg q1, if_pos rfl, if_neg (fun z => q1 z.1)]
    exact isX_some hR hiM.rf rfl
-- count
def ctN (G : Gs) (a : Nat) : Nat → Nat
  | 0 => 0
  | n + 1 => ctN G a n + if gct G (a + n) then 1 else 0
theorem e1_counted {σ : St} {o a n : Nat} {H : Hd} {G : Gs} (hc : cG σ o H G) (hn : a + n ≤ 52) : M1_countedFrom o (nI a) (nI (a + n)) σ = some (nI (ctN G a n), σ) := by
  unfold M1_countedFrom
  have key : ∀ fu k, k ≤ n → n + 1 ≤ fu + k → M1_countedFrom_L5 o (nI (a + n)) (fun v σ => some (v, σ)) fu (nI (ctN G a k)) (nI (a + k)) σ = some (nI (ctN G a n), σ) := by
    intro fu
    induction fu with
    | zero => intro k _ _; omega
    | succ fu ih =>
      intro k hk hf
      rw [M1_countedFrom_L5]
      by_cases e : n ≤ k
      · rw [if_pos ((nI_leI (by omega) (by omega)).mpr (by omega)), show k = n by omega]
      · rw [if_neg (fun q => by have := (nI_leI (by omega) (by omega)).mp q; omega), if_neg (show ¬ ((52 : Int32) ≤ nI (a + k)) from fun q => by have := (nI_leI (a := 52) (by omega) (by omega)).mp q; omega), if_pos ((inb_nI (by omega)).mpr (by omega)), nI_clamp (n := a + k) (by omega), (hc.2.2 (a + k) (by omega)).1, lt_eq, lt_eq, nI_1]
        have hs : ctN G a (k + 1) = ctN G a k + if gct G (a + k) then 1 else 0 := rfl
        have := ih (k + 1) (by omega) (by omega)
        rw [hs] at this
        by_cases c : gct G (a + k) = true
        · rw [if_pos c]; rw [if_pos c] at this
          rw [nI_1]; exact this
        · rw [if_neg c]; rw [if_neg c] at this
          rw [show (0 : Int32) = nI 0 from rfl, nI_add]; exact this
  have k0 := key FU 0 (by omega) (by have := FU_ge; omega)
  exact k0
theorem x_counting {A : AB} {σ : St} (hR0 : RX A (bkA A) σ) (hA : okAB A) : isX A (bkA A) (M8_counting σ) σ (nI (ctN (simA A 40) 0 (aL A).length)) := by
  unfold M8_counting isX
  have hl := hA.2.1.2
  refine ok_call (x_lives (d := 39) (by decide) hR0) ?_
  rintro _ σ1 ⟨hR, hm, hF⟩
  have h9 : σ1 0 9 = nI (aL A).length := hR.2.2.2.2.2.2.2.2.2.1.1
  have h17 : ∀ k, k < (aL A).length → σ1 17 k = if gct (simA A 40) k then 1 else 0 := fun k hk => (hm.2.2 k hk).1
  have key : ∀ fu k, k ≤ (aL A).length → (aL A).length + 1 ≤ fu + k → M8_counting_L10 (fun v σ => some (v, σ)) fu (nI (ctN (simA A 40) 0 k)) (nI k) σ1 = some (nI (ctN (simA A 40) 0 (aL A).length), σ1) := by
    intro fu
    induction fu with
    | zero => intro k _ _; omega
    | succ fu ih =>
      intro k hk hf
      rw [M8_counting_L10, h9]
      by_cases e : (aL A).length ≤ k
      · rw [if_pos ((nI_leI (by omega) (by omega)).mpr (by omega)), show k = (aL A).length by omega]
      · rw [if_neg (fun q => by have := (nI_leI (by omega) (by omega)).mp q; omega), if_pos ((inb_nI (by omega)).mpr (by omega)), nI_clamp (n := k) (by omega), h17 k (by omega), lt_eq, lt_eq, nI_1]
        have hs : ctN (simA A 40) 0 (k + 1) = ctN (simA A 40) 0 k + if gct (simA A 40) (0 + k) then 1 else 0 := rfl
        rw [Nat.zero_add] at hs
        have := ih (k + 1) (by omega) (by omega)
        rw [hs] at this
        by_cases c : gct (simA A 40) k = true
        · rw [if_pos c]; rw [if_pos c] at this
          rw [nI_1]; exact this
        · rw [if_neg c]; rw [if_neg c] at this
          rw [show (0 : Int32) = nI 0 from rfl, nI_add]; exact this
  have k0 := key FU 0 (by omega) (by have := FU_ge; omega)
  rw [show nI (ctN (simA A 40) 0 0) = 0 from rfl, show nI 0 = 0 from rfl] at k0
  rw [k0]
  exact isX_some hR hF.hi rfl
def coV (A : AB) (x : Int32) : Int32 := if x = 0 then nI (itm 0 (a0 A)) else if x = 1 then nI (itm 1 (a1 A)) else if x = 2 then nI (a0 A).length else if x = 3 then nI (a1 A).length else if x = 4 then nI (aL A).length else if x = 5 then nI (ctN (simA A 40) 0 (aL A).length) else if x = 6 then nI (aF A).length + nI (aP A).length else if x = 7 then nI (aS A).length else if x = 8 then nI (aFi A) else -2
def sCount (x : Int32) (A : AB) : Sp := (coV A x, A)
theorem c_count {A : AB} {σ : St} (x : Int32) (h : RC A σ) (hA : okAB A) : isC (M7_count x σ) σ (sCount x A) := by
  unfold M7_count sCount coV isC
  have hl := hA.2.1.2
  by_cases c0 : x = 0
  · rw [if_pos c0, if_pos c0]; exact isC_A h loC.rf h.1.2.2.1
  rw [if_neg c0, if_neg c0]
  by_cases c1 : x = 1
  · rw [if_pos c1, if_pos c1]; exact isC_A h loC.rf h.2.1.2.2.1
  rw [if_neg c1, if_neg c1]
  by_cases c2 : x = 2
  · rw [if_pos c2, if_pos c2]; exact isC_A h loC.rf h.1.1.2.2.1
  rw [if_neg c2, if_neg c2]
  by_cases c3 : x = 3
  · rw [if_pos c3, if_pos c3]; exact isC_A h loC.rf h.2.1.1.2.2.1
  rw [if_neg c3, if_neg c3]
  by_cases c4 : x = 4
  · rw [if_pos c4, if_pos c4]; exact isC_A h loC.rf h.2.2.1.1
  rw [if_neg c4, if_neg c4]
  by_cases c5 : x = 5
  · rw [if_pos c5, if_pos c5]
    refine ok_call (c_told h hA) ?_
    rintro _ σ1 ⟨rfl, hR, hT, hlo⟩
    refine ok_T rfl ?_
    have := e1_counted (a := 0) (n := (aL A).length) hT.1 (by omega)
    rw [Nat.zero_add, show nI 0 = 0 from rfl] at this
    rw [hR.2.2.1.1, this, bind_s]
    exact isC_A hR hlo rfl
  rw [if_neg c5, if_neg c5]
  by_cases c6 : x = 6
  · rw [if_pos c6, if_pos c6]; exact isC_A h loC.rf (by rw [h.2.2.2.1.1, h.2.2.2.2.1.1])
  rw [if_neg c6, if_neg c6]
  by_cases c7 : x = 7
  · rw [if_pos c7, if_pos c7]; exact isC_A h loC.rf h.2.2.2.2.2.1.1
  rw [if_neg c7, if_neg c7]
  by_cases c8 : x = 8
  · rw [if_pos c8, if_pos c8]; exact isC_A h loC.rf h.2.2.2.2.2.2.2.2.2.1
  rw [if_neg c8, if_neg c8]
  exact isC_A h loC.rf rfl
theorem m_countX {A : AB} {σ : St} (x : Int32) (h : RM A σ) (hA : okAB A) : Ok (M8_count x σ) (fun r σ' => r = coV A x ∧ RX A (bkA A) σ' ∧ hiM σ σ') := by
  unfold M8_count coV
  refine ok_call (m_reads h) ?_
  rintro ⟨⟩ σ1 ⟨hR', hi⟩
  have hR := RX_of hR' hA
  refine Ok.mono (P := fun r σ' => r = coV A x ∧ RX A (bkA A) σ' ∧ hiM σ1 σ') ?_ (fun r σ' hp => ⟨hp.1, hp.2.1, hi.tr hp.2.2⟩)
  unfold coV
  by_cases c0 : x = 0
  · rw [if_pos c0, if_pos c0]; subst c0; exact ok_T (by decide) (isX_some hR hiM.rf hR.2.2.1.1)
  rw [if_neg c0, if_neg c0]
  by_cases c1 : x = 1
  · rw [if_pos c1, if_pos c1]; subst c1; exact ok_T (by decide) (isX_some hR hiM.rf hR.2.2.2.1.1)
  rw [if_neg c1, if_neg c1]
  by_cases c2 : x = 2
  · rw [if_pos c2, if_pos c2]; subst c2; exact ok_T (by decide) (isX_some hR hiM.rf hR.1.1)
  rw [if_neg c2, if_neg c2]
  by_cases c3 : x = 3
  · rw [if_pos c3, if_pos c3]; subst c3; exact ok_T (by decide) (isX_some hR hiM.rf hR.2.1.1)
  rw [if_neg c3, if_neg c3]
  by_cases c4 : x = 4
  · rw [if_pos c4, if_pos c4]; exact isX_some hR hiM.rf hR.2.2.2.2.2.2.2.2.2.1.1
  rw [if_neg c4, if_neg c4]
  by_cases c5 : x = 5
  · rw [if_pos c5, if_pos c5]; exact isX_tail (x_counting hR hA)
  rw [if_neg c5, if_neg c5]
  by_cases c6 : x = 6
  · rw [if_pos c6, if_pos c6]; exact isX_some hR hiM.rf (by rw [hR.2.2.2.2.2.2.2.2.2.2.1.1, hR.2.2.2.2.2.2.2.2.2.2.2.1.1]; rfl)
  rw [if_neg c6, if_neg c6]
  by_cases c7 : x = 7
  · rw [if_pos c7, if_pos c7]; exact isX_some hR hiM.rf hR.2.2.2.2.1.1
  rw [if_neg c7, if_neg c7]
  by_cases c8 : x = 8
  · rw [if_pos c8, if_pos c8]; exact isX_some hR hiM.rf hR.2.2.2.2.2.2.2.1
  rw [if_neg c8, if_neg c8]
  exact isX_some hR hiM.rf rfl
theorem m_count {A : AB} {σ : St} (x : Int32) (h : RM A σ) (hA : okAB A) : isM (M8_count x σ) σ (sCount x A) :=
  (m_countX x h hA).mono (fun r σ' hp => ⟨hp.1, hp.2.1.to.1, hp.2.2⟩)
