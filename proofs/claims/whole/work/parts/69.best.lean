def woA (A : AB) (w : Nat) : Nat := fig 1 (a1 A) w 3
def ftA (A : AB) (V : Vw) (w h : Nat) : Bool := (V h).2.2 && su A w h (V h).1 (V h).2.1
def fbA (A : AB) (V : Vw) (w : Nat) : Nat := bm (ftA A V w) (itm 0 (a0 A))
abbrev nW (A : AB) : Nat := itm 1 (a1 A)
theorem fbA_lt {A : AB} {V : Vw} (w : Nat) : fbA A V w < 2 ^ itm 0 (a0 A) := bm_lt _ _
theorem okM_A {A : AB} (hA : okAB A) (V : Vw) : okM (nW A) (woA A) (fbA A V) := by
  have h8 := itm_le (t := 0) hA.1.1
  refine ⟨itm_le (t := 1) hA.1.2.1, fun w => ?_, fun w => ?_⟩
  · have := fig_lt' (t := 1) (b := a1 A) w 3
    unfold woA; omega
  · have := fbA_lt (A := A) (V := V) w
    have : 2 ^ itm 0 (a0 A) ≤ 2 ^ 8 := Nat.pow_le_pow_right (by decide) h8
    omega
def mwV (A : AB) (V : Vw) : Nat := bst (nW A) (woA A) (fbA A V) (nW A) 0
theorem mwV_le {A : AB} (hA : okAB A) (V : Vw) : mwV A V ≤ 72 := by
  have := bst_le (m := nW A) (fb := fbA A V) (okM_A hA V).2.1 (nW A) 0
  have := (okM_A hA V).1
  unfold mwV; omega
def frB (σ σ' : St) : Prop := ∀ c, (c < 84 ∨ 88 ≤ c) → σ' c = σ c
theorem frB.tr {a b c : St} (h1 : frB a b) (h2 : frB b c) : frB a c := fun k q => by rw [h2 k q, h1 k q]
theorem RC.frB {A : AB} {σ σ' : St} (hA : okAB A) (h : RC A σ) (hF : frB σ σ') : RC A σ' := h.hi hA (fun c q => hF c (by omega))
theorem t7_mostWorth {A : AB} {σ0 : St} {o d : Nat} {V : Vw} (h0 : RC A σ0) (hA : okAB A) (ho : o = 48 ∨ o = 66) (hd : d < 40) (hv : cV σ0 o d (itm 0 (a0 A)) V) (hV : okV (itm 0 (a0 A)) V) : Ok (M7_mostWorth o (nI d) σ0) (fun r σ => r = nI (mwV A V) ∧ frB σ0 σ ∧ mtC σ (nW A) (woA A) (fbA A V) ∧ ∀ w, w ≤ nW A → tbC σ 87 (nW A) (woA A) (fbA A V) (uoN (fbA A V) (nW A)) w) := by
  have h8 := itm_le (t := 0) hA.1.1
  have w8 : nW A ≤ 8 := itm_le (t := 1) hA.1.2.1
  unfold M7_mostWorth M3_begin
  rw [ok_bind, ok_lt, ok_some, h0.2.1.2.2.1]
  have works : ∀ fu w σ, w ≤ nW A → nW A + 1 ≤ fu + w → frB σ0 σ → σ 84 3 = nI (nW A) → (∀ w', w' < w → σ 85 w' = nI (woA A w') ∧ σ 86 w' = nI (fbA A V w')) → Ok (M7_mostWorth_L16 o (nI d) (fun σ17 => bd (M3_solve 84 σ17) fun r18 σ18 => some (r18, σ18)) fu (nI w) σ) (fun r σ => r = nI (mwV A V) ∧ frB σ0 σ ∧ mtC σ (nW A) (woA A) (fbA A V) ∧ ∀ w, w ≤ nW A → tbC σ 87 (nW A) (woA A) (fbA A V) (uoN (fbA A V) (nW A)) w) := by
    intro fu
    induction fu with
    | zero => intro w σ _ _; omega
    | succ fu ih =>
      intro w σ hw hf hF h3 hm
      have hR := h0.frB hA hF
      have hvv : cV σ o d (itm 0 (a0 A)) V := fun j hj => by
        rw [hF (o + 2) (by omega), hF (o + 3) (by omega), hF (o + 4) (by omega)]; exact hv j hj
      rw [M7_mostWorth_L16, hR.2.1.2.2.1]
      by_cases e : nW A ≤ w
      · rw [if_pos ((nI_leI (by omega) (by omega)).mpr e)]
        have hmt : mtC σ (nW A) (woA A) (fbA A V) := ⟨h3, fun w' hw' => hm w' (by omega)⟩
        refine ok_call (t3_solve (okM_A hA V) hmt) ?_
        rintro r σ1 ⟨rfl, hF1, ht1⟩
        rw [ok_some]
        exact ⟨rfl, hF.tr (fun c q => hF1 c (by omega)), hmt.frame hF1, ht1⟩
      · rw [if_neg (fun q => e ((nI_leI (by omega) (by omega)).mp q))]
        have hole : ∀ (kx : Int32 → St → Option (Int32 × St)) fu2 h, h ≤ itm 0 (a0 A) → itm 0 (a0 A) + 1 ≤ fu2 + h → M7_mostWorth_L33 o (nI d) (nI w) kx fu2 (nI (bm (ftA A V w) h)) (nI h) σ = kx (nI (fbA A V w)) σ := by
          intro kx fu2
          induction fu2 with
          | zero => intro h _ _; omega
          | succ fu2 ih2 =>
            intro h hh hf2
            rw [M7_mostWorth_L33, hR.1.2.2.1]
            by_cases e2 : itm 0 (a0 A) ≤ h
            · rw [if_pos ((nI_leI (by omega) (by omega)).mpr (by omega)), show h = itm 0 (a0 A) by omega]; rfl
            · have hVh := hV.2 h (by omega)
              rw [if_neg (fun q => by have := (nI_leI (by omega) (by omega)).mp q; omega), e1_loan hd (by omega), bind_s]
              by_cases c : (V h).2.2 = true
              · rw [if_pos ((hvv h (by omega)).2.2.mpr c), e1_wide hvv h8 hd (by omega), bind_s, e1_deep hvv h8 hd (by omega), bind_s, e7_suits hR hA (Nat.lt_of_not_le e) (by omega) (by omega) (by omega), bind_s]
                by_cases c2 : su A w h (V h).1 (V h).2.1 = true
                · rw [if_pos c2, if_neg (by decide), lt_eq, M7_mostWorth_J89, lt_eq, nI_1, bm_or (f := ftA A V w) (by omega) (by unfold ftA; rw [c, c2]; rfl)]
                  exact ih2 (h + 1) (by omega) (by omega)
                · rw [if_neg c2, if_pos rfl, M7_mostWorth_J89, lt_eq, nI_1, ← bm_skip (f := ftA A V w) (by unfold ftA; rw [show su A w h (V h).1 (V h).2.1 = false by simpa using c2, Bool.and_false])]
                  exact ih2 (h + 1) (by omega) (by omega)
              · rw [if_neg (fun q => c ((hvv h (by omega)).2.2.mp q)), M7_mostWorth_J89, lt_eq, nI_1, ← bm_skip (f := ftA A V w) (by unfold ftA; rw [show (V h).2.2 = false by simpa using c, Bool.false_and])]
                exact ih2 (h + 1) (by omega) (by omega)
        have k0 := fun kx => hole kx FU 0 (by omega) (by have := FU_ge; omega)
        rw [show nI (bm (ftA A V w) 0) = 0 from rfl, show nI 0 = 0 from rfl] at k0
        rw [k0, show M6_figure 29 (nI w) 3 σ = some (nI (woA A w), σ) from e6_figure (w := 3) hR.2.1 hA.1.2.1 (Nat.lt_of_not_le e) (by decide), bind_s]
        unfold M3_set
        rw [if_pos ((inb_nI (by omega)).mpr (by omega)), ok_bind, ok_lt, ok_lt, ok_some, ok_lt, nI_1, nI_clamp (n := w) (by omega)]
        refine ih (w + 1) _ (by omega) (by omega) (fun c q => by rw [s2_ne (by omega), s2_ne (by omega)]; exact hF c q) (by rw [s2_ne (by decide), s2_ne (by decide)]; exact h3) (fun w' hw' => ?_)
        by_cases ew : w' = w
        · subst ew
          exact ⟨by rw [s2_nk (by decide), s2_eq], s2_eq⟩
        · obtain ⟨y1, y2⟩ := hm w' (by omega)
          exact ⟨by rw [s2_nk (by decide), s2_nj ew]; exact y1, by rw [s2_nj ew, s2_nk (by decide)]; exact y2⟩
  exact works FU 0 _ (by omega) (by have := FU_ge; omega) (fun c q => s2_ne (by omega)) s2_eq (fun w hw => by omega)
def beV (A : AB) (d : Nat) (i : Option Nat) : Int32 := match i with
  | none => nI (mwV A (vwA A d))
  | some i => bhV (nW A) (woA A) (fbA A (vwA A d)) i
def sBest (x y : Int32) (A : AB) : Sp := (if inb x 40 ∧ (y = -1 ∨ inb y 8) then beV A x.toNatClampNeg (if y = -1 then none else some y.toNatClampNeg) else -2, A)
theorem c_best {A : AB} {σ : St} (x y : Int32) (h : RC A σ) (hA : okAB A) : isC (M7_best x y σ) σ (sBest x y A) := by
  unfold M7_best sBest isC
  rw [e7_isBelow x 40 σ (n := 40) rfl (by decide), bind_s]
  by_cases q1 : inb x 40
  · rw [if_pos q1, if_neg (by decide)]
    obtain ⟨d, hd, rfl, hx⟩ := inb_ex q1
    rw [nI_clamp hx]
    have J : ∀ i : Option Nat, (∀ v, i = some v → v < 8) → y = oI i → Ok (M7_best_J26 (nI d) y σ) (fun r σ' => r = beV A d i ∧ RC A σ' ∧ loC σ σ') := by
      intro i hi hy
      unfold M7_best_J26
      refine ok_call (c_told h hA) ?_
      rintro _ σ1 ⟨rfl, hR, hT, hlo⟩
      refine ok_T rfl ?_
      refine ok_call (t7_mostWorth hR hA (Or.inl rfl) hd (cV_A hA hT hd) (okV_A hA d)) ?_
      rintro r σ2 ⟨rfl, hF, hm, ht⟩
      have hR2 := hR.frB hA hF
      have hlo2 : loC σ σ2 := hlo.tr (fun c q => hF c (by omega))
      cases i with
      | none => exact ok_T hy (ok_some.mpr ⟨rfl, hR2, hlo2⟩)
      | some v =>
        have hv := hi v rfl
        have hy' : y = nI v := hy
        refine ok_F (by rw [hy']; exact nI_m1 (by omega)) ?_
        rw [hy', e3_holeFor (okM_A hA _) hm ht hv, bind_s, ok_some]
        exact ⟨rfl, hR2, hlo2⟩
    by_cases q2 : y = -1
    · rw [if_pos q2, if_pos ⟨q1, Or.inl q2⟩, if_pos q2]
      exact J none (fun v hv => by cases hv) q2
    · rw [if_neg q2, e7_isBelow y 8 σ (n := 8) rfl (by decide), bind_s]
      by_cases q3 : inb y 8
      · rw [if_pos q3, if_neg (by decide), if_pos ⟨q1, Or.inr q3⟩, if_neg q2]
        obtain ⟨v, hv, rfl, hy⟩ := inb_ex q3
        rw [nI_clamp hy]
        exact J (some v) (fun w hw => by cases hw; exact hv) rfl
      · rw [if_neg q3, if_pos rfl, if_neg (fun z => z.2.elim q2 q3)]
        exact isC_A h loC.rf rfl
  · rw [if_neg q1, if_pos rfl, if_neg (fun z => q1 z.1)]
    exact isC_A h loC.rf rfl
-- the reference
theorem fb_bit {A : AB} {V : Vw} {w h : Nat} : (fbA A V w).testBit h = (decide (h < itm 0 (a0 A)) && ftA A V w h) := bm_bit _ _ _
theorem e8_may {A : AB} {B : Bk} {σ : St} {V : Vw} {w h u : Nat} (hR : RX A B σ) (hA : okAB A) (hv : mV σ (itm 0 (a0 A)) V) (hV : okV (itm 0 (a0 A)) V) (hw : w < nW A) (hh : h < itm 0 (a0 A)) (hu : u < 256) : M8_may (nI w) (nI h) (nI u) σ = some (if ((fbA A V w).testBit h && !u.testBit h) = true then 1 else 0, σ) := by
  have h8 := itm_le (t := 0) hA.1.1
  unfold M8_may M8_isIn
  rw [itx (shr_test hu (by omega)), bind_s, fb_bit, decide_eq_true hh, Bool.true_and]
  unfold ftA
  by_cases c : u.testBit h = true
  · rw [if_pos c, if_neg (by decide), c, if_neg (by simp)]
  · rw [if_neg c, if_pos rfl, if_pos ((inb_nI (by omega)).mpr (by omega)), nI_clamp (n := h) (by omega), show u.testBit h = false by simpa using c]
    by_cases c2 : (V h).2.2 = true
    · rw [if_pos ((hv h hh).2.2.mpr c2), e8_servesNow hR hA hv hV hw hh, bind_s, c2]
      by_cases c3 : su A w h (V h).1 (V h).2.1 = true
      · rw [c3]; rfl
      · rw [show su A w h (V h).1 (V h).2.1 = false by simpa using c3]; rfl
    · rw [if_neg (fun q => c2 ((hv h hh).2.2.mp q)), show (V h).2.2 = false by simpa using c2]; rfl
def tbM (σ : St) (A : AB) (V : Vw) (w : Nat) : Prop := ∀ u, u < 2 ^ itm 0 (a0 A) → σ 21 (256 * w + u) = nI (bst (nW A) (woA A) (fbA A V) (nW A - w) u)
theorem or_ltn {u h n : Nat} (hu : u < 2 ^ n) (hh : h < n) : u ||| 2 ^ h < 2 ^ n := Nat.or_lt_two_pow hu (Nat.pow_lt_pow_right (by decide) hh)
theorem p256 {A : AB} (hA : okAB A) : 2 ^ itm 0 (a0 A) ≤ 256 := Nat.pow_le_pow_right (n := 2) (j := 8) (by decide) (itm_le (t := 0) hA.1.1)
theorem ixm {w u : Nat} : (256 : Int32) * nI w + nI u = nI (256 * w + u) := by rw [show (256 : Int32) = nI 256 from rfl, pk_mul, nI_add]
theorem ixm' {w u : Nat} : (256 : Int32) * (nI w + 1) + nI u = nI (256 * (w + 1) + u) := by rw [nI_1, ixm]
theorem e8_worthBy {A : AB} {B : Bk} {σ : St} {V : Vw} {w h u : Nat} (hR : RX A B σ) (hA : okAB A) (hw : w < nW A) (hh : h < itm 0 (a0 A)) (hu : u < 2 ^ itm 0 (a0 A)) (ht : tbM σ A V (w + 1)) : M8_worthBy (nI w) (nI h) (nI u) σ = some (nI (woA A w + bst (nW A) (woA A) (fbA A V) (nW A - (w + 1)) (u ||| 2 ^ h)), σ) := by
  have h8 := itm_le (t := 0) hA.1.1
  have w8 : nW A ≤ 8 := itm_le (t := 1) hA.1.2.1
  have hp := p256 hA
  have hor := or_ltn hu hh
  unfold M8_worthBy
  have e1 : (32 : Int32) + 4 * nI w + 3 = nI (32 + 4 * w + 3) := by rw [show (4 : Int32) = nI 4 from rfl, pk_mul, show (32 : Int32) = nI 32 from rfl, nI_add, show (3 : Int32) = nI 3 from rfl, nI_add]
  rw [e1, i_or1 (by omega) (by omega), ixm', if_pos ((inb_nI (by omega)).mpr (by omega)), if_pos ((inb_nI (by omega)).mpr (by omega)), nI_clamp (n := 32 + 4 * w + 3) (by omega), nI_clamp (n := 256 * (w + 1) + (u ||| 2 ^ h)) (by omega), ht _ hor, show σ 8 (32 + 4 * w + 3) = nI (woA A w) from hR.2.2.2.1.2 w 3 hw (by decide), nI_add]
