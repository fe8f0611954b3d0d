def uoN (fb : Nat → Nat) : Nat → Nat
  | 0 => 0
  | w + 1 => uoN fb w ||| fb w
theorem uoN_lt {fb : Nat → Nat} (h : ∀ w, fb w < 256) : ∀ n, uoN fb n < 256 := by
  intro n
  induction n with
  | zero => show 0 < 256; decide
  | succ n ih => exact Nat.or_lt_two_pow (n := 8) ih (h n)
theorem uoN_sub {fb : Nat → Nat} : ∀ n w, w < n → fb w &&& uoN fb n = fb w := by
  intro n w hw
  have hbit : ∀ n, w < n → ∀ i, (fb w).testBit i = true → (uoN fb n).testBit i = true := by
    intro n
    induction n with
    | zero => intro h; omega
    | succ n ih =>
      intro h i hi
      show (uoN fb n ||| fb n).testBit i = true
      rw [Nat.testBit_or]
      by_cases e : w = n
      · rw [← e, hi]; simp
      · rw [ih (by omega) i hi]; rfl
  apply Nat.eq_of_testBit_eq
  intro i
  rw [Nat.testBit_and]
  cases e : (fb w).testBit i with
  | false => rfl
  | true => rw [hbit n hw i e]; rfl
theorem sub0 {U : Nat} : 0 &&& U = 0 := Nat.zero_and U
theorem add_m1 (k : Nat) : nI k + (-1) = nI k - 1 := by rw [Int32.sub_eq_add_neg]
theorem e3_useful {σ : St} {m : Nat} {wo fb : Nat → Nat} (hM : okM m wo fb) (hm : mtC σ m wo fb) (kx : Int32 → St → Option (Int32 × St)) : M3_solve_L4 84 kx FU 0 0 σ = kx (nI (uoN fb m)) σ := by
  obtain ⟨m8, hwo, hfb⟩ := hM
  have key : ∀ fu w, w ≤ m → m + 1 ≤ fu + w → M3_solve_L4 84 kx fu (nI (uoN fb w)) (nI w) σ = kx (nI (uoN fb m)) σ := by
    intro fu
    induction fu with
    | zero => intro w _ _; omega
    | succ fu ih =>
      intro w hw hf
      rw [M3_solve_L4, hm.1]
      by_cases e : m ≤ w
      · rw [if_pos ((nI_leI (by omega) (by omega)).mpr (by omega)), show w = m by omega]
      · have h1 := uoN_lt hfb w
        have h2 := hfb w
        rw [if_neg (fun q => by have := (nI_leI (by omega) (by omega)).mp q; omega), if_pos ((inb_nI (by omega)).mpr (by omega)), nI_clamp (n := w) (by omega), show σ (84 + 2) w = _ from (hm.2 w (by omega)).2, i_or (by omega) (by omega), lt_eq, lt_eq, nI_1]
        exact ih (w + 1) (by omega) (by omega)
  have k0 := key FU 0 (by omega) (by have := FU_ge; omega)
  exact k0
/-- what is set of a level, down to the set u -/
def lvC (σ : St) (m : Nat) (wo fb : Nat → Nat) (U w u : Nat) : Prop := ∀ s, s &&& U = s → u < s → σ 87 (256 * w + s) = nI (bst m wo fb (m - w) s)
theorem lv_next {σ : St} {m U w u : Nat} {wo fb : Nat → Nat} (hU : U < 256) (hu : u &&& U = u) (h0 : 0 < u) (h : lvC σ m wo fb U w u) : lvC (s2 σ 87 (256 * w + u) (nI (bst m wo fb (m - w) u))) m wo fb U w ((u - 1) &&& U) := by
  intro s hs hlt
  by_cases e : s = u
  · subst e; rw [s2_eq]
  · rw [s2_nj (by omega)]
    refine h s hs ?_
    rcases Nat.lt_or_ge u s with q | q
    · exact q
    · have := sub_next 8 U u s hU hu hs (by omega)
      omega
theorem tb_fin {σ : St} {m U w : Nat} {wo fb : Nat → Nat} (h : lvC σ m wo fb U w 0) : tbC (s2 σ 87 (256 * w) (nI (bst m wo fb (m - w) 0))) 87 m wo fb U w := by
  intro s hs
  by_cases e : s = 0
  · subst e; exact s2_eq
  · rw [s2_nj (by omega)]
    exact h s hs (by omega)
theorem tb_other {σ : St} {m U w w' p : Nat} {v : Int32} {wo fb : Nat → Nat} (hU : U < 256) (h : tbC σ 87 m wo fb U w') (hne : w ≠ w') (hp : p < 256) : tbC (s2 σ 87 (256 * w + p) v) 87 m wo fb U w' := by
  intro s hs
  have := sub_lt hs hU
  rw [s2_nj (by omega)]
  exact h s hs
theorem t3_solve {σ0 : St} {m : Nat} {wo fb : Nat → Nat} (hM : okM m wo fb) (h0 : mtC σ0 m wo fb) : Ok (M3_solve 84 σ0) (fun r σ => r = nI (bst m wo fb m 0) ∧ (∀ c, c ≠ 87 → σ c = σ0 c) ∧ ∀ w, w ≤ m → tbC σ 87 m wo fb (uoN fb m) w) := by
  unfold M3_solve
  rw [e3_useful hM h0]
  have hfU := uoN_sub (fb := fb) m
  have hU := uoN_lt hM.2.2 m
  generalize hUe : uoN fb m = U at hfU hU
  have m8 := hM.1
  -- the levels
  have lev : ∀ fu w1 σ, w1 ≤ m → w1 + 1 ≤ fu → (∀ c, c ≠ 87 → σ c = σ0 c) → (∀ w, w1 ≤ w → w ≤ m → tbC σ 87 m wo fb U w) → Ok (M3_solve_L79 84 (nI U) (fun σ26 => some (σ26 (84 + 3) 0, σ26)) fu (nI w1 - 1) σ) (fun r σ => r = nI (bst m wo fb m 0) ∧ (∀ c, c ≠ 87 → σ c = σ0 c) ∧ ∀ w, w ≤ m → tbC σ 87 m wo fb U w) := by
    intro fu
    induction fu with
    | zero => intro w1 σ _ c; omega
    | succ fu ih =>
      intro w1 σ hw hf hF ht
      rw [M3_solve_L79]
      cases w1 with
      | zero =>
        rw [if_pos (by decide), ok_some]
        exact ⟨ht 0 (by omega) (by omega) 0 sub0, hF, fun w hw => ht w (by omega) hw⟩
      | succ w =>
        rw [nI_pred, if_neg (nI_pos (by omega))]
        have sets : ∀ fu2 u σ, u &&& U = u → u + 1 ≤ fu2 → (∀ c, c ≠ 87 → σ c = σ0 c) → (∀ w', w + 1 ≤ w' → w' ≤ m → tbC σ 87 m wo fb U w') → lvC σ m wo fb U w u → Ok (M3_solve_L85 84 (nI U) (nI w) (fun σ21 => bd (M3_mostFrom 84 (nI w) 0 σ21) fun r22 σ22 => if inb (nI w * 256) 2304 then lt (s2 σ22 (84 + 3) (nI w * 256).toNatClampNeg r22) fun σ24 => lt (nI w + (-1)) fun v25 => M3_solve_L79 84 (nI U) (fun σ26 => some (σ26 (84 + 3) 0, σ26)) fu v25 σ24 else none) fu2 (nI u) σ) (fun r σ => r = nI (bst m wo fb m 0) ∧ (∀ c, c ≠ 87 → σ c = σ0 c) ∧ ∀ w, w ≤ m → tbC σ 87 m wo fb U w) := by
          intro fu2
          induction fu2 with
          | zero => intro u σ _ c; omega
          | succ fu2 ih2 =>
            intro u σ hu hf2 hF ht hlv
            have hu2 := sub_lt hu hU
            have hm := h0.frame hF
            rw [M3_solve_L85]
            by_cases z : u = 0
            · subst z
              rw [if_pos (by decide)]
              have e0 := e3_mostFrom (u := 0) hM hm (show w < m by omega) hU (hfU w (by omega)) (ht (w + 1) (by omega) (by omega)) sub0
              rw [show nI 0 = 0 from rfl] at e0
              have ew : nI w * 256 = nI (256 * w) := by rw [show (256 : Int32) = nI 256 from rfl, pk_mul, Nat.mul_comm]
              rw [e0, bind_s, ew]
              refine ok_T ((inb_nI (by omega)).mpr (by omega)) ?_
              rw [nI_clamp (n := 256 * w) (by omega), ok_lt, ok_lt, add_m1]
              refine ih w _ (by omega) (by omega) (fun c q => by rw [s2_ne q]; exact hF c q) (fun w' h1 h2 => ?_)
              by_cases e : w' = w
              · subst e; exact tb_fin hlv
              · exact tb_other (p := 0) hU (ht w' (by omega) h2) (fun q => e q.symm) (by decide)
            · rw [if_neg (nI_nle (by omega) (by omega)), e3_mostFrom hM hm (show w < m by omega) hU (hfU w (by omega)) (ht (w + 1) (by omega) (by omega)) hu, bind_s, ix256]
              refine ok_T ((inb_nI (by omega)).mpr (by omega)) ?_
              have hnu : (u - 1) &&& U ≤ u - 1 := Nat.and_le_left
              rw [nI_clamp (n := 256 * w + u) (by omega), ok_lt, ok_lt, show nI u - 1 = nI (u - 1) from pk_sub (b := 1) (by omega), i_and (by omega) (by omega)]
              exact ih2 _ _ sub_and (by omega) (fun c q => by rw [s2_ne q]; exact hF c q) (fun w' h1 h2 => tb_other hU (ht w' h1 h2) (by omega) hu2) (lv_next hU hu (by omega) hlv)
        exact sets FU U σ (Nat.and_self U) (by have := FU_ge; omega) hF ht (fun s hs hlt => by
          have : s &&& U ≤ U := Nat.and_le_right
          omega)
  -- the last level
  have last : ∀ fu2 u σ, u &&& U = u → u + 1 ≤ fu2 → (∀ c, c ≠ 87 → σ c = σ0 c) → lvC σ m wo fb U m u → Ok (M3_solve_L29 84 (nI U) (fun σ11 => if inb ((σ11 84 3) * 256) 2304 then lt (s2 σ11 (84 + 3) ((σ11 84 3) * 256).toNatClampNeg 0) fun σ13 => lt ((σ13 84 3) - 1) fun v14 => M3_solve_L79 84 (nI U) (fun σ26 => some (σ26 (84 + 3) 0, σ26)) FU v14 σ13 else none) fu2 (nI u) σ) (fun r σ => r = nI (bst m wo fb m 0) ∧ (∀ c, c ≠ 87 → σ c = σ0 c) ∧ ∀ w, w ≤ m → tbC σ 87 m wo fb U w) := by
    intro fu2
    induction fu2 with
    | zero => intro u σ _ c; omega
    | succ fu2 ih2 =>
      intro u σ hu hf2 hF hlv
      have hu2 := sub_lt hu hU
      have hm := h0.frame hF
      have hz : ∀ s, bst m wo fb (m - m) s = 0 := fun s => by rw [Nat.sub_self]; rfl
      rw [M3_solve_L29]
      by_cases z : u = 0
      · subst z
        rw [if_pos (by decide)]
        have ew : nI m * 256 = nI (256 * m) := by rw [show (256 : Int32) = nI 256 from rfl, pk_mul, Nat.mul_comm]
        rw [hm.1, ew]
        refine ok_T ((inb_nI (by omega)).mpr (by omega)) ?_
        rw [nI_clamp (n := 256 * m) (by omega), ok_lt, ok_lt, s2_ne (by decide), hm.1]
        have hfin := tb_fin hlv
        rw [hz 0] at hfin
        refine lev FU m _ (by omega) (by have := FU_ge; omega) (fun c q => by rw [s2_ne q]; exact hF c q) (fun w h1 h2 => ?_)
        rw [show w = m by omega]; exact hfin
      · rw [if_neg (nI_nle (by omega) (by omega)), hm.1, ix256]
        refine ok_T ((inb_nI (by omega)).mpr (by omega)) ?_
        have hnu : (u - 1) &&& U ≤ u - 1 := Nat.and_le_left
        rw [nI_clamp (n := 256 * m + u) (by omega), ok_lt, ok_lt, show nI u - 1 = nI (u - 1) from pk_sub (b := 1) (by omega), i_and (by omega) (by omega)]
        have hn := lv_next hU hu (by omega) hlv
        rw [hz u] at hn
        exact ih2 _ _ sub_and (by omega) (fun c q => by rw [s2_ne q]; exact hF c q) hn
  exact last FU U σ0 (Nat.and_self U) (by have := FU_ge; omega) (fun _ _ => rfl) (fun s hs hlt => by
    have : s &&& U ≤ U := Nat.and_le_right
    omega)
-- the least hole
def lf (c : Nat → Bool) : Nat → Nat → Option Nat
  | 0, _ => none
  | j + 1, h => if c h then some h else lf c j (h + 1)
theorem lf_ok {c : Nat → Bool} : ∀ j h x, lf c j h = some x → h ≤ x ∧ x < h + j ∧ c x = true := by
  intro j
  induction j with
  | zero => intro h x q; cases q
  | succ j ih =>
    intro h x q
    unfold lf at q
    by_cases e : c h = true
    · rw [if_pos e] at q; cases q; exact ⟨by omega, by omega, e⟩
    · rw [if_neg e] at q
      obtain ⟨a, b, d⟩ := ih (h + 1) x q
      exact ⟨by omega, by omega, d⟩
theorem lf_none {c : Nat → Bool} : ∀ j h, (∀ x, h ≤ x → c x = false) → lf c j h = none := by
  intro j
  induction j with
  | zero => intro h _; rfl
  | succ j ih =>
    intro h q
    unfold lf
    rw [q h (by omega)]
    exact ih (h + 1) (fun x hx => q x (by omega))
theorem lf_more {c : Nat → Bool} {i : Nat} : ∀ j h, (∀ x, h + j ≤ x → c x = false) → lf c (j + i) h = lf c j h := by
  intro j
  induction j with
  | zero => intro h q; rw [Nat.zero_add]; exact lf_none i h (fun x hx => q x (by omega))
  | succ j ih =>
    intro h q
    rw [show j + 1 + i = (j + i) + 1 by omega]
    unfold lf
    rw [ih (h + 1) (fun x hx => q x (by omega))]
def cnd (m : Nat) (wo fb : Nat → Nat) (w u h : Nat) : Bool := ((fb w).testBit h && !u.testBit h) && decide (wo w + bst m wo fb (m - (w + 1)) (u ||| 2 ^ h) = bst m wo fb (m - w) u)
def lhS (m : Nat) (wo fb : Nat → Nat) (w u : Nat) : Option Nat := lf (cnd m wo fb w u) 8 0
def usd (m : Nat) (wo fb : Nat → Nat) : Nat → Nat
  | 0 => 0
  | w + 1 => match lhS m wo fb w (usd m wo fb w) with
    | none => usd m wo fb w
    | some h => usd m wo fb w ||| 2 ^ h
theorem lhS_ok {m w u x : Nat} {wo fb : Nat → Nat} (h : lhS m wo fb w u = some x) : x < 8 ∧ (fb w).testBit x = true ∧ u.testBit x = false := by
  obtain ⟨a, b, c⟩ := lf_ok 8 0 x h
  unfold cnd at c
  refine ⟨by omega, ?_, ?_⟩
  · cases e : (fb w).testBit x with
    | true => rfl
    | false => rw [e] at c; simp at c
  · cases e : u.testBit x with
    | false => rfl
    | true => rw [e] at c; simp at c
theorem bit_sub {f U i : Nat} (h : f &&& U = f) (hb : f.testBit i = true) : U.testBit i = true := by
  have e2 : (f &&& U).testBit i = f.testBit i := by rw [h]
  rw [Nat.testBit_and, hb] at e2
  simpa using e2
theorem usd_sub {m : Nat} {wo fb : Nat → Nat} : ∀ w, w ≤ m → usd m wo fb w &&& uoN fb m = usd m wo fb w := by
  intro w
  induction w with
  | zero => intro _; exact sub0
  | succ w ih =>
    intro hw
    unfold usd
    cases e : lhS m wo fb w (usd m wo fb w) with
    | none => exact ih (by omega)
    | some h => exact sub_or (ih (by omega)) (bit_sub (uoN_sub m w (by omega)) (lhS_ok e).2.1)
theorem e3_least {σ : St} {m w u : Nat} {wo fb : Nat → Nat} (hM : okM m wo fb) (hm : mtC σ m wo fb) (hw : w < m) (ht : ∀ w, w ≤ m → tbC σ 87 m wo fb (uoN fb m) w) (hu : u &&& uoN fb m = u) : M3_leastHole 84 (nI w) (nI u) σ = some (oI (lhS m wo fb w u), σ) := by
  obtain ⟨m8, hwo, hfb⟩ := hM
  have hU := uoN_lt hfb m
  have hu2 := sub_lt hu hU
  have hfr := fre_lt (u := u) (hfb w)
  unfold M3_leastHole
  rw [if_pos ((inb_nI (by omega)).mpr (by omega)), nI_clamp (n := w) (by omega), show σ (84 + 2) w = _ from (hm.2 w hw).2, i_fre (hfb w) hu2, lt_eq]
  have key : ∀ fu h j, h + j = 8 → j + 1 ≤ fu → M3_leastHole_L14 84 (nI w) (nI u) (nI (fre (fb w) u)) (fun σ10 => some (-1, σ10)) fu (nI h) σ = some (oI (lf (cnd m wo fb w u) j h), σ) := by
    intro fu
    induction fu with
    | zero => intro h j _ c; omega
    | succ fu ih =>
      intro h j hj hf
      rw [M3_leastHole_L14]
      cases j with
      | zero =>
        rw [if_pos (show (8 : Int32) ≤ nI h from (nI_leI (a := 8) (by omega) (by omega)).mpr (by omega))]; rfl
      | succ j =>
        rw [if_neg (show ¬ (8 : Int32) ≤ nI h from fun q => by have := (nI_leI (a := 8) (by omega) (by omega)).mp q; omega)]
        have this := ih (h + 1) j (by omega) (by omega)
        have hcn : cnd m wo fb w u h = ((fre (fb w) u).testBit h && decide (wo w + bst m wo fb (m - (w + 1)) (u ||| 2 ^ h) = bst m wo fb (m - w) u)) := by unfold cnd; rw [fre_bit (hfb w)]
        have hlf : lf (cnd m wo fb w u) (j + 1) h = if cnd m wo fb w u h then some h else lf (cnd m wo fb w u) j (h + 1) := rfl
        by_cases c : (fre (fb w) u).testBit h = true
        · have hor := or_lt (h := h) hu2 (by omega)
          have hUb : (uoN fb m).testBit h = true := by
            rw [fre_bit (hfb w)] at c
            refine bit_sub (uoN_sub m w hw) ?_
            cases e3 : (fb w).testBit h with
            | false => rw [e3] at c; simp at c
            | true => rfl
          rw [if_pos ((shr_test hfr (by omega)).mpr c), if_pos ((inb_nI (by omega)).mpr (by omega)), i_or1 hu2 (by omega), ix256', ix256, if_pos ((inb_nI (by omega)).mpr (by omega)), if_pos ((inb_nI (by omega)).mpr (by omega)), nI_clamp (n := 256 * (w + 1) + (u ||| 2 ^ h)) (by omega), nI_clamp (n := 256 * w + u) (by omega), nI_clamp (n := w) (by omega), show σ (84 + 3) (256 * (w + 1) + (u ||| 2 ^ h)) = _ from ht (w + 1) (by omega) _ (sub_or hu hUb), show σ (84 + 3) (256 * w + u) = _ from ht w (by omega) u hu, show σ (84 + 1) w = _ from (hm.2 w hw).1, nI_add]
          have b1 := bst_le (m := m) (fb := fb) hwo (m - (w + 1)) (u ||| 2 ^ h)
          have b2 := bst_le (m := m) (fb := fb) hwo (m - w) u
          have b3 := hwo w
          by_cases c2 : wo w + bst m wo fb (m - (w + 1)) (u ||| 2 ^ h) = bst m wo fb (m - w) u
          · rw [if_pos (by rw [c2]), hlf, hcn, c, decide_eq_true c2]; rfl
          · rw [if_neg (fun q => c2 ((nI_eq (by omega) (by omega)).mp q)), M3_leastHole_J75, lt_eq, nI_1, hlf, hcn, c, decide_eq_false c2]
            exact this
        · rw [if_neg (fun q => c ((shr_test hfr (by omega)).mp q)), M3_leastHole_J75, lt_eq, nI_1, hlf, hcn, show (fre (fb w) u).testBit h = false by simpa using c]
          exact this
  have k0 := key FU 0 8 (by omega) (by have := FU_ge; omega)
  exact k0
def bhV (m : Nat) (wo fb : Nat → Nat) (i : Nat) : Int32 := if i < m then oI (lhS m wo fb i (usd m wo fb i)) else -1
theorem e3_holeFor {σ : St} {m i : Nat} {wo fb : Nat → Nat} (hM : okM m wo fb) (hm : mtC σ m wo fb) (ht : ∀ w, w ≤ m → tbC σ 87 m wo fb (uoN fb m) w) (hi : i < 8) : M3_holeFor 84 (nI i) σ = some (bhV m wo fb i, σ) := by
  have m8 := hM.1
  have hU := uoN_lt hM.2.2 m
  unfold M3_holeFor
  have key : ∀ fu w, w ≤ m → w ≤ i → m + 1 ≤ fu + w → M3_holeFor_L4 84 (nI i) (fun σ7 => some (-1, σ7)) fu (nI (usd m wo fb w)) (nI w) σ = some (bhV m wo fb i, σ) := by
    intro fu
    induction fu with
    | zero => intro w _ _ _; omega
    | succ fu ih =>
      intro w hw hwi hf
      rw [M3_holeFor_L4, hm.1]
      by_cases e : m ≤ w
      · rw [if_pos ((nI_leI (by omega) (by omega)).mpr (by omega))]
        unfold bhV
        rw [if_neg (by omega)]
      · have hsu := usd_sub (m := m) (wo := wo) (fb := fb) w (by omega)
        have hus := sub_lt hsu hU
        rw [if_neg (fun q => by have := (nI_leI (by omega) (by omega)).mp q; omega), e3_least hM hm (by omega) ht hsu, bind_s]
        by_cases c : w = i
        · rw [if_pos (by rw [c])]
          unfold bhV
          rw [if_pos (by omega), c]
        · rw [if_neg (fun q => c ((nI_eq (by omega) (by omega)).mp q))]
          have this := ih (w + 1) (by omega) (by omega) (by omega)
          have hs : usd m wo fb (w + 1) = (match lhS m wo fb w (usd m wo fb w) with
            | none => usd m wo fb w
            | some h => usd m wo fb w ||| 2 ^ h) := rfl
          cases e1 : lhS m wo fb w (usd m wo fb w) with
          | none =>
            rw [e1] at hs
            rw [hs] at this
            rw [if_pos (show oI none = -1 from rfl), M3_holeFor_J41, lt_eq, nI_1]
            exact this
          | some h =>
            rw [e1] at hs
            rw [hs] at this
            have h8 := (lhS_ok e1).1
            rw [if_neg (show ¬ oI (some h) = -1 from nI_m1 (a := h) (by omega)), lt_eq, M3_holeFor_J41, lt_eq, nI_1, show oI (some h) = nI h from rfl, i_or1 hus h8]
            exact this
  have k0 := key FU 0 (by omega) (by omega) (by have := FU_ge; omega)
  exact k0
