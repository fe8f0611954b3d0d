theorem i_and {a b : Nat} (ha : a < 2 ^ 31) (hb : b < 2 ^ 31) : nI a &&& nI b = nI (a &&& b) := by
  apply Int32.toBitVec_inj.mp
  apply BitVec.eq_of_toNat_eq
  have : a &&& b ≤ a := Nat.and_le_left
  rw [Int32.toBitVec_and, BitVec.toNat_and, pk_tn (by omega), pk_tn (by omega), pk_tn (by omega)]
def fre (f u : Nat) : Nat := f &&& (u ^^^ (2 ^ 32 - 1))
theorem i_fre {f u : Nat} (hf : f < 256) (hu : u < 256) : nI f &&& (nI u ^^^ (-1)) = nI (fre f u) := by
  apply Int32.toBitVec_inj.mp
  apply BitVec.eq_of_toNat_eq
  have : fre f u ≤ f := Nat.and_le_left
  rw [Int32.toBitVec_and, Int32.toBitVec_xor, BitVec.toNat_and, BitVec.toNat_xor, pk_tn (by omega), pk_tn (by omega), pk_tn (by omega)]
  rfl
theorem fre_lt {f u : Nat} (hf : f < 256) : fre f u < 256 := by
  have : fre f u ≤ f := Nat.and_le_left
  omega
theorem tb_lt {f i : Nat} (hf : f < 256) (h : f.testBit i = true) : i < 8 := by
  have hge : f.testBit i = true → 2 ^ i ≤ f := fun q => Nat.ge_two_pow_of_testBit q
  have := hge h
  rcases Nat.lt_or_ge i 8 with q | q
  · exact q
  · have h2 : 2 ^ 8 ≤ 2 ^ i := Nat.pow_le_pow_right (by decide) q
    omega
theorem fre_bit {f u i : Nat} (hf : f < 256) : (fre f u).testBit i = (f.testBit i && !u.testBit i) := by
  unfold fre
  rw [Nat.testBit_and, Nat.testBit_xor, Nat.testBit_two_pow_sub_one]
  cases e : f.testBit i with
  | false => rfl
  | true =>
    have := tb_lt hf e
    rw [decide_eq_true (show i < 32 by omega)]
    cases u.testBit i <;> rfl
-- the most worth
def mxH (g : Nat → Nat) (p : Nat → Bool) (s : Nat) : Nat → Nat
  | 0 => s
  | h + 1 => if p h then max (mxH g p s h) (g h) else mxH g p s h
def bst (m : Nat) (wo fb : Nat → Nat) : Nat → Nat → Nat
  | 0, _ => 0
  | j + 1, u => mxH (fun h => wo (m - (j + 1)) + bst m wo fb j (u ||| 2 ^ h)) (fun h => (fb (m - (j + 1))).testBit h && !u.testBit h) (bst m wo fb j u) 8
theorem mxH_le {g : Nat → Nat} {p : Nat → Bool} {s N : Nat} (hs : s ≤ N) (hg : ∀ h, g h ≤ N) : ∀ n, mxH g p s n ≤ N := by
  intro n
  induction n with
  | zero => exact hs
  | succ n ih =>
    unfold mxH
    have := hg n
    split <;> omega
theorem mxH_more {g : Nat → Nat} {p : Nat → Bool} {s n : Nat} (hp : ∀ h, n ≤ h → p h = false) : ∀ k, n ≤ k → mxH g p s k = mxH g p s n := by
  intro k
  induction k with
  | zero => intro h; rw [show n = 0 by omega]
  | succ k ih =>
    intro h
    by_cases e : n = k + 1
    · rw [e]
    · rw [← ih (by omega)]
      show (if p k then _ else _) = _
      rw [hp k (by omega)]; rfl
theorem bst_le {m : Nat} {wo fb : Nat → Nat} (hw : ∀ w, wo w ≤ 9) : ∀ j u, bst m wo fb j u ≤ 9 * j := by
  intro j
  induction j with
  | zero => intro u; exact Nat.le_refl _
  | succ j ih =>
    intro u
    unfold bst
    refine mxH_le (by have := ih u; omega) (fun h => ?_) 8
    have := ih (u ||| 2 ^ h)
    have := hw (m - (j + 1))
    omega
-- the class's match
def okM (m : Nat) (wo fb : Nat → Nat) : Prop := m ≤ 8 ∧ (∀ w, wo w ≤ 9) ∧ ∀ w, fb w < 256
def mtC (σ : St) (m : Nat) (wo fb : Nat → Nat) : Prop := σ 84 3 = nI m ∧ ∀ w, w < m → σ 85 w = nI (wo w) ∧ σ 86 w = nI (fb w)
theorem mtC.frame {σ σ' : St} {m : Nat} {wo fb : Nat → Nat} (h : mtC σ m wo fb) (hF : ∀ c, c ≠ 87 → σ' c = σ c) : mtC σ' m wo fb := by
  unfold mtC; rw [hF 84 (by decide), hF 85 (by decide), hF 86 (by decide)]; exact h
def tbC (σ : St) (c m : Nat) (wo fb : Nat → Nat) (U w : Nat) : Prop := ∀ u, u &&& U = u → σ c (256 * w + u) = nI (bst m wo fb (m - w) u)
theorem or_lt {u h : Nat} (hu : u < 256) (hh : h < 8) : u ||| 2 ^ h < 256 := Nat.or_lt_two_pow (n := 8) hu (Nat.pow_lt_pow_right (by decide) hh)
theorem i_or1 {u h : Nat} (hu : u < 256) (hh : h < 8) : nI u ||| ((1 : Int32) <<< (nI h &&& 31)) = nI (u ||| 2 ^ h) := (bits_dec ⟨u, hu⟩ ⟨h, hh⟩).2.1
theorem sub_lt {u U : Nat} (h : u &&& U = u) (hU : U < 256) : u < 256 := by
  have : u &&& U ≤ U := Nat.and_le_right
  omega
theorem sub_or {u U h : Nat} (hu : u &&& U = u) (hh : U.testBit h = true) : (u ||| 2 ^ h) &&& U = u ||| 2 ^ h := by
  apply Nat.eq_of_testBit_eq
  intro i
  have e : (u &&& U).testBit i = u.testBit i := by rw [hu]
  rw [Nat.testBit_and] at e
  rw [Nat.testBit_and, Nat.testBit_or, Nat.testBit_two_pow]
  by_cases c : h = i
  · subst c; rw [hh]; simp
  · simp only [c, decide_false, Bool.or_false]; exact e
theorem ix256 {w u : Nat} : nI w * 256 + nI u = nI (256 * w + u) := by rw [show (256 : Int32) = nI 256 from rfl, pk_mul, nI_add, Nat.mul_comm]
theorem ix256' {w u : Nat} : (nI w + 1) * 256 + nI u = nI (256 * (w + 1) + u) := by rw [nI_1, ix256]
theorem shr_test {a k : Nat} (ha : a < 256) (hk : k < 8) : ((nI a >>> (nI k &&& 31)) &&& 1 = 1) ↔ a.testBit k = true := i_test (by omega) (by omega)
theorem shr_zero {a k : Nat} (ha : a < 256) (hk : k < 8) (h : nI a >>> (nI k &&& 31) = 0) : ∀ i, k ≤ i → a.testBit i = false := by
  rw [pk_shrN (show a < 2 ^ 31 by omega) _ k (i_sm ⟨k, by omega⟩), show (0 : Int32) = nI 0 from rfl, nI_eq (by have : a / 2 ^ k ≤ a := Nat.div_le_self _ _; omega) (by decide)] at h
  intro i hi
  have hlt : a < 2 ^ k := by
    have hp : 0 < 2 ^ k := Nat.two_pow_pos k
    exact (Nat.div_eq_zero_iff_lt hp).mp h
  exact Nat.testBit_lt_two_pow (Nat.lt_of_lt_of_le hlt (Nat.pow_le_pow_right (by decide) hi))
theorem e3_mostFrom {σ : St} {m U w u : Nat} {wo fb : Nat → Nat} (hM : okM m wo fb) (hm : mtC σ m wo fb) (hw : w < m) (hU : U < 256) (hfU : fb w &&& U = fb w) (ht : tbC σ 87 m wo fb U (w + 1)) (hu : u &&& U = u) : M3_mostFrom 84 (nI w) (nI u) σ = some (nI (bst m wo fb (m - w) u), σ) := by
  obtain ⟨m8, hwo, hfb⟩ := hM
  have hu2 := sub_lt hu hU
  unfold M3_mostFrom
  rw [ix256', if_pos ((inb_nI (by omega)).mpr (by omega)), lt_eq, if_pos ((inb_nI (by omega)).mpr (by omega)), lt_eq, nI_clamp (n := 256 * (w + 1) + u) (by omega), nI_clamp (n := w) (by omega), show σ (84 + 3) (256 * (w + 1) + u) = _ from ht u hu, show σ (84 + 2) w = _ from (hm.2 w hw).2, i_fre (hfb w) hu2]
  have hb : bst m wo fb (m - w) u = mxH (fun h => wo w + bst m wo fb (m - (w + 1)) (u ||| 2 ^ h)) (fun h => (fb w).testBit h && !u.testBit h) (bst m wo fb (m - (w + 1)) u) 8 := by
    rw [show m - w = (m - (w + 1)) + 1 by omega]
    show mxH (fun h => wo (m - (m - (w + 1) + 1)) + _) (fun h => (fb (m - (m - (w + 1) + 1))).testBit h && _) _ 8 = _
    rw [show m - (m - (w + 1) + 1) = w by omega]
  rw [hb]
  generalize hg : (fun h => wo w + bst m wo fb (m - (w + 1)) (u ||| 2 ^ h)) = g
  generalize hp : (fun h => (fb w).testBit h && !u.testBit h) = p
  generalize hs : bst m wo fb (m - (w + 1)) u = s
  have hs9 : s ≤ 81 := by rw [← hs]; have := bst_le (m := m) (fb := fb) hwo (m - (w + 1)) u; omega
  have hg9 : ∀ h, g h ≤ 81 := fun h => by
    rw [← hg]
    have := bst_le (m := m) (fb := fb) hwo (m - (w + 1)) (u ||| 2 ^ h)
    have := hwo w
    show wo w + _ ≤ 81; omega
  have hfr := fre_lt (u := u) (hfb w)
  have key : ∀ fu h, h ≤ 8 → 9 ≤ fu + h → M3_mostFrom_L30 84 (nI w) (nI u) (nI (fre (fb w) u)) (fun v σ => some (v, σ)) fu (nI (mxH g p s h)) (nI h) σ = some (nI (mxH g p s 8), σ) := by
    intro fu
    induction fu with
    | zero => intro h _ _; omega
    | succ fu ih =>
      intro h hh hf
      rw [M3_mostFrom_L30]
      by_cases e : 8 ≤ h
      · rw [if_pos (show (8 : Int32) ≤ nI h from (nI_leI (a := 8) (by omega) (by omega)).mpr e), show h = 8 by omega]
      · rw [if_neg (show ¬ (8 : Int32) ≤ nI h from fun q => by have := (nI_leI (a := 8) (by omega) (by omega)).mp q; omega)]
        by_cases z : nI (fre (fb w) u) >>> (nI h &&& 31) = 0
        · rw [if_pos z, mxH_more (n := h) (fun i hi => ?_) 8 (by omega)]
          rw [← hp]
          have := shr_zero hfr (by omega) z i hi
          rw [fre_bit (hfb w)] at this; exact this
        · rw [if_neg z]
          have hpb : p h = (fre (fb w) u).testBit h := by rw [← hp, fre_bit (hfb w)]
          have hsx : mxH g p s (h + 1) = if p h then max (mxH g p s h) (g h) else mxH g p s h := rfl
          have hmx := mxH_le (p := p) hs9 hg9 h
          have hgh := hg9 h
          have this := ih (h + 1) (by omega) (by omega)
          by_cases c : (fre (fb w) u).testBit h = true
          · rw [if_pos ((shr_test hfr (by omega)).mpr c), if_pos ((inb_nI (by omega)).mpr (by omega)), i_or1 hu2 (by omega), ix256']
            have hor := or_lt (h := h) hu2 (by omega)
            have hUb : U.testBit h = true := by
              rw [fre_bit (hfb w)] at c
              have e2 : (fb w &&& U).testBit h = (fb w).testBit h := by rw [hfU]
              rw [Nat.testBit_and] at e2
              cases e3 : (fb w).testBit h with
              | false => rw [e3] at c; simp at c
              | true => rw [e3] at e2; simpa using e2
            rw [if_pos ((inb_nI (by omega)).mpr (by omega)), nI_clamp (n := 256 * (w + 1) + (u ||| 2 ^ h)) (by omega), nI_clamp (n := w) (by omega), show σ (84 + 3) (256 * (w + 1) + (u ||| 2 ^ h)) = _ from ht _ (sub_or hu hUb), show σ (84 + 1) w = _ from (hm.2 w hw).1, nI_add, lt_eq, M3_mostFrom_J87, lt_eq, nI_1]
            have hgE : wo w + bst m wo fb (m - (w + 1)) (u ||| 2 ^ h) = g h := by rw [← hg]
            rw [hgE]
            rw [hsx, if_pos (hpb.trans c)] at this
            by_cases c2 : mxH g p s h < g h
            · rw [if_pos ((nI_ltI (by omega) (by omega)).mpr c2)]
              rw [Nat.max_eq_right (by omega)] at this
              exact this
            · rw [if_neg (fun q => c2 ((nI_ltI (by omega) (by omega)).mp q))]
              rw [Nat.max_eq_left (by omega)] at this
              exact this
          · rw [if_neg (fun q => c ((shr_test hfr (by omega)).mp q)), M3_mostFrom_J87, lt_eq, nI_1]
            rw [hsx, if_neg (fun q => c (hpb.symm.trans q))] at this
            exact this
  have k0 := key FU 0 (by omega) (by have := FU_ge; omega)
  exact k0
-- the sets of a set, from the fullest down
theorem sub_next : ∀ k U u s : Nat, U < 2 ^ k → u &&& U = u → s &&& U = s → s < u → s ≤ (u - 1) &&& U := by
  intro k
  induction k with
  | zero =>
    intro U u s hU hu hs hlt
    have : u &&& U ≤ U := Nat.and_le_right
    omega
  | succ k ih =>
    intro U u s hU hu hs hlt
    have hU2 : U / 2 < 2 ^ k := by rw [Nat.pow_succ] at hU; omega
    have hu2 : u / 2 &&& U / 2 = u / 2 := by rw [← Nat.and_div_two, hu]
    have hs2 : s / 2 &&& U / 2 = s / 2 := by rw [← Nat.and_div_two, hs]
    have d := Nat.and_div_two (a := u - 1) (b := U)
    by_cases o : u % 2 = 1
    · have e1 : (u - 1) / 2 = u / 2 := by omega
      rw [e1, hu2] at d
      omega
    · have e1 : (u - 1) / 2 = u / 2 - 1 := by omega
      rw [e1] at d
      have hi := ih (U / 2) (u / 2) (s / 2) hU2 hu2 hs2 (by omega)
      rw [← d] at hi
      by_cases os : s % 2 = 1
      · have hb : U % 2 = 1 := by
          have h1 : (s &&& U) % 2 = 1 := by rw [hs]; exact os
          exact (Nat.and_mod_two_eq_one.mp h1).2
        have hr : ((u - 1) &&& U) % 2 = 1 := Nat.and_mod_two_eq_one.mpr ⟨by omega, hb⟩
        omega
      · omega
theorem sub_and {a U : Nat} : (a &&& U) &&& U = a &&& U := by rw [Nat.and_assoc, Nat.and_self]
