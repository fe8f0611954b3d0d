-- bits, of more than eight
theorem i_or {a b : Nat} (ha : a < 2 ^ 31) (hb : b < 2 ^ 31) : nI a ||| nI b = nI (a ||| b) := by
  apply Int32.toBitVec_inj.mp
  apply BitVec.eq_of_toNat_eq
  have : a ||| b < 2 ^ 31 := Nat.or_lt_two_pow ha hb
  rw [Int32.toBitVec_or, BitVec.toNat_or, pk_tn (by omega), pk_tn (by omega), pk_tn (by omega)]
theorem i_shl : ∀ k : Fin 30, (1 : Int32) <<< (nI k.val &&& 31) = nI (2 ^ k.val) := by decide +kernel
theorem i_sm : ∀ k : Fin 30, (((nI k.val &&& 31 : Int32)).toBitVec.smod 32).toNat = k.val := by decide +kernel
theorem i_test {a k : Nat} (ha : a < 2 ^ 31) (hk : k < 30) : ((nI a >>> (nI k &&& 31)) &&& 1 = 1) ↔ a.testBit k = true := by
  rw [pk_shrN ha _ k (i_sm ⟨k, hk⟩), pk_andN (k := 1) (by have : a / 2 ^ k ≤ a := Nat.div_le_self _ _; omega) rfl, show (1 : Int32) = nI 1 from rfl, nI_eq (by omega) (by decide), Nat.testBit_eq_decide_div_mod_eq]
  simp
theorem bmx_or {f : Nat → Bool} {k : Nat} (hk : k < 30) (hf : f k = true) : nI (bm f k) ||| ((1 : Int32) <<< (nI k &&& 31)) = nI (bm f (k + 1)) := by
  have hl := bm_lt f k
  have hp : 2 ^ k < 2 ^ 30 := Nat.pow_lt_pow_right (by decide) hk
  rw [i_shl ⟨k, hk⟩, i_or (by omega) (by show 2 ^ k < 2 ^ 31; omega)]
  congr 1
  apply Nat.eq_of_testBit_eq
  intro i
  rw [Nat.testBit_or, bm_bit, bm_bit, Nat.testBit_two_pow]
  by_cases e : k = i
  · subst e; simp [hf]
  · by_cases h1 : i < k
    · simp [h1, e, show i < k + 1 by omega]
    · simp [h1, e, show ¬ i < k + 1 by omega]
-- what was seen
def asN (A : AB) (Vf : Nat → Vw) : Nat → Bool
  | 0 => true
  | n + 1 => asN A Vf n && decide ((g4 (aS A) n).2.1 < itm 0 (a0 A) ∧ lk (Vf (g4 (aS A) n).1) (g4 (aS A) n).2.1 = (g4 (aS A) n).2.2.1)
def asB (A : AB) (B : Bk) : Bool := asN A (fun d => vw (sim (hdA A) B (d + 1))) (aS A).length
theorem asN_mono {A : AB} {Vf : Nat → Vw} {m : Nat} (h : asN A Vf m = false) : ∀ n, m ≤ n → asN A Vf n = false := by
  intro n
  induction n with
  | zero => intro hn; rw [show m = 0 by omega] at h; exact h
  | succ n ih =>
    intro hn
    by_cases e : m = n + 1
    · rw [← e]; exact h
    · unfold asN; rw [ih (by omega)]; rfl
def lsN (A : AB) : Nat → Nat
  | 0 => 0
  | n + 1 => max (lsN A n) (g4 (aS A) n).1
theorem lsN_lt {A : AB} (hA : okAB A) : ∀ n, n ≤ (aS A).length → lsN A n < 40 := by
  intro n
  induction n with
  | zero => intro _; show 0 < 40; decide
  | succ n ih =>
    intro hn
    have := (hA.2.2.2.2.1.1 n (by omega)).1
    have := ih (by omega)
    show max (lsN A n) (g4 (aS A) n).1 < 40
    omega
theorem lsN_ge {A : AB} : ∀ n k, k < n → (g4 (aS A) k).1 ≤ lsN A n := by
  intro n
  induction n with
  | zero => intro k hk; omega
  | succ n ih =>
    intro k hk
    show _ ≤ max (lsN A n) (g4 (aS A) n).1
    by_cases e : k = n
    · rw [e]; omega
    · have := ih k (by omega); omega
def lsA (A : AB) : Nat := lsN A (aS A).length
theorem e7_last {A : AB} {σ : St} (h : RC A σ) (hA : okAB A) : M7_lastSightDay σ = some (nI (lsA A), σ) := by
  unfold M7_lastSightDay
  have hs := hA.2.2.2.2.1
  have r4 := h.2.2.2.2.2.1
  have key : ∀ fu k, k ≤ (aS A).length → (aS A).length + 1 ≤ fu + k → M7_lastSightDay_L4 (fun v σ => some (v, σ)) fu (nI (lsN A k)) (nI k) σ = some (nI (lsA A), σ) := by
    intro fu
    induction fu with
    | zero => intro k _ _; omega
    | succ fu ih =>
      intro k hk hf
      rw [M7_lastSightDay_L4, r4.1]
      by_cases e : (aS A).length ≤ k
      · rw [if_pos ((nI_leI (by omega) (by omega)).mpr (by omega)), show k = (aS A).length by omega]; rfl
      · have h1 := (hs.1 k (by omega)).1
        have h2 := lsN_lt hA k (by omega)
        rw [if_neg (fun q => by have := (nI_leI (by omega) (by omega)).mp q; omega), show M4_cell 46 (nI k) 0 σ = _ from e4_cell (c := 0) r4 (by omega) (by decide), bind_s, lt_eq, lt_eq, nI_1]
        have ee : (if nI (lsN A k) < nI (q4 (g4 (aS A) k) 0) then nI (q4 (g4 (aS A) k) 0) else nI (lsN A k)) = nI (lsN A (k + 1)) := by
          show (if nI (lsN A k) < nI (g4 (aS A) k).1 then nI (g4 (aS A) k).1 else nI (lsN A k)) = nI (max (lsN A k) (g4 (aS A) k).1)
          by_cases c : lsN A k < (g4 (aS A) k).1
          · rw [if_pos ((nI_ltI (by omega) (by omega)).mpr c), Nat.max_eq_right (by omega)]
          · rw [if_neg (fun q => c ((nI_ltI (by omega) (by omega)).mp q)), Nat.max_eq_left (by omega)]
        rw [ee]
        exact ih (k + 1) (by omega) (by omega)
  have k0 := key FU 0 (by omega) (by have := FU_ge; omega)
  exact k0
theorem lk_lt {V : Vw} {n h : Nat} (hV : okV n V) (hh : h < n) : lk V h < 10 := by
  have := hV.2 h hh
  unfold lk; split <;> omega
theorem e7_seen {A : AB} {B : Bk} {σ : St} {D : Nat} (h : RC A σ) (hA : okAB A) (hs : seC σ A B D) (hD : ∀ k, k < (aS A).length → (g4 (aS A) k).1 < D) (hV : ∀ d, okV (itm 0 (a0 A)) (vw (sim (hdA A) B d))) : M7_comesOutAsSeen 66 σ = some (if asB A B then 1 else 0, σ) := by
  unfold M7_comesOutAsSeen
  have hsS := hA.2.2.2.2.1
  have r4 := h.2.2.2.2.2.1
  have h8 := itm_le (t := 0) hA.1.1
  have key : ∀ fu k, k ≤ (aS A).length → (aS A).length + 1 ≤ fu + k → asN A (fun d => vw (sim (hdA A) B (d + 1))) k = true → M7_comesOutAsSeen_L2 66 (fun σ => some (1, σ)) fu (nI k) σ = some (if asB A B then 1 else 0, σ) := by
    intro fu
    induction fu with
    | zero => intro k _ _; omega
    | succ fu ih =>
      intro k hk hf ht
      rw [M7_comesOutAsSeen_L2, r4.1]
      by_cases e : (aS A).length ≤ k
      · rw [if_pos ((nI_leI (by omega) (by omega)).mpr (by omega))]
        have hb : asB A B = true := by unfold asB; rw [show (aS A).length = k by omega]; exact ht
        rw [hb]; rfl
      · obtain ⟨z1, z2, z3⟩ := hsS.1 k (by omega)
        have hst : ∀ b, asN A (fun d => vw (sim (hdA A) B (d + 1))) (k + 1) = b → (b = false → asB A B = false) := fun b hb q => asN_mono (by rw [hb, q]) _ (by omega)
        have hsu : asN A (fun d => vw (sim (hdA A) B (d + 1))) (k + 1) = (asN A (fun d => vw (sim (hdA A) B (d + 1))) k && decide ((g4 (aS A) k).2.1 < itm 0 (a0 A) ∧ lk (vw (sim (hdA A) B ((g4 (aS A) k).1 + 1))) (g4 (aS A) k).2.1 = (g4 (aS A) k).2.2.1)) := rfl
        rw [ht, Bool.true_and] at hsu
        rw [if_neg (fun q => by have := (nI_leI (by omega) (by omega)).mp q; omega), show M4_cell 46 (nI k) 1 σ = some (nI (g4 (aS A) k).2.1, σ) from e4_cell (c := 1) r4 (by omega) (by decide), bind_s, e7_isHole _ h hA, bind_s]
        by_cases c1 : (g4 (aS A) k).2.1 < itm 0 (a0 A)
        · rw [if_pos ((inb_nI (by omega)).mpr c1), if_neg (by decide), show M4_cell 46 (nI k) 0 σ = some (nI (g4 (aS A) k).1, σ) from e4_cell (c := 0) r4 (by omega) (by decide), bind_s, e1_sight (hs _ (hD k (by omega))) h8 z1 c1, bind_s, show M4_cell 46 (nI k) 2 σ = some (nI (g4 (aS A) k).2.2.1, σ) from e4_cell (c := 2) r4 (by omega) (by decide), bind_s]
          have hlk := lk_lt (hV ((g4 (aS A) k).1 + 1)) c1
          by_cases c2 : lk (vw (sim (hdA A) B ((g4 (aS A) k).1 + 1))) (g4 (aS A) k).2.1 = (g4 (aS A) k).2.2.1
          · rw [if_pos (by rw [c2]), lt_eq, nI_1]
            exact ih (k + 1) (by omega) (by omega) (by rw [hsu]; simp [c1, c2])
          · rw [if_neg (fun q => c2 ((nI_eq (by omega) (by omega)).mp q)), hst _ hsu (by simp [c2])]; rfl
        · rw [if_neg (fun q => c1 ((inb_nI (by omega)).mp q)), if_pos rfl, hst _ hsu (by simp [c1])]; rfl
  have k0 := key FU 0 (by omega) (by have := FU_ge; omega) rfl
  exact k0
theorem x_seen {A : AB} {B : Bk} {σ0 : St} (h0 : RX A B σ0) (hA : okAB A) : Ok (M8_isSeen σ0) (fun r σ' => r = (if asB A B then 1 else 0) ∧ RX A B σ' ∧ frX σ0 σ') := by
  unfold M8_isSeen
  have hsS := hA.2.2.2.2.1
  have h8 := itm_le (t := 0) hA.1.1
  have hV : ∀ d, okV (itm 0 (a0 A)) (vw (sim (hdA A) B d)) := fun d => okV_of h0.2.2.2.2.2.2.2.2.2.2.2.2.2.1 h0.2.2.2.2.2.2.2.2.2.2.2.2.2.2.1
  have key : ∀ fu k b σ, k ≤ (aS A).length → (aS A).length + 1 ≤ fu + k → asN A (fun d => vw (sim (hdA A) B (d + 1))) k = b → RX A B σ → frX σ0 σ → Ok (M8_isSeen_L4 (fun v σ => if v = 0 ∨ v = 1 then some (v, σ) else none) fu (if b then 1 else 0) (nI k) σ) (fun r σ' => r = (if asB A B then 1 else 0) ∧ RX A B σ' ∧ frX σ0 σ') := by
    intro fu
    induction fu with
    | zero => intro k _ _ _ _; omega
    | succ fu ih =>
      intro k b σ hk hf ht hR hF
      have r4 : sM σ (aS A) := hR.2.2.2.2.1
      have hfin : ∀ b', b' = asB A B → Ok (if (if b' = true then (1 : Int32) else 0) = 0 ∨ (if b' = true then (1 : Int32) else 0) = 1 then some ((if b' = true then (1 : Int32) else 0), σ) else none) (fun r σ' => r = (if asB A B then 1 else 0) ∧ RX A B σ' ∧ frX σ0 σ') := by
        intro b' hb'
        refine ok_T (by cases b' <;> decide) ?_
        rw [ok_some]
        exact ⟨by rw [hb'], hR, hF⟩
      rw [M8_isSeen_L4, r4.1]
      by_cases e : (aS A).length ≤ k
      · rw [if_pos ((nI_leI (by omega) (by omega)).mpr (by omega))]
        exact hfin b (by unfold asB; rw [show (aS A).length = k by omega]; exact ht.symm)
      · rw [if_neg (fun q => by have := (nI_leI (by omega) (by omega)).mp q; omega)]
        cases b with
        | false =>
          rw [if_pos (by decide)]
          exact hfin false (asN_mono ht _ (by omega)).symm
        | true =>
          rw [if_neg (by decide)]
          obtain ⟨z1, z2, z3⟩ := hsS.1 k (by omega)
          obtain ⟨y1, y2, y3⟩ := r4.2 k (by omega)
          have hsu : asN A (fun d => vw (sim (hdA A) B (d + 1))) (k + 1) = (asN A (fun d => vw (sim (hdA A) B (d + 1))) k && decide ((g4 (aS A) k).2.1 < itm 0 (a0 A) ∧ lk (vw (sim (hdA A) B ((g4 (aS A) k).1 + 1))) (g4 (aS A) k).2.1 = (g4 (aS A) k).2.2.1)) := rfl
          rw [ht, Bool.true_and] at hsu
          have e3 : (3 : Int32) * nI k = nI (3 * k) := by rw [show (3 : Int32) = nI 3 from rfl, pk_mul]
          rw [e3, nI_1, show nI (3 * k) + 2 = nI (3 * k + 2) from nI_add _ 2, nI_clamp (n := 3 * k) (by omega), nI_clamp (n := 3 * k + 1) (by omega), nI_clamp (n := 3 * k + 2) (by omega)]
          refine ok_T ((inb_nI (by omega)).mpr (by omega)) ?_
          rw [y1]
          refine ok_call (x_livesV z1 hR) ?_
          rintro _ σ1 ⟨hR1, hv, hF1⟩
          have hF' := hF.tr hF1
          refine ok_T ((inb_nI (by omega)).mpr (by omega)) ?_
          have e23 : σ1 23 = σ 23 := hF1.1 23 (by decide)
          rw [e23, y2, e8_isHole (n := itm 0 (a0 A)) hR1.2.2.1.1 h8 (by omega), bind_s]
          by_cases c1 : (g4 (aS A) k).2.1 < itm 0 (a0 A)
          · rw [if_pos c1, if_neg (by decide), e23, y2, e8_looks hv h8 c1, bind_s]
            refine ok_T ((inb_nI (by omega)).mpr (by omega)) ?_
            rw [e23, y3]
            have hlk := lk_lt (hV ((g4 (aS A) k).1 + 1)) c1
            by_cases c2 : lk (vw (sim (hdA A) B ((g4 (aS A) k).1 + 1))) (g4 (aS A) k).2.1 = (g4 (aS A) k).2.2.1
            · rw [if_pos (by rw [c2]), M8_isSeen_J77, ok_lt, nI_1]
              exact ih (k + 1) true σ1 (by omega) (by omega) (by rw [hsu]; simp [c1, c2]) hR1 hF'
            · rw [if_neg (fun q => c2 ((nI_eq (by omega) (by omega)).mp q)), M8_isSeen_J76, M8_isSeen_J77, ok_lt, nI_1]
              exact ih (k + 1) false σ1 (by omega) (by omega) (by rw [hsu]; simp [c2]) hR1 hF'
          · rw [if_neg c1, if_pos rfl, M8_isSeen_J76, M8_isSeen_J77, ok_lt, nI_1]
            exact ih (k + 1) false σ1 (by omega) (by omega) (by rw [hsu]; simp [c1]) hR1 hF'
  exact key FU 0 true σ0 (by omega) (by have := FU_ge; omega) rfl h0 frX.rf
-- never
def nvF (A : AB) (w : Nat) (k : Nat) : Bool := if w = 0 then asB A (bkL A k) else asB A (bkP A k)
def nvN (A : AB) (w : Nat) : Nat := if w = 0 then (aL A).length else (aP A).length
def nvV (A : AB) (w : Nat) : Int32 := nI (bm (nvF A w) (nvN A w))
def sNever (x : Int32) (A : AB) : Sp := (if inb x 2 then nvV A x.toNatClampNeg else -2, A)
theorem okV_L {A : AB} (hA : okAB A) (k d : Nat) : okV (itm 0 (a0 A)) (vw (sim (hdA A) (bkL A k) d)) := okV_of (B := bkL A k) (okH_hd hA) hA.2.1.1
theorem okV_P {A : AB} (hA : okAB A) (k d : Nat) : okV (itm 0 (a0 A)) (vw (sim (hdA A) (bkP A k) d)) := okV_of (B := bkP A k) (okH_hd hA) hA.2.1.1
theorem nvN_le {A : AB} (hA : okAB A) (w : Nat) : nvN A w ≤ 12 := by
  have := hA.2.1.2
  have := hA.2.2.2.1.2
  unfold nvN; split <;> omega
theorem c_never {A : AB} {σ : St} (x : Int32) (h : RC A σ) (hA : okAB A) : isC (M7_never x σ) σ (sNever x A) := by
  unfold M7_never sNever isC
  rw [e7_isBelow x 2 σ (n := 2) rfl (by decide), bind_s]
  by_cases q1 : inb x 2
  · rw [if_pos q1, if_neg (by decide), if_pos q1]
    obtain ⟨w, hw, rfl, hx⟩ := inb_ex q1
    rw [nI_clamp hx]
    have hN := nvN_le hA w
    have eN : (if nI w = 0 then σ 33 2 else σ 37 2) = nI (nvN A w) := by
      unfold nvN
      rcases (show w = 0 ∨ w = 1 by omega) with rfl | rfl
      · rw [if_pos (show nI 0 = 0 from rfl), if_pos rfl]; exact h.2.2.1.1
      · rw [if_neg (by decide), if_neg (by decide)]; exact h.2.2.2.2.1.1
    rw [eN]
    unfold M7_never_J40
    rw [e7_last h hA, bind_s]
    have hls := lsN_lt hA _ (Nat.le_refl _)
    have hD : ∀ k, k < (aS A).length → (g4 (aS A) k).1 < lsA A + 1 := fun k hk => by have := lsN_ge (A := A) (aS A).length k hk; unfold lsA; omega
    have key : ∀ fu k σ', k ≤ nvN A w → nvN A w + 1 ≤ fu + k → RC A σ' → loC σ σ' → Ok (M7_never_L50 (nI w) (nI (nvN A w)) (nI (lsA A)) (fun v σ => some (v, σ)) fu (nI (bm (nvF A w) k)) (nI k) σ') (fun r σ' => r = nvV A w ∧ RC A σ' ∧ loC σ σ') := by
      intro fu
      induction fu with
      | zero => intro k σ' _ _; omega
      | succ fu ih =>
        intro k σ' hk hf hR hlo
        rw [M7_never_L50]
        by_cases e : nvN A w ≤ k
        · rw [if_pos ((nI_leI (by omega) (by omega)).mpr (by omega)), ok_some, show k = nvN A w by omega]
          exact ⟨rfl, hR, hlo⟩
        · rw [if_neg (fun q => by have := (nI_leI (by omega) (by omega)).mp q; omega)]
          have J : ∀ σ2, RC A σ2 → loC σ σ2 → M7_comesOutAsSeen 66 σ2 = some (if nvF A w k then 1 else 0, σ2) → Ok (M7_never_J79 (fun x2 x5 σ => M7_never_L50 (nI w) (nI (nvN A w)) (nI (lsA A)) (fun v σ => some (v, σ)) fu x2 x5 σ) (nI w) (nI (bm (nvF A w) k)) (nI (nvN A w)) (nI (lsA A)) (nI k) 66 σ2) (fun r σ' => r = nvV A w ∧ RC A σ' ∧ loC σ σ') := by
            intro σ2 hR2 hlo2 hc
            unfold M7_never_J79
            rw [hc, bind_s]
            by_cases c : nvF A w k = true
            · rw [if_pos c, if_neg (by decide), ok_lt, M7_never_J97, ok_lt, nI_1, bmx_or (by omega) c]
              exact ih (k + 1) σ2 (by omega) (by omega) hR2 hlo2
            · rw [if_neg c, if_pos rfl, M7_never_J97, ok_lt, nI_1, ← bm_skip (f := nvF A w) (by simpa using c)]
              exact ih (k + 1) σ2 (by omega) (by omega) hR2 hlo2
          rcases (show w = 0 ∨ w = 1 by omega) with rfl | rfl
          · refine ok_T rfl ?_
            refine ok_call (c_wol hR hA (show k < (aL A).length by unfold nvN at e; rw [if_pos rfl] at e; omega) hls) ?_
            rintro _ σ2 ⟨rfl, hR2, hs2, -, hF2⟩
            refine ok_T rfl ?_
            exact J σ2 hR2 (hlo.tr hF2.lo) (by rw [e7_seen hR2 hA hs2 hD (fun d => okV_L hA k d)]; rfl)
          · refine ok_F (by decide) ?_
            refine ok_call (c_wop hR hA (show k < (aP A).length by unfold nvN at e; rw [if_neg (by decide)] at e; omega) hls) ?_
            rintro _ σ2 ⟨rfl, hR2, hs2, hF2⟩
            refine ok_T rfl ?_
            exact J σ2 hR2 (hlo.tr hF2.lo) (by rw [e7_seen hR2 hA hs2 hD (fun d => okV_P hA k d)]; rfl)
    have k0 := key FU 0 σ (by omega) (by have := FU_ge; omega) h loC.rf
    exact k0
  · rw [if_neg q1, if_pos rfl, if_neg q1]
    exact isC_A h loC.rf rfl
