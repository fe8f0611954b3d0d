theorem g4_app {L : List Q4} {q : Q4} {k : Nat} : g4 (L ++ [q]) k = if k < L.length then g4 L k else if k = L.length then q else (0, 0, 0, 0) := by
  unfold g4
  rw [List.getD_eq_getElem?_getD, List.getD_eq_getElem?_getD]
  by_cases h : k < L.length
  · rw [if_pos h, List.getElem?_append_left h]
  · rw [if_neg h, List.getElem?_append_right (by omega)]
    by_cases e : k = L.length
    · subst e; simp
    · rw [if_neg e]
      have : k - L.length ≠ 0 := by omega
      cases hk : k - L.length with
      | zero => exact absurd hk this
      | succ m => simp
theorem g4_er {L : List Q4} {k j : Nat} : g4 (L.eraseIdx k) j = if j < k then g4 L j else g4 L (j + 1) := by
  unfold g4
  rw [List.getD_eq_getElem?_getD, List.getElem?_eraseIdx]
  split <;> rw [List.getD_eq_getElem?_getD]
theorem q4_mk {a b c d w : Nat} : q4 (a, b, c, d) w = if w = 0 then a else if w = 1 then b else if w = 2 then c else d := rfl
theorem e4_isFull {σ : St} {r lim : Nat} {L : List Q4} (h : rC σ r L) (hl : σ r 0 = nI lim) (hlim : lim < 1000) : M4_isFull r σ = some (if L.length < lim then 0 else 1, σ) := by
  obtain ⟨h1, h2, h3, -⟩ := h
  unfold M4_isFull
  rw [h1, hl, itx (nI_ltI (by omega) (by omega))]
theorem t4_add {σ : St} {r lim a b c d : Nat} {L : List Q4} (h : rC σ r L) (hl : σ r 0 = nI lim) (hlim : lim < 1000) (hlt : L.length < lim) (hsz : 4 * (L.length + 1) ≤ ln (r + 1)) : Ok (M4_add r (nI a) (nI b) (nI c) (nI d) σ) (fun v σ' => v = nI (L.length + 1) ∧ rC σ' r (L ++ [(a, b, c, d)]) ∧ (∀ j, j ≠ 2 → σ' r j = σ r j) ∧ ∀ c', c' ≠ r → c' ≠ r + 1 → σ' c' = σ c') := by
  obtain ⟨h1, h2, h3, h4⟩ := h
  unfold M4_add
  rw [h1, hl]
  refine ok_F (fun q => by have := (nI_leI (by omega) (by omega)).mp q; omega) ?_
  have e0 : nI L.length * 4 = nI (L.length * 4) := by rw [show (4 : Int32) = nI 4 from rfl, pk_mul]
  rw [ok_lt, e0]
  refine ok_T ((inb_nI (by omega)).mpr (by omega)) ?_
  rw [ok_lt, nI_1]
  refine ok_T ((inb_nI (by omega)).mpr (by omega)) ?_
  rw [ok_lt, show nI (L.length * 4) + 2 = nI (L.length * 4 + 2) from nI_add _ 2]
  refine ok_T ((inb_nI (by omega)).mpr (by omega)) ?_
  rw [ok_lt, show nI (L.length * 4) + 3 = nI (L.length * 4 + 3) from nI_add _ 3]
  refine ok_T ((inb_nI (by omega)).mpr (by omega)) ?_
  rw [ok_lt, ok_lt, ok_some, nI_clamp (n := L.length * 4) (by omega), nI_clamp (n := L.length * 4 + 1) (by omega), nI_clamp (n := L.length * 4 + 2) (by omega), nI_clamp (n := L.length * 4 + 3) (by omega)]
  have er : ∀ (x y z w : Int32) j, s2 (s2 (s2 (s2 σ (r + 1) (L.length * 4) x) (r + 1) (L.length * 4 + 1) y) (r + 1) (L.length * 4 + 2) z) (r + 1) (L.length * 4 + 3) w r j = σ r j := by
    intro x y z w j
    rw [s2_nk (by omega), s2_nk (by omega), s2_nk (by omega), s2_nk (by omega)]
  rw [er, h1, nI_1]
  refine ⟨s2_eq, ⟨?_, ?_, h3, fun k w hk hw => ?_⟩, fun j hj => ?_, fun c' q1 q2 => ?_⟩
  · rw [s2_eq, List.length_append]; rfl
  · rw [List.length_append]; exact hsz
  · rw [List.length_append] at hk
    have hk' : k < L.length + 1 := hk
    rw [s2_nk (by omega), g4_app]
    by_cases e : k < L.length
    · rw [if_pos e, s2_nj (by omega), s2_nj (by omega), s2_nj (by omega), s2_nj (by omega)]; exact h4 k w e hw
    · have ek : k = L.length := by omega
      subst ek
      rw [if_neg e, if_pos rfl, q4_mk]
      rcases (show w = 0 ∨ w = 1 ∨ w = 2 ∨ w = 3 by omega) with rfl | rfl | rfl | rfl
      · rw [s2_nj (by omega), s2_nj (by omega), s2_nj (by omega)]; exact s2_eq
      · rw [s2_nj (by omega), s2_nj (by omega), s2_eq]; rfl
      · rw [s2_nj (by omega), s2_eq]; rfl
      · rw [s2_eq]; rfl
  · rw [s2_nj hj, er]
  · rw [s2_ne q1, s2_ne q2, s2_ne q2, s2_ne q2, s2_ne q2]
theorem t4_drop {σ : St} {r k : Nat} {L : List Q4} (h : rC σ r L) (hk : k < L.length) : Ok (M4_drop r (nI k) σ) (fun v σ' => v = nI (L.length - 1) ∧ rC σ' r (L.eraseIdx k) ∧ (∀ j, j ≠ 2 → σ' r j = σ r j) ∧ ∀ c', c' ≠ r → c' ≠ r + 1 → σ' c' = σ c') := by
  obtain ⟨h1, h2, h3, h4⟩ := h
  unfold M4_drop
  rw [e7_isBelow (nI k) _ σ h1 (by omega), bind_s, if_pos ((inb_nI (by omega)).mpr hk)]
  refine ok_F (by decide) ?_
  have e1 : (nI k + 1) * 4 = nI ((k + 1) * 4) := by rw [nI_1, show (4 : Int32) = nI 4 from rfl, pk_mul]
  have e2 : nI ((k + 1) * 4) - 4 = nI (k * 4) := by rw [show (4 : Int32) = nI 4 from rfl, pk_sub (by omega)]; congr 1; omega
  have e3 : nI L.length * 4 - nI ((k + 1) * 4) = nI (L.length * 4 - (k + 1) * 4) := by rw [show (4 : Int32) = nI 4 from rfl, pk_mul, pk_sub (by omega)]
  rw [ok_lt, e1, h1, e2, e3]
  have c1 : (nI ((k + 1) * 4)).toNatClampNeg = (k + 1) * 4 := nI_clamp (by omega)
  have c2 : (nI (k * 4)).toNatClampNeg = k * 4 := nI_clamp (by omega)
  have c3 : (nI (L.length * 4 - (k + 1) * 4)).toNatClampNeg = L.length * 4 - (k + 1) * 4 := nI_clamp (by omega)
  refine ok_T ⟨nI_pos' (by omega), nI_pos' (by omega), nI_pos' (by omega), by rw [c1, c3]; omega, by rw [c2, c3]; omega⟩ ?_
  rw [ok_lt, ok_lt, ok_some, c1, c2, c3]
  generalize hf : va_cpy (σ (r + 1)) (σ (r + 1)) ((k + 1) * 4) (k * 4) (L.length * 4 - (k + 1) * 4) = f
  have er : s1 σ (r + 1) f r = σ r := s1_ne (by omega)
  rw [er, h1, show nI L.length - 1 = nI (L.length - 1) from pk_sub (b := 1) (by omega)]
  have hlen : (L.eraseIdx k).length = L.length - 1 := List.length_eraseIdx_of_lt hk
  refine ⟨s2_eq, ⟨by rw [s2_eq, hlen], by rw [hlen]; omega, h3, fun j w hj hw => ?_⟩, fun j hj => ?_, fun c' q1 q2 => ?_⟩
  · rw [hlen] at hj
    rw [s2_nk (by omega), s1_row, ← hf, g4_er]
    by_cases e : j < k
    · rw [if_pos e, pk_cpy_out (by omega)]; exact h4 j w (by omega) hw
    · rw [if_neg e, pk_cpy_in (by omega) (by omega), show (k + 1) * 4 + (j * 4 + w - k * 4) = (j + 1) * 4 + w by omega]
      exact h4 (j + 1) w (by omega) hw
  · rw [s2_nj hj, er]
  · rw [s2_ne q1, s1_ne q2]
theorem dropLast_er {L : List Q4} : L.eraseIdx (L.length - 1) = L.dropLast := by rw [List.eraseIdx_length_sub_one]
-- loans, fillings, patches, sights
def inL (x1 x2 x3 x4 : Int32) : Prop := inb x1 40 ∧ inb x2 8 ∧ inb x3 6 ∧ 1 ≤ x4.toInt ∧ x4.toInt ≤ 9
def sLoan (x1 x2 x3 x4 : Int32) (A : AB) : Sp := if inb x1 40 ∧ inb x2 8 ∧ inb x3 6 ∧ 1 ≤ x4.toInt ∧ x4.toInt ≤ 9 then (if (aL A).length < 12 then (nI ((aL A).length + 1), setL A (aL A ++ [(x1.toNatClampNeg, x2.toNatClampNeg, x3.toNatClampNeg, x4.toNatClampNeg)])) else (-4, A)) else (-2, A)
def sFill (x1 x2 : Int32) (A : AB) : Sp := if inb x1 40 ∧ inb x2 8 then (if (aF A).length < 8 then (nI ((aF A).length + 1), setF A (aF A ++ [(x1.toNatClampNeg, x2.toNatClampNeg, 0, 0)])) else (-4, A)) else (-2, A)
def sPatch (x1 x2 : Int32) (A : AB) : Sp := if inb x1 40 ∧ inb x2 8 then (if (aP A).length < 8 then (nI ((aP A).length + 1), setP A (aP A ++ [(x1.toNatClampNeg, x2.toNatClampNeg, 0, 0)])) else (-4, A)) else (-2, A)
def sSeen (x1 x2 x3 : Int32) (A : AB) : Sp := if inb x1 40 ∧ inb x2 8 ∧ inb x3 10 then (if (aS A).length < 8 then (nI ((aS A).length + 1), setS A (aS A ++ [(x1.toNatClampNeg, x2.toNatClampNeg, x3.toNatClampNeg, 0)])) else (-4, A)) else (-2, A)
theorem one_nine {x : Int32} (h : 1 ≤ x.toInt ∧ x.toInt ≤ 9) : ∃ k, x = nI k ∧ 1 ≤ k ∧ k ≤ 9 := by
  obtain ⟨k, h1, h2, h3⟩ := inb_ex (x := x) (n := 10) ⟨by omega, by omega⟩
  refine ⟨k, h2, ?_, by omega⟩
  rw [h2, nI_toInt h3] at h; omega
/-- rows of the class were changed, and the course is stale -/
theorem RC_rows {A A' : AB} {σ σ' : St} {r : Nat} (h : RC A σ) (hr : r = 33 ∨ r = 35 ∨ r = 37) (hF : ∀ c, c ≠ 25 → c ≠ r → c ≠ r + 1 → σ' c = σ c) (h25 : ∀ j, j ≠ 5 → σ' 25 j = σ 25 j) (h5 : σ' 25 5 = 1) (hl : ∀ j, j ≠ 2 → σ' r j = σ r j) (e0 : a0 A' = a0 A) (e1 : a1 A' = a1 A) (eS : aS A' = aS A) (eE : aE A' = aE A) (eSh : aSh A' = aSh A) (eFi : aFi A' = aFi A)
    (c1 : r = 33 → rC σ' 33 (aL A')) (c2 : r = 35 → rC σ' 35 (aF A')) (c3 : r = 37 → rC σ' 37 (aP A')) (d1 : r ≠ 33 → aL A' = aL A) (d2 : r ≠ 35 → aF A' = aF A) (d3 : r ≠ 37 → aP A' = aP A) : RC A' σ' := by
  obtain ⟨t0, t1, r1, r2, r3, r4, ⟨l1, l2, l3, l4, l5, l6, l7⟩, e, sh, fi, st⟩ := h
  refine ⟨?_, ?_, ?_, ?_, ?_, ?_, ⟨?_, ?_, ?_, ?_, ?_, ?_, ?_⟩, ?_, ?_, ?_, Or.inl h5⟩
  · rw [e0]; exact t0.frame (hF _ (by omega) (by omega) (by omega)) (hF _ (by omega) (by omega) (by omega)) (hF _ (by omega) (by omega) (by omega))
  · rw [e1]; exact t1.frame (hF _ (by omega) (by omega) (by omega)) (hF _ (by omega) (by omega) (by omega)) (hF _ (by omega) (by omega) (by omega))
  · by_cases q : r = 33
    · exact c1 q
    · rw [d1 q]; exact r1.frame (hF _ (by omega) (by omega) (by omega)) (hF _ (by omega) (by omega) (by omega))
  · by_cases q : r = 35
    · exact c2 q
    · rw [d2 q]; exact r2.frame (hF _ (by omega) (by omega) (by omega)) (hF _ (by omega) (by omega) (by omega))
  · by_cases q : r = 37
    · exact c3 q
    · rw [d3 q]; exact r3.frame (hF _ (by omega) (by omega) (by omega)) (hF _ (by omega) (by omega) (by omega))
  · rw [eS]; exact r4.frame (hF _ (by omega) (by omega) (by omega)) (hF _ (by omega) (by omega) (by omega))
  · by_cases q : r = 33
    · subst q; rw [hl 0 (by decide)]; exact l1
    · rw [hF 33 (by decide) (by omega) (by omega)]; exact l1
  · by_cases q : r = 35
    · subst q; rw [hl 0 (by decide)]; exact l2
    · rw [hF 35 (by decide) (by omega) (by omega)]; exact l2
  · by_cases q : r = 37
    · subst q; rw [hl 0 (by decide)]; exact l3
    · rw [hF 37 (by decide) (by omega) (by omega)]; exact l3
  · rw [hF 46 (by decide) (by omega) (by omega)]; exact l4
  · rw [hF 40 (by decide) (by omega) (by omega)]; exact l5
  · rw [hF 42 (by decide) (by omega) (by omega)]; exact l6
  · rw [hF 44 (by decide) (by omega) (by omega)]; exact l7
  · rw [eE, h25 11 (by decide)]; exact e
  · rw [eSh]; exact sh.frame (fun c q1 q2 => hF c (by omega) (by omega) (by omega))
  · rw [eFi, h25 12 (by decide)]; exact fi
theorem c_loan {A : AB} {σ : St} (x1 x2 x3 x4 : Int32) (h : RC A σ) (hA : okAB A) : isC (M7_loan x1 x2 x3 x4 σ) σ (sLoan x1 x2 x3 x4 A) := by
  unfold M7_loan
  have hmay : M7_mayBeLoan x1 x2 x3 x4 σ = some (if inb x1 40 ∧ inb x2 8 ∧ inb x3 6 ∧ 1 ≤ x4.toInt ∧ x4.toInt ≤ 9 then 1 else 0, σ) := by
    unfold M7_mayBeLoan
    rw [e7_isBelow x1 40 σ (n := 40) rfl (by decide), bind_s]
    by_cases q1 : inb x1 40
    · rw [if_pos q1, if_neg (by decide), e7_isBelow x2 8 σ (n := 8) rfl (by decide), bind_s]
      by_cases q2 : inb x2 8
      · rw [if_pos q2, if_neg (by decide), e7_isBelow x3 6 σ (n := 6) rfl (by decide), bind_s]
        by_cases q3 : inb x3 6
        · rw [if_pos q3, if_neg (by decide), it2 (e := 1 ≤ x4.toInt ∧ x4.toInt ≤ 9) (by rw [i32_lt, i32_lt]; have e1 : (1 : Int32).toInt = 1 := rfl; have e9 : (9 : Int32).toInt = 9 := rfl; omega)]
          rw [itx (c := 1 ≤ x4.toInt ∧ x4.toInt ≤ 9) (d := inb x1 40 ∧ inb x2 8 ∧ inb x3 6 ∧ 1 ≤ x4.toInt ∧ x4.toInt ≤ 9) ⟨fun z => ⟨q1, q2, q3, z⟩, fun z => z.2.2.2⟩]
        · rw [if_neg q3, if_pos rfl, if_neg (fun z => q3 z.2.2.1)]
      · rw [if_neg q2, if_pos rfl, if_neg (fun z => q2 z.2.1)]
    · rw [if_neg q1, if_pos rfl, if_neg (fun z => q1 z.1)]
  rw [hmay, bind_s]
  unfold sLoan
  by_cases q : inb x1 40 ∧ inb x2 8 ∧ inb x3 6 ∧ 1 ≤ x4.toInt ∧ x4.toInt ≤ 9
  · rw [if_pos q, if_pos q, if_neg (by decide)]
    have hr : rC σ 33 (aL A) := h.2.2.1
    have hl := h.2.2.2.2.2.2.1
    rw [e4_isFull hr hl.1 (by decide), bind_s]
    by_cases hlt : (aL A).length < 12
    · rw [if_pos hlt, if_pos hlt, if_pos rfl]
      obtain ⟨k1, a1, rfl, b1⟩ := inb_ex q.1
      obtain ⟨k2, a2, rfl, b2⟩ := inb_ex q.2.1
      obtain ⟨k3, a3, rfl, b3⟩ := inb_ex q.2.2.1
      obtain ⟨k4, rfl, c4, d4⟩ := one_nine q.2.2.2
      rw [nI_clamp b1, nI_clamp b2, nI_clamp b3, nI_clamp (by omega)]
      unfold isC
      rw [ok_lt]
      refine ok_call (t4_add (σ := s2 σ 25 5 1) (r := 33) (lim := 12) (L := aL A) (hr.frame (s2_ne (by decide)) (s2_ne (by decide))) (by rw [s2_nk (by decide)]; exact hl.1) (by decide) hlt (by show 4 * ((aL A).length + 1) ≤ 48; omega)) ?_
      rintro v σ' ⟨rfl, hr', hj, hF⟩
      rw [ok_some]
      refine ⟨rfl, RC_rows (r := 33) h (Or.inl rfl) (fun c q1 q2 q3 => by rw [hF c q2 q3, s2_ne q1]) (fun j q => by rw [hF 25 (by decide) (by decide), s2_nj q]) (by rw [hF 25 (by decide) (by decide), s2_eq]) (fun j q => by rw [hj j q, s2_nk (by decide)]) rfl rfl rfl rfl rfl rfl (fun _ => hr') (fun q => by cases q) (fun q => by cases q) (fun q => absurd rfl q) (fun _ => rfl) (fun _ => rfl), fun c q => by rw [hF c (by omega) (by omega), s2_ne (by omega)]⟩
    · rw [if_neg hlt, if_neg hlt, if_neg (by decide)]
      exact isC_same h rfl
  · rw [if_neg q, if_neg q, if_pos rfl]
    exact isC_same h rfl
theorem t7_tell {σ : St} {r : Nat} {L : List Q4} (x1 x2 : Int32) (hr : rC σ r L) (hl : σ r 0 = nI 8) (hrr : r = 35 ∨ r = 37) : Ok (M7_tell r x1 x2 σ) (fun v σ' => if inb x1 40 ∧ inb x2 8 then (if L.length < 8 then v = nI (L.length + 1) ∧ rC σ' r (L ++ [(x1.toNatClampNeg, x2.toNatClampNeg, 0, 0)]) ∧ σ' 25 5 = 1 ∧ (∀ j, j ≠ 5 → σ' 25 j = σ 25 j) ∧ (∀ j, j ≠ 2 → σ' r j = σ r j) ∧ ∀ c, c ≠ 25 → c ≠ r → c ≠ r + 1 → σ' c = σ c else v = -4 ∧ σ' = σ) else v = -2 ∧ σ' = σ) := by
  unfold M7_tell
  rw [e7_isBelow x1 40 σ (n := 40) rfl (by decide), bind_s]
  by_cases q1 : inb x1 40
  · rw [if_pos q1, if_neg (by decide), e7_isBelow x2 8 σ (n := 8) rfl (by decide), bind_s]
    by_cases q2 : inb x2 8
    · rw [if_pos q2, if_neg (by decide), e4_isFull hr hl (by decide), bind_s]
      simp only [if_pos (And.intro q1 q2)]
      by_cases hlt : L.length < 8
      · simp only [if_pos hlt]
        rw [if_pos trivial, ok_lt]
        obtain ⟨k1, a1, rfl, b1⟩ := inb_ex q1
        obtain ⟨k2, a2, rfl, b2⟩ := inb_ex q2
        rw [nI_clamp b1, nI_clamp b2]
        have hln : ln (r + 1) = 32 := by rcases hrr with rfl | rfl <;> rfl
        refine ok_call (t4_add (σ := s2 σ 25 5 1) (r := r) (lim := 8) (c := 0) (d := 0) (L := L) (hr.frame (s2_ne (by omega)) (s2_ne (by omega))) (by rw [s2_nk (by omega)]; exact hl) (by decide) hlt (by omega)) ?_
        rintro v σ' ⟨rfl, hr', hj, hF⟩
        rw [ok_some]
        exact ⟨rfl, hr', by rw [hF 25 (by omega) (by omega), s2_eq], fun j q => by rw [hF 25 (by omega) (by omega), s2_nj q], fun j q => by rw [hj j q, s2_nk (by omega)], fun c z1 z2 z3 => by rw [hF c z2 z3, s2_ne z1]⟩
      · simp only [if_neg hlt]
        rw [if_neg (by decide), ok_some]; exact ⟨rfl, rfl⟩
    · simp only [if_neg q2, if_neg (fun z : inb x1 40 ∧ inb x2 8 => q2 z.2)]
      rw [if_pos trivial, ok_some]; exact ⟨rfl, rfl⟩
  · simp only [if_neg q1, if_neg (fun z : inb x1 40 ∧ inb x2 8 => q1 z.1)]
    rw [if_pos trivial, ok_some]; exact ⟨rfl, rfl⟩
theorem c_fill {A : AB} {σ : St} (x1 x2 : Int32) (h : RC A σ) (hA : okAB A) : isC (M7_fill x1 x2 σ) σ (sFill x1 x2 A) := by
  unfold M7_fill sFill
  refine ok_call (t7_tell (r := 35) x1 x2 h.2.2.2.1 h.2.2.2.2.2.2.1.2.1 (Or.inl rfl)) ?_
  intro v σ' hp
  rw [ok_some]
  by_cases q : inb x1 40 ∧ inb x2 8
  · rw [if_pos q] at hp ⊢
    by_cases hlt : (aF A).length < 8
    · rw [if_pos hlt] at hp ⊢
      obtain ⟨rfl, hr', h5, h25, hj, hF⟩ := hp
      exact ⟨rfl, RC_rows (r := 35) h (Or.inr (Or.inl rfl)) hF h25 h5 hj rfl rfl rfl rfl rfl rfl (fun q => by cases q) (fun _ => hr') (fun q => by cases q) (fun _ => rfl) (fun q => absurd rfl q) (fun _ => rfl), fun c z => hF c (by omega) (by omega) (by omega)⟩
    · rw [if_neg hlt] at hp ⊢
      obtain ⟨rfl, rfl⟩ := hp
      exact ⟨rfl, h, loC.rf⟩
  · rw [if_neg q] at hp ⊢
    obtain ⟨rfl, rfl⟩ := hp
    exact ⟨rfl, h, loC.rf⟩
theorem c_patch {A : AB} {σ : St} (x1 x2 : Int32) (h : RC A σ) (hA : okAB A) : isC (M7_patch x1 x2 σ) σ (sPatch x1 x2 A) := by
  unfold M7_patch sPatch
  refine ok_call (t7_tell (r := 37) x1 x2 h.2.2.2.2.1 h.2.2.2.2.2.2.1.2.2.1 (Or.inr rfl)) ?_
  intro v σ' hp
  rw [ok_some]
  by_cases q : inb x1 40 ∧ inb x2 8
  · rw [if_pos q] at hp ⊢
    by_cases hlt : (aP A).length < 8
    · rw [if_pos hlt] at hp ⊢
      obtain ⟨rfl, hr', h5, h25, hj, hF⟩ := hp
      exact ⟨rfl, RC_rows (r := 37) h (Or.inr (Or.inr rfl)) hF h25 h5 hj rfl rfl rfl rfl rfl rfl (fun q => by cases q) (fun q => by cases q) (fun _ => hr') (fun _ => rfl) (fun _ => rfl) (fun q => absurd rfl q), fun c z => hF c (by omega) (by omega) (by omega)⟩
    · rw [if_neg hlt] at hp ⊢
      obtain ⟨rfl, rfl⟩ := hp
      exact ⟨rfl, h, loC.rf⟩
  · rw [if_neg q] at hp ⊢
    obtain ⟨rfl, rfl⟩ := hp
    exact ⟨rfl, h, loC.rf⟩
def sBack (x : Int32) (A : AB) : Sp := if inb x 3 then (let L := if x = 0 then aL A else if x = 1 then aF A else aP A; if L.length = 0 then (-3, A) else (nI (L.length - 1), if x = 0 then setL A L.dropLast else if x = 1 then setF A L.dropLast else setP A L.dropLast)) else (-2, A)
theorem t7_backJ {σ : St} {r : Nat} {L : List Q4} (hr : rC σ r L) (hrr : r = 33 ∨ r = 35 ∨ r = 37) : Ok (M7_back_J47 r σ) (fun v σ' => if L.length = 0 then v = -3 ∧ σ' = σ else v = nI (L.length - 1) ∧ rC σ' r L.dropLast ∧ σ' 25 5 = 1 ∧ (∀ j, j ≠ 5 → σ' 25 j = σ 25 j) ∧ (∀ j, j ≠ 2 → σ' r j = σ r j) ∧ ∀ c, c ≠ 25 → c ≠ r → c ≠ r + 1 → σ' c = σ c) := by
  unfold M7_back_J47
  have hr' := hr
  obtain ⟨h1, h2, h3, -⟩ := hr'
  rw [h1]
  by_cases h0 : L.length = 0
  · simp only [if_pos h0]
    refine ok_T (by rw [h0]; rfl) ?_
    rw [ok_some]; exact ⟨rfl, rfl⟩
  · simp only [if_neg h0]
    refine ok_F (fun q => h0 ((nI_eq (b := 0) (by omega) (by decide)).mp q)) ?_
    rw [ok_lt, s2_nk (by omega), h1, show nI L.length - 1 = nI (L.length - 1) from pk_sub (b := 1) (by omega)]
    refine ok_call (t4_drop (σ := s2 σ 25 5 1) (r := r) (k := L.length - 1) (L := L) (hr.frame (s2_ne (by omega)) (s2_ne (by omega))) (by omega)) ?_
    rintro v σ' ⟨rfl, hr2, hj, hF⟩
    rw [ok_some]
    rw [dropLast_er] at hr2
    exact ⟨rfl, hr2, by rw [hF 25 (by omega) (by omega), s2_eq], fun j q => by rw [hF 25 (by omega) (by omega), s2_nj q], fun j q => by rw [hj j q, s2_nk (by omega)], fun c z1 z2 z3 => by rw [hF c z2 z3, s2_ne z1]⟩
theorem c_back {A : AB} {σ : St} (x : Int32) (h : RC A σ) (hA : okAB A) : isC (M7_back x σ) σ (sBack x A) := by
  unfold M7_back sBack
  rw [e7_isBelow x 3 σ (n := 3) rfl (by decide), bind_s]
  by_cases q : inb x 3
  · rw [if_pos q, if_neg (by decide), if_pos q]
    obtain ⟨k, hk, rfl, hk2⟩ := inb_ex q
    rcases (show k = 0 ∨ k = 1 ∨ k = 2 by omega) with rfl | rfl | rfl
    · rw [if_pos (show nI 0 = 0 from rfl)]
      dsimp only
      simp only [show (nI 0 = 0) = True from eq_true rfl, if_true]
      refine (t7_backJ (r := 33) h.2.2.1 (Or.inl rfl)).mono (fun v σ' hp => ?_)
      by_cases h0 : (aL A).length = 0
      · rw [if_pos h0] at hp ⊢
        obtain ⟨rfl, rfl⟩ := hp
        exact ⟨rfl, h, loC.rf⟩
      · rw [if_neg h0] at hp ⊢
        obtain ⟨rfl, hr', h5, h25, hj, hF⟩ := hp
        exact ⟨rfl, RC_rows (r := 33) h (Or.inl rfl) hF h25 h5 hj rfl rfl rfl rfl rfl rfl (fun _ => hr') (fun q => by cases q) (fun q => by cases q) (fun q => absurd rfl q) (fun _ => rfl) (fun _ => rfl), fun c z => hF c (by omega) (by omega) (by omega)⟩
    · rw [if_neg (show ¬ nI 1 = 0 by decide), if_pos (show nI 1 = 1 from rfl)]
      dsimp only
      simp only [show (nI 1 = 0) = False from eq_false (by decide), show (nI 1 = 1) = True from eq_true rfl, if_true, if_false]
      refine (t7_backJ (r := 35) h.2.2.2.1 (Or.inr (Or.inl rfl))).mono (fun v σ' hp => ?_)
      by_cases h0 : (aF A).length = 0
      · rw [if_pos h0] at hp ⊢
        obtain ⟨rfl, rfl⟩ := hp
        exact ⟨rfl, h, loC.rf⟩
      · rw [if_neg h0] at hp ⊢
        obtain ⟨rfl, hr', h5, h25, hj, hF⟩ := hp
        exact ⟨rfl, RC_rows (r := 35) h (Or.inr (Or.inl rfl)) hF h25 h5 hj rfl rfl rfl rfl rfl rfl (fun q => by cases q) (fun _ => hr') (fun q => by cases q) (fun _ => rfl) (fun q => absurd rfl q) (fun _ => rfl), fun c z => hF c (by omega) (by omega) (by omega)⟩
    · rw [if_neg (show ¬ nI 2 = 0 by decide), if_neg (show ¬ nI 2 = 1 by decide)]
      dsimp only
      simp only [show (nI 2 = 0) = False from eq_false (by decide), show (nI 2 = 1) = False from eq_false (by decide), if_false]
      refine (t7_backJ (r := 37) h.2.2.2.2.1 (Or.inr (Or.inr rfl))).mono (fun v σ' hp => ?_)
      by_cases h0 : (aP A).length = 0
      · rw [if_pos h0] at hp ⊢
        obtain ⟨rfl, rfl⟩ := hp
        exact ⟨rfl, h, loC.rf⟩
      · rw [if_neg h0] at hp ⊢
        obtain ⟨rfl, hr', h5, h25, hj, hF⟩ := hp
        exact ⟨rfl, RC_rows (r := 37) h (Or.inr (Or.inr rfl)) hF h25 h5 hj rfl rfl rfl rfl rfl rfl (fun q => by cases q) (fun q => by cases q) (fun _ => hr') (fun _ => rfl) (fun _ => rfl) (fun q => absurd rfl q), fun c z => hF c (by omega) (by omega) (by omega)⟩
  · rw [if_neg q, if_pos rfl, if_neg q]
    exact isC_same h rfl
/-- a slot of the bank itself, or the sights, or the sheets were changed: the course stays -/
theorem RC_small {A A' : AB} {σ σ' : St} (hA : okAB A) (h : RC A σ) (hF : ∀ c, c ≠ 25 → c ≠ 46 → c ≠ 47 → c < 90 → σ' c = σ c) (h5 : σ' 25 5 = σ 25 5) (h46 : σ' 46 0 = σ 46 0) (e0 : a0 A' = a0 A) (e1 : a1 A' = a1 A) (eL : aL A' = aL A) (eF : aF A' = aF A) (eP : aP A' = aP A) (cS : rC σ' 46 (aS A')) (cE : σ' 25 11 = nI (aE A')) (cSh : shC σ' (aSh A')) (cFi : σ' 25 12 = nI (aFi A')) : RC A' σ' := by
  obtain ⟨t0, t1, r1, r2, r3, r4, ⟨l1, l2, l3, l4, l5, l6, l7⟩, e, sh, fi, st⟩ := h
  refine ⟨?_, ?_, ?_, ?_, ?_, cS, ⟨?_, ?_, ?_, ?_, ?_, ?_, ?_⟩, cE, cSh, cFi, ?_⟩
  · rw [e0]; exact t0.frame (hF _ (by decide) (by decide) (by decide) (by decide)) (hF _ (by decide) (by decide) (by decide) (by decide)) (hF _ (by decide) (by decide) (by decide) (by decide))
  · rw [e1]; exact t1.frame (hF _ (by decide) (by decide) (by decide) (by decide)) (hF _ (by decide) (by decide) (by decide) (by decide)) (hF _ (by decide) (by decide) (by decide) (by decide))
  · rw [eL]; exact r1.frame (hF _ (by decide) (by decide) (by decide) (by decide)) (hF _ (by decide) (by decide) (by decide) (by decide))
  · rw [eF]; exact r2.frame (hF _ (by decide) (by decide) (by decide) (by decide)) (hF _ (by decide) (by decide) (by decide) (by decide))
  · rw [eP]; exact r3.frame (hF _ (by decide) (by decide) (by decide) (by decide)) (hF _ (by decide) (by decide) (by decide) (by decide))
  · rw [hF 33 (by decide) (by decide) (by decide) (by decide)]; exact l1
  · rw [hF 35 (by decide) (by decide) (by decide) (by decide)]; exact l2
  · rw [hF 37 (by decide) (by decide) (by decide) (by decide)]; exact l3
  · rw [h46]; exact l4
  · rw [hF 40 (by decide) (by decide) (by decide) (by decide)]; exact l5
  · rw [hF 42 (by decide) (by decide) (by decide) (by decide)]; exact l6
  · rw [hF 44 (by decide) (by decide) (by decide) (by decide)]; exact l7
  · have eh : hdA A' = hdA A := by unfold hdA; rw [e0]
    have eb : bkA A' = bkA A := by unfold bkA; rw [eL, eF, eP]
    unfold stC
    rw [h5, eh, eb]
    rcases st with s | ⟨s, f⟩
    · exact Or.inl s
    · exact Or.inr ⟨s, f.frame (itm_hd hA) (fun c q1 q2 => hF c (by omega) (by omega) (by omega) (by omega))⟩
def sEase (x : Int32) (A : AB) : Sp := if inb x 9 then (nI (aE A), setE A x.toNatClampNeg) else (-2, A)
theorem c_ease {A : AB} {σ : St} (x : Int32) (h : RC A σ) (hA : okAB A) : isC (M7_ease x σ) σ (sEase x A) := by
  unfold M7_ease sEase
  rw [e7_isBelow x 9 σ (n := 9) rfl (by decide), bind_s]
  by_cases q : inb x 9
  · rw [if_pos q, if_neg (by decide), if_pos q]
    unfold isC
    obtain ⟨k, hk, rfl, hk2⟩ := inb_ex q
    rw [ok_lt, ok_lt, ok_some, nI_clamp hk2]
    have hr := h.2.2.2.2.2.1
    refine ⟨h.2.2.2.2.2.2.2.1, RC_small hA h (fun c z1 z2 z3 z4 => s2_ne z1) (s2_nj (by decide)) (s2_nk (by decide)) rfl rfl rfl rfl rfl (hr.frame (s2_ne (by decide)) (s2_ne (by decide))) s2_eq (h.2.2.2.2.2.2.2.2.1.frame (fun c z1 z2 => s2_ne (by omega))) (by rw [s2_nj (by decide)]; exact h.2.2.2.2.2.2.2.2.2.1), fun c z => s2_ne (by omega)⟩
  · rw [if_neg q, if_pos rfl, if_neg q]
    exact isC_same h rfl
theorem c_seen {A : AB} {σ : St} (x1 x2 x3 : Int32) (h : RC A σ) (hA : okAB A) : isC (M7_seen x1 x2 x3 σ) σ (sSeen x1 x2 x3 A) := by
  unfold M7_seen sSeen
  have hr := h.2.2.2.2.2.1
  have hl := h.2.2.2.2.2.2.1.2.2.2.1
  rw [e7_isBelow x1 40 σ (n := 40) rfl (by decide), bind_s]
  by_cases q1 : inb x1 40
  · rw [if_pos q1, if_neg (by decide), e7_isBelow x2 8 σ (n := 8) rfl (by decide), bind_s]
    by_cases q2 : inb x2 8
    · rw [if_pos q2, if_neg (by decide), e7_isBelow x3 10 σ (n := 10) rfl (by decide), bind_s]
      by_cases q3 : inb x3 10
      · rw [if_pos q3, if_neg (by decide), e4_isFull hr hl (by decide), bind_s, if_pos (show inb x1 40 ∧ inb x2 8 ∧ inb x3 10 from ⟨q1, q2, q3⟩)]
        by_cases hlt : (aS A).length < 8
        · rw [if_pos hlt, if_pos rfl, if_pos hlt]
          obtain ⟨k1, a1, rfl, b1⟩ := inb_ex q1
          obtain ⟨k2, a2, rfl, b2⟩ := inb_ex q2
          obtain ⟨k3, a3, rfl, b3⟩ := inb_ex q3
          rw [nI_clamp b1, nI_clamp b2, nI_clamp b3]
          unfold isC
          refine ok_call (t4_add (σ := σ) (r := 46) (lim := 8) (d := 0) (L := aS A) hr hl (by decide) hlt (by show 4 * ((aS A).length + 1) ≤ 32; omega)) ?_
          rintro v σ' ⟨rfl, hr', hj, hF⟩
          rw [ok_some]
          refine ⟨rfl, RC_small hA h (fun c z1 z2 z3 z4 => hF c z2 z3) (by rw [hF 25 (by decide) (by decide)]) (hj 0 (by decide)) rfl rfl rfl rfl rfl hr' (by rw [hF 25 (by decide) (by decide)]; exact h.2.2.2.2.2.2.2.1) (h.2.2.2.2.2.2.2.2.1.frame (fun c z1 z2 => hF c (by omega) (by omega))) (by rw [hF 25 (by decide) (by decide)]; exact h.2.2.2.2.2.2.2.2.2.1), fun c z => hF c (by omega) (by omega)⟩
        · rw [if_neg hlt, if_neg (by decide), if_neg hlt]
          exact isC_same h rfl
      · rw [if_neg q3, if_pos rfl, if_neg (fun z => q3 z.2.2)]
        exact isC_same h rfl
    · rw [if_neg q2, if_pos rfl, if_neg (fun z => q2 z.2.1)]
      exact isC_same h rfl
  · rw [if_neg q1, if_pos rfl, if_neg (fun z => q1 z.1)]
    exact isC_same h rfl
def sForget (A : AB) : Sp := (nI (aS A).length, setS A [])
theorem c_forget {A : AB} {σ : St} (h : RC A σ) (hA : okAB A) : isC (M7_forget σ) σ (sForget A) := by
  unfold M7_forget sForget M4_clear isC
  have hr := h.2.2.2.2.2.1
  rw [ok_lt, ok_bind, ok_lt, ok_some, ok_some]
  refine ⟨hr.1, RC_small hA h (fun c z1 z2 z3 z4 => s2_ne z2) (s2_nk (by decide)) (s2_nj (by decide)) rfl rfl rfl rfl rfl ⟨s2_eq, Nat.zero_le _, hr.2.2.1, fun k c hk => absurd hk (Nat.not_lt_zero k)⟩ (by rw [s2_nk (by decide)]; exact h.2.2.2.2.2.2.2.1) (h.2.2.2.2.2.2.2.2.1.frame (fun c z1 z2 => s2_ne (by omega))) (by rw [s2_nk (by decide)]; exact h.2.2.2.2.2.2.2.2.2.1), fun c z => s2_ne (by omega)⟩
