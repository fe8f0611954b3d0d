def sType (x y : Int32) (A : AB) : Sp := if inb x 2 ∧ inb y 256 then (if (tx A x.toNatClampNeg).length < 39 then (nI ((tx A x.toNatClampNeg).length + 1), setT A x.toNatClampNeg (tx A x.toNatClampNeg ++ [y.toNatClampNeg])) else (-4, A)) else (-2, A)
def sWipe (x : Int32) (A : AB) : Sp := if inb x 2 then (nI (tx A x.toNatClampNeg).length, setT A x.toNatClampNeg []) else (-2, A)
def sUndo (x : Int32) (A : AB) : Sp := if inb x 2 then (if (tx A x.toNatClampNeg).length = 0 then (-3, A) else (nI ((tx A x.toNatClampNeg).length - 1), setT A x.toNatClampNeg (tx A x.toNatClampNeg).dropLast)) else (-2, A)
def sFault (x : Int32) (A : AB) : Sp := if inb x 2 then (oI (fpos x.toNatClampNeg (tx A x.toNatClampNeg)), A) else (-2, A)
theorem RC_tx {A : AB} {σ : St} {t : Nat} (h : RC A σ) (ht : t < 2) : tC σ t (26 + 3 * t) (tx A t) := by
  rcases (show t = 0 ∨ t = 1 by omega) with rfl | rfl
  · exact h.1
  · exact h.2.1
/-- a text of the class was changed -/
theorem RC_text {A : AB} {σ σ' : St} {t : Nat} {b : List Nat} (h : RC A σ) (ht : t < 2) (hT : tC σ' t (26 + 3 * t) b) (h5 : σ' 25 5 = 1) (h25 : ∀ j, j ≠ 5 → σ' 25 j = σ 25 j) (hF : ∀ c, c ≠ 25 → c ≠ 26 + 3 * t → c ≠ 26 + 3 * t + 1 → c ≠ 26 + 3 * t + 2 → σ' c = σ c) : RC (setT A t b) σ' := by
  obtain ⟨t0, t1, r1, r2, r3, r4, ⟨l1, l2, l3, l4, l5, l6, l7⟩, e, sh, fi, st⟩ := h
  have z : ∀ c, 32 ≤ c → σ' c = σ c := fun c hc => hF c (by omega) (by omega) (by omega) (by omega)
  have rest : rC σ' 33 (aL A) ∧ rC σ' 35 (aF A) ∧ rC σ' 37 (aP A) ∧ rC σ' 46 (aS A) ∧ lmC σ' ∧ σ' 25 11 = nI (aE A) ∧ shC σ' (aSh A) ∧ σ' 25 12 = nI (aFi A) := by
    refine ⟨r1.frame (z _ (by decide)) (z _ (by decide)), r2.frame (z _ (by decide)) (z _ (by decide)), r3.frame (z _ (by decide)) (z _ (by decide)), r4.frame (z _ (by decide)) (z _ (by decide)), ?_, by rw [h25 11 (by decide)]; exact e, sh.frame (fun c q1 q2 => z c (by omega)), by rw [h25 12 (by decide)]; exact fi⟩
    unfold lmC; rw [z 33 (by decide), z 35 (by decide), z 37 (by decide), z 46 (by decide), z 40 (by decide), z 42 (by decide), z 44 (by decide)]; exact ⟨l1, l2, l3, l4, l5, l6, l7⟩
  rcases (show t = 0 ∨ t = 1 by omega) with rfl | rfl
  · exact ⟨hT, t1.frame (hF _ (by decide) (by decide) (by decide) (by decide)) (hF _ (by decide) (by decide) (by decide) (by decide)) (hF _ (by decide) (by decide) (by decide) (by decide)), rest.1, rest.2.1, rest.2.2.1, rest.2.2.2.1, rest.2.2.2.2.1, rest.2.2.2.2.2.1, rest.2.2.2.2.2.2.1, rest.2.2.2.2.2.2.2, Or.inl h5⟩
  · exact ⟨t0.frame (hF _ (by decide) (by decide) (by decide) (by decide)) (hF _ (by decide) (by decide) (by decide) (by decide)) (hF _ (by decide) (by decide) (by decide) (by decide)), hT, rest.1, rest.2.1, rest.2.2.1, rest.2.2.2.1, rest.2.2.2.2.1, rest.2.2.2.2.2.1, rest.2.2.2.2.2.2.1, rest.2.2.2.2.2.2.2, Or.inl h5⟩
theorem getD_app {b : List Nat} {x i : Nat} : (b ++ [x]).getD i 0 = if i < b.length then b.getD i 0 else if i = b.length then x else 0 := by
  rw [List.getD_eq_getElem?_getD, List.getD_eq_getElem?_getD]
  by_cases h : i < b.length
  · rw [if_pos h, List.getElem?_append_left h]
  · rw [if_neg h, List.getElem?_append_right (by omega)]
    by_cases e : i = b.length
    · subst e; simp
    · rw [if_neg e]
      cases hk : i - b.length with
      | zero => omega
      | succ m => simp
theorem e7_textOf {t : Nat} (ht : t < 2) (σ : St) : M7_textOf (nI t) σ = some (26 + 3 * t, σ) := by
  unfold M7_textOf
  rcases (show t = 0 ∨ t = 1 by omega) with rfl | rfl <;> rfl
theorem kd_tx {t : Nat} (ht : t < 2) : kd (26 + 3 * t) = 6 := by rcases (show t = 0 ∨ t = 1 by omega) with rfl | rfl <;> rfl
theorem c_type {A : AB} {σ : St} (x y : Int32) (h : RC A σ) (hA : okAB A) : isC (M7_type x y σ) σ (sType x y A) := by
  unfold M7_type sType
  rw [e7_isBelow x 2 σ (n := 2) rfl (by decide), bind_s]
  by_cases q1 : inb x 2
  · rw [if_pos q1, if_neg (by decide), e7_isBelow y 256 σ (n := 256) rfl (by decide), bind_s]
    by_cases q2 : inb y 256
    · rw [if_pos q2, if_neg (by decide), if_pos (show inb x 2 ∧ inb y 256 from ⟨q1, q2⟩)]
      obtain ⟨t, ht, rfl, hx⟩ := inb_ex q1
      obtain ⟨k, hk, rfl, hy⟩ := inb_ex q2
      rw [e7_textOf ht, bind_s, if_pos (kd_tx ht), nI_clamp hx, nI_clamp hy]
      have hT := RC_tx h ht
      generalize hb : tx A t = b at hT
      generalize ho : 26 + 3 * t = o at hT
      obtain ⟨⟨o1, o2, o5, ol, ob, ob2, oa, oc⟩, of, oi, og⟩ := id hT
      rw [o5]
      by_cases hlt : b.length < 39
      · rw [if_pos hlt]
        unfold isC
        refine ok_T ((nI_ltI (b := 39) (by omega) (by decide)).mpr hlt) ?_
        rw [ok_lt]
        unfold M6_append
        rw [s2_nk (by omega), o5, if_neg (fun q => by have := (nI_leI (a := 39) (by decide) (by omega)).mp q; omega), if_pos ((inb_nI (by omega)).mpr hlt), nI_clamp (n := b.length) (by omega)]
        rw [ok_bind, ok_lt, ok_lt, s2_nk (by omega), s2_nk (by omega), o5, nI_1]
        have hT' : tC0 (s2 (s2 (s2 σ 25 5 1) (o + 1) b.length (nI k)) o 5 (nI (b.length + 1))) t o (b ++ [k]) := by
          refine ⟨o1, o2, ?_, ?_, fun i hi => ?_, fun i => ?_, ?_, ?_⟩
          · rw [s2_eq, List.length_append]; rfl
          · rw [List.length_append]; show b.length + 1 ≤ 39; omega
          · rw [List.length_append] at hi
            have hi' : i < b.length + 1 := hi
            rw [s2_nk (by omega), getD_app]
            by_cases e : i < b.length
            · rw [if_pos e, s2_nj (by omega), s2_nk (by omega)]; exact ob i e
            · rw [if_neg e, if_pos (by omega), show i = b.length by omega, s2_eq]
          · rw [getD_app]; split
            · exact ob2 i
            · split <;> omega
          · rw [s2_nj (by decide), s2_nk (by omega), s2_nk (by omega)]; exact oa
          · rw [s2_nj (by decide), s2_nk (by omega), s2_nk (by omega)]; exact oc
        refine ok_call (t6_parse hT') ?_
        rintro - σ' ⟨hF, hC⟩
        rw [ok_some, ok_some]
        have z : ∀ c, c ≠ 25 → c ≠ o → c ≠ o + 1 → c ≠ o + 2 → σ' c = σ c := fun c z1 z2 z3 z4 => by rw [hF.1 c z2 z4, s2_ne z2, s2_ne z3, s2_ne z1]
        have z25 : σ' 25 = s2 σ 25 5 1 25 := by rw [hF.1 25 (by omega) (by omega), s2_ne (by omega), s2_ne (by omega)]
        subst ho
        refine ⟨?_, RC_text h ht hC (by rw [z25, s2_eq]) (fun j q => by rw [z25, s2_nj q]) z, fun c q => z c (by omega) (by omega) (by omega) (by omega)⟩
        rw [hC.1.2.2.1, List.length_append]; rfl
      · rw [if_neg hlt]
        unfold isC
        refine ok_F (fun q => hlt ((nI_ltI (b := 39) (by omega) (by decide)).mp q)) ?_
        exact isC_same h rfl
    · rw [if_neg q2, if_pos rfl, if_neg (fun z => q2 z.2)]
      exact isC_same h rfl
  · rw [if_neg q1, if_pos rfl, if_neg (fun z => q1 z.1)]
    exact isC_same h rfl
theorem t6_shorten {σ : St} {t o n : Nat} {b : List Nat} (hT : tC0 σ t o b) (hn : n ≤ b.length) : Ok (M6_shorten o (nI n) σ) (fun _ σ' => tC σ' t o (b.take n) ∧ (∀ c, c ≠ o → c ≠ o + 2 → σ' c = σ c)) := by
  obtain ⟨o1, o2, o5, ol, ob, ob2, oa, oc⟩ := hT
  unfold M6_shorten
  rw [ok_lt]
  have hlen : (b.take n).length = n := by rw [List.length_take]; omega
  have hg : ∀ i, (b.take n).getD i 0 = if i < n then b.getD i 0 else 0 := by
    intro i
    rw [List.getD_eq_getElem?_getD, List.getElem?_take]
    split
    · rw [List.getD_eq_getElem?_getD]
    · rfl
  have hT' : tC0 (s2 σ o 5 (nI n)) t o (b.take n) := by
    refine ⟨o1, o2, by rw [s2_eq, hlen], by omega, fun i hi => ?_, fun i => ?_, by rw [s2_nj (by decide)]; exact oa, by rw [s2_nj (by decide)]; exact oc⟩
    · rw [hlen] at hi
      rw [s2_nk (by omega), hg, if_pos hi]; exact ob i (by omega)
    · rw [hg]; split
      · exact ob2 i
      · decide
  refine ok_call (t6_parse hT') ?_
  rintro - σ' ⟨hF, hC⟩
  rw [ok_some]
  exact ⟨hC, fun c q1 q2 => by rw [hF.1 c q1 q2, s2_ne q1]⟩
theorem c_wipe {A : AB} {σ : St} (x : Int32) (h : RC A σ) (hA : okAB A) : isC (M7_wipe x σ) σ (sWipe x A) := by
  unfold M7_wipe sWipe
  rw [e7_isBelow x 2 σ (n := 2) rfl (by decide), bind_s]
  by_cases q1 : inb x 2
  · rw [if_pos q1, if_neg (by decide), if_pos q1]
    obtain ⟨t, ht, rfl, hx⟩ := inb_ex q1
    rw [nI_clamp hx]
    have hT := RC_tx h ht
    generalize hb : tx A t = b at hT
    obtain ⟨⟨o1, o2, o5, ol, ob, ob2, oa, oc⟩, of, oi, og⟩ := id hT
    unfold isC
    rw [ok_lt, e7_textOf ht, bind_s, if_pos (kd_tx ht), ok_lt, s2_nk (by omega), o5]
    have hT0 : tC0 (s2 σ 25 5 1) t (26 + 3 * t) b := (hT.frame (s2_ne (by omega)) (s2_ne (by omega)) (s2_ne (by omega))).1
    refine ok_call (t6_shorten (n := 0) hT0 (Nat.zero_le _)) ?_
    rintro - σ' ⟨hC, hF⟩
    rw [ok_some]
    refine ⟨rfl, RC_text h ht (by simpa using hC) (by rw [hF 25 (by omega) (by omega), s2_eq]) (fun j q => by rw [hF 25 (by omega) (by omega), s2_nj q]) (fun c z1 z2 z3 z4 => by rw [hF c z2 z4, s2_ne z1]), fun c q => by rw [hF c (by omega) (by omega), s2_ne (by omega)]⟩
  · rw [if_neg q1, if_pos rfl, if_neg q1]
    exact isC_same h rfl
theorem c_undo {A : AB} {σ : St} (x : Int32) (h : RC A σ) (hA : okAB A) : isC (M7_undo x σ) σ (sUndo x A) := by
  unfold M7_undo sUndo
  rw [e7_isBelow x 2 σ (n := 2) rfl (by decide), bind_s]
  by_cases q1 : inb x 2
  · rw [if_pos q1, if_neg (by decide), if_pos q1]
    obtain ⟨t, ht, rfl, hx⟩ := inb_ex q1
    rw [nI_clamp hx]
    have hT := RC_tx h ht
    generalize hb : tx A t = b at hT
    obtain ⟨⟨o1, o2, o5, ol, ob, ob2, oa, oc⟩, of, oi, og⟩ := id hT
    rw [e7_textOf ht, bind_s, if_pos (kd_tx ht), o5]
    unfold isC
    by_cases h0 : b.length = 0
    · rw [if_pos h0]
      refine ok_T (by rw [h0]; rfl) ?_
      exact isC_same h rfl
    · rw [if_neg h0]
      refine ok_F (fun q => h0 ((nI_eq (b := 0) (by omega) (by decide)).mp q)) ?_
      rw [ok_lt, s2_nk (by omega), o5, show nI b.length - 1 = nI (b.length - 1) from pk_sub (b := 1) (by omega)]
      have hT0 : tC0 (s2 σ 25 5 1) t (26 + 3 * t) b := (hT.frame (s2_ne (by omega)) (s2_ne (by omega)) (s2_ne (by omega))).1
      refine ok_call (t6_shorten (n := b.length - 1) hT0 (by omega)) ?_
      rintro - σ' ⟨hC, hF⟩
      rw [ok_some]
      rw [← List.dropLast_eq_take] at hC
      refine ⟨?_, RC_text h ht hC (by rw [hF 25 (by omega) (by omega), s2_eq]) (fun j q => by rw [hF 25 (by omega) (by omega), s2_nj q]) (fun c z1 z2 z3 z4 => by rw [hF c z2 z4, s2_ne z1]), fun c q => by rw [hF c (by omega) (by omega), s2_ne (by omega)]⟩
      rw [hC.1.2.2.1, List.length_dropLast]
  · rw [if_neg q1, if_pos rfl, if_neg q1]
    exact isC_same h rfl
theorem c_fault {A : AB} {σ : St} (x : Int32) (h : RC A σ) (hA : okAB A) : isC (M7_fault x σ) σ (sFault x A) := by
  unfold M7_fault sFault
  rw [e7_isBelow x 2 σ (n := 2) rfl (by decide), bind_s]
  by_cases q1 : inb x 2
  · rw [if_pos q1, if_neg (by decide), if_pos q1]
    obtain ⟨t, ht, rfl, hx⟩ := inb_ex q1
    rw [nI_clamp hx, e7_textOf ht, bind_s, if_pos (kd_tx ht)]
    exact isC_same h (RC_tx h ht).2.1
  · rw [if_neg q1, if_pos rfl, if_neg q1]
    exact isC_same h rfl
-- the reference's texts
theorem RM_tx {A : AB} {σ : St} {t : Nat} (h : RM A σ) (ht : t < 2) : tM σ t (tx A t) := by
  rcases (show t = 0 ∨ t = 1 by omega) with rfl | rfl
  · exact h.1
  · exact h.2.1
theorem RM_text {A : AB} {σ σ' : St} {t : Nat} {b : List Nat} (h : RM A σ) (ht : t < 2) (hT : tM σ' t b) (h6 : ∀ j, j ≠ t → σ' 6 j = σ 6 j) (h5 : ∀ j, (j < 40 * t ∨ 40 * t + 40 ≤ j) → σ' 5 j = σ 5 j) (hF : ∀ c, c ≠ 5 → c ≠ 6 → σ' c = σ c) : RM (setT A t b) σ' := by
  obtain ⟨t0, t1, l, f, p, s, e, sh, fi, n1, n2⟩ := h
  have z := fun c h1 h2 => hF c h1 h2
  have rest : lM σ' (aL A) ∧ fM σ' (aF A) ∧ pM σ' (aP A) ∧ sM σ' (aS A) ∧ σ' 0 15 = nI (aE A) ∧ shM σ' (aSh A) ∧ σ' 0 4 = nI (aFi A) ∧ σ' 0 26 = -1 ∧ σ' 0 27 = -1 := by
    have z0 := hF 0 (by decide) (by decide)
    exact ⟨l.frame (by rw [z0]) (z 9 (by decide) (by decide)), f.frame (by rw [z0]) (z 10 (by decide) (by decide)), p.frame (by rw [z0]) (z 11 (by decide) (by decide)), s.frame (by rw [z0]) (z 23 (by decide) (by decide)), by rw [z0]; exact e, sh.frame (z 1 (by decide) (by decide)) (z 2 (by decide) (by decide)) (z 3 (by decide) (by decide)), by rw [z0]; exact fi, by rw [z0]; exact n1, by rw [z0]; exact n2⟩
  rcases (show t = 0 ∨ t = 1 by omega) with rfl | rfl
  · refine ⟨hT, ⟨by rw [h6 1 (by decide)]; exact t1.1, t1.2.1, fun i hi => ?_, t1.2.2.2⟩, rest⟩
    rw [h5 (40 * 1 + i) (by omega)]; exact t1.2.2.1 i hi
  · refine ⟨⟨by rw [h6 0 (by decide)]; exact t0.1, t0.2.1, fun i hi => ?_, t0.2.2.2⟩, hT, rest⟩
    have h39 := t0.2.1
    have hi' : i < (a0 A).length := hi
    rw [h5 (40 * 0 + i) (by omega)]; exact t0.2.2.1 i hi
theorem m_type {A : AB} {σ : St} (x y : Int32) (h : RM A σ) (hA : okAB A) : isM (M8_type x y σ) σ (sType x y A) := by
  unfold M8_type sType
  rw [e8_isTwo, bind_s]
  by_cases q1 : inb x 2
  · rw [if_pos q1, if_neg (by decide), e8_in0 y 255 σ (n := 256) rfl, bind_s]
    by_cases q2 : inb y 256
    · rw [if_pos q2, if_neg (by decide), if_pos q1, if_pos (show inb x 2 ∧ inb y 256 from ⟨q1, q2⟩)]
      obtain ⟨t, ht, rfl, hx⟩ := inb_ex q1
      obtain ⟨k, hk, rfl, hy⟩ := inb_ex q2
      rw [nI_clamp hx, nI_clamp hy]
      have hT := RM_tx h ht
      generalize hb : tx A t = b at hT
      obtain ⟨g1, g2, g3, g4'⟩ := id hT
      rw [g1]
      unfold isM
      by_cases hlt : b.length < 39
      · rw [if_pos hlt]
        refine ok_F (fun q => by have := (nI_eq (b := 39) (by omega) (by decide)).mp q; omega) ?_
        have x0 : (40 : Int32) * nI t + nI b.length = nI (40 * t + b.length) := by rw [show (40 : Int32) = nI 40 from rfl, pk_mul, nI_add]
        rw [x0]
        refine ok_T ((inb_nI (by omega)).mpr (by omega)) ?_
        have e6 : s2 σ 5 (40 * t + b.length) (nI k) 6 t = nI b.length := by rw [s2_nk (by decide), g1]
        rw [ok_lt, ok_lt, ok_some, nI_clamp (n := 40 * t + b.length) (by omega), e6, nI_1]
        refine ⟨s2_eq, RM_text h ht ⟨?_, ?_, fun i hi => ?_, fun i => ?_⟩ (fun j q => by rw [s2_nj q, s2_nk (by decide)]) (fun j q => by rw [s2_nk (by decide), s2_nj (by omega)]) (fun c q1 q2 => by rw [s2_ne q2, s2_ne q1]), fun c q => by rw [s2_ne (by omega), s2_ne (by omega)]⟩
        · rw [s2_eq, List.length_append]; rfl
        · rw [List.length_append]; show b.length + 1 ≤ 39; omega
        · rw [List.length_append] at hi
          have hi' : i < b.length + 1 := hi
          rw [s2_nk (by decide), getD_app]
          by_cases e : i < b.length
          · rw [if_pos e, s2_nj (by omega)]; exact g3 i e
          · rw [if_neg e, if_pos (by omega), show i = b.length by omega, s2_eq]
        · rw [getD_app]; split
          · exact g4' i
          · split <;> omega
      · rw [if_neg hlt]
        refine ok_T (by rw [show b.length = 39 by omega]; rfl) ?_
        exact isM_same h rfl
    · rw [if_neg q2, if_pos rfl, if_neg (fun z => q2 z.2)]
      exact isM_same h rfl
  · rw [if_neg q1, if_pos rfl, if_neg (fun z => q1 z.1)]
    exact isM_same h rfl
theorem m_wipe {A : AB} {σ : St} (x : Int32) (h : RM A σ) (hA : okAB A) : isM (M8_wipe x σ) σ (sWipe x A) := by
  unfold M8_wipe sWipe
  rw [e8_isTwo, bind_s]
  by_cases q1 : inb x 2
  · rw [if_pos q1, if_neg (by decide), if_pos q1, if_pos q1]
    obtain ⟨t, ht, rfl, hx⟩ := inb_ex q1
    rw [nI_clamp hx]
    have hT := RM_tx h ht
    unfold isM
    rw [ok_lt, ok_lt, ok_some]
    exact ⟨hT.1, RM_text h ht ⟨s2_eq, Nat.zero_le _, fun i hi => absurd hi (Nat.not_lt_zero i), fun i => by simp⟩ (fun j q => s2_nj q) (fun j q => by rw [s2_nk (by decide)]) (fun c q1 q2 => s2_ne q2), fun c q => s2_ne (by omega)⟩
  · rw [if_neg q1, if_pos rfl, if_neg q1]
    exact isM_same h rfl
theorem m_undo {A : AB} {σ : St} (x : Int32) (h : RM A σ) (hA : okAB A) : isM (M8_undo x σ) σ (sUndo x A) := by
  unfold M8_undo sUndo
  rw [e8_isTwo, bind_s]
  by_cases q1 : inb x 2
  · rw [if_pos q1, if_neg (by decide), if_pos q1, if_pos q1]
    obtain ⟨t, ht, rfl, hx⟩ := inb_ex q1
    rw [nI_clamp hx]
    have hT := RM_tx h ht
    generalize hb : tx A t = b at hT
    obtain ⟨g1, g2, g3, g4'⟩ := id hT
    rw [g1]
    unfold isM
    by_cases h0 : b.length = 0
    · rw [if_pos h0]
      refine ok_T (by rw [h0]; rfl) ?_
      exact isM_same h rfl
    · rw [if_neg h0]
      refine ok_F (fun q => h0 ((nI_eq (b := 0) (by omega) (by decide)).mp q)) ?_
      rw [ok_lt, ok_some, show nI b.length - 1 = nI (b.length - 1) from pk_sub (b := 1) (by omega)]
      have hg : ∀ i, b.dropLast.getD i 0 = if i < b.length - 1 then b.getD i 0 else 0 := by
        intro i
        rw [List.dropLast_eq_take, List.getD_eq_getElem?_getD, List.getElem?_take]
        split
        · rw [List.getD_eq_getElem?_getD]
        · rfl
      refine ⟨s2_eq, RM_text h ht ⟨by rw [s2_eq, List.length_dropLast], by rw [List.length_dropLast]; omega, fun i hi => ?_, fun i => ?_⟩ (fun j q => s2_nj q) (fun j q => by rw [s2_nk (by decide)]) (fun c q1 q2 => s2_ne q2), fun c q => s2_ne (by omega)⟩
      · rw [List.length_dropLast] at hi
        rw [s2_nk (by decide), hg, if_pos hi]; exact g3 i (by omega)
      · rw [hg]; split
        · exact g4' i
        · decide
  · rw [if_neg q1, if_pos rfl, if_neg q1]
    exact isM_same h rfl
theorem RM_reads {A : AB} {σ σ' : St} (h : RM A σ) (hF : frR σ σ') : RM A σ' := by
  obtain ⟨t0, t1, l, f, p, s, e, sh, fi, n1, n2⟩ := h
  have z := fun c h1 h2 => hF c h1 h2
  have z0 := hF 0 (by decide) (by decide)
  exact ⟨t0.keep (z 5 (by decide) (by decide)) (z 6 (by decide) (by decide)), t1.keep (z 5 (by decide) (by decide)) (z 6 (by decide) (by decide)), l.frame (by rw [z0]) (z 9 (by decide) (by decide)), f.frame (by rw [z0]) (z 10 (by decide) (by decide)), p.frame (by rw [z0]) (z 11 (by decide) (by decide)), s.frame (by rw [z0]) (z 23 (by decide) (by decide)), by rw [z0]; exact e, sh.frame (z 1 (by decide) (by decide)) (z 2 (by decide) (by decide)) (z 3 (by decide) (by decide)), by rw [z0]; exact fi, by rw [z0]; exact n1, by rw [z0]; exact n2⟩
theorem m_fault {A : AB} {σ : St} (x : Int32) (h : RM A σ) (hA : okAB A) : isM (M8_fault x σ) σ (sFault x A) := by
  unfold M8_fault sFault
  rw [e8_isTwo, bind_s]
  by_cases q1 : inb x 2
  · rw [if_pos q1, if_neg (by decide), if_pos q1]
    obtain ⟨t, ht, rfl, hx⟩ := inb_ex q1
    rw [nI_clamp hx]
    refine ok_call (t8_readsText ht (RM_tx h ht)) ?_
    rintro r σ' ⟨rfl, hF, -⟩
    rw [ok_some]
    exact ⟨rfl, RM_reads h (fun c q1 q2 => hF.1 c q1 q2), fun c q => hF.1 c (by omega) (by omega)⟩
  · rw [if_neg q1, if_pos rfl, if_neg q1]
    exact isM_same h rfl
