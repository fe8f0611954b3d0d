theorem lM.frame {σ σ' : St} {L : List Q4} (h : lM σ L) (e0 : σ' 0 9 = σ 0 9) (e : σ' 9 = σ 9) : lM σ' L := by unfold lM; rw [e0, e]; exact h
theorem fM.frame {σ σ' : St} {L : List Q4} (h : fM σ L) (e0 : σ' 0 11 = σ 0 11) (e : σ' 10 = σ 10) : fM σ' L := by unfold fM; rw [e0, e]; exact h
theorem pM.frame {σ σ' : St} {L : List Q4} (h : pM σ L) (e0 : σ' 0 13 = σ 0 13) (e : σ' 11 = σ 11) : pM σ' L := by unfold pM; rw [e0, e]; exact h
theorem sM.frame {σ σ' : St} {L : List Q4} (h : sM σ L) (e0 : σ' 0 30 = σ 0 30) (e : σ' 23 = σ 23) : sM σ' L := by unfold sM; rw [e0, e]; exact h
theorem tM.keep {σ σ' : St} {t : Nat} {b : List Nat} (h : tM σ t b) (e5 : σ' 5 = σ 5) (e6 : σ' 6 = σ 6) : tM σ' t b := by unfold tM; rw [e5, e6]; exact h
theorem m_lends {σ : St} {L : List Q4} {a b c d : Nat} (h : lM σ L) (hl : L.length < 52) : Ok (M8_lends (nI a) (nI b) (nI c) (nI d) σ) (fun _ σ' => lM σ' (L ++ [(a, b, c, d)]) ∧ (∀ j, j ≠ 9 → σ' 0 j = σ 0 j) ∧ ∀ k, k ≠ 0 → k ≠ 9 → σ' k = σ k) := by
  obtain ⟨h1, h2⟩ := h
  unfold M8_lends
  have x0 : (4 : Int32) * nI L.length = nI (4 * L.length) := by rw [show (4 : Int32) = nI 4 from rfl, pk_mul]
  have x1 : (4 : Int32) * nI L.length + 1 = nI (4 * L.length + 1) := by rw [x0, nI_1]
  have x2 : (4 : Int32) * nI L.length + 2 = nI (4 * L.length + 2) := by rw [x0]; exact nI_add _ 2
  have x3 : (4 : Int32) * nI L.length + 3 = nI (4 * L.length + 3) := by rw [x0]; exact nI_add _ 3
  rw [h1, x0]
  refine ok_T ((inb_nI (by omega)).mpr (by omega)) ?_
  rw [ok_lt, nI_clamp (n := 4 * L.length) (by omega), s2_nk (by decide), h1, x1]
  refine ok_T ((inb_nI (by omega)).mpr (by omega)) ?_
  rw [ok_lt, nI_clamp (n := 4 * L.length + 1) (by omega), s2_nk (by decide), s2_nk (by decide), h1, x2]
  refine ok_T ((inb_nI (by omega)).mpr (by omega)) ?_
  rw [ok_lt, nI_clamp (n := 4 * L.length + 2) (by omega), s2_nk (by decide), s2_nk (by decide), s2_nk (by decide), h1, x3]
  refine ok_T ((inb_nI (by omega)).mpr (by omega)) ?_
  rw [ok_lt, ok_lt, ok_some, nI_clamp (n := 4 * L.length + 3) (by omega), s2_nk (by decide), s2_nk (by decide), s2_nk (by decide), s2_nk (by decide), h1, nI_1]
  refine ⟨⟨?_, fun k hk => ?_⟩, fun j hj => ?_, fun k q1 q2 => ?_⟩
  · rw [s2_eq, List.length_append]; rfl
  · rw [List.length_append] at hk
    have hk' : k < L.length + 1 := hk
    rw [g4_app]
    by_cases e : k < L.length
    · rw [if_pos e]
      have := h2 k e
      refine ⟨?_, ?_, ?_, ?_⟩
      · rw [s2_nk (by decide), s2_nj (by omega), s2_nj (by omega), s2_nj (by omega), s2_nj (by omega)]; exact this.1
      · rw [s2_nk (by decide), s2_nj (by omega), s2_nj (by omega), s2_nj (by omega), s2_nj (by omega)]; exact this.2.1
      · rw [s2_nk (by decide), s2_nj (by omega), s2_nj (by omega), s2_nj (by omega), s2_nj (by omega)]; exact this.2.2.1
      · rw [s2_nk (by decide), s2_nj (by omega), s2_nj (by omega), s2_nj (by omega), s2_nj (by omega)]; exact this.2.2.2
    · have ek : k = L.length := by omega
      subst ek
      rw [if_neg e, if_pos rfl]
      refine ⟨?_, ?_, ?_, ?_⟩
      · rw [s2_nk (by decide), s2_nj (by omega), s2_nj (by omega), s2_nj (by omega), s2_eq]
      · rw [s2_nk (by decide), s2_nj (by omega), s2_nj (by omega), s2_eq]
      · rw [s2_nk (by decide), s2_nj (by omega), s2_eq]
      · rw [s2_nk (by decide), s2_eq]
  · rw [s2_nj hj, s2_nk (by decide), s2_nk (by decide), s2_nk (by decide), s2_nk (by decide)]
  · rw [s2_ne q1, s2_ne q2, s2_ne q2, s2_ne q2, s2_ne q2]
theorem m_loan {A : AB} {σ : St} (x1 x2 x3 x4 : Int32) (h : RM A σ) (hA : okAB A) : isM (M8_loan x1 x2 x3 x4 σ) σ (sLoan x1 x2 x3 x4 A) := by
  unfold M8_loan sLoan
  have hlen := hA.2.1.2
  obtain ⟨t0, t1, l, f, p, s, e, sh, fi, n1, n2⟩ := id h
  rw [e8_isDay, bind_s]
  by_cases q1 : inb x1 40
  · rw [if_pos q1, if_neg (by decide), e8_isAnyHole, bind_s]
    by_cases q2 : inb x2 8
    · rw [if_pos q2, if_neg (by decide), e8_in0 x3 5 σ (n := 6) rfl, bind_s]
      by_cases q3 : inb x3 6
      · rw [if_pos q3, if_neg (by decide), e8_inx x4 1 9 σ (a := 1) (b := 9) rfl rfl, bind_s]
        by_cases q4 : 1 ≤ x4.toInt ∧ x4.toInt ≤ 9
        · rw [if_pos q4, if_neg (by decide), if_pos (show inb x1 40 ∧ inb x2 8 ∧ inb x3 6 ∧ 1 ≤ x4.toInt ∧ x4.toInt ≤ 9 from ⟨q1, q2, q3, q4⟩), l.1]
          by_cases hlt : (aL A).length < 12
          · rw [if_pos hlt]
            unfold isM
            refine ok_F (fun q => by have := (nI_eq (b := 12) (by omega) (by decide)).mp q; omega) ?_
            obtain ⟨k1, a1, rfl, b1⟩ := inb_ex q1
            obtain ⟨k2, a2, rfl, b2⟩ := inb_ex q2
            obtain ⟨k3, a3, rfl, b3⟩ := inb_ex q3
            obtain ⟨k4, rfl, c4, d4⟩ := one_nine q4
            rw [nI_clamp b1, nI_clamp b2, nI_clamp b3, nI_clamp (show k4 < 2 ^ 31 by omega)]
            refine ok_call (m_lends l (by omega)) ?_
            rintro - σ' ⟨l', hj, hF⟩
            rw [ok_some]
            refine ⟨?_, ⟨t0.keep (hF 5 (by decide) (by decide)) (hF 6 (by decide) (by decide)), t1.keep (hF 5 (by decide) (by decide)) (hF 6 (by decide) (by decide)), l', f.frame (hj 11 (by decide)) (hF 10 (by decide) (by decide)), p.frame (hj 13 (by decide)) (hF 11 (by decide) (by decide)), s.frame (hj 30 (by decide)) (hF 23 (by decide) (by decide)), by rw [hj 15 (by decide)]; exact e, sh.frame (hF 1 (by decide) (by decide)) (hF 2 (by decide) (by decide)) (hF 3 (by decide) (by decide)), by rw [hj 4 (by decide)]; exact fi, by rw [hj 26 (by decide)]; exact n1, by rw [hj 27 (by decide)]; exact n2⟩, fun c q => hF c (by omega) (by omega)⟩
            rw [l'.1, List.length_append]; rfl
          · rw [if_neg hlt]
            unfold isM
            refine ok_T (by rw [show (aL A).length = 12 by omega]; rfl) ?_
            exact isM_same h rfl
        · rw [if_neg q4, if_pos rfl, if_neg (fun z => q4 z.2.2.2)]
          exact isM_same h rfl
      · rw [if_neg q3, if_pos rfl, if_neg (fun z => q3 z.2.2.1)]
        exact isM_same h rfl
    · rw [if_neg q2, if_pos rfl, if_neg (fun z => q2 z.2.1)]
      exact isM_same h rfl
  · rw [if_neg q1, if_pos rfl, if_neg (fun z => q1 z.1)]
    exact isM_same h rfl
theorem g2_app {σ : St} {c : Nat} {L : List Q4} {a b : Nat} {x : Nat} (h2 : ∀ k, k < L.length → σ c (2 * k) = nI (g4 L k).1 ∧ σ c (2 * k + 1) = nI (g4 L k).2.1) : ∀ k, k < (L ++ [(a, b, 0, 0)]).length → s2 (s2 σ c (2 * L.length) (nI a)) c (2 * L.length + 1) (nI b) c (2 * k) = nI (g4 (L ++ [(a, b, 0, 0)]) k).1 ∧ s2 (s2 σ c (2 * L.length) (nI a)) c (2 * L.length + 1) (nI b) c (2 * k + 1) = nI (g4 (L ++ [(a, b, 0, 0)]) k).2.1 := by
  intro k hk
  rw [List.length_append] at hk
  have hk' : k < L.length + 1 := hk
  rw [g4_app]
  by_cases e : k < L.length
  · rw [if_pos e]
    have := h2 k e
    exact ⟨by rw [s2_nj (by omega), s2_nj (by omega)]; exact this.1, by rw [s2_nj (by omega), s2_nj (by omega)]; exact this.2⟩
  · have ek : k = L.length := by omega
    subst ek
    rw [if_neg e, if_pos rfl]
    exact ⟨by rw [s2_nj (by omega), s2_eq], by rw [s2_eq]⟩
theorem m_patchesMore {σ : St} {L : List Q4} {a b : Nat} (h : pM σ L) (hl : L.length < 11) : Ok (M8_patchesMore (nI a) (nI b) σ) (fun _ σ' => pM σ' (L ++ [(a, b, 0, 0)]) ∧ (∀ j, j ≠ 13 → σ' 0 j = σ 0 j) ∧ ∀ k, k ≠ 0 → k ≠ 11 → σ' k = σ k) := by
  obtain ⟨h1, h2⟩ := h
  unfold M8_patchesMore
  have x0 : (2 : Int32) * nI L.length = nI (2 * L.length) := by rw [show (2 : Int32) = nI 2 from rfl, pk_mul]
  have x1 : (2 : Int32) * nI L.length + 1 = nI (2 * L.length + 1) := by rw [x0, nI_1]
  rw [h1, x0]
  refine ok_T ((inb_nI (by omega)).mpr (by omega)) ?_
  rw [ok_lt, nI_clamp (n := 2 * L.length) (by omega), s2_nk (by decide), h1, x1]
  refine ok_T ((inb_nI (by omega)).mpr (by omega)) ?_
  rw [ok_lt, ok_lt, ok_some, nI_clamp (n := 2 * L.length + 1) (by omega), s2_nk (by decide), s2_nk (by decide), h1, nI_1]
  refine ⟨⟨?_, fun k hk => ?_⟩, fun j hj => ?_, fun k q1 q2 => ?_⟩
  · rw [s2_eq, List.length_append]; rfl
  · have := g2_app (x := 0) (a := a) (b := b) h2 k hk
    exact ⟨by rw [s2_nk (show 11 ≠ 0 by decide)]; exact this.1, by rw [s2_nk (show 11 ≠ 0 by decide)]; exact this.2⟩
  · rw [s2_nj hj, s2_nk (by decide), s2_nk (by decide)]
  · rw [s2_ne q1, s2_ne q2, s2_ne q2]
theorem m_patch {A : AB} {σ : St} (x1 x2 : Int32) (h : RM A σ) (hA : okAB A) : isM (M8_patch x1 x2 σ) σ (sPatch x1 x2 A) := by
  unfold M8_patch sPatch
  have hlen := hA.2.2.2.1.2
  obtain ⟨t0, t1, l, f, p, s, e, sh, fi, n1, n2⟩ := id h
  rw [e8_isDay, bind_s]
  by_cases q1 : inb x1 40
  · rw [if_pos q1, if_neg (by decide), e8_isAnyHole, bind_s]
    by_cases q2 : inb x2 8
    · rw [if_pos q2, if_neg (by decide), if_pos (show inb x1 40 ∧ inb x2 8 from ⟨q1, q2⟩), p.1]
      by_cases hlt : (aP A).length < 8
      · rw [if_pos hlt]
        unfold isM
        refine ok_F (fun q => by have := (nI_eq (b := 8) (by omega) (by decide)).mp q; omega) ?_
        obtain ⟨k1, a1, rfl, b1⟩ := inb_ex q1
        obtain ⟨k2, a2, rfl, b2⟩ := inb_ex q2
        rw [nI_clamp b1, nI_clamp b2]
        refine ok_call (m_patchesMore p (by omega)) ?_
        rintro - σ' ⟨p', hj, hF⟩
        rw [ok_some]
        refine ⟨?_, ⟨t0.keep (hF 5 (by decide) (by decide)) (hF 6 (by decide) (by decide)), t1.keep (hF 5 (by decide) (by decide)) (hF 6 (by decide) (by decide)), l.frame (hj 9 (by decide)) (hF 9 (by decide) (by decide)), f.frame (hj 11 (by decide)) (hF 10 (by decide) (by decide)), p', s.frame (hj 30 (by decide)) (hF 23 (by decide) (by decide)), by rw [hj 15 (by decide)]; exact e, sh.frame (hF 1 (by decide) (by decide)) (hF 2 (by decide) (by decide)) (hF 3 (by decide) (by decide)), by rw [hj 4 (by decide)]; exact fi, by rw [hj 26 (by decide)]; exact n1, by rw [hj 27 (by decide)]; exact n2⟩, fun c q => hF c (by omega) (by omega)⟩
        rw [p'.1, List.length_append]; rfl
      · rw [if_neg hlt]
        unfold isM
        refine ok_T (by rw [show (aP A).length = 8 by omega]; rfl) ?_
        exact isM_same h rfl
    · rw [if_neg q2, if_pos rfl, if_neg (fun z => q2 z.2)]
      exact isM_same h rfl
  · rw [if_neg q1, if_pos rfl, if_neg (fun z => q1 z.1)]
    exact isM_same h rfl
theorem m_fill {A : AB} {σ : St} (x1 x2 : Int32) (h : RM A σ) (hA : okAB A) : isM (M8_fill x1 x2 σ) σ (sFill x1 x2 A) := by
  unfold M8_fill sFill
  have hlen := hA.2.2.1.2
  obtain ⟨t0, t1, l, f, p, s, e, sh, fi, n1, n2⟩ := id h
  rw [e8_isDay, bind_s]
  by_cases q1 : inb x1 40
  · rw [if_pos q1, if_neg (by decide), e8_isAnyHole, bind_s]
    by_cases q2 : inb x2 8
    · rw [if_pos q2, if_neg (by decide), if_pos (show inb x1 40 ∧ inb x2 8 from ⟨q1, q2⟩), f.1]
      by_cases hlt : (aF A).length < 8
      · rw [if_pos hlt]
        unfold isM
        refine ok_F (fun q => by have := (nI_eq (b := 8) (by omega) (by decide)).mp q; omega) ?_
        obtain ⟨k1, a1, rfl, b1⟩ := inb_ex q1
        obtain ⟨k2, a2, rfl, b2⟩ := inb_ex q2
        rw [nI_clamp b1, nI_clamp b2]
        have x0 : (2 : Int32) * nI (aF A).length = nI (2 * (aF A).length) := by rw [show (2 : Int32) = nI 2 from rfl, pk_mul]
        have x1 : (2 : Int32) * nI (aF A).length + 1 = nI (2 * (aF A).length + 1) := by rw [x0, nI_1]
        rw [x0]
        refine ok_T ((inb_nI (by omega)).mpr (by omega)) ?_
        rw [ok_lt, nI_clamp (n := 2 * (aF A).length) (by omega), s2_nk (by decide), f.1, x1]
        refine ok_T ((inb_nI (by omega)).mpr (by omega)) ?_
        have e11 : s2 (s2 σ 10 (2 * (aF A).length) (nI k1)) 10 (2 * (aF A).length + 1) (nI k2) 0 11 = nI (aF A).length := by rw [s2_nk (by decide), s2_nk (by decide), f.1]
        rw [ok_lt, ok_lt, ok_some, nI_clamp (n := 2 * (aF A).length + 1) (by omega), e11, nI_1]
        have hF : ∀ k, k ≠ 0 → k ≠ 10 → s2 (s2 (s2 σ 10 (2 * (aF A).length) (nI k1)) 10 (2 * (aF A).length + 1) (nI k2)) 0 11 (nI ((aF A).length + 1)) k = σ k := fun k q1 q2 => by rw [s2_ne q1, s2_ne q2, s2_ne q2]
        have hj : ∀ j, j ≠ 11 → s2 (s2 (s2 σ 10 (2 * (aF A).length) (nI k1)) 10 (2 * (aF A).length + 1) (nI k2)) 0 11 (nI ((aF A).length + 1)) 0 j = σ 0 j := fun j q => by rw [s2_nj q, s2_nk (by decide), s2_nk (by decide)]
        refine ⟨s2_eq, ⟨t0.keep (hF 5 (by decide) (by decide)) (hF 6 (by decide) (by decide)), t1.keep (hF 5 (by decide) (by decide)) (hF 6 (by decide) (by decide)), l.frame (hj 9 (by decide)) (hF 9 (by decide) (by decide)), ⟨?_, fun k hk => ?_⟩, p.frame (hj 13 (by decide)) (hF 11 (by decide) (by decide)), s.frame (hj 30 (by decide)) (hF 23 (by decide) (by decide)), by rw [hj 15 (by decide)]; exact e, sh.frame (hF 1 (by decide) (by decide)) (hF 2 (by decide) (by decide)) (hF 3 (by decide) (by decide)), by rw [hj 4 (by decide)]; exact fi, by rw [hj 26 (by decide)]; exact n1, by rw [hj 27 (by decide)]; exact n2⟩, fun c q => hF c (by omega) (by omega)⟩
        · rw [s2_eq]; show nI ((aF A).length + 1) = nI (aF A ++ [(k1, k2, 0, 0)]).length; rw [List.length_append]; rfl
        · have := g2_app (x := 0) (a := k1) (b := k2) f.2 k hk
          exact ⟨by rw [s2_nk (show 10 ≠ 0 by decide)]; exact this.1, by rw [s2_nk (show 10 ≠ 0 by decide)]; exact this.2⟩
      · rw [if_neg hlt]
        unfold isM
        refine ok_T (by rw [show (aF A).length = 8 by omega]; rfl) ?_
        exact isM_same h rfl
    · rw [if_neg q2, if_pos rfl, if_neg (fun z => q2 z.2)]
      exact isM_same h rfl
  · rw [if_neg q1, if_pos rfl, if_neg (fun z => q1 z.1)]
    exact isM_same h rfl
theorem m_ease {A : AB} {σ : St} (x : Int32) (h : RM A σ) (hA : okAB A) : isM (M8_ease x σ) σ (sEase x A) := by
  unfold M8_ease sEase
  obtain ⟨t0, t1, l, f, p, s, e, sh, fi, n1, n2⟩ := id h
  rw [e8_in0 x 8 σ (n := 9) rfl, bind_s]
  by_cases q : inb x 9
  · rw [if_pos q, if_neg (by decide), if_pos q]
    unfold isM
    obtain ⟨k, hk, rfl, hk2⟩ := inb_ex q
    rw [ok_lt, ok_lt, ok_some, nI_clamp hk2]
    refine ⟨e, ⟨t0.keep (s2_ne (by decide)) (s2_ne (by decide)), t1.keep (s2_ne (by decide)) (s2_ne (by decide)), l.frame (s2_nj (by decide)) (s2_ne (by decide)), f.frame (s2_nj (by decide)) (s2_ne (by decide)), p.frame (s2_nj (by decide)) (s2_ne (by decide)), s.frame (s2_nj (by decide)) (s2_ne (by decide)), s2_eq, sh.frame (s2_ne (by decide)) (s2_ne (by decide)) (s2_ne (by decide)), by rw [s2_nj (by decide)]; exact fi, by rw [s2_nj (by decide)]; exact n1, by rw [s2_nj (by decide)]; exact n2⟩, fun c q => s2_ne (by omega)⟩
  · rw [if_neg q, if_pos rfl, if_neg q]
    exact isM_same h rfl
theorem m_forget {A : AB} {σ : St} (h : RM A σ) (hA : okAB A) : isM (M8_forget σ) σ (sForget A) := by
  unfold M8_forget sForget isM
  obtain ⟨t0, t1, l, f, p, s, e, sh, fi, n1, n2⟩ := id h
  rw [ok_lt, ok_lt, ok_some]
  exact ⟨s.1, ⟨t0.keep (s2_ne (by decide)) (s2_ne (by decide)), t1.keep (s2_ne (by decide)) (s2_ne (by decide)), l.frame (s2_nj (by decide)) (s2_ne (by decide)), f.frame (s2_nj (by decide)) (s2_ne (by decide)), p.frame (s2_nj (by decide)) (s2_ne (by decide)), ⟨s2_eq, fun k hk => absurd hk (Nat.not_lt_zero k)⟩, by rw [s2_nj (by decide)]; exact e, sh.frame (s2_ne (by decide)) (s2_ne (by decide)) (s2_ne (by decide)), by rw [s2_nj (by decide)]; exact fi, by rw [s2_nj (by decide)]; exact n1, by rw [s2_nj (by decide)]; exact n2⟩, fun c q => s2_ne (by omega)⟩
theorem m_seen {A : AB} {σ : St} (x1 x2 x3 : Int32) (h : RM A σ) (hA : okAB A) : isM (M8_seen x1 x2 x3 σ) σ (sSeen x1 x2 x3 A) := by
  unfold M8_seen sSeen
  have hlen := hA.2.2.2.2.1.2
  obtain ⟨t0, t1, l, f, p, s, e, sh, fi, n1, n2⟩ := id h
  rw [e8_isDay, bind_s]
  by_cases q1 : inb x1 40
  · rw [if_pos q1, if_neg (by decide), e8_isAnyHole, bind_s]
    by_cases q2 : inb x2 8
    · rw [if_pos q2, if_neg (by decide), e8_in0 x3 9 σ (n := 10) rfl, bind_s]
      by_cases q3 : inb x3 10
      · rw [if_pos q3, if_neg (by decide), if_pos (show inb x1 40 ∧ inb x2 8 ∧ inb x3 10 from ⟨q1, q2, q3⟩), s.1]
        by_cases hlt : (aS A).length < 8
        · rw [if_pos hlt]
          unfold isM
          refine ok_F (fun q => by have := (nI_eq (b := 8) (by omega) (by decide)).mp q; omega) ?_
          obtain ⟨k1, a1, rfl, b1⟩ := inb_ex q1
          obtain ⟨k2, a2, rfl, b2⟩ := inb_ex q2
          obtain ⟨k3, a3, rfl, b3⟩ := inb_ex q3
          rw [nI_clamp b1, nI_clamp b2, nI_clamp b3]
          generalize hN : (aS A).length = N at *
          have x0 : (3 : Int32) * nI N = nI (3 * N) := by rw [show (3 : Int32) = nI 3 from rfl, pk_mul]
          have x1 : (3 : Int32) * nI N + 1 = nI (3 * N + 1) := by rw [x0, nI_1]
          have x2 : (3 : Int32) * nI N + 2 = nI (3 * N + 2) := by rw [x0]; exact nI_add _ 2
          have s1 : σ 0 30 = nI N := by rw [s.1, hN]
          rw [x0]
          refine ok_T ((inb_nI (by omega)).mpr (by omega)) ?_
          rw [ok_lt, nI_clamp (n := 3 * N) (by omega), s2_nk (by decide), s1, x1]
          refine ok_T ((inb_nI (by omega)).mpr (by omega)) ?_
          rw [ok_lt, nI_clamp (n := 3 * N + 1) (by omega), s2_nk (by decide), s2_nk (by decide), s1, x2]
          refine ok_T ((inb_nI (by omega)).mpr (by omega)) ?_
          have e30 : s2 (s2 (s2 σ 23 (3 * N) (nI k1)) 23 (3 * N + 1) (nI k2)) 23 (3 * N + 2) (nI k3) 0 30 = nI N := by rw [s2_nk (by decide), s2_nk (by decide), s2_nk (by decide), s1]
          rw [ok_lt, ok_lt, ok_some, nI_clamp (n := 3 * N + 2) (by omega), e30, nI_1]
          have hF : ∀ (v : Int32) k, k ≠ 0 → k ≠ 23 → s2 (s2 (s2 (s2 σ 23 (3 * N) (nI k1)) 23 (3 * N + 1) (nI k2)) 23 (3 * N + 2) (nI k3)) 0 30 v k = σ k := fun v k q1 q2 => by rw [s2_ne q1, s2_ne q2, s2_ne q2, s2_ne q2]
          have hj : ∀ (v : Int32) j, j ≠ 30 → s2 (s2 (s2 (s2 σ 23 (3 * N) (nI k1)) 23 (3 * N + 1) (nI k2)) 23 (3 * N + 2) (nI k3)) 0 30 v 0 j = σ 0 j := fun v j q => by rw [s2_nj q, s2_nk (by decide), s2_nk (by decide), s2_nk (by decide)]
          refine ⟨s2_eq, ⟨t0.keep (hF _ 5 (by decide) (by decide)) (hF _ 6 (by decide) (by decide)), t1.keep (hF _ 5 (by decide) (by decide)) (hF _ 6 (by decide) (by decide)), l.frame (hj _ 9 (by decide)) (hF _ 9 (by decide) (by decide)), f.frame (hj _ 11 (by decide)) (hF _ 10 (by decide) (by decide)), p.frame (hj _ 13 (by decide)) (hF _ 11 (by decide) (by decide)), ⟨?_, fun k hk => ?_⟩, by rw [hj _ 15 (by decide)]; exact e, sh.frame (hF _ 1 (by decide) (by decide)) (hF _ 2 (by decide) (by decide)) (hF _ 3 (by decide) (by decide)), by rw [hj _ 4 (by decide)]; exact fi, by rw [hj _ 26 (by decide)]; exact n1, by rw [hj _ 27 (by decide)]; exact n2⟩, fun c q => hF _ c (by omega) (by omega)⟩
          · rw [s2_eq]; show nI (N + 1) = nI (aS A ++ [(k1, k2, k3, 0)]).length; rw [List.length_append, hN]; rfl
          · have hk' : k < N + 1 := by
              have : k < (aS A ++ [(k1, k2, k3, 0)]).length := hk
              rw [List.length_append, hN] at this; exact this
            show s2 _ 0 30 _ 23 (3 * k) = nI (g4 (aS A ++ [(k1, k2, k3, 0)]) k).1 ∧ s2 _ 0 30 _ 23 (3 * k + 1) = nI (g4 (aS A ++ [(k1, k2, k3, 0)]) k).2.1 ∧ s2 _ 0 30 _ 23 (3 * k + 2) = nI (g4 (aS A ++ [(k1, k2, k3, 0)]) k).2.2.1
            rw [g4_app, hN]
            by_cases ek : k < N
            · rw [if_pos ek]
              have := s.2 k (by omega)
              exact ⟨by rw [s2_nk (show 23 ≠ 0 by decide), s2_nj (by omega), s2_nj (by omega), s2_nj (by omega)]; exact this.1, by rw [s2_nk (show 23 ≠ 0 by decide), s2_nj (by omega), s2_nj (by omega), s2_nj (by omega)]; exact this.2.1, by rw [s2_nk (show 23 ≠ 0 by decide), s2_nj (by omega), s2_nj (by omega), s2_nj (by omega)]; exact this.2.2⟩
            · have ek2 : k = N := by omega
              subst ek2
              rw [if_neg ek, if_pos rfl]
              exact ⟨by rw [s2_nk (show 23 ≠ 0 by decide), s2_nj (by omega), s2_nj (by omega), s2_eq], by rw [s2_nk (show 23 ≠ 0 by decide), s2_nj (by omega), s2_eq], by rw [s2_nk (show 23 ≠ 0 by decide), s2_eq]⟩
        · rw [if_neg hlt]
          unfold isM
          refine ok_T (by rw [show (aS A).length = 8 by omega]; rfl) ?_
          exact isM_same h rfl
      · rw [if_neg q3, if_pos rfl, if_neg (fun z => q3 z.2.2)]
        exact isM_same h rfl
    · rw [if_neg q2, if_pos rfl, if_neg (fun z => q2 z.2.1)]
      exact isM_same h rfl
  · rw [if_neg q1, if_pos rfl, if_neg (fun z => q1 z.1)]
    exact isM_same h rfl
theorem m_back {A : AB} {σ : St} (x : Int32) (h : RM A σ) (hA : okAB A) : isM (M8_back x σ) σ (sBack x A) := by
  unfold M8_back sBack
  obtain ⟨t0, t1, l, f, p, s, e, sh, fi, n1, n2⟩ := id h
  have hl := hA.2.1.2
  have hf := hA.2.2.1.2
  have hp := hA.2.2.2.1.2
  have dl : ∀ {L : List Q4} {k : Nat}, k < L.dropLast.length → k < L.length ∧ g4 L.dropLast k = g4 L k := by
    intro L k hk
    rw [List.length_dropLast] at hk
    refine ⟨by omega, ?_⟩
    rw [← dropLast_er, g4_er, if_pos hk]
  have back : ∀ (i : Nat), i < 3 → ∀ (c1 c2 c3 : Nat), (σ 0 9 - (if nI i = 0 then 1 else 0) = nI c1) → (σ 0 11 - (if nI i = 1 then 1 else 0) = nI c2) → (σ 0 13 - (if nI i = 2 then 1 else 0) = nI c3) → ∀ (y : Int32), ¬ y = 0 → Ok (M8_back_J42 (nI i) y σ) (fun r σ' => r = y - 1 ∧ σ' 0 9 = nI c1 ∧ σ' 0 11 = nI c2 ∧ σ' 0 13 = nI c3 ∧ (∀ j, j ≠ 9 → j ≠ 11 → j ≠ 13 → σ' 0 j = σ 0 j) ∧ ∀ k, k ≠ 0 → σ' k = σ k) := by
    intro i hi c1 c2 c3 g1 g2 g3 y hy
    unfold M8_back_J42 M8_back_J64 M8_back_J83
    refine ok_F hy ?_
    rw [ok_lt, g1, ok_lt, s2_nj (by decide), g2]
    have e13 : s2 (s2 σ 0 9 (nI c1)) 0 11 (nI c2) 0 13 = σ 0 13 := by rw [s2_nj (by decide), s2_nj (by decide)]
    rw [e13]
    have fin : ∀ v, v = nI c3 → Ok (lt (s2 (s2 (s2 σ 0 9 (nI c1)) 0 11 (nI c2)) 0 13 v) fun σ12 => some (y - 1, σ12)) (fun r σ' => r = y - 1 ∧ σ' 0 9 = nI c1 ∧ σ' 0 11 = nI c2 ∧ σ' 0 13 = nI c3 ∧ (∀ j, j ≠ 9 → j ≠ 11 → j ≠ 13 → σ' 0 j = σ 0 j) ∧ ∀ k, k ≠ 0 → σ' k = σ k) := by
      rintro v rfl
      rw [ok_lt, ok_some]
      exact ⟨rfl, by rw [s2_nj (by decide), s2_nj (by decide), s2_eq], by rw [s2_nj (by decide), s2_eq], s2_eq, fun j q1 q2 q3 => by rw [s2_nj q3, s2_nj q2, s2_nj q1], fun k q => by rw [s2_ne q, s2_ne q, s2_ne q]⟩
    by_cases h2 : nI i = 2
    · rw [if_pos h2] at g3 ⊢
      exact fin _ g3
    · rw [if_neg h2] at g3 ⊢
      exact fin _ g3
  rw [e8_in0 x 2 σ (n := 3) rfl, bind_s]
  by_cases q : inb x 3
  · rw [if_pos q, if_neg (by decide), if_pos q]
    obtain ⟨k, hk, rfl, hk2⟩ := inb_ex q
    rcases (show k = 0 ∨ k = 1 ∨ k = 2 by omega) with rfl | rfl | rfl
    · rw [if_pos (show nI 0 = 0 from rfl), l.1]
      dsimp only
      simp only [show (nI 0 = 0) = True from eq_true rfl, if_true]
      by_cases h0 : (aL A).length = 0
      · rw [if_pos h0]
        unfold M8_back_J42 isM
        refine ok_T (by rw [h0]; rfl) ?_
        exact isM_same h rfl
      · rw [if_neg h0]
        refine (back 0 (by decide) ((aL A).length - 1) (aF A).length (aP A).length (by rw [l.1]; exact pk_sub (b := 1) (by omega)) (by rw [f.1]; exact pk_sub (b := 0) (by omega)) (by rw [p.1]; exact pk_sub (b := 0) (by omega)) _ (fun q => h0 ((nI_eq (b := 0) (by omega) (by decide)).mp q))).mono ?_
        rintro r σ' ⟨rfl, g1, g2, g3, hj, hF⟩
        refine ⟨pk_sub (b := 1) (by omega), ⟨t0.keep (hF 5 (by decide)) (hF 6 (by decide)), t1.keep (hF 5 (by decide)) (hF 6 (by decide)), ⟨by rw [g1]; show nI ((aL A).length - 1) = nI (aL A).dropLast.length; rw [List.length_dropLast], fun k hk => ?_⟩, f.frame (by rw [g2, f.1]) (hF 10 (by decide)), p.frame (by rw [g3, p.1]) (hF 11 (by decide)), s.frame (hj 30 (by decide) (by decide) (by decide)) (hF 23 (by decide)), by rw [hj 15 (by decide) (by decide) (by decide)]; exact e, sh.frame (hF 1 (by decide)) (hF 2 (by decide)) (hF 3 (by decide)), by rw [hj 4 (by decide) (by decide) (by decide)]; exact fi, by rw [hj 26 (by decide) (by decide) (by decide)]; exact n1, by rw [hj 27 (by decide) (by decide) (by decide)]; exact n2⟩, fun c q => hF c (by omega)⟩
        obtain ⟨y1, y2⟩ := dl (L := aL A) hk
        show _ = nI (g4 (aL A).dropLast k).1 ∧ _ = nI (g4 (aL A).dropLast k).2.1 ∧ _ = nI (g4 (aL A).dropLast k).2.2.1 ∧ _ = nI (g4 (aL A).dropLast k).2.2.2
        rw [hF 9 (by decide), y2]; exact l.2 k y1
    · rw [if_neg (show ¬ nI 1 = 0 by decide), if_pos (show nI 1 = 1 from rfl), f.1]
      dsimp only
      simp only [show (nI 1 = 0) = False from eq_false (by decide), show (nI 1 = 1) = True from eq_true rfl, if_true, if_false]
      by_cases h0 : (aF A).length = 0
      · rw [if_pos h0]
        unfold M8_back_J42 isM
        refine ok_T (by rw [h0]; rfl) ?_
        exact isM_same h rfl
      · rw [if_neg h0]
        refine (back 1 (by decide) (aL A).length ((aF A).length - 1) (aP A).length (by rw [l.1]; exact pk_sub (b := 0) (by omega)) (by rw [f.1]; exact pk_sub (b := 1) (by omega)) (by rw [p.1]; exact pk_sub (b := 0) (by omega)) _ (fun q => h0 ((nI_eq (b := 0) (by omega) (by decide)).mp q))).mono ?_
        rintro r σ' ⟨rfl, g1, g2, g3, hj, hF⟩
        refine ⟨pk_sub (b := 1) (by omega), ⟨t0.keep (hF 5 (by decide)) (hF 6 (by decide)), t1.keep (hF 5 (by decide)) (hF 6 (by decide)), l.frame (by rw [g1, l.1]) (hF 9 (by decide)), ⟨by rw [g2]; show nI ((aF A).length - 1) = nI (aF A).dropLast.length; rw [List.length_dropLast], fun k hk => ?_⟩, p.frame (by rw [g3, p.1]) (hF 11 (by decide)), s.frame (hj 30 (by decide) (by decide) (by decide)) (hF 23 (by decide)), by rw [hj 15 (by decide) (by decide) (by decide)]; exact e, sh.frame (hF 1 (by decide)) (hF 2 (by decide)) (hF 3 (by decide)), by rw [hj 4 (by decide) (by decide) (by decide)]; exact fi, by rw [hj 26 (by decide) (by decide) (by decide)]; exact n1, by rw [hj 27 (by decide) (by decide) (by decide)]; exact n2⟩, fun c q => hF c (by omega)⟩
        obtain ⟨y1, y2⟩ := dl (L := aF A) hk
        show _ = nI (g4 (aF A).dropLast k).1 ∧ _ = nI (g4 (aF A).dropLast k).2.1
        rw [hF 10 (by decide), y2]; exact f.2 k y1
    · rw [if_neg (show ¬ nI 2 = 0 by decide), if_neg (show ¬ nI 2 = 1 by decide), p.1]
      dsimp only
      simp only [show (nI 2 = 0) = False from eq_false (by decide), show (nI 2 = 1) = False from eq_false (by decide), if_false]
      by_cases h0 : (aP A).length = 0
      · rw [if_pos h0]
        unfold M8_back_J42 isM
        refine ok_T (by rw [h0]; rfl) ?_
        exact isM_same h rfl
      · rw [if_neg h0]
        refine (back 2 (by decide) (aL A).length (aF A).length ((aP A).length - 1) (by rw [l.1]; exact pk_sub (b := 0) (by omega)) (by rw [f.1]; exact pk_sub (b := 0) (by omega)) (by rw [p.1]; exact pk_sub (b := 1) (by omega)) _ (fun q => h0 ((nI_eq (b := 0) (by omega) (by decide)).mp q))).mono ?_
        rintro r σ' ⟨rfl, g1, g2, g3, hj, hF⟩
        refine ⟨pk_sub (b := 1) (by omega), ⟨t0.keep (hF 5 (by decide)) (hF 6 (by decide)), t1.keep (hF 5 (by decide)) (hF 6 (by decide)), l.frame (by rw [g1, l.1]) (hF 9 (by decide)), f.frame (by rw [g2, f.1]) (hF 10 (by decide)), ⟨by rw [g3]; show nI ((aP A).length - 1) = nI (aP A).dropLast.length; rw [List.length_dropLast], fun k hk => ?_⟩, s.frame (hj 30 (by decide) (by decide) (by decide)) (hF 23 (by decide)), by rw [hj 15 (by decide) (by decide) (by decide)]; exact e, sh.frame (hF 1 (by decide)) (hF 2 (by decide)) (hF 3 (by decide)), by rw [hj 4 (by decide) (by decide) (by decide)]; exact fi, by rw [hj 26 (by decide) (by decide) (by decide)]; exact n1, by rw [hj 27 (by decide) (by decide) (by decide)]; exact n2⟩, fun c q => hF c (by omega)⟩
        obtain ⟨y1, y2⟩ := dl (L := aP A) hk
        show _ = nI (g4 (aP A).dropLast k).1 ∧ _ = nI (g4 (aP A).dropLast k).2.1
        rw [hF 11 (by decide), y2]; exact p.2 k y1
  · rw [if_neg q, if_pos rfl, if_neg q]
    exact isM_same h rfl
