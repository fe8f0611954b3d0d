def cpL (l m : List Int32) (i j n : Nat) : List Int32 := (List.range m.length).map (fun k => if j ≤ k ∧ k < j + n then l.getD (i + (k - j)) 0 else m.getD k 0)
theorem cpL_len {l m : List Int32} {i j n : Nat} : (cpL l m i j n).length = m.length := by simp [cpL]
theorem cpL_at {l m : List Int32} {i j n k : Nat} (hk : k < m.length) : (cpL l m i j n).getD k 0 = if j ≤ k ∧ k < j + n then l.getD (i + (k - j)) 0 else m.getD k 0 := by
  unfold cpL
  rw [List.getD_eq_getElem?_getD, List.getElem?_map, List.getElem?_range hk]; rfl
def rngI (x n : Int32) (len : Nat) : Prop := 0 ≤ x.toInt ∧ 0 ≤ n.toInt ∧ x.toInt + n.toInt ≤ len
def sCopy (x1 x2 x3 x4 x5 : Int32) (A : AB) : Sp := if inb x1 4 ∧ inb x3 4 then (match aSh A x1.toNatClampNeg, aSh A x3.toNatClampNeg with
  | some (f, l), some (g, m) => if f = g then (if 0 ≤ x2.toInt ∧ 0 ≤ x4.toInt ∧ 0 ≤ x5.toInt ∧ x2.toInt + x5.toInt ≤ l.length ∧ x4.toInt + x5.toInt ≤ m.length then (1, setSh A (up (aSh A) x3.toNatClampNeg (some (g, cpL l m x2.toNatClampNeg x4.toNatClampNeg x5.toNatClampNeg)))) else fnd A 2) else fnd A 4
  | _, _ => fnd A 1) else (-2, A)
theorem e5_hasRange {σ : St} {o len : Nat} (x n : Int32) (h3 : σ o 3 = nI len) (hl : len ≤ 60) : M5_hasRange o x n σ = some (if 0 ≤ x.toInt ∧ 0 ≤ n.toInt ∧ x.toInt + n.toInt ≤ len then 1 else 0, σ) := by
  unfold M5_hasRange
  rw [h3]
  have e0 : (0 : Int32).toInt = 0 := rfl
  have el : (nI len).toInt = (len : Int) := nI_toInt (by omega)
  have hr := i32_range x
  have hn := i32_range n
  congr 2
  by_cases h1 : x < 0
  · rw [if_pos h1, if_neg]; rw [i32_lt, e0] at h1; omega
  · rw [if_neg h1]
    by_cases h2 : n < 0
    · rw [if_pos h2, if_neg]; rw [i32_lt, e0] at h2; omega
    · rw [if_neg h2]
      rw [i32_lt, e0] at h1 h2
      by_cases h3' : nI len < x
      · rw [if_pos h3', if_neg]; rw [i32_lt, el] at h3'; omega
      · rw [if_neg h3']
        rw [i32_lt, el] at h3'
        obtain ⟨k, hk, rfl, hk2⟩ := inb_ex (x := x) (n := len + 1) ⟨by omega, by omega⟩
        rw [pk_sub (show k ≤ len by omega)]
        have e2 : (nI (len - k)).toInt = ((len - k : Nat) : Int) := nI_toInt (by omega)
        have e3 : (nI k).toInt = (k : Int) := nI_toInt hk2
        rw [e3]
        by_cases h4 : nI (len - k) < n
        · rw [if_pos h4, if_neg]; rw [i32_lt, e2] at h4; omega
        · rw [if_neg h4, if_pos]; rw [i32_lt, e2] at h4; omega
theorem c_copy {A : AB} {σ : St} (x1 x2 x3 x4 x5 : Int32) (h : RC A σ) (hA : okAB A) : isC (M7_copy x1 x2 x3 x4 x5 σ) σ (sCopy x1 x2 x3 x4 x5 A) := by
  unfold M7_copy sCopy M7_copy_J51 M7_copy_J99
  rw [e7_isBelow x1 4 σ (n := 4) rfl (by decide), bind_s]
  by_cases q1 : inb x1 4
  · rw [if_pos q1, if_neg (by decide), e7_isBelow x3 4 σ (n := 4) rfl (by decide), bind_s]
    by_cases q2 : inb x3 4
    · rw [if_pos q2, if_neg (by decide), if_pos q1, if_pos q2, if_pos (show inb x1 4 ∧ inb x3 4 from ⟨q1, q2⟩)]
      obtain ⟨s, hs, rfl, hx⟩ := inb_ex q1
      obtain ⟨t, ht, rfl, hy⟩ := inb_ex q2
      rw [nI_clamp hx, nI_clamp hy, e89 s, e89 t]
      have cs : shC1 σ s (aSh A s) := h.2.2.2.2.2.2.2.2.1 s hs
      have ct : shC1 σ t (aSh A t) := h.2.2.2.2.2.2.2.2.1 t ht
      cases hq : aSh A s with
      | none =>
        rw [hq] at cs
        have cs' : σ (90 + 2 * s) 1 = 1 := cs
        unfold isC
        refine ok_F (by rw [cs']; decide) ?_
        cases aSh A t <;> exact c_found (k := 1) h hA
      | some v =>
        obtain ⟨f, l⟩ := v
        rw [hq] at cs
        obtain ⟨s1', s2', s3', s4'⟩ := cs
        obtain ⟨hf, hl⟩ := hA.2.2.2.2.2.2.1 s f l hs hq
        unfold isC
        refine ok_T s1' ?_
        cases hq2 : aSh A t with
        | none =>
          rw [hq2] at ct
          have ct' : σ (90 + 2 * t) 1 = 1 := ct
          refine ok_F (by rw [ct']; decide) ?_
          exact c_found (k := 1) h hA
        | some w =>
          obtain ⟨g, m⟩ := w
          rw [hq2] at ct
          obtain ⟨u1, u2, u3, u4⟩ := ct
          obtain ⟨hg, hm⟩ := hA.2.2.2.2.2.2.1 t g m ht hq2
          refine ok_T u1 ?_
          dsimp only
          rw [s2', u2]
          by_cases q3 : f = g
          · rw [if_pos q3]
            refine ok_T (by rw [q3]) ?_
            rw [e5_hasRange x2 x5 s3' hl, bind_s, e5_hasRange x4 x5 u3 hm]
            by_cases q4 : 0 ≤ x2.toInt ∧ 0 ≤ x5.toInt ∧ x2.toInt + x5.toInt ≤ l.length
            · rw [if_pos q4, if_neg (by decide), bind_s]
              by_cases q5 : 0 ≤ x4.toInt ∧ 0 ≤ x5.toInt ∧ x4.toInt + x5.toInt ≤ m.length
              · rw [if_pos q5, if_neg (by decide), if_pos (show 0 ≤ x2.toInt ∧ 0 ≤ x4.toInt ∧ 0 ≤ x5.toInt ∧ x2.toInt + x5.toInt ≤ l.length ∧ x4.toInt + x5.toInt ≤ m.length from ⟨q4.1, q5.1, q4.2.1, q4.2.2, q5.2.2⟩)]
                have hln : ∀ k, k < 4 → ln (90 + 2 * k + 1) = 60 := fun k hk => by rcases (show k = 0 ∨ k = 1 ∨ k = 2 ∨ k = 3 by omega) with rfl | rfl | rfl | rfl <;> rfl
                obtain ⟨i, hi, rfl, hi2⟩ := inb_ex (x := x2) (n := 61) ⟨by omega, by omega⟩
                obtain ⟨j, hj, rfl, hj2⟩ := inb_ex (x := x4) (n := 61) ⟨by omega, by omega⟩
                obtain ⟨n, hn, rfl, hn2⟩ := inb_ex (x := x5) (n := 61) ⟨by omega, by omega⟩
                rw [nI_toInt hi2, nI_toInt hn2] at q4
                rw [nI_toInt hj2, nI_toInt hn2] at q5
                simp only [nI_clamp hi2, nI_clamp hj2, nI_clamp hn2]
                refine ok_T ⟨nI_pos' hi2, nI_pos' hj2, nI_pos' hn2, by rw [nI_clamp hi2, nI_clamp hn2, hln s hs]; omega, by rw [nI_clamp hj2, nI_clamp hn2, hln t ht]; omega⟩ ?_
                rw [ok_lt, ok_some]
                refine ⟨rfl, RC_sh (s := some (g, cpL l m i j n)) h hA ht (fun c z1 z2 => s1_ne (by omega)) ⟨?_, ?_, ?_, fun k hk => ?_⟩, fun c z => s1_ne (by omega)⟩
                · rw [s1_ne (by omega)]; exact u1
                · rw [s1_ne (by omega)]; exact u2
                · rw [s1_ne (by omega), cpL_len]; exact u3
                · rw [cpL_len] at hk
                  rw [cpL_at hk, show 91 + 2 * t = 90 + 2 * t + 1 by omega, s1_row]
                  by_cases e : j ≤ k ∧ k < j + n
                  · rw [if_pos e, pk_cpy_in e.1 e.2, show 90 + 2 * s + 1 = 91 + 2 * s by omega]; exact s4' _ (by omega)
                  · rw [if_neg e, pk_cpy_out (by omega), show 90 + 2 * t + 1 = 91 + 2 * t by omega]; exact u4 k hk
              · rw [if_neg q5, if_pos rfl, if_neg (fun z => q5 ⟨z.2.1, z.2.2.1, z.2.2.2.2⟩)]
                exact c_found (k := 2) h hA
            · rw [if_neg q4, if_pos rfl, if_neg (fun z => q4 ⟨z.1, z.2.2.1, z.2.2.2.1⟩)]
              exact c_found (k := 2) h hA
          · rw [if_neg q3]
            refine ok_F (fun q => q3 ((nI_eq (by omega) (by omega)).mp q)) ?_
            exact c_found (k := 4) h hA
    · rw [if_neg q2, if_pos rfl, if_neg (fun z => q2 z.2)]
      exact isC_same h rfl
  · rw [if_neg q1, if_pos rfl, if_neg (fun z => q1 z.1)]
    exact isC_same h rfl
theorem addL {a b : Int32} : (a.toInt64 + b.toInt64).toInt = a.toInt + b.toInt := by
  rw [Int64.toInt_add, Int32.toInt_toInt64, Int32.toInt_toInt64]
  have h1 := i32_range a
  have h2 := i32_range b
  exact Int.bmod_eq_of_le (by omega) (by omega)
theorem m_copy {A : AB} {σ : St} (x1 x2 x3 x4 x5 : Int32) (h : RM A σ) (hA : okAB A) : isM (M8_copy x1 x2 x3 x4 x5 σ) σ (sCopy x1 x2 x3 x4 x5 A) := by
  unfold M8_copy sCopy M8_copy_J35 M8_copy_J111
  rw [e8_isSheet, bind_s]
  by_cases q1 : inb x1 4
  · rw [if_pos q1, if_neg (by decide), e8_isSheet, bind_s]
    by_cases q2 : inb x3 4
    · rw [if_pos q2, if_neg (by decide), if_pos q1, if_pos q2, if_pos (show inb x1 4 ∧ inb x3 4 from ⟨q1, q2⟩)]
      obtain ⟨s, hs, rfl, hx⟩ := inb_ex q1
      obtain ⟨t, ht, rfl, hy⟩ := inb_ex q2
      rw [nI_clamp hx, nI_clamp hy]
      have cs : shM1 σ s (aSh A s) := h.2.2.2.2.2.2.2.1 s hs
      have ct : shM1 σ t (aSh A t) := h.2.2.2.2.2.2.2.1 t ht
      unfold isM
      cases hq : aSh A s with
      | none =>
        rw [hq] at cs
        have cs' : σ 1 s = -1 := cs
        refine ok_T (by rw [cs']; decide) ?_
        cases aSh A t <;> exact m_found (k := 1) h
      | some v =>
        obtain ⟨f, l⟩ := v
        rw [hq] at cs
        obtain ⟨s1', s2', s3'⟩ := cs
        obtain ⟨hf, hl⟩ := hA.2.2.2.2.2.2.1 s f l hs hq
        refine ok_F (by rw [s1']; exact nI_pos (by omega)) ?_
        cases hq2 : aSh A t with
        | none =>
          rw [hq2] at ct
          have ct' : σ 1 t = -1 := ct
          refine ok_F (by rw [ct']; decide) ?_
          exact m_found (k := 1) h
        | some w =>
          obtain ⟨g, m⟩ := w
          rw [hq2] at ct
          obtain ⟨u1, u2, u3⟩ := ct
          obtain ⟨hg, hm⟩ := hA.2.2.2.2.2.2.1 t g m ht hq2
          refine ok_T (by rw [u1]; exact form0 hg) ?_
          dsimp only
          rw [s1', u1]
          by_cases q3 : f = g
          · rw [if_pos q3]
            refine ok_T (by rw [q3]) ?_
            have hbad : ¬ (0 ≤ x2.toInt ∧ 0 ≤ x4.toInt ∧ 0 ≤ x5.toInt ∧ x2.toInt + x5.toInt ≤ l.length ∧ x4.toInt + x5.toInt ≤ m.length) → Ok (bd (M8_finds 2 σ) fun r14 σ14 => some (r14, σ14)) (fun r σ' => r = (if 0 ≤ x2.toInt ∧ 0 ≤ x4.toInt ∧ 0 ≤ x5.toInt ∧ x2.toInt + x5.toInt ≤ l.length ∧ x4.toInt + x5.toInt ≤ m.length then ((1 : Int32), setSh A (up (aSh A) t (some (g, cpL l m x2.toNatClampNeg x4.toNatClampNeg x5.toNatClampNeg)))) else fnd A 2).1 ∧ RM (if 0 ≤ x2.toInt ∧ 0 ≤ x4.toInt ∧ 0 ≤ x5.toInt ∧ x2.toInt + x5.toInt ≤ l.length ∧ x4.toInt + x5.toInt ≤ m.length then ((1 : Int32), setSh A (up (aSh A) t (some (g, cpL l m x2.toNatClampNeg x4.toNatClampNeg x5.toNatClampNeg)))) else fnd A 2).2 σ' ∧ hiM σ σ') := by
              intro hn
              rw [if_neg hn]
              exact m_found (k := 2) h
            have e0 : (0 : Int32).toInt = 0 := rfl
            by_cases b1 : x2 < 0
            · refine ok_T b1 (hbad ?_); rw [i32_lt, e0] at b1; omega
            refine ok_F b1 ?_
            rw [i32_lt, e0] at b1
            by_cases b2 : x4 < 0
            · refine ok_T b2 (hbad ?_); rw [i32_lt, e0] at b2; omega
            refine ok_F b2 ?_
            rw [i32_lt, e0] at b2
            by_cases b3 : x5 < 0
            · refine ok_T b3 (hbad ?_); rw [i32_lt, e0] at b3; omega
            refine ok_F b3 ?_
            rw [i32_lt, e0] at b3
            rw [s2', u2]
            have c1 : (0 < lg_cmp (x2.toInt64 + x5.toInt64) (nI l.length).toInt64) ↔ (l.length : Int) < x2.toInt + x5.toInt := by
              rw [cmp_gt, Int64.lt_iff_toInt_lt, addL, Int32.toInt_toInt64, nI_toInt (by omega)]
            have c2 : (lg_cmp (x4.toInt64 + x5.toInt64) (nI m.length).toInt64 ≤ 0) ↔ ¬ (m.length : Int) < x4.toInt + x5.toInt := by
              rw [← Int32.not_lt, cmp_gt, Int64.lt_iff_toInt_lt, addL, Int32.toInt_toInt64, nI_toInt (by omega)]
            by_cases b4 : (l.length : Int) < x2.toInt + x5.toInt
            · exact ok_T (c1.mpr b4) (hbad (by omega))
            refine ok_F (fun q => b4 (c1.mp q)) ?_
            by_cases b5 : (m.length : Int) < x4.toInt + x5.toInt
            · exact ok_F (fun q => (c2.mp q) b5) (hbad (by omega))
            refine ok_T (c2.mpr b5) ?_
            rw [if_pos (show 0 ≤ x2.toInt ∧ 0 ≤ x4.toInt ∧ 0 ≤ x5.toInt ∧ x2.toInt + x5.toInt ≤ l.length ∧ x4.toInt + x5.toInt ≤ m.length by omega)]
            obtain ⟨i, hi, rfl, hi2⟩ := inb_ex (x := x2) (n := 61) ⟨by omega, by omega⟩
            obtain ⟨j, hj, rfl, hj2⟩ := inb_ex (x := x4) (n := 61) ⟨by omega, by omega⟩
            obtain ⟨n, hn, rfl, hn2⟩ := inb_ex (x := x5) (n := 61) ⟨by omega, by omega⟩
            rw [nI_toInt hi2, nI_toInt hn2] at b4
            rw [nI_toInt hj2, nI_toInt hn2] at b5
            rw [nI_clamp hi2, nI_clamp hj2, nI_clamp hn2]
            -- the second loop
            have two : ∀ (fu a : Nat) (σ' : St), a ≤ n → n + 1 ≤ fu + a → (∀ c, c ≠ 3 → c ≠ 4 → σ' c = σ c) → (∀ b, b < n → σ' 4 b = l.getD (i + b) 0) → (∀ p, (p < 60 * t + j ∨ 60 * t + j + a ≤ p) → σ' 3 p = σ 3 p) → (∀ b, b < a → σ' 3 (60 * t + j + b) = l.getD (i + b) 0) → Ok (M8_copy_L157 (nI t) (nI j) (nI n) (fun σ => some (1, σ)) fu (nI a) σ') (fun r σ' => r = ((1 : Int32), setSh A (up (aSh A) t (some (g, cpL l m i j n)))).1 ∧ RM ((1 : Int32), setSh A (up (aSh A) t (some (g, cpL l m i j n)))).2 σ' ∧ hiM σ σ') := by
              intro fu
              induction fu with
              | zero => intro a σ' c1 c2; omega
              | succ fu ih =>
                intro a σ' ha hfu hF h4 h3 hv
                rw [M8_copy_L157]
                by_cases he : a = n
                · refine ok_T ((nI_leI (by omega) (by omega)).mpr (by omega)) ?_
                  rw [ok_some]
                  refine ⟨rfl, RM_sh (s := some (g, cpL l m i j n)) h ht (fun c _ _ z3 z4 => hF c z3 z4) (fun p hp => by rw [hF 1 (by decide) (by decide)]) (fun p hp => by rw [hF 2 (by decide) (by decide)]) (fun p hp => h3 p (by omega)) hA.2.2.2.2.2.2.1 ⟨?_, ?_, fun k hk => ?_⟩, fun c z => hF c (by omega) (by omega)⟩
                  · rw [hF 1 (by decide) (by decide)]; exact u1
                  · rw [hF 2 (by decide) (by decide), cpL_len]; exact u2
                  · rw [cpL_len] at hk
                    rw [cpL_at hk]
                    by_cases e : j ≤ k ∧ k < j + n
                    · rw [if_pos e, show 60 * t + k = 60 * t + j + (k - j) by omega]; exact hv _ (by omega)
                    · rw [if_neg e, h3 _ (by omega)]; exact u3 k hk
                · refine ok_F (fun q => he (by have := (nI_leI (by omega) (by omega)).mp q; omega)) ?_
                  have e : (60 : Int32) * nI t + nI j + nI a = nI (60 * t + j + a) := by rw [show (60 : Int32) = nI 60 from rfl, pk_mul, nI_add, nI_add]
                  rw [e]
                  refine ok_T ((inb_nI (by omega)).mpr (by omega)) ?_
                  refine ok_T ((inb_nI (by omega)).mpr (by omega)) ?_
                  rw [ok_lt, ok_lt, nI_clamp (n := 60 * t + j + a) (by omega), nI_clamp (n := a) (by omega), nI_1, h4 a (by omega)]
                  refine ih (a + 1) _ (by omega) (by omega) (fun c z1 z2 => by rw [s2_ne z1]; exact hF c z1 z2) (fun b hb => by rw [s2_nk (by decide)]; exact h4 b hb) (fun p hp => by rw [s2_nj (by omega)]; exact h3 p (by omega)) (fun b hb => ?_)
                  by_cases eb : b = a
                  · subst eb; exact s2_eq
                  · rw [s2_nj (by omega)]; exact hv b (by omega)
            have one : ∀ (fu a : Nat) (σ' : St), a ≤ n → n + 1 ≤ fu + a → (∀ c, c ≠ 4 → σ' c = σ c) → (∀ b, b < a → σ' 4 b = l.getD (i + b) 0) → Ok (M8_copy_L120 (nI s) (nI i) (nI t) (nI j) (nI n) (fun σ26 => M8_copy_L157 (nI t) (nI j) (nI n) (fun σ32 => some (1, σ32)) FU 0 σ26) fu (nI a) σ') (fun r σ' => r = ((1 : Int32), setSh A (up (aSh A) t (some (g, cpL l m i j n)))).1 ∧ RM ((1 : Int32), setSh A (up (aSh A) t (some (g, cpL l m i j n)))).2 σ' ∧ hiM σ σ') := by
              intro fu
              induction fu with
              | zero => intro a σ' c1 c2; omega
              | succ fu ih =>
                intro a σ' ha hfu hF h4
                rw [M8_copy_L120]
                by_cases he : a = n
                · refine ok_T ((nI_leI (by omega) (by omega)).mpr (by omega)) ?_
                  exact two FU 0 σ' (Nat.zero_le _) (by have := FU_ge; omega) (fun c z1 z2 => hF c z2) (fun b hb => h4 b (by omega)) (fun p _ => by rw [hF 3 (by decide)]) (fun b hb => by omega)
                · refine ok_F (fun q => he (by have := (nI_leI (by omega) (by omega)).mp q; omega)) ?_
                  have e : (60 : Int32) * nI s + nI i + nI a = nI (60 * s + i + a) := by rw [show (60 : Int32) = nI 60 from rfl, pk_mul, nI_add, nI_add]
                  rw [e]
                  refine ok_T ((inb_nI (by omega)).mpr (by omega)) ?_
                  refine ok_T ((inb_nI (by omega)).mpr (by omega)) ?_
                  rw [ok_lt, ok_lt, nI_clamp (n := 60 * s + i + a) (by omega), nI_clamp (n := a) (by omega), nI_1, hF 3 (by decide), show 60 * s + i + a = 60 * s + (i + a) by omega, s3' (i + a) (by omega)]
                  refine ih (a + 1) _ (by omega) (by omega) (fun c z1 => by rw [s2_ne z1]; exact hF c z1) (fun b hb => ?_)
                  by_cases eb : b = a
                  · subst eb; exact s2_eq
                  · rw [s2_nj (by omega)]; exact h4 b (by omega)
            exact one FU 0 σ (Nat.zero_le _) (by have := FU_ge; omega) (fun _ _ => rfl) (fun b hb => by omega)
          · rw [if_neg q3]
            refine ok_F (fun q => q3 ((nI_eq (by omega) (by omega)).mp q)) ?_
            exact m_found (k := 4) h
    · rw [if_neg q2, if_pos rfl, if_neg (fun z => q2 z.2)]
      exact isM_same h rfl
  · rw [if_neg q1, if_pos rfl, if_neg (fun z => q1 z.1)]
    exact isM_same h rfl
