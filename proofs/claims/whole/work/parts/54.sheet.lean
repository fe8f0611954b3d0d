def sHole (x y : Int32) (A : AB) : Sp := if inb x (itm 0 (a0 A)) ∧ inb y 4 then (nI (fig 0 (a0 A) x.toNatClampNeg y.toNatClampNeg), A) else (-2, A)
def sWork (x y : Int32) (A : AB) : Sp := if inb x (itm 1 (a1 A)) ∧ inb y 4 then (nI (fig 1 (a1 A) x.toNatClampNeg y.toNatClampNeg), A) else (-2, A)
theorem e7_isHole {A : AB} {σ : St} (x : Int32) (h : RC A σ) (hA : okAB A) : M7_isHole x σ = some (if inb x (itm 0 (a0 A)) then 1 else 0, σ) := by
  unfold M7_isHole
  rw [e7_isBelow x _ σ h.1.2.2.1 (by have := itm_le (t := 0) hA.1.1; omega), bind_s]
  by_cases q : inb x (itm 0 (a0 A)) <;> simp [q]
theorem e7_isWork {A : AB} {σ : St} (x : Int32) (h : RC A σ) (hA : okAB A) : M7_isWork x σ = some (if inb x (itm 1 (a1 A)) then 1 else 0, σ) := by
  unfold M7_isWork
  rw [e7_isBelow x _ σ h.2.1.2.2.1 (by have := itm_le (t := 1) hA.1.2.1; omega), bind_s]
  by_cases q : inb x (itm 1 (a1 A)) <;> simp [q]
theorem e6_figure {σ : St} {t o k w : Nat} {b : List Nat} (h : tC σ t o b) (hl : b.length ≤ 39) (hk : k < itm t b) (hw : w < 4) : M6_figure o (nI k) (nI w) σ = some (nI (fig t b k w), σ) := by
  unfold M6_figure
  have := itm_le (t := t) hl
  have e : nI k * 4 + nI w = nI (k * 4 + w) := by rw [show (4 : Int32) = nI 4 from rfl, pk_mul, nI_add]
  rw [e, if_pos ((inb_nI (by omega)).mpr (by omega)), nI_clamp (n := k * 4 + w) (by omega), show k * 4 + w = 4 * k + w by omega, h.2.2.2 k w hk hw]
theorem c_hole {A : AB} {σ : St} (x y : Int32) (h : RC A σ) (hA : okAB A) : isC (M7_hole x y σ) σ (sHole x y A) := by
  unfold M7_hole sHole
  rw [e7_isHole x h hA, bind_s]
  by_cases q1 : inb x (itm 0 (a0 A))
  · rw [if_pos q1, if_neg (by decide), e7_isBelow y 4 σ (n := 4) rfl (by decide), bind_s]
    by_cases q2 : inb y 4
    · rw [if_pos q2, if_neg (by decide), if_pos (show inb x (itm 0 (a0 A)) ∧ inb y 4 from ⟨q1, q2⟩)]
      obtain ⟨k, hk, rfl, hx⟩ := inb_ex q1
      obtain ⟨w, hw, rfl, hy⟩ := inb_ex q2
      rw [nI_clamp hx, nI_clamp hy, e6_figure h.1 hA.1.1 hk hw, bind_s]
      exact isC_same h rfl
    · rw [if_neg q2, if_pos rfl, if_neg (fun z => q2 z.2)]
      exact isC_same h rfl
  · rw [if_neg q1, if_pos rfl, if_neg (fun z => q1 z.1)]
    exact isC_same h rfl
theorem c_work {A : AB} {σ : St} (x y : Int32) (h : RC A σ) (hA : okAB A) : isC (M7_work x y σ) σ (sWork x y A) := by
  unfold M7_work sWork
  rw [e7_isWork x h hA, bind_s]
  by_cases q1 : inb x (itm 1 (a1 A))
  · rw [if_pos q1, if_neg (by decide), e7_isBelow y 4 σ (n := 4) rfl (by decide), bind_s]
    by_cases q2 : inb y 4
    · rw [if_pos q2, if_neg (by decide), if_pos (show inb x (itm 1 (a1 A)) ∧ inb y 4 from ⟨q1, q2⟩)]
      obtain ⟨k, hk, rfl, hx⟩ := inb_ex q1
      obtain ⟨w, hw, rfl, hy⟩ := inb_ex q2
      rw [nI_clamp hx, nI_clamp hy, e6_figure h.2.1 hA.1.2.1 hk hw, bind_s]
      exact isC_same h rfl
    · rw [if_neg q2, if_pos rfl, if_neg (fun z => q2 z.2)]
      exact isC_same h rfl
  · rw [if_neg q1, if_pos rfl, if_neg (fun z => q1 z.1)]
    exact isC_same h rfl
/-- the reference, its texts read -/
def RMr (A : AB) (σ : St) : Prop := RM A σ ∧ rdM σ 0 (a0 A) ∧ rdM σ 1 (a1 A)
theorem m_reads {A : AB} {σ : St} (h : RM A σ) : Ok (M8_reads σ) (fun _ σ' => RMr A σ' ∧ hiM σ σ') :=
  (t8_reads h.1 h.2.1).mono (fun _ σ' hp => ⟨⟨RM_reads h hp.1, hp.2.1, hp.2.2⟩, fun c q => hp.1 c (by omega) (by omega)⟩)
theorem e8_isHoleR {A : AB} {σ : St} (x : Int32) (h : RMr A σ) (hA : okAB A) : M8_isHole x σ = some (if inb x (itm 0 (a0 A)) then 1 else 0, σ) := by
  unfold M8_isHole
  have := itm_le (t := 0) hA.1.1
  have hb : (((σ 7 0) - 1).toInt64).toInt = (itm 0 (a0 A) : Int) - 1 := by
    rw [h.2.1.1, Int32.toInt_toInt64, show (1 : Int32) = nI 1 from rfl, pk_sub_toInt (by omega) (by decide)]; rfl
  rw [e8_in0 x _ σ hb, bind_s]
  by_cases q : inb x (itm 0 (a0 A)) <;> simp [q]
theorem e8_isWorkR {A : AB} {σ : St} (x : Int32) (h : RMr A σ) (hA : okAB A) : M8_isWork x σ = some (if inb x (itm 1 (a1 A)) then 1 else 0, σ) := by
  unfold M8_isWork
  have := itm_le (t := 1) hA.1.2.1
  have hb : (((σ 7 1) - 1).toInt64).toInt = (itm 1 (a1 A) : Int) - 1 := by
    rw [h.2.2.1, Int32.toInt_toInt64, show (1 : Int32) = nI 1 from rfl, pk_sub_toInt (by omega) (by decide)]; rfl
  rw [e8_in0 x _ σ hb, bind_s]
  by_cases q : inb x (itm 1 (a1 A)) <;> simp [q]
theorem isM_end {A : AB} {σ0 σ : St} {r v : Int32} (h : RM A σ) (hi : hiM σ0 σ) (e : v = r) : Ok (some (v, σ)) (fun r' σ' => r' = (r, A).1 ∧ RM (r, A).2 σ' ∧ hiM σ0 σ') := ok_some.mpr ⟨e, h, hi⟩
theorem m_hole {A : AB} {σ : St} (x y : Int32) (h : RM A σ) (hA : okAB A) : isM (M8_hole x y σ) σ (sHole x y A) := by
  unfold M8_hole sHole isM
  refine ok_call (m_reads h) ?_
  rintro - σ1 ⟨hR, hi⟩
  have h8 := itm_le (t := 0) hA.1.1
  rw [e8_isHoleR x hR hA, bind_s]
  by_cases q1 : inb x (itm 0 (a0 A))
  · rw [if_pos q1, if_neg (by decide), e8_in0 y 3 σ1 (n := 4) rfl, bind_s]
    by_cases q2 : inb y 4
    · rw [if_pos q2, if_neg (by decide), if_pos (show inb x (itm 0 (a0 A)) ∧ inb y 4 from ⟨q1, q2⟩)]
      obtain ⟨k, hk, rfl, hx⟩ := inb_ex q1
      obtain ⟨w, hw, rfl, hy⟩ := inb_ex q2
      have e : (4 : Int32) * nI k + nI w = nI (4 * k + w) := by rw [show (4 : Int32) = nI 4 from rfl, pk_mul, nI_add]
      rw [nI_clamp hx, nI_clamp hy, e, if_pos ((inb_nI (by omega)).mpr (by omega)), nI_clamp (n := 4 * k + w) (by omega)]
      refine isM_end hR.1 hi ?_
      have := hR.2.1.2 k w hk hw
      rw [show 32 * 0 + 4 * k + w = 4 * k + w by omega] at this; exact this
    · rw [if_neg q2, if_pos rfl, if_neg (fun z => q2 z.2)]
      exact isM_end hR.1 hi rfl
  · rw [if_neg q1, if_pos rfl, if_neg (fun z => q1 z.1)]
    exact isM_end hR.1 hi rfl
theorem m_work {A : AB} {σ : St} (x y : Int32) (h : RM A σ) (hA : okAB A) : isM (M8_work x y σ) σ (sWork x y A) := by
  unfold M8_work sWork isM
  refine ok_call (m_reads h) ?_
  rintro - σ1 ⟨hR, hi⟩
  have h8 := itm_le (t := 1) hA.1.2.1
  rw [e8_isWorkR x hR hA, bind_s]
  by_cases q1 : inb x (itm 1 (a1 A))
  · rw [if_pos q1, if_neg (by decide), e8_in0 y 3 σ1 (n := 4) rfl, bind_s]
    by_cases q2 : inb y 4
    · rw [if_pos q2, if_neg (by decide), if_pos (show inb x (itm 1 (a1 A)) ∧ inb y 4 from ⟨q1, q2⟩)]
      obtain ⟨k, hk, rfl, hx⟩ := inb_ex q1
      obtain ⟨w, hw, rfl, hy⟩ := inb_ex q2
      have e : (32 : Int32) + 4 * nI k + nI w = nI (32 + 4 * k + w) := by rw [show (4 : Int32) = nI 4 from rfl, pk_mul, show (32 : Int32) = nI 32 from rfl, nI_add, nI_add]
      rw [nI_clamp hx, nI_clamp hy, e, if_pos ((inb_nI (by omega)).mpr (by omega)), nI_clamp (n := 32 + 4 * k + w) (by omega)]
      refine isM_end hR.1 hi ?_
      have := hR.2.2.2 k w hk hw
      rw [show 32 * 1 + 4 * k + w = 32 + 4 * k + w by omega] at this; exact this
    · rw [if_neg q2, if_pos rfl, if_neg (fun z => q2 z.2)]
      exact isM_end hR.1 hi rfl
  · rw [if_neg q1, if_pos rfl, if_neg (fun z => q1 z.1)]
    exact isM_end hR.1 hi rfl
-- sheets
def fnd (A : AB) (k : Nat) : Sp := (-10 - nI k, setFi A k)
theorem RC_fnd {A : AB} {σ : St} {k : Nat} (h : RC A σ) (hA : okAB A) : RC (setFi A k) (s2 σ 25 12 (nI k)) := by
  refine RC_small hA h (fun c z1 z2 z3 z4 => s2_ne z1) (s2_nj (by decide)) (s2_nk (by decide)) rfl rfl rfl rfl rfl (h.2.2.2.2.2.1.frame (s2_ne (by decide)) (s2_ne (by decide))) (by rw [s2_nj (by decide)]; exact h.2.2.2.2.2.2.2.1) (h.2.2.2.2.2.2.2.2.1.frame (fun c z1 z2 => s2_ne (by omega))) s2_eq
theorem c_found {A : AB} {σ : St} {k : Nat} (h : RC A σ) (hA : okAB A) : isC (bd (M7_found (nI k) σ) fun r s => some (r, s)) σ (fnd A k) := by
  unfold M7_found isC
  rw [ok_bind, ok_lt, ok_some, ok_some]
  exact ⟨rfl, RC_fnd h hA, fun c q => s2_ne (by omega)⟩
theorem RM_fnd {A : AB} {σ : St} {k : Nat} (h : RM A σ) : RM (setFi A k) (s2 σ 0 4 (nI k)) := by
  obtain ⟨t0, t1, l, f, p, s, e, sh, fi, n1, n2⟩ := h
  exact ⟨t0.keep (s2_ne (by decide)) (s2_ne (by decide)), t1.keep (s2_ne (by decide)) (s2_ne (by decide)), l.frame (s2_nj (by decide)) (s2_ne (by decide)), f.frame (s2_nj (by decide)) (s2_ne (by decide)), p.frame (s2_nj (by decide)) (s2_ne (by decide)), s.frame (s2_nj (by decide)) (s2_ne (by decide)), by rw [s2_nj (by decide)]; exact e, sh.frame (s2_ne (by decide)) (s2_ne (by decide)) (s2_ne (by decide)), s2_eq, by rw [s2_nj (by decide)]; exact n1, by rw [s2_nj (by decide)]; exact n2⟩
theorem m_found {A : AB} {σ : St} {k : Nat} (h : RM A σ) : isM (bd (M8_finds (nI k) σ) fun r s => some (r, s)) σ (fnd A k) := by
  unfold M8_finds isM
  rw [ok_bind, ok_lt, ok_some, ok_some]
  exact ⟨rfl, RM_fnd h, fun c q => s2_ne (by omega)⟩
def shM1 (σ : St) (k : Nat) (s : Option (Nat × List Int32)) : Prop := match s with
  | none => σ 1 k = -1
  | some (f, l) => σ 1 k = nI f ∧ σ 2 k = nI l.length ∧ ∀ i, i < l.length → σ 3 (60 * k + i) = l.getD i 0
def shC1 (σ : St) (k : Nat) (s : Option (Nat × List Int32)) : Prop := match s with
  | none => σ (90 + 2 * k) 1 = 1
  | some (f, l) => σ (90 + 2 * k) 1 = 0 ∧ σ (90 + 2 * k) 2 = nI f ∧ σ (90 + 2 * k) 3 = nI l.length ∧ ∀ i, i < l.length → σ (91 + 2 * k) i = l.getD i 0
/-- a sheet of the class was changed -/
theorem RC_sh {A : AB} {σ σ' : St} {k : Nat} {s : Option (Nat × List Int32)} (h : RC A σ) (hA : okAB A) (hk : k < 4) (hF : ∀ c, c ≠ 90 + 2 * k → c ≠ 91 + 2 * k → σ' c = σ c) (hs : shC1 σ' k s) : RC (setSh A (up (aSh A) k s)) σ' := by
  have z : ∀ c, c < 90 → σ' c = σ c := fun c hc => hF c (by omega) (by omega)
  refine RC_small hA h (fun c z1 z2 z3 z4 => z c z4) (by rw [z 25 (by decide)]) (by rw [z 46 (by decide)]) rfl rfl rfl rfl rfl (h.2.2.2.2.2.1.frame (z _ (by decide)) (z _ (by decide))) (by rw [z 25 (by decide)]; exact h.2.2.2.2.2.2.2.1) ?_ (by rw [z 25 (by decide)]; exact h.2.2.2.2.2.2.2.2.2.1)
  intro j hj
  show shC1 σ' j (up (aSh A) k s j)
  by_cases e : j = k
  · subst e; rw [up_eq]; exact hs
  · unfold shC1
    rw [up_ne e, hF (90 + 2 * j) (by omega) (by omega), hF (91 + 2 * j) (by omega) (by omega)]
    exact h.2.2.2.2.2.2.2.2.1 j hj
theorem RM_sh {A : AB} {σ σ' : St} {k : Nat} {s : Option (Nat × List Int32)} (h : RM A σ) (hk : k < 4) (hF : ∀ c, c ≠ 1 → c ≠ 2 → c ≠ 3 → c ≠ 4 → σ' c = σ c) (h1 : ∀ j, j ≠ k → σ' 1 j = σ 1 j) (h2 : ∀ j, j ≠ k → σ' 2 j = σ 2 j) (h3 : ∀ j, (j < 60 * k ∨ 60 * k + 60 ≤ j) → σ' 3 j = σ 3 j) (hl : okSh (aSh A)) (hs : shM1 σ' k s) : RM (setSh A (up (aSh A) k s)) σ' := by
  obtain ⟨t0, t1, l, f, p, s', e, sh, fi, n1, n2⟩ := h
  have z := fun c a b c' d => hF c a b c' d
  have z0 := hF 0 (by decide) (by decide) (by decide) (by decide)
  refine ⟨t0.keep (hF _ (by decide) (by decide) (by decide) (by decide)) (hF _ (by decide) (by decide) (by decide) (by decide)), t1.keep (hF _ (by decide) (by decide) (by decide) (by decide)) (hF _ (by decide) (by decide) (by decide) (by decide)), l.frame (by rw [z0]) (hF _ (by decide) (by decide) (by decide) (by decide)), f.frame (by rw [z0]) (hF _ (by decide) (by decide) (by decide) (by decide)), p.frame (by rw [z0]) (hF _ (by decide) (by decide) (by decide) (by decide)), s'.frame (by rw [z0]) (hF _ (by decide) (by decide) (by decide) (by decide)), by rw [z0]; exact e, ?_, by rw [z0]; exact fi, by rw [z0]; exact n1, by rw [z0]; exact n2⟩
  intro j hj
  show shM1 σ' j (up (aSh A) k s j)
  by_cases ej : j = k
  · subst ej; rw [up_eq]; exact hs
  · unfold shM1
    rw [up_ne ej, h1 j ej, h2 j ej]
    have := sh j hj
    have hl' := hl j
    revert this
    cases hq : aSh A j with
    | none => exact fun q => q
    | some v =>
      obtain ⟨f', l'⟩ := v
      have := (hl' f' l' hj hq).2
      intro q
      refine ⟨q.1, q.2.1, fun i hi => ?_⟩
      rw [h3 _ (by omega)]; exact q.2.2 i hi
def sSheet (x f n : Int32) (A : AB) : Sp := if inb x 4 ∧ inb f 3 ∧ n.toInt ≤ 60 then (if 0 ≤ n.toInt then (n, setSh A (up (aSh A) x.toNatClampNeg (some (f.toNatClampNeg, List.replicate n.toNatClampNeg 0)))) else fnd A 5) else (-2, A)
theorem e89 (k : Nat) : 89 + 1 + 2 * k = 90 + 2 * k := by omega
theorem le60 {x : Int32} : x ≤ 60 ↔ x.toInt ≤ 60 := by rw [i32_le]; rfl
theorem le0 {x : Int32} : 0 ≤ x ↔ 0 ≤ x.toInt := by rw [i32_le]; rfl
theorem rep0 {n i : Nat} : (List.replicate n (0 : Int32)).getD i 0 = 0 := by
  rw [List.getD_eq_getElem?_getD, List.getElem?_replicate]; split <;> rfl
theorem c_sheet {A : AB} {σ : St} (x f n : Int32) (h : RC A σ) (hA : okAB A) : isC (M7_sheet x f n σ) σ (sSheet x f n A) := by
  unfold M7_sheet sSheet
  rw [e7_isBelow x 4 σ (n := 4) rfl (by decide), bind_s]
  by_cases q1 : inb x 4
  · rw [if_pos q1, if_neg (by decide), e7_isBelow f 3 σ (n := 3) rfl (by decide), bind_s]
    by_cases q2 : inb f 3
    · rw [if_pos q2, if_neg (by decide), itx le60]
      by_cases q3 : n.toInt ≤ 60
      · rw [if_pos q3, if_pos (show inb x 4 ∧ inb f 3 ∧ n.toInt ≤ 60 from ⟨q1, q2, q3⟩), itx le0]
        by_cases q4 : 0 ≤ n.toInt
        · rw [if_pos q4, if_pos q4, if_pos q1]
          obtain ⟨k, hk, rfl, hx⟩ := inb_ex q1
          obtain ⟨g, hg, rfl, hf⟩ := inb_ex q2
          obtain ⟨m, hm, rfl, hn⟩ := inb_ex (x := n) (n := 61) ⟨q4, by omega⟩
          rw [nI_clamp hx, nI_clamp hf, nI_clamp hn, e89]
          unfold isC M5_begin
          rw [ok_bind, ok_lt, ok_lt, ok_lt]
          have hln : ln (90 + 2 * k + 1) = 60 := by rcases (show k = 0 ∨ k = 1 ∨ k = 2 ∨ k = 3 by omega) with rfl | rfl | rfl | rfl <;> rfl
          refine ok_call (tJ_fill (by omega)) ?_
          rintro - σ' ⟨hF, hv⟩
          rw [ok_some, ok_some]
          refine ⟨rfl, RC_sh (s := some (g, List.replicate m 0)) h hA hk (fun c z1 z2 => by rw [hF c (by omega), s2_ne z1, s2_ne z1, s2_ne z1]) ⟨?_, ?_, ?_, fun i hi => ?_⟩, fun c z => by rw [hF c (by omega), s2_ne (by omega), s2_ne (by omega), s2_ne (by omega)]⟩
          · rw [hF _ (by omega), s2_nj (by decide), s2_nj (by decide), s2_eq]
          · rw [hF _ (by omega), s2_nj (by decide), s2_eq]
          · rw [hF _ (by omega), s2_eq, List.length_replicate]
          · rw [List.length_replicate] at hi
            rw [rep0, show 91 + 2 * k = 90 + 2 * k + 1 by omega, hv i (by omega)]
        · rw [if_neg q4, if_neg q4]
          exact c_found (k := 5) h hA
      · rw [if_neg q3, if_neg (fun z => q3 z.2.2)]
        exact isC_same h rfl
    · rw [if_neg q2, if_pos rfl, if_neg (fun z => q2 z.2.1)]
      exact isC_same h rfl
  · rw [if_neg q1, if_pos rfl, if_neg (fun z => q1 z.1)]
    exact isC_same h rfl
theorem m_sheet {A : AB} {σ : St} (x f n : Int32) (h : RM A σ) (hA : okAB A) : isM (M8_sheet x f n σ) σ (sSheet x f n A) := by
  unfold M8_sheet sSheet
  rw [e8_isSheet, bind_s]
  by_cases q1 : inb x 4
  · rw [if_pos q1, if_neg (by decide), e8_in0 f 2 σ (n := 3) rfl, bind_s]
    by_cases q2 : inb f 3
    · rw [if_pos q2, if_neg (by decide), itx le60]
      by_cases q3 : n.toInt ≤ 60
      · rw [if_pos q3, if_pos (show inb x 4 ∧ inb f 3 ∧ n.toInt ≤ 60 from ⟨q1, q2, q3⟩), itx le0]
        by_cases q4 : 0 ≤ n.toInt
        · rw [if_pos q4, if_pos q4, if_pos q1]
          obtain ⟨k, hk, rfl, hx⟩ := inb_ex q1
          obtain ⟨g, hg, rfl, hf⟩ := inb_ex q2
          obtain ⟨m, hm, rfl, hn⟩ := inb_ex (x := n) (n := 61) ⟨q4, by omega⟩
          rw [nI_clamp hx, nI_clamp hf, nI_clamp hn]
          unfold isM
          rw [ok_lt, ok_lt]
          have key : ∀ (fu i : Nat) (σ' : St), i ≤ m → m + 1 ≤ fu + i → (∀ c, c ≠ 3 → σ' c = s2 (s2 σ 1 k (nI g)) 2 k (nI m) c) → (∀ j, (j < 60 * k ∨ 60 * k + 60 ≤ j) → σ' 3 j = σ 3 j) → (∀ j, j < i → σ' 3 (60 * k + j) = 0) → Ok (M8_sheet_L55 (nI k) (nI m) (fun σ => some (nI m, σ)) fu (nI i) σ') (fun r σ' => r = (nI m, setSh A (up (aSh A) k (some (g, List.replicate m 0)))).1 ∧ RM (nI m, setSh A (up (aSh A) k (some (g, List.replicate m 0)))).2 σ' ∧ hiM σ σ') := by
            intro fu
            induction fu with
            | zero => intro i σ' a b; omega
            | succ fu ih =>
              intro i σ' hi hn' hF h3 hv
              rw [M8_sheet_L55]
              by_cases he : i = m
              · refine ok_T ((nI_leI (by omega) (by omega)).mpr (by omega)) ?_
                rw [ok_some]
                refine ⟨rfl, RM_sh (s := some (g, List.replicate m 0)) h hk (fun c a b c' d => by rw [hF c c', s2_ne b, s2_ne a]) (fun j hj => by rw [hF 1 (by decide), s2_nk (by decide), s2_nj hj]) (fun j hj => by rw [hF 2 (by decide), s2_nj hj, s2_nk (by decide)]) h3 hA.2.2.2.2.2.2.1 ⟨?_, ?_, fun j hj => ?_⟩, fun c z => by rw [hF c (by omega), s2_ne (by omega), s2_ne (by omega)]⟩
                · rw [hF 1 (by decide), s2_nk (by decide), s2_eq]
                · rw [hF 2 (by decide), s2_eq, List.length_replicate]
                · rw [List.length_replicate] at hj
                  rw [rep0]; exact hv j (by omega)
              · refine ok_F (fun q => he (by have := (nI_leI (by omega) (by omega)).mp q; omega)) ?_
                have e : (60 : Int32) * nI k + nI i = nI (60 * k + i) := by rw [show (60 : Int32) = nI 60 from rfl, pk_mul, nI_add]
                rw [e]
                refine ok_T ((inb_nI (by omega)).mpr (by omega)) ?_
                rw [ok_lt, ok_lt, nI_clamp (n := 60 * k + i) (by omega), nI_1]
                refine ih (i + 1) _ (by omega) (by omega) (fun c hc => by rw [s2_ne hc]; exact hF c hc) (fun j hj => by rw [s2_nj (by omega)]; exact h3 j hj) (fun j hj => ?_)
                by_cases ej : j = i
                · subst ej; exact s2_eq
                · rw [s2_nj (by omega)]; exact hv j (by omega)
          exact key FU 0 _ (Nat.zero_le _) (by have := FU_ge; omega) (fun _ _ => rfl) (fun j _ => by rw [s2_nk (by decide), s2_nk (by decide)]) (fun j hj => by omega)
        · rw [if_neg q4, if_neg q4]
          exact m_found (k := 5) h
      · rw [if_neg q3, if_neg (fun z => q3 z.2.2)]
        exact isM_same h rfl
    · rw [if_neg q2, if_pos rfl, if_neg (fun z => q2 z.2.1)]
      exact isM_same h rfl
  · rw [if_neg q1, if_pos rfl, if_neg (fun z => q1 z.1)]
    exact isM_same h rfl
