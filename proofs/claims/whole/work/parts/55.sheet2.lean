def sLose (x : Int32) (A : AB) : Sp := if inb x 4 then (match aSh A x.toNatClampNeg with
  | none => fnd A 1
  | some (_, l) => (nI l.length, setSh A (up (aSh A) x.toNatClampNeg none))) else (-2, A)
theorem c_lose {A : AB} {σ : St} (x : Int32) (h : RC A σ) (hA : okAB A) : isC (M7_lose x σ) σ (sLose x A) := by
  unfold M7_lose sLose
  rw [e7_isBelow x 4 σ (n := 4) rfl (by decide), bind_s]
  by_cases q1 : inb x 4
  · rw [if_pos q1, if_neg (by decide), if_pos q1, if_pos q1]
    obtain ⟨k, hk, rfl, hx⟩ := inb_ex q1
    rw [nI_clamp hx, e89]
    have hs : shC1 σ k (aSh A k) := h.2.2.2.2.2.2.2.2.1 k hk
    cases hq : aSh A k with
    | none =>
      rw [hq] at hs
      have hs' : σ (90 + 2 * k) 1 = 1 := hs
      unfold isC
      refine ok_F (by rw [hs']; decide) ?_
      exact c_found (k := 1) h hA
    | some v =>
      obtain ⟨f, l⟩ := v
      rw [hq] at hs
      obtain ⟨s1', s2', s3', s4'⟩ := hs
      unfold isC
      refine ok_T s1' ?_
      rw [ok_lt, ok_some]
      refine ⟨by rw [s2_nj (by decide)]; exact s3', RC_sh (s := none) h hA hk (fun c z1 z2 => s2_ne z1) s2_eq, fun c z => s2_ne (by omega)⟩
  · rw [if_neg q1, if_pos rfl, if_neg q1]
    exact isC_same h rfl
theorem form0 {f : Nat} (h : f < 3) : 0 ≤ nI f := nI_pos' (by omega)
theorem m_lose {A : AB} {σ : St} (x : Int32) (h : RM A σ) (hA : okAB A) : isM (M8_lose x σ) σ (sLose x A) := by
  unfold M8_lose sLose
  rw [e8_isSheet, bind_s]
  by_cases q1 : inb x 4
  · rw [if_pos q1, if_neg (by decide), if_pos q1, if_pos q1]
    obtain ⟨k, hk, rfl, hx⟩ := inb_ex q1
    rw [nI_clamp hx]
    have hs : shM1 σ k (aSh A k) := h.2.2.2.2.2.2.2.1 k hk
    cases hq : aSh A k with
    | none =>
      rw [hq] at hs
      have hs' : σ 1 k = -1 := hs
      unfold isM
      refine ok_F (by rw [hs']; decide) ?_
      exact m_found (k := 1) h
    | some v =>
      obtain ⟨f, l⟩ := v
      rw [hq] at hs
      obtain ⟨s1', s2', s3'⟩ := hs
      have hf := (hA.2.2.2.2.2.2.1 k f l hk hq).1
      unfold isM
      refine ok_T (by rw [s1']; exact form0 hf) ?_
      rw [ok_lt, ok_some]
      refine ⟨by rw [s2_nk (by decide)]; exact s2', RM_sh (s := none) h hk (fun c a b c' d => s2_ne a) (fun j hj => s2_nj hj) (fun j hj => s2_nk (by decide)) (fun j hj => s2_nk (by decide)) hA.2.2.2.2.2.2.1 s2_eq, fun c z => s2_ne (by omega)⟩
  · rw [if_neg q1, if_pos rfl, if_neg q1]
    exact isM_same h rfl
def cutF (f : Nat) (v : Int32) : Int32 := if f = 0 then v.toInt8.toInt32 else if f = 1 then v.toInt16.toInt32 else v
def sLay (x f i v : Int32) (A : AB) : Sp := if inb x 4 ∧ inb f 3 then (match aSh A x.toNatClampNeg with
  | none => fnd A 1
  | some (g, l) => if nI g = f then (if inb i l.length then (1, setSh A (up (aSh A) x.toNatClampNeg (some (g, l.set i.toNatClampNeg (cutF g v))))) else fnd A 2) else fnd A 3) else (-2, A)
def sGet (x f i : Int32) (A : AB) : Sp := if inb x 4 ∧ inb f 3 then (match aSh A x.toNatClampNeg with
  | none => (-2147483648, setFi A 1)
  | some (g, l) => if nI g = f then (if inb i l.length then (l.getD i.toNatClampNeg 0, A) else (-2147483648, setFi A 2)) else (-2147483648, setFi A 3)) else (-2147483648, A)
theorem e5_put {σ : St} {o g i : Nat} {v : Int32} (h2 : σ o 2 = nI g) (hg : g < 3) (hi : i < 60) : M5_put o (nI i) v σ = some ((), s2 σ (o + 1) i (cutF g v)) := by
  unfold M5_put cutF
  have hin : inb (nI i) 60 := (inb_nI (by omega)).mpr hi
  rw [h2, if_pos hin, if_pos hin, if_pos hin, nI_clamp (n := i) (by omega)]
  rcases (show g = 0 ∨ g = 1 ∨ g = 2 by omega) with rfl | rfl | rfl <;> rfl
theorem lset_getD {l : List Int32} {i j : Nat} {v : Int32} (hj : j < l.length) : (l.set i v).getD j 0 = if j = i then v else l.getD j 0 := by
  rw [List.getD_eq_getElem?_getD, List.getElem?_set, List.getD_eq_getElem?_getD]
  by_cases e : i = j
  · subst e; simp [hj]
  · rw [if_neg e, if_neg (Ne.symm e)]
theorem c_lay {A : AB} {σ : St} (x f i v : Int32) (h : RC A σ) (hA : okAB A) : isC (M7_lay x f i v σ) σ (sLay x f i v A) := by
  unfold M7_lay sLay
  rw [e7_isBelow x 4 σ (n := 4) rfl (by decide), bind_s]
  by_cases q1 : inb x 4
  · rw [if_pos q1, if_neg (by decide), e7_isBelow f 3 σ (n := 3) rfl (by decide), bind_s]
    by_cases q2 : inb f 3
    · rw [if_pos q2, if_neg (by decide), if_pos q1, if_pos (show inb x 4 ∧ inb f 3 from ⟨q1, q2⟩)]
      obtain ⟨k, hk, rfl, hx⟩ := inb_ex q1
      rw [nI_clamp hx, e89]
      have hs : shC1 σ k (aSh A k) := h.2.2.2.2.2.2.2.2.1 k hk
      unfold M5_refusal
      cases hq : aSh A k with
      | none =>
        rw [hq] at hs
        have hs' : σ (90 + 2 * k) 1 = 1 := hs
        rw [hs', if_neg (by decide), bind_s, if_neg (by decide)]
        exact c_found (k := 1) h hA
      | some w =>
        obtain ⟨g, l⟩ := w
        rw [hq] at hs
        obtain ⟨s1', s2', s3', s4'⟩ := hs
        obtain ⟨hg, hl⟩ := hA.2.2.2.2.2.2.1 k g l hk hq
        rw [s1', if_pos rfl, s2', s3']
        dsimp only
        by_cases q3 : nI g = f
        · rw [if_pos q3, if_pos q3, e7_isBelow i _ σ (n := l.length) rfl (by omega), bind_s]
          by_cases q4 : inb i l.length
          · rw [if_pos q4, if_pos q4, if_neg (by decide), bind_s, if_pos rfl]
            obtain ⟨j, hj, rfl, hi⟩ := inb_ex q4
            rw [nI_clamp hi, e5_put s2' hg (by omega), bind_s]
            unfold isC
            rw [ok_some]
            refine ⟨rfl, RC_sh (s := some (g, l.set j (cutF g v))) h hA hk (fun c z1 z2 => s2_ne (by omega)) ⟨?_, ?_, ?_, fun i hi => ?_⟩, fun c z => s2_ne (by omega)⟩
            · rw [s2_nk (by omega)]; exact s1'
            · rw [s2_nk (by omega)]; exact s2'
            · rw [s2_nk (by omega), List.length_set]; exact s3'
            · rw [List.length_set] at hi
              rw [lset_getD hi, show 91 + 2 * k = 90 + 2 * k + 1 by omega]
              by_cases e : i = j
              · subst e; rw [s2_eq, if_pos rfl]
              · rw [s2_nj e, if_neg e, show 90 + 2 * k + 1 = 91 + 2 * k by omega]; exact s4' i hi
          · rw [if_neg q4, if_neg q4, if_pos rfl, bind_s, if_neg (by decide)]
            exact c_found (k := 2) h hA
        · rw [if_neg q3, if_neg q3, bind_s, if_neg (by decide)]
          exact c_found (k := 3) h hA
    · rw [if_neg q2, if_pos rfl, if_neg (fun z => q2 z.2)]
      exact isC_same h rfl
  · rw [if_neg q1, if_pos rfl, if_neg (fun z => q1 z.1)]
    exact isC_same h rfl
theorem c_get {A : AB} {σ : St} (x f i : Int32) (h : RC A σ) (hA : okAB A) : isC (M7_get x f i σ) σ (sGet x f i A) := by
  unfold M7_get sGet
  have fin : ∀ m : Nat, isC (bd (M7_found (nI m) σ) fun r10 σ10 => some (-2147483648, σ10)) σ (-2147483648, setFi A m) := by
    intro m
    unfold M7_found isC
    rw [ok_bind, ok_lt, ok_some, ok_some]
    exact ⟨rfl, RC_fnd h hA, fun c q => s2_ne (by omega)⟩
  rw [e7_isBelow x 4 σ (n := 4) rfl (by decide), bind_s]
  by_cases q1 : inb x 4
  · rw [if_pos q1, if_neg (by decide), e7_isBelow f 3 σ (n := 3) rfl (by decide), bind_s]
    by_cases q2 : inb f 3
    · rw [if_pos q2, if_neg (by decide), if_pos q1, if_pos (show inb x 4 ∧ inb f 3 from ⟨q1, q2⟩)]
      obtain ⟨k, hk, rfl, hx⟩ := inb_ex q1
      rw [nI_clamp hx, e89]
      have hs : shC1 σ k (aSh A k) := h.2.2.2.2.2.2.2.2.1 k hk
      unfold M5_refusal
      cases hq : aSh A k with
      | none =>
        rw [hq] at hs
        have hs' : σ (90 + 2 * k) 1 = 1 := hs
        rw [hs', if_neg (by decide), bind_s, if_neg (by decide)]
        exact fin 1
      | some w =>
        obtain ⟨g, l⟩ := w
        rw [hq] at hs
        obtain ⟨s1', s2', s3', s4'⟩ := hs
        obtain ⟨hg, hl⟩ := hA.2.2.2.2.2.2.1 k g l hk hq
        rw [s1', if_pos rfl, s2', s3']
        dsimp only
        by_cases q3 : nI g = f
        · rw [if_pos q3, if_pos q3, e7_isBelow i _ σ (n := l.length) rfl (by omega), bind_s]
          by_cases q4 : inb i l.length
          · rw [if_pos q4, if_pos q4, if_neg (by decide), bind_s, if_pos rfl]
            obtain ⟨j, hj, rfl, hi⟩ := inb_ex q4
            unfold M5_item
            rw [nI_clamp hi, if_pos ((inb_nI (by omega)).mpr (by omega)), bind_s]
            refine isC_same h ?_
            rw [show 90 + 2 * k + 1 = 91 + 2 * k by omega]; exact s4' j hj
          · rw [if_neg q4, if_neg q4, if_pos rfl, bind_s, if_neg (by decide)]
            exact fin 2
        · rw [if_neg q3, if_neg q3, bind_s, if_neg (by decide)]
          exact fin 3
    · rw [if_neg q2, if_pos rfl, if_neg (fun z => q2 z.2)]
      exact isC_same h rfl
  · rw [if_neg q1, if_pos rfl, if_neg (fun z => q1 z.1)]
    exact isC_same h rfl
/-- what the reference finds wanting of item i of sheet k as of form f: 0, or the finding -/
theorem t8_lacks {A : AB} {σ : St} {k : Nat} (f i : Int32) (h : RM A σ) (hA : okAB A) (hk : k < 4) : M8_lacks (nI k) f i σ = match aSh A k with
  | none => some (-10 - nI 1, s2 σ 0 4 (nI 1))
  | some (g, l) => if nI g = f then (if inb i l.length then some (0, σ) else some (-10 - nI 2, s2 σ 0 4 (nI 2))) else some (-10 - nI 3, s2 σ 0 4 (nI 3)) := by
  have hs : shM1 σ k (aSh A k) := h.2.2.2.2.2.2.2.1 k hk
  unfold M8_lacks M8_finds
  rw [if_pos ((inb_nI (by omega)).mpr hk), nI_clamp (n := k) (by omega)]
  cases hq : aSh A k with
  | none =>
    rw [hq] at hs
    have hs' : σ 1 k = -1 := hs
    rw [hs', if_neg (by decide)]; rfl
  | some v =>
    obtain ⟨g, l⟩ := v
    rw [hq] at hs
    obtain ⟨s1', s2', s3'⟩ := hs
    obtain ⟨hg, hl⟩ := hA.2.2.2.2.2.2.1 k g l hk hq
    dsimp only
    rw [s1', if_pos (form0 hg)]
    by_cases q3 : nI g = f
    · rw [if_pos q3, if_pos q3]
      have hb : (((σ 2 k) - 1).toInt64).toInt = (l.length : Int) - 1 := by
        rw [s2', Int32.toInt_toInt64, show (1 : Int32) = nI 1 from rfl, pk_sub_toInt (by omega) (by decide)]; rfl
      rw [e8_in0 i _ σ hb, bind_s]
      by_cases q4 : inb i l.length
      · rw [if_pos q4, if_pos q4, if_neg (by decide)]
      · rw [if_neg q4, if_neg q4, if_pos rfl]; rfl
    · rw [if_neg q3, if_neg q3]; rfl
theorem m_lay {A : AB} {σ : St} (x f i v : Int32) (h : RM A σ) (hA : okAB A) : isM (M8_lay x f i v σ) σ (sLay x f i v A) := by
  unfold M8_lay sLay
  rw [e8_isSheet, bind_s]
  by_cases q1 : inb x 4
  · rw [if_pos q1, if_neg (by decide), e8_in0 f 2 σ (n := 3) rfl, bind_s]
    by_cases q2 : inb f 3
    · rw [if_pos q2, if_neg (by decide), if_pos (show inb x 4 ∧ inb f 3 from ⟨q1, q2⟩)]
      obtain ⟨k, hk, rfl, hx⟩ := inb_ex q1
      rw [nI_clamp hx, t8_lacks f i h hA hk]
      have hs : shM1 σ k (aSh A k) := h.2.2.2.2.2.2.2.1 k hk
      unfold isM
      cases hq : aSh A k with
      | none =>
        dsimp only
        rw [bind_s, if_neg (by decide), ok_some]
        exact ⟨rfl, RM_fnd h, fun c q => s2_ne (by omega)⟩
      | some w =>
        obtain ⟨g, l⟩ := w
        rw [hq] at hs
        obtain ⟨s1', s2', s3'⟩ := hs
        obtain ⟨hg, hl⟩ := hA.2.2.2.2.2.2.1 k g l hk hq
        dsimp only
        by_cases q3 : nI g = f
        · rw [if_pos q3, if_pos q3]
          by_cases q4 : inb i l.length
          · rw [if_pos q4, if_pos q4, bind_s, if_pos rfl]
            obtain ⟨j, hj, rfl, hi⟩ := inb_ex q4
            have hcut : M8_cut f v σ = some (cutF g v, σ) := by
              unfold M8_cut cutF
              rw [← q3]
              rcases (show g = 0 ∨ g = 1 ∨ g = 2 by omega) with rfl | rfl | rfl <;> rfl
            have e : (60 : Int32) * nI k + nI j = nI (60 * k + j) := by rw [show (60 : Int32) = nI 60 from rfl, pk_mul, nI_add]
            rw [hcut, bind_s, e, nI_clamp hi]
            refine ok_T ((inb_nI (by omega)).mpr (by omega)) ?_
            rw [ok_lt, ok_some, nI_clamp (n := 60 * k + j) (by omega)]
            refine ⟨rfl, RM_sh (s := some (g, l.set j (cutF g v))) h hk (fun c a b c' d => s2_ne c') (fun j hj => s2_nk (by decide)) (fun j hj => s2_nk (by decide)) (fun i hi => s2_nj (by omega)) hA.2.2.2.2.2.2.1 ⟨?_, ?_, fun i hi => ?_⟩, fun c z => s2_ne (by omega)⟩
            · rw [s2_nk (by decide)]; exact s1'
            · rw [s2_nk (by decide), List.length_set]; exact s2'
            · rw [List.length_set] at hi
              rw [lset_getD hi]
              by_cases e : i = j
              · subst e; rw [s2_eq, if_pos rfl]
              · rw [s2_nj (by omega), if_neg e]; exact s3' i hi
          · rw [if_neg q4, if_neg q4, bind_s, if_neg (by decide), ok_some]
            exact ⟨rfl, RM_fnd h, fun c q => s2_ne (by omega)⟩
        · rw [if_neg q3, if_neg q3, bind_s, if_neg (by decide), ok_some]
          exact ⟨rfl, RM_fnd h, fun c q => s2_ne (by omega)⟩
    · rw [if_neg q2, if_pos rfl, if_neg (fun z => q2 z.2)]
      exact isM_same h rfl
  · rw [if_neg q1, if_pos rfl, if_neg (fun z => q1 z.1)]
    exact isM_same h rfl
theorem m_get {A : AB} {σ : St} (x f i : Int32) (h : RM A σ) (hA : okAB A) : isM (M8_get x f i σ) σ (sGet x f i A) := by
  unfold M8_get sGet
  rw [e8_isSheet, bind_s]
  by_cases q1 : inb x 4
  · rw [if_pos q1, if_neg (by decide), e8_in0 f 2 σ (n := 3) rfl, bind_s]
    by_cases q2 : inb f 3
    · rw [if_pos q2, if_neg (by decide), if_pos (show inb x 4 ∧ inb f 3 from ⟨q1, q2⟩)]
      obtain ⟨k, hk, rfl, hx⟩ := inb_ex q1
      rw [nI_clamp hx, t8_lacks f i h hA hk]
      have hs : shM1 σ k (aSh A k) := h.2.2.2.2.2.2.2.1 k hk
      unfold isM
      cases hq : aSh A k with
      | none =>
        dsimp only
        rw [bind_s, if_neg (by decide), ok_some]
        exact ⟨rfl, RM_fnd h, fun c q => s2_ne (by omega)⟩
      | some w =>
        obtain ⟨g, l⟩ := w
        rw [hq] at hs
        obtain ⟨s1', s2', s3'⟩ := hs
        obtain ⟨hg, hl⟩ := hA.2.2.2.2.2.2.1 k g l hk hq
        dsimp only
        by_cases q3 : nI g = f
        · rw [if_pos q3, if_pos q3]
          by_cases q4 : inb i l.length
          · rw [if_pos q4, if_pos q4, bind_s, if_pos rfl]
            obtain ⟨j, hj, rfl, hi⟩ := inb_ex q4
            have e : (60 : Int32) * nI k + nI j = nI (60 * k + j) := by rw [show (60 : Int32) = nI 60 from rfl, pk_mul, nI_add]
            rw [e, nI_clamp hi]
            refine ok_T ((inb_nI (by omega)).mpr (by omega)) ?_
            rw [ok_some, nI_clamp (n := 60 * k + j) (by omega)]
            exact ⟨s3' j hj, h, hiM.rf⟩
          · rw [if_neg q4, if_neg q4, bind_s, if_neg (by decide), ok_some]
            exact ⟨rfl, RM_fnd h, fun c q => s2_ne (by omega)⟩
        · rw [if_neg q3, if_neg q3, bind_s, if_neg (by decide), ok_some]
          exact ⟨rfl, RM_fnd h, fun c q => s2_ne (by omega)⟩
    · rw [if_neg q2, if_pos rfl, if_neg (fun z => q2 z.2)]
      exact isM_same h rfl
  · rw [if_neg q1, if_pos rfl, if_neg (fun z => q1 z.1)]
    exact isM_same h rfl
