def wrL (f : Nat) (l : List Int32) (V : Vw) : Nat → List Int32
  | 0 => l
  | h + 1 => (wrL f l V h).set h (cutF f (nI (lk V h)))
theorem wrL_len {f : Nat} {l : List Int32} {V : Vw} : ∀ n, (wrL f l V n).length = l.length := by
  intro n
  induction n with
  | zero => rfl
  | succ n ih => show ((wrL f l V n).set n _).length = _; rw [List.length_set, ih]
def sWrite (x y : Int32) (A : AB) : Sp := if inb x 40 ∧ inb y 4 then (match aSh A y.toNatClampNeg with
  | none => fnd A 1
  | some (f, l) => (nI (min l.length (itm 0 (a0 A))), setSh A (up (aSh A) y.toNatClampNeg (some (f, wrL f l (vwA A x.toNatClampNeg) (min l.length (itm 0 (a0 A)))))))) else (-2, A)
theorem ok_write {A : AB} (x y : Int32) (hA : okAB A) : okAB (sWrite x y A).2 := by
  unfold sWrite
  split
  · rename_i q
    obtain ⟨k, hk, rfl, hy⟩ := inb_ex q.2
    rw [nI_clamp hy]
    split
    · exact ok_fi hA (by decide)
    · rename_i f l hq
      obtain ⟨hg, hl⟩ := hA.2.2.2.2.2.2.1 k f l hk hq
      exact ok_sh hA (fun f' l' e => by cases e; exact ⟨hg, by rw [wrL_len]; exact hl⟩)
  · exact hA
theorem wset_getD {l : List Int32} {h i : Nat} {v : Int32} (hi : i < l.length) : (l.set h v).getD i 0 = if i = h then v else l.getD i 0 := by
  rw [List.getD_eq_getElem?_getD, List.getElem?_set, List.getD_eq_getElem?_getD]
  by_cases e : h = i
  · subst e; simp [hi]
  · rw [if_neg e, if_neg (fun q => e q.symm)]
theorem c_write {A : AB} {σ : St} (x y : Int32) (h : RC A σ) (hA : okAB A) : isC (M7_write x y σ) σ (sWrite x y A) := by
  unfold M7_write sWrite
  have h8 := itm_le (t := 0) hA.1.1
  rw [e7_isBelow x 40 σ (n := 40) rfl (by decide), bind_s]
  by_cases q0 : inb x 40
  · rw [if_pos q0, if_neg (by decide), e7_isBelow y 4 σ (n := 4) rfl (by decide), bind_s]
    by_cases q1 : inb y 4
    · rw [if_pos q1, if_neg (by decide), if_pos q1, if_pos (show inb x 40 ∧ inb y 4 from ⟨q0, q1⟩)]
      obtain ⟨d, hd, rfl, hx⟩ := inb_ex q0
      obtain ⟨k, hk, rfl, hy⟩ := inb_ex q1
      rw [nI_clamp hx, nI_clamp hy, e89]
      have hs : shC1 σ k (aSh A k) := h.2.2.2.2.2.2.2.2.1 k hk
      cases hq : aSh A k with
      | none =>
        rw [hq] at hs
        have hs' : σ (90 + 2 * k) 1 = 1 := hs
        unfold isC
        refine ok_F (by rw [hs']; decide) ?_
        exact c_found (k := 1) h hA
      | some v =>
        obtain ⟨f, l⟩ := v
        obtain ⟨hf, hl⟩ := hA.2.2.2.2.2.2.1 k f l hk hq
        rw [hq] at hs
        unfold isC
        refine ok_T hs.1 ?_
        refine ok_call (c_told h hA) ?_
        rintro _ σ1 ⟨rfl, hR, hT, hlo⟩
        refine ok_T rfl ?_
        have hv := cV_A hA hT hd
        have hs1 : shC1 σ1 k (aSh A k) := hR.2.2.2.2.2.2.2.2.1 k hk
        rw [hq] at hs1
        obtain ⟨s1', s2', s3', s4'⟩ := hs1
        have en : (if (σ1 26 7) < (σ1 (90 + 2 * k) 3) then σ1 26 7 else σ1 (90 + 2 * k) 3) = nI (min l.length (itm 0 (a0 A))) := by
          rw [s3', hR.1.2.2.1]
          by_cases c : itm 0 (a0 A) < l.length
          · rw [if_pos ((nI_ltI (by omega) (by omega)).mpr c), Nat.min_eq_right (by omega)]
          · rw [if_neg (fun q => c ((nI_ltI (by omega) (by omega)).mp q)), Nat.min_eq_left (by omega)]
        rw [ok_lt, en]
        dsimp only
        generalize hN : min l.length (itm 0 (a0 A)) = N
        have hN1 : N ≤ l.length := by omega
        have hN2 : N ≤ itm 0 (a0 A) := by omega
        have key : ∀ fu i σ', i ≤ N → N + 1 ≤ fu + i → (∀ c, c ≠ 91 + 2 * k → σ' c = σ1 c) → (∀ j, j < l.length → σ' (91 + 2 * k) j = (wrL f l (vwA A d) i).getD j 0) → Ok (M7_write_L65 (nI d) (90 + 2 * k) 48 (nI N) (fun σ => some (nI N, σ)) fu (nI i) σ') (fun r σ' => r = nI N ∧ RC (setSh A (up (aSh A) k (some (f, wrL f l (vwA A d) N)))) σ' ∧ loC σ σ') := by
          intro fu
          induction fu with
          | zero => intro i σ' _ _; omega
          | succ fu ih =>
            intro i σ' hi hfu hF hw
            rw [M7_write_L65]
            by_cases e : N ≤ i
            · rw [if_pos ((nI_leI (by omega) (by omega)).mpr (by omega)), ok_some]
              refine ⟨rfl, RC_sh (s := some (f, wrL f l (vwA A d) N)) hR hA hk (fun c z1 z2 => hF c z2) ⟨?_, ?_, ?_, fun j hj => ?_⟩, fun c z => by rw [hF c (by omega)]; exact hlo c z⟩
              · rw [hF _ (by omega)]; exact s1'
              · rw [hF _ (by omega)]; exact s2'
              · rw [hF _ (by omega), wrL_len]; exact s3'
              · rw [wrL_len] at hj; rw [hw j hj, show i = N by omega]
            · rw [if_neg (fun q => by have := (nI_leI (by omega) (by omega)).mp q; omega)]
              have hv' : cV σ' 48 d (itm 0 (a0 A)) (vwA A d) := by
                intro j hj
                rw [hF _ (by omega), hF _ (by omega), hF _ (by omega)]; exact hv j hj
              rw [e1_sight hv' h8 hd (by omega), bind_s, e5_put (g := f) (by rw [hF _ (by omega)]; exact s2') hf (by omega), bind_s, ok_lt, nI_1]
              refine ih (i + 1) _ (by omega) (by omega) (fun c z => by rw [s2_ne (by omega)]; exact hF c z) (fun j hj => ?_)
              show s2 σ' (90 + 2 * k + 1) i _ (91 + 2 * k) j = ((wrL f l (vwA A d) i).set i (cutF f (nI (lk (vwA A d) i)))).getD j 0
              rw [show 91 + 2 * k = 90 + 2 * k + 1 by omega, wset_getD (by rw [wrL_len]; exact hj)]
              by_cases ej : j = i
              · rw [if_pos ej, ej, s2_eq]
              · rw [if_neg ej, s2_nj ej, show 90 + 2 * k + 1 = 91 + 2 * k by omega]; exact hw j hj
        exact key FU 0 σ1 (by omega) (by have := FU_ge; omega) (fun _ _ => rfl) s4'
    · rw [if_neg q1, if_pos rfl, if_neg (fun z => q1 z.2)]
      exact isC_same h rfl
  · rw [if_neg q0, if_pos rfl, if_neg (fun z => q0 z.1)]
    exact isC_same h rfl
theorem e8_cut {f : Nat} (hf : f < 3) (v : Int32) (σ : St) : M8_cut (nI f) v σ = some (cutF f v, σ) := by
  unfold M8_cut cutF
  rcases (show f = 0 ∨ f = 1 ∨ f = 2 by omega) with rfl | rfl | rfl
  · rfl
  · rfl
  · rfl
theorem m_write {A : AB} {σ : St} (x y : Int32) (h : RM A σ) (hA : okAB A) : isM (M8_write x y σ) σ (sWrite x y A) := by
  unfold M8_write sWrite
  have h8 := itm_le (t := 0) hA.1.1
  rw [e8_isDay, bind_s]
  by_cases q0 : inb x 40
  · rw [if_pos q0, if_neg (by decide), e8_isSheet, bind_s]
    by_cases q1 : inb y 4
    · rw [if_pos q1, if_neg (by decide), if_pos q1, if_pos (show inb x 40 ∧ inb y 4 from ⟨q0, q1⟩)]
      obtain ⟨d, hd, rfl, hx⟩ := inb_ex q0
      obtain ⟨k, hk, rfl, hy⟩ := inb_ex q1
      rw [nI_clamp hx, nI_clamp hy]
      have hs : shM1 σ k (aSh A k) := h.2.2.2.2.2.2.2.1 k hk
      cases hq : aSh A k with
      | none =>
        rw [hq] at hs
        have hs' : σ 1 k = -1 := hs
        unfold isM
        refine ok_F (by rw [hs']; decide) ?_
        exact m_found (k := 1) h
      | some v =>
        obtain ⟨f, l⟩ := v
        obtain ⟨hf, hl⟩ := hA.2.2.2.2.2.2.1 k f l hk hq
        rw [hq] at hs
        unfold isM
        refine ok_T (by rw [hs.1]; exact form0 hf) ?_
        refine ok_call (m_reads h) ?_
        rintro ⟨⟩ σ0 ⟨hR0, hi0⟩
        refine ok_call (x_livesV hd (RX_of hR0 hA)) ?_
        rintro _ σ1 ⟨hR, hv, hF0⟩
        have hv : mV σ1 (itm 0 (a0 A)) (vwA A d) := hv
        have hs1 : shM1 σ1 k (aSh A k) := hR.2.2.2.2.2.2.1 k hk
        rw [hq] at hs1
        obtain ⟨s1', s2', s3'⟩ := hs1
        rw [s2', hR.2.2.1.1, e8_lesser (by omega) (by omega), bind_s]
        dsimp only
        generalize hN : min l.length (itm 0 (a0 A)) = N
        have hN1 : N ≤ l.length := by omega
        have hN2 : N ≤ itm 0 (a0 A) := by omega
        have key : ∀ fu i σ', i ≤ N → N + 1 ≤ fu + i → (∀ c, c ≠ 3 → σ' c = σ1 c) → (∀ j, (j < 60 * k ∨ 60 * k + 60 ≤ j) → σ' 3 j = σ1 3 j) → (∀ j, j < l.length → σ' 3 (60 * k + j) = (wrL f l (vwA A d) i).getD j 0) → Ok (M8_write_L60 (nI k) (nI N) (fun σ => some (nI N, σ)) fu (nI i) σ') (fun r σ' => r = nI N ∧ RM (setSh A (up (aSh A) k (some (f, wrL f l (vwA A d) N)))) σ' ∧ hiM σ σ') := by
          intro fu
          induction fu with
          | zero => intro i σ' _ _; omega
          | succ fu ih =>
            intro i σ' hi hfu hF hF3 hw
            rw [M8_write_L60]
            by_cases e : N ≤ i
            · rw [if_pos ((nI_leI (by omega) (by omega)).mpr (by omega)), ok_some]
              refine ⟨rfl, RM_sh (s := some (f, wrL f l (vwA A d) N)) hR.to.1 hk (fun c z1 z2 z3 z4 => hF c z3) (fun j hj => by rw [hF 1 (by decide)]) (fun j hj => by rw [hF 2 (by decide)]) hF3 hA.2.2.2.2.2.2.1 ⟨?_, ?_, fun j hj => ?_⟩, fun c z => by rw [hF c (by omega), hF0.hi c z]; exact hi0 c z⟩
              · rw [hF _ (by omega)]; exact s1'
              · rw [hF _ (by omega), wrL_len]; exact s2'
              · rw [wrL_len] at hj; rw [hw j hj, show i = N by omega]
            · rw [if_neg (fun q => by have := (nI_leI (by omega) (by omega)).mp q; omega), if_pos q1]
              have hv' : mV σ' (itm 0 (a0 A)) (vwA A d) := by
                intro j hj
                rw [hF _ (by omega), hF _ (by omega), hF _ (by omega)]; exact hv j hj
              have e60 : (60 : Int32) * nI k + nI i = nI (60 * k + i) := by rw [show (60 : Int32) = nI 60 from rfl, pk_mul, nI_add]
              rw [e8_looks hv' h8 (by omega), bind_s, nI_clamp (n := k) (by omega), hF 1 (by decide), s1', e8_cut hf, bind_s, e60, if_pos ((inb_nI (by omega)).mpr (by omega)), nI_clamp (n := 60 * k + i) (by omega), ok_lt, ok_lt, nI_1]
              refine ih (i + 1) _ (by omega) (by omega) (fun c z => by rw [s2_ne (by omega)]; exact hF c z) (fun j hj => by rw [s2_nj (by omega)]; exact hF3 j hj) (fun j hj => ?_)
              show s2 σ' 3 (60 * k + i) _ 3 (60 * k + j) = ((wrL f l (vwA A d) i).set i (cutF f (nI (lk (vwA A d) i)))).getD j 0
              rw [wset_getD (by rw [wrL_len]; exact hj)]
              by_cases ej : j = i
              · rw [if_pos ej, ej, s2_eq]
              · rw [if_neg ej, s2_nj (by omega)]; exact hw j hj
        exact key FU 0 σ1 (by omega) (by have := FU_ge; omega) (fun _ _ => rfl) (fun _ _ => rfl) s3'
    · rw [if_neg q1, if_pos rfl, if_neg (fun z => q1 z.2)]
      exact isM_same h rfl
  · rw [if_neg q0, if_pos rfl, if_neg (fun z => q0 z.1)]
    exact isM_same h rfl
