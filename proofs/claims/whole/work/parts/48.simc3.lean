/-- a loan that is out is no breach yet -/
def okE (H : Hd) (B : Bk) (d : Nat) (G : Gs) : Prop := (∀ id, gbr G id ≠ none → (g4 B.1 id).1 < d) ∧ ∀ h id, h < H.1 → gou G h = some id → gbr G id = none
theorem okE_lend {H : Hd} {B : Bk} {G : Gs} {d : Nat} {x : Nat × Q4} (hx : x.2 = g4 B.1 x.1) (h : okE H B d G) : okE H B d (lendS H.1 d x G) := by
  unfold lendS
  split
  · rename_i hc
    refine ⟨h.1, fun h' id hh hid => ?_⟩
    simp only [gou, up] at hid
    by_cases e : h' = x.2.2.1
    · rw [if_pos e] at hid; cases hid
      cases hb : gbr G x.1 with
      | none => rfl
      | some v => have := h.1 x.1 (by rw [hb]; simp); rw [← hx, hc.1] at this; omega
    · rw [if_neg e] at hid; exact h.2 h' id hh hid
  · exact h
theorem okE_pass {H : Hd} {B : Bk} {G : Gs} {d h0 : Nat} (hG : okG H B G) (hD : okD B (d + 1) G) (hh0 : h0 < H.1) (h : okE H B (d + 1) G) : okE H B (d + 1) (passS H (dyB B) d h0 G) := by
  unfold passS
  split
  · exact h
  · rename_i id hid
    dsimp only
    split
    · refine ⟨fun j hj => ?_, fun h' j hh hj => ?_⟩
      · simp only [gbr, up] at hj
        by_cases e : j = id
        · subst e; exact hD.2 _ _ hid
        · rw [if_neg e] at hj; exact h.1 j hj
      · simp only [gou, up] at hj
        by_cases e : h' = h0
        · rw [if_pos e] at hj; cases hj
        · rw [if_neg e] at hj
          have e2 : j ≠ id := by
            intro q; subst q
            have a := ((hG h' hh).2.2.2.2 j hj).2.2
            have b := ((hG h0 hh0).2.2.2.2 j hid).2.2
            omega
          simp only [gbr, up, e2, if_false]
          exact h.2 h' j hh hj
    · exact h
theorem okD_lend {H : Hd} {B : Bk} {G : Gs} {d : Nat} {x : Nat × Q4} (hx : x.2 = g4 B.1 x.1) (h : okD B (d + 1) G) : okD B (d + 1) (lendS H.1 d x G) := by
  unfold lendS
  split
  · rename_i hc
    refine ⟨h.1, fun h' id hid => ?_⟩
    simp only [gou, up] at hid
    by_cases e : h' = x.2.2.1
    · rw [if_pos e] at hid; cases hid
      rw [← hx, hc.1]; omega
    · rw [if_neg e] at hid; exact h.2 h' id hid
  · exact h
theorem okD_mid {H : Hd} {B : Bk} {d : Nat} : okD B (d + 1) (midD H B d (sim H B d)) := by
  have ih := okD_sim (H := H) (B := B) d
  have h0 : okD B (d + 1) (sim H B d) := ⟨fun id h => by have := ih.1 id h; omega, fun h id hid => by have := ih.2 h id hid; omega⟩
  have h1 : okD B (d + 1) (lendD H B d (sim H B d)) := foldl_inv h0 (fun G x hx hG => okD_lend (eL_mem hx).2 hG)
  have h2 : okD B (d + 1) (fillD H B d (lendD H B d (sim H B d))) := foldl_inv h1 (fun G x hx hG => by unfold fillS; split <;> exact hG)
  exact foldl_inv h2 (fun G x hx hG => by unfold patchS; split <;> exact hG)
theorem okE_mid {H : Hd} {B : Bk} {d : Nat} (ih : okE H B d (sim H B d)) : okE H B (d + 1) (midD H B d (sim H B d)) := by
  have h1 : okE H B d (lendD H B d (sim H B d)) := foldl_inv ih (fun G x hx hG => okE_lend (eL_mem hx).2 hG)
  have h2 : okE H B d (fillD H B d (lendD H B d (sim H B d))) := foldl_inv h1 (fun G x hx hG => by unfold fillS; split <;> exact hG)
  have h3 : okE H B d (midD H B d (sim H B d)) := foldl_inv h2 (fun G x hx hG => by unfold patchS; split <;> exact hG)
  exact ⟨fun id h => by have := h3.1 id h; omega, h3.2⟩
theorem okG_mid {H : Hd} {B : Bk} {d : Nat} (hH : okH H) (hL : okL B.1) : okG H B (midD H B d (sim H B d)) := okG_patchD (okG_fillD (okG_lendD hL (okG_sim hH hL d)))
/-- all that holds while the holes pass a day -/
def okA (H : Hd) (B : Bk) (d : Nat) (G : Gs) : Prop := okG H B G ∧ okD B (d + 1) G ∧ okE H B (d + 1) G
theorem okA_passD {H : Hd} {B : Bk} {d : Nat} {G : Gs} (h : okA H B d G) : ∀ k, k ≤ H.1 → okA H B d (passD H B d G k) := by
  intro k
  induction k with
  | zero => intro _; exact h
  | succ k ih =>
    intro hk
    obtain ⟨a, b, c⟩ := ih (by omega)
    rw [passD_succ]
    exact ⟨okG_pass a (by omega), okD_pass b, okE_pass a b (by omega) c⟩
theorem okE_sim {H : Hd} {B : Bk} (hH : okH H) (hL : okL B.1) : ∀ d, okE H B d (sim H B d) := by
  intro d
  induction d with
  | zero => exact ⟨fun id h => absurd rfl h, fun h id _ hid => by cases hid⟩
  | succ d ih => exact (okA_passD ⟨okG_mid hH hL, okD_mid, okE_mid ih⟩ H.1 (Nat.le_refl _)).2.2
theorem okA_mid {H : Hd} {B : Bk} {d : Nat} (hH : okH H) (hL : okL B.1) : okA H B d (midD H B d (sim H B d)) := ⟨okG_mid hH hL, okD_mid, okE_mid (okE_sim hH hL d)⟩
theorem t1_pass {o b : Nat} (ho : okO o b) {H : Hd} {B : Bk} {d k id : Nat} {σ : St} {G : Gs} (hB : bkC σ b H B) (hbl : B.1.length ≤ 52) (hA : okA H B d G) (hm : cG σ o H G) (hk : k < H.1) (hid : gou G k = some id) :
    Ok (M1_passDayOut o (nI d) (hc o k) (b + 1) σ) (fun _ σ' => frC o σ σ' ∧ cG σ' o H (passS H (dyB B) d k G)) := by
  obtain ⟨hG, hD, hE⟩ := hA
  obtain ⟨⟨a1, a2⟩, ⟨hr, -, -⟩, -, hH, hL, -, -⟩ := hB
  have h8 := hH.1
  obtain ⟨w1, w2, p1, p2, hi⟩ := hG k hk
  obtain ⟨hi1, hi2, hi3⟩ := hi id hid
  obtain ⟨g0, -, -, -, -, g3⟩ := hH.2 k hk
  obtain ⟨m0, m1, m2, m3, m4, m7, m5⟩ := hm.2.1 k hk
  obtain ⟨m5, m6⟩ := m5 id hid
  have hdy := (hL id hi1).2.2.2.2
  have hcb : o + 10 ≤ hc o k ∧ hc o k < o + 18 := by unfold hc; omega
  unfold M1_passDayOut
  refine ok_call (t2_pass m0 m1 m2 m3 m5 g0 w1 w2 p1 p2 g3 (by unfold dyB at hi2; omega)) ?_
  rintro - σ1 ⟨q1, q2, q5, qj, qc⟩
  generalize hw : (if H.2 k 3 ≠ 0 ∧ (gdd G k + 1) % H.2 k 3 = 0 then grW (H.2 k 0) (gw G k) else gw G k) = w at q1
  generalize hp : (if H.2 k 3 ≠ 0 ∧ (gdd G k + 1) % H.2 k 3 = 0 then grD (H.2 k 0) (gd G k) else gd G k) = p at q2
  have hF1 : frC o σ σ1 := fun c q => qc c (by omega)
  rw [ok_lt]
  have e4 : σ1 (hc o k) 4 = nI id := by rw [qj 4 (by decide) (by decide) (by decide), m4, hid]; rfl
  have e6 : σ1 (hc o k) 6 = nI (gla G id) := by rw [qj 6 (by decide) (by decide) (by decide), m6]
  have e7 : σ1 (hc o k) 7 = (if gfl G k then 1 else 0) := by rw [qj 7 (by decide) (by decide) (by decide), m7]
  have e0 : σ1 (hc o k) 0 = nI (H.2 k 0) := by rw [qj 0 (by decide) (by decide) (by decide), m0]
  have e3 : σ1 (hc o k) 3 = nI (H.2 k 3) := by rw [qj 3 (by decide) (by decide) (by decide), m3]
  rw [e4, show M4_cell (b + 1) (nI id) 3 σ1 = _ from e4_cell (c := 3) (hr.frame (qc _ (by obtain ⟨x, y⟩ := ho; omega)) (qc _ (by obtain ⟨x, y⟩ := ho; omega))) hi1 (by decide), bind_s, q5, show q4 (g4 B.1 id) 3 = dyB B id from rfl]
  have hoth : ∀ h, h < H.1 → h ≠ k → cH σ1 o H G h := fun h hh e => (hm.2.1 h hh).frame (qc _ (hc_ne e))
  have hln : ∀ j, j < 52 → cLn σ1 o G j := fun j hj => (hm.2.2 j hj).frame (by rw [qc _ (by omega)]) (by rw [qc _ (by omega)]) (by rw [qc _ (by omega)])
  have h9 : σ1 o 9 = nI H.1 := by rw [qc _ (by omega)]; exact hm.1
  by_cases hb : dyB B id ≤ gdd G k + 1
  · refine ok_T ((nI_leI (by unfold dyB; omega) (by unfold dyB at hi2; omega)).mpr hb) ?_
    refine ok_T ((inb_nI (by omega)).mpr (by omega)) ?_
    rw [ok_lt, nI_clamp (n := id) (by omega), q1, q2, e6, pk_mul]
    have hps : passS H (dyB B) d k G = (up (gw G) k w, up (gd G) k p, up (gou G) k none, up (gdd G) k (gdd G k + 1), up (gfl G) k false, gct G, up (gbr G) id (if gfl G k then some d else none), gla G, up (gba G) id (some (w * p))) := by
      unfold passS; rw [hid]; dsimp only; rw [if_pos hb, hw, hp]
    rw [hps]
    have hbr0 : gbr G id = none := hE.2 k id hk hid
    have hne : hc o k ≠ o + 9 := by omega
    -- both roads end in a world where these hold
    have fin : ∀ σ2, frC o σ σ2 → σ2 o 9 = nI H.1 → (∀ h, h < H.1 → h ≠ k → cH σ2 o H G h) → σ2 (hc o k) 0 = nI (H.2 k 0) → σ2 (hc o k) 1 = nI w → σ2 (hc o k) 2 = nI p → σ2 (hc o k) 3 = nI (H.2 k 3) → σ2 (hc o k) 4 = -1 → σ2 (hc o k) 7 = 0 → (∀ j, σ2 (o + 7) j = σ1 (o + 7) j) → (∀ j, σ2 (o + 9) j = if j = id then nI (w * p) - nI (gla G id) else σ1 (o + 9) j) → (∀ j, j ≠ id → σ2 (o + 8) j = σ1 (o + 8) j) → σ2 (o + 8) id = oI (if gfl G k then some d else none) → frC o σ σ2 ∧ cG σ2 o H (up (gw G) k w, up (gd G) k p, up (gou G) k none, up (gdd G) k (gdd G k + 1), up (gfl G) k false, gct G, up (gbr G) id (if gfl G k then some d else none), gla G, up (gba G) id (some (w * p))) := by
      intro σ2 f0 f9 fo s0 s1 s2' s3 s4 s7 t7 t9 t8 t8i
      refine ⟨f0, f9, fun h hh => ?_, fun j hj => ?_⟩
      · by_cases eh : h = k
        · subst eh
          refine ⟨s0, by rw [s1]; simp [gw, up], by rw [s2']; simp [gd, up], s3, by rw [s4]; simp [gou, up, oI], by rw [s7]; simp [gfl, up], fun i hi => by simp [gou, up] at hi⟩
        · obtain ⟨n0, n1, n2, n3, n4, n7, n5⟩ := fo h hh eh
          refine ⟨n0, by rw [n1]; simp only [gw, up, eh, if_false], by rw [n2]; simp only [gd, up, eh, if_false], n3, by rw [n4]; simp only [gou, up, eh, if_false], by rw [n7]; simp only [gfl, up, eh, if_false], fun i hi => ?_⟩
          simp only [gou, up, eh, if_false] at hi
          simp only [gdd, up, eh, if_false]; exact n5 i hi
      · obtain ⟨l1, l2, l3⟩ := hln j hj
        refine ⟨by rw [t7]; exact l1, ?_, ?_⟩
        · by_cases ej : j = id
          · subst ej; rw [t8i]; simp [gbr, up]
          · rw [t8 j ej, l2]; simp only [gbr, up, ej, if_false]
        · rw [t9]
          by_cases ej : j = id
          · subst ej; rw [if_pos rfl]; simp [mo, gba, up]
          · rw [if_neg ej, l3]; simp only [mo, gba, up, ej, if_false]
    rw [s2_nk hne, e7]
    by_cases hfl : gfl G k = true
    · rw [if_pos hfl]
      refine ok_F (by decide) ?_
      rw [ok_lt, ok_lt, ok_lt, ok_some]
      refine fin _ (frC_s2 (frC_s2 (frC_s2 (frC_s2 hF1 (by omega)) (by omega)) (by omega)) (by omega)) ?_ (fun h hh e => ?_) ?_ ?_ ?_ ?_ s2_eq ?_ (fun j => ?_) (fun j => ?_) (fun j ej => ?_) ?_
      · rw [s2_nk (by omega), s2_nk (by omega), s2_nk (by omega), s2_nk (by omega)]; exact h9
      · have := hc_ne (o := o) e
        have hcb2 : o + 10 ≤ hc o h := by unfold hc; omega
        exact (hoth h hh e).frame (by rw [s2_ne this, s2_ne this, s2_ne (by omega), s2_ne (by omega)])
      · rw [s2_nj (by decide), s2_nj (by decide), s2_nk (by omega), s2_nk (by omega)]; exact e0
      · rw [s2_nj (by decide), s2_nj (by decide), s2_nk (by omega), s2_nk (by omega)]; exact q1
      · rw [s2_nj (by decide), s2_nj (by decide), s2_nk (by omega), s2_nk (by omega)]; exact q2
      · rw [s2_nj (by decide), s2_nj (by decide), s2_nk (by omega), s2_nk (by omega)]; exact e3
      · rw [s2_nj (by decide), s2_eq]
      · rw [s2_nk (by omega), s2_nk (by omega), s2_nk (by omega), s2_nk (by omega)]
      · rw [s2_nk (by omega), s2_nk (by omega), s2_nk (by omega)]
        by_cases ej : j = id
        · subst ej; rw [s2_eq, if_pos rfl]
        · rw [s2_nj ej, if_neg ej]
      · rw [s2_nk (by omega), s2_nk (by omega), s2_nj ej, s2_nk (by omega)]
      · rw [s2_nk (by omega), s2_nk (by omega), s2_eq, if_pos hfl]; rfl
    · rw [if_neg hfl]
      refine ok_T rfl ?_
      rw [ok_lt, ok_some]
      refine fin _ (frC_s2 (frC_s2 hF1 (by omega)) (by omega)) ?_ (fun h hh e => ?_) ?_ ?_ ?_ ?_ s2_eq ?_ (fun j => ?_) (fun j => ?_) (fun j ej => ?_) ?_
      · rw [s2_nk (by omega), s2_nk (by omega)]; exact h9
      · have := hc_ne (o := o) e
        have hcb2 : o + 10 ≤ hc o h := by unfold hc; omega
        exact (hoth h hh e).frame (by rw [s2_ne this, s2_ne (by omega)])
      · rw [s2_nj (by decide), s2_nk (by omega)]; exact e0
      · rw [s2_nj (by decide), s2_nk (by omega)]; exact q1
      · rw [s2_nj (by decide), s2_nk (by omega)]; exact q2
      · rw [s2_nj (by decide), s2_nk (by omega)]; exact e3
      · rw [s2_nj (by decide), s2_nk (by omega), e7, if_neg hfl]
      · rw [s2_nk (by omega), s2_nk (by omega)]
      · rw [s2_nk (by omega)]
        by_cases ej : j = id
        · subst ej; rw [s2_eq, if_pos rfl]
        · rw [s2_nj ej, if_neg ej]
      · rw [s2_nk (by omega), s2_nk (by omega)]
      · rw [s2_nk (by omega), s2_nk (by omega), (hln id (by omega)).2.1, hbr0, if_neg hfl]
  · refine ok_F (fun q => hb ((nI_leI (by unfold dyB; omega) (by unfold dyB at hi2; omega)).mp q)) ?_
    rw [ok_some]
    have hps : passS H (dyB B) d k G = (up (gw G) k w, up (gd G) k p, gou G, up (gdd G) k (gdd G k + 1), gfl G, gct G, gbr G, gla G, gba G) := by
      unfold passS; rw [hid]; dsimp only; rw [if_neg hb, hw, hp]
    rw [hps]
    refine ⟨hF1, h9, fun h hh => ?_, hln⟩
    by_cases eh : h = k
    · subst eh
      refine ⟨e0, by rw [q1]; simp [gw, up], by rw [q2]; simp [gd, up], e3, by rw [e4, show gou (up (gw G) h w, up (gd G) h p, gou G, up (gdd G) h (gdd G h + 1), gfl G, gct G, gbr G, gla G, gba G) h = some id from hid]; rfl, e7, fun i hi => ?_⟩
      have : i = id := Option.some.inj (hi.symm.trans hid)
      subst this
      exact ⟨by rw [q5]; simp [gdd, up], e6⟩
    · obtain ⟨n0, n1, n2, n3, n4, n7, n5⟩ := hoth h hh eh
      refine ⟨n0, by rw [n1]; simp only [gw, up, eh, if_false], by rw [n2]; simp only [gd, up, eh, if_false], n3, n4, n7, fun i hi => ?_⟩
      simp only [gdd, up, eh, if_false]; exact n5 i hi
