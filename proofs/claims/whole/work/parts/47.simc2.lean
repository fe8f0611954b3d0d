theorem l1_fills {o b : Nat} (ho : okO o b) {H : Hd} {B : Bk} {d : Nat} (hd : d < 40) {σ0 : St} {G0 : Gs} (hB : bkC σ0 b H B) (hG0 : okG H B G0) (hbl : B.1.length ≤ 52) :
    ∀ (n k : Nat) (σ : St), k ≤ B.2.2.1.length → B.2.2.1.length + 1 ≤ n + k → frC o σ0 σ → cG σ o H ((eP B.2.2.1 none k).foldl (fun G x => fillS H.1 d x G) G0) → Ok (M1_fillAll_L2 o (nI d) (b + 3) (fun σ => some ((), σ)) n (nI k) σ) (fun _ σ => frC o σ0 σ ∧ cG σ o H (fillD H B d G0)) := by
  intro n
  induction n with
  | zero => intro k σ a b; omega
  | succ n ih =>
    intro k σ hk hn hF hm
    obtain ⟨ho1, ho2⟩ := id ho
    obtain ⟨⟨a1, a2⟩, ⟨-, hr, -⟩, -, hH, hL, hP, -⟩ := hB.frame ho2 (hF.low (by omega))
    have hr' := hr
    obtain ⟨r1, r2, r3, r4⟩ := hr'
    rw [M1_fillAll_L2, r1]
    by_cases he : k = B.2.2.1.length
    · refine ok_T ((nI_leI (by omega) (by omega)).mpr (by omega)) ?_
      rw [ok_some]
      refine ⟨hF, ?_⟩
      unfold fillD; rw [← he]; exact hm
    · refine ok_F (fun q => he (by have := (nI_leI (by omega) (by omega)).mp q; omega)) ?_
      have hk' : k < B.2.2.1.length := by omega
      obtain ⟨v1, v2⟩ := hP k hk'
      have h8 := hH.1
      rw [show (1 : Int32) = nI 1 from rfl, e4_cell hr hk' (by decide), bind_s, show (0 : Int32) = nI 0 from rfl, e4_cell hr hk' (by decide), bind_s]
      have hGk : okG H B ((eP B.2.2.1 none k).foldl (fun G x => fillS H.1 d x G) G0) := foldl_inv hG0 (fun G x hx hG => okG_fill hG)
      generalize hGe : (eP B.2.2.1 none k).foldl (fun G x => fillS H.1 d x G) G0 = G at hm hGk
      have hstep : (eP B.2.2.1 none (k + 1)).foldl (fun G x => fillS H.1 d x G) G0 = fillS H.1 d (g4 B.2.2.1 k) G := by
        rw [eP_succ, List.foldl_append, hGe]; simp
      have hJ : ∀ σ, frC o σ0 σ → cG σ o H (fillS H.1 d (g4 B.2.2.1 k) G) → Ok (M1_fillAll_J62 (fun x3 σ => M1_fillAll_L2 o (nI d) (b + 3) (fun σ => some ((), σ)) n x3 σ) o (nI d) (b + 3) (nI k) σ) (fun _ σ => frC o σ0 σ ∧ cG σ o H (fillD H B d G0)) := by
        intro σ hF hm
        unfold M1_fillAll_J62
        rw [ok_lt, nI_1]
        exact ih (k + 1) σ (by omega) (by omega) hF (by rw [hstep]; exact hm)
      have q0 : q4 (g4 B.2.2.1 k) 0 = (g4 B.2.2.1 k).1 := rfl
      have q1 : q4 (g4 B.2.2.1 k) 1 = (g4 B.2.2.1 k).2.1 := rfl
      rw [q0, q1]
      by_cases hdd : (g4 B.2.2.1 k).1 = d
      · refine ok_T (by rw [hdd]) ?_
        rw [hm.1]
        by_cases hh : (g4 B.2.2.1 k).2.1 < H.1
        · refine ok_F (fun q => by have := (nI_leI (by omega) (by omega)).mp q; omega) ?_
          refine ok_T ((inb_nI (by omega)).mpr (by omega)) ?_
          rw [nI_clamp (n := (g4 B.2.2.1 k).2.1) (by omega)]
          have hch := hm.2.1 _ hh
          have hid := (hGk _ hh).2.2.2.2
          obtain ⟨m0, m1, m2, m3, m4, m7, m5⟩ := hch
          show Ok (if σ (hc o (g4 B.2.2.1 k).2.1) 4 = -1 then _ else lt (s2 σ (hc o (g4 B.2.2.1 k).2.1) 7 (nI 1)) _) _
          rw [m4]
          by_cases hou : gou G (g4 B.2.2.1 k).2.1 = none
          · refine ok_T ((oI_sm (n := 52) (fun v hv => by have := (hid v hv).1; omega) (by decide)).mpr hou) ?_
            refine hJ σ hF ?_
            unfold fillS; rw [if_neg (fun q => q.2.2 hou)]; exact hm
          · refine ok_F (fun q => hou ((oI_sm (n := 52) (fun v hv => by have := (hid v hv).1; omega) (by decide)).mp q)) ?_
            rw [ok_lt]
            have hcb : o + 10 ≤ hc o (g4 B.2.2.1 k).2.1 ∧ hc o (g4 B.2.2.1 k).2.1 < o + 18 := by unfold hc; omega
            refine hJ _ (frC_s2 hF (by omega)) ?_
            unfold fillS
            rw [if_pos ⟨hdd, hh, hou⟩]
            refine ⟨by rw [s2_nk (by omega)]; exact hm.1, fun h hlt => ?_, fun j hj => (hm.2.2 j hj).frame (s2_nk (by omega)) (s2_nk (by omega)) (s2_nk (by omega))⟩
            by_cases eh : h = (g4 B.2.2.1 k).2.1
            · subst eh
              refine ⟨by rw [s2_nj (by decide)]; exact m0, by rw [s2_nj (by decide)]; exact m1, by rw [s2_nj (by decide)]; exact m2, by rw [s2_nj (by decide)]; exact m3, by rw [s2_nj (by decide)]; exact m4, by rw [s2_eq]; simp [gfl, up]; rfl, fun id hid => by rw [s2_nj (by decide), s2_nj (by decide)]; exact m5 id hid⟩
            · have hne := hc_ne (o := o) eh
              have hmh := (hm.2.1 h hlt).frame (σ' := s2 σ (hc o (g4 B.2.2.1 k).2.1) 7 (nI 1)) (s2_ne hne)
              obtain ⟨n0, n1, n2, n3, n4, n7, n5⟩ := hmh
              refine ⟨n0, n1, n2, n3, n4, by rw [n7]; simp only [gfl, up, eh, if_false], n5⟩
        · refine ok_T ((nI_leI (by omega) (by omega)).mpr (by omega)) ?_
          refine hJ σ hF ?_
          unfold fillS; rw [if_neg (fun q => hh q.2.1)]; exact hm
      · refine ok_F (fun q => hdd ((nI_eq (by omega) (by omega)).mp q)) ?_
        refine hJ σ hF ?_
        unfold fillS; rw [if_neg (fun q => hdd q.1)]; exact hm
theorem l1_patches {o b : Nat} (ho : okO o b) {H : Hd} {B : Bk} {d : Nat} (hd : d < 40) {σ0 : St} {G0 : Gs} (hB : bkC σ0 b H B) (hG0 : okG H B G0) (hbl : B.1.length ≤ 52) :
    ∀ (n k : Nat) (σ : St), k ≤ B.2.2.2.1.length → B.2.2.2.1.length + 1 ≤ n + k → frC o σ0 σ → cG σ o H ((eP B.2.2.2.1 none k).foldl (fun G x => patchS H.1 d x G) G0) → Ok (M1_patchAll_L2 o (nI d) (b + 5) (fun σ => some ((), σ)) n (nI k) σ) (fun _ σ => frC o σ0 σ ∧ cG σ o H (patchD H B d G0)) := by
  intro n
  induction n with
  | zero => intro k σ a b; omega
  | succ n ih =>
    intro k σ hk hn hF hm
    obtain ⟨ho1, ho2⟩ := id ho
    obtain ⟨⟨a1, a2⟩, ⟨-, -, hr⟩, ⟨-, hs2⟩, hH, hL, -, hP⟩ := hB.frame ho2 (hF.low (by omega))
    have hr' := hr
    obtain ⟨r1, r2, r3, r4⟩ := hr'
    rw [M1_patchAll_L2, r1]
    by_cases he : k = B.2.2.2.1.length
    · refine ok_T ((nI_leI (by omega) (by omega)).mpr (by omega)) ?_
      rw [ok_some]
      refine ⟨hF, ?_⟩
      unfold patchD; rw [hs2, ← he]; exact hm
    · refine ok_F (fun q => he (by have := (nI_leI (by omega) (by omega)).mp q; omega)) ?_
      have hk' : k < B.2.2.2.1.length := by omega
      obtain ⟨v1, v2⟩ := hP k hk'
      have h8 := hH.1
      rw [show M4_cell (b + 5) (nI k) 1 σ = _ from e4_cell (c := 1) hr hk' (by decide), bind_s, show M4_cell (b + 5) (nI k) 0 σ = _ from e4_cell (c := 0) hr hk' (by decide), bind_s]
      have hGk : okG H B ((eP B.2.2.2.1 none k).foldl (fun G x => patchS H.1 d x G) G0) := foldl_inv hG0 (fun G x hx hG => okG_patch hG)
      generalize hGe : (eP B.2.2.2.1 none k).foldl (fun G x => patchS H.1 d x G) G0 = G at hm hGk
      have hstep : (eP B.2.2.2.1 none (k + 1)).foldl (fun G x => patchS H.1 d x G) G0 = patchS H.1 d (g4 B.2.2.2.1 k) G := by
        rw [eP_succ, List.foldl_append, hGe]; simp
      have hJ : ∀ σ, frC o σ0 σ → cG σ o H (patchS H.1 d (g4 B.2.2.2.1 k) G) → Ok (M1_patchAll_J77 (fun x3 σ => M1_patchAll_L2 o (nI d) (b + 5) (fun σ => some ((), σ)) n x3 σ) o (nI d) (b + 5) (nI k) σ) (fun _ σ => frC o σ0 σ ∧ cG σ o H (patchD H B d G0)) := by
        intro σ hF hm
        unfold M1_patchAll_J77
        rw [ok_lt, nI_1]
        exact ih (k + 1) σ (by omega) (by omega) hF (by rw [hstep]; exact hm)
      have q0 : q4 (g4 B.2.2.2.1 k) 0 = (g4 B.2.2.2.1 k).1 := rfl
      have q1 : q4 (g4 B.2.2.2.1 k) 1 = (g4 B.2.2.2.1 k).2.1 := rfl
      rw [q0, q1]
      by_cases hdd : (g4 B.2.2.2.1 k).1 = d
      · refine ok_T (by rw [hdd]) ?_
        rw [hm.1]
        by_cases hh : (g4 B.2.2.2.1 k).2.1 < H.1
        · refine ok_F (fun q => by have := (nI_leI (by omega) (by omega)).mp q; omega) ?_
          refine ok_T ((inb_nI (by omega)).mpr (by omega)) ?_
          rw [nI_clamp (n := (g4 B.2.2.2.1 k).2.1) (by omega)]
          have hch := hm.2.1 _ hh
          obtain ⟨w1, w2, -, -, hid⟩ := hGk _ hh
          obtain ⟨m0, m1, m2, m3, m4, m7, m5⟩ := hch
          show Ok (if σ (hc o (g4 B.2.2.2.1 k).2.1) 4 = -1 then lt (s2 σ (hc o (g4 B.2.2.2.1 k).2.1) 1 (if 1 < σ (hc o (g4 B.2.2.2.1 k).2.1) 1 - 1 then σ (hc o (g4 B.2.2.2.1 k).2.1) 1 - 1 else 1)) _ else _) _
          rw [m4]
          by_cases hou : gou G (g4 B.2.2.2.1 k).2.1 = none
          · refine ok_T ((oI_sm (n := 52) (fun v hv => by have := (hid v hv).1; omega) (by decide)).mpr hou) ?_
            rw [ok_lt]
            have ew : (if 1 < σ (hc o (g4 B.2.2.2.1 k).2.1) 1 - 1 then σ (hc o (g4 B.2.2.2.1 k).2.1) 1 - 1 else 1) = nI (max (gw G (g4 B.2.2.2.1 k).2.1 - 1) 1) := by
              rw [m1, show nI (gw G (g4 B.2.2.2.1 k).2.1) - 1 = nI (gw G (g4 B.2.2.2.1 k).2.1 - 1) from pk_sub (b := 1) w1, show (1 : Int32) = nI 1 from rfl, itx (nI_ltI (by decide) (by omega))]
              by_cases hx : 1 < gw G (g4 B.2.2.2.1 k).2.1 - 1
              · rw [if_pos hx]; congr 1; omega
              · rw [if_neg hx]; congr 1; omega
            rw [ew]
            have hcb : o + 10 ≤ hc o (g4 B.2.2.2.1 k).2.1 ∧ hc o (g4 B.2.2.2.1 k).2.1 < o + 18 := by unfold hc; omega
            refine hJ _ (frC_s2 hF (by omega)) ?_
            unfold patchS
            rw [if_pos ⟨hdd, hh, hou⟩]
            refine ⟨by rw [s2_nk (by omega)]; exact hm.1, fun h hlt => ?_, fun j hj => (hm.2.2 j hj).frame (s2_nk (by omega)) (s2_nk (by omega)) (s2_nk (by omega))⟩
            by_cases eh : h = (g4 B.2.2.2.1 k).2.1
            · subst eh
              refine ⟨by rw [s2_nj (by decide)]; exact m0, by rw [s2_eq]; simp [gw, up], by rw [s2_nj (by decide)]; exact m2, by rw [s2_nj (by decide)]; exact m3, by rw [s2_nj (by decide)]; exact m4, by rw [s2_nj (by decide)]; exact m7, fun id hid => by rw [s2_nj (by decide), s2_nj (by decide)]; exact m5 id hid⟩
            · have hne := hc_ne (o := o) eh
              have hmh := (hm.2.1 h hlt).frame (σ' := s2 σ (hc o (g4 B.2.2.2.1 k).2.1) 1 (nI (max (gw G (g4 B.2.2.2.1 k).2.1 - 1) 1))) (s2_ne hne)
              obtain ⟨n0, n1, n2, n3, n4, n7, n5⟩ := hmh
              refine ⟨n0, by rw [n1]; simp only [gw, up, eh, if_false], n2, n3, n4, n7, n5⟩
          · refine ok_F (fun q => hou ((oI_sm (n := 52) (fun v hv => by have := (hid v hv).1; omega) (by decide)).mp q)) ?_
            refine hJ σ hF ?_
            unfold patchS; rw [if_neg (fun q => hou q.2.2)]; exact hm
        · refine ok_T ((nI_leI (by omega) (by omega)).mpr (by omega)) ?_
          refine hJ σ hF ?_
          unfold patchS; rw [if_neg (fun q => hh q.2.1)]; exact hm
      · refine ok_F (fun q => hdd ((nI_eq (by omega) (by omega)).mp q)) ?_
        refine hJ σ hF ?_
        unfold patchS; rw [if_neg (fun q => hdd q.1)]; exact hm
/-- a hole passes a day out -/
theorem t2_pass {σ : St} {c sh w p gr dd : Nat} (h0 : σ c 0 = nI sh) (h1 : σ c 1 = nI w) (h2 : σ c 2 = nI p) (h3 : σ c 3 = nI gr) (h5 : σ c 5 = nI dd) (hs : sh < 3) (w1 : 1 ≤ w) (w2 : w ≤ 9) (p1 : 1 ≤ p) (p2 : p ≤ 9) (hg : gr ≤ 9) (hdd : dd < 1000) :
    Ok (M2_passDayOut c σ) (fun _ σ' => σ' c 1 = nI (if gr ≠ 0 ∧ (dd + 1) % gr = 0 then grW sh w else w) ∧ σ' c 2 = nI (if gr ≠ 0 ∧ (dd + 1) % gr = 0 then grD sh p else p) ∧ σ' c 5 = nI (dd + 1) ∧ (∀ j, j ≠ 1 → j ≠ 2 → j ≠ 5 → σ' c j = σ c j) ∧ ∀ c', c' ≠ c → σ' c' = σ c') := by
  unfold M2_passDayOut
  rw [ok_lt, h5, nI_1]
  have e0 : ∀ v, s2 σ c 5 v c 0 = nI sh := fun v => by rw [s2_nj (by decide)]; exact h0
  have e1 : ∀ v, s2 σ c 5 v c 1 = nI w := fun v => by rw [s2_nj (by decide)]; exact h1
  have e2 : ∀ v, s2 σ c 5 v c 2 = nI p := fun v => by rw [s2_nj (by decide)]; exact h2
  have e3 : ∀ v, s2 σ c 5 v c 3 = nI gr := fun v => by rw [s2_nj (by decide)]; exact h3
  have hfin : ¬ (gr ≠ 0 ∧ (dd + 1) % gr = 0) → Ok (some ((), s2 σ c 5 (nI (dd + 1)))) (fun _ σ' => σ' c 1 = nI (if gr ≠ 0 ∧ (dd + 1) % gr = 0 then grW sh w else w) ∧ σ' c 2 = nI (if gr ≠ 0 ∧ (dd + 1) % gr = 0 then grD sh p else p) ∧ σ' c 5 = nI (dd + 1) ∧ (∀ j, j ≠ 1 → j ≠ 2 → j ≠ 5 → σ' c j = σ c j) ∧ ∀ c', c' ≠ c → σ' c' = σ c') := by
    intro hn
    rw [ok_some, if_neg hn, if_neg hn]
    exact ⟨e1 _, e2 _, s2_eq, fun j q1 q2 q3 => s2_nj q3, fun c' q => s2_ne q⟩
  rw [e3]
  by_cases hz : gr = 0
  · refine ok_T (by rw [hz]; rfl) ?_
    exact hfin (fun q => q.1 hz)
  · have hz' : ¬ nI gr = 0 := fun q => hz ((nI_eq (b := 0) (by omega) (by decide)).mp q)
    refine ok_F hz' (ok_T hz' ?_)
    rw [s2_eq, pk_rem (by omega) (by omega) (by omega)]
    by_cases hr : (dd + 1) % gr = 0
    · refine ok_T (by rw [hr]; rfl) ?_
      have hgr : gr ≠ 0 ∧ (dd + 1) % gr = 0 := ⟨hz, hr⟩
      simp only [if_pos hgr]
      rw [e0, e1]
      unfold M2_passDayOut_J57 M2_passDayOut_J84
      rcases (show sh = 0 ∨ sh = 1 ∨ sh = 2 by omega) with rfl | rfl | rfl
      · -- round
        refine ok_F (by decide) ?_
        by_cases h9 : 9 ≤ w
        · refine ok_T ((nI_leI (a := 9) (by decide) (by omega)).mpr h9) ?_
          rw [e0]
          refine ok_F (by decide) (ok_F (by decide) ?_)
          rw [ok_some]
          refine ⟨?_, e2 _, s2_eq, fun j q1 q2 q3 => s2_nj q3, fun c' q => s2_ne q⟩
          rw [e1]; unfold grW; congr 1; simp; omega
        · refine ok_F (fun q => h9 ((nI_leI (a := 9) (by decide) (by omega)).mp q)) ?_
          rw [ok_lt, nI_1, s2_nj (by decide), e0]
          refine ok_F (by decide) (ok_F (by decide) ?_)
          rw [ok_some]
          refine ⟨?_, ?_, ?_, fun j q1 q2 q3 => ?_, fun c' q => ?_⟩
          · rw [s2_eq]; unfold grW; congr 1; simp; omega
          · rw [s2_nj (by decide)]; exact e2 _
          · rw [s2_nj (by decide), s2_eq]
          · rw [s2_nj q1, s2_nj q3]
          · rw [s2_ne q, s2_ne q]
      · -- square
        refine ok_F (by decide) ?_
        have tail : ∀ (σ2 : St) (w' : Nat), σ2 c 0 = nI 1 → σ2 c 1 = nI w' → σ2 c 2 = nI p → σ2 c 5 = nI (dd + 1) → (∀ j, j ≠ 1 → j ≠ 5 → σ2 c j = σ c j) → (∀ c', c' ≠ c → σ2 c' = σ c') → w' = grW 1 w → Ok (if σ2 c 0 = 2 then if 9 ≤ σ2 c 2 then if σ2 c 0 = 1 then if σ2 c 2 ≤ 1 then some ((), σ2) else lt (s2 σ2 c 2 (σ2 c 2 - 1)) fun σ9 => some ((), σ9) else some ((), σ2) else lt (s2 σ2 c 2 (σ2 c 2 + 1)) fun σ11 => if σ11 c 0 = 1 then if σ11 c 2 ≤ 1 then some ((), σ11) else lt (s2 σ11 c 2 (σ11 c 2 - 1)) fun σ9 => some ((), σ9) else some ((), σ11) else if σ2 c 0 = 1 then if σ2 c 2 ≤ 1 then some ((), σ2) else lt (s2 σ2 c 2 (σ2 c 2 - 1)) fun σ9 => some ((), σ9) else some ((), σ2)) (fun _ σ' => σ' c 1 = nI (grW 1 w) ∧ σ' c 2 = nI (grD 1 p) ∧ σ' c 5 = nI (dd + 1) ∧ (∀ j, j ≠ 1 → j ≠ 2 → j ≠ 5 → σ' c j = σ c j) ∧ ∀ c', c' ≠ c → σ' c' = σ c') := by
          intro σ2 w' g0 g1 g2 g5 gj gc hw'
          rw [g0, g2]
          refine ok_F (by decide) (ok_T (by decide) ?_)
          by_cases hp1 : p ≤ 1
          · refine ok_T ((nI_leI (b := 1) (by omega) (by decide)).mpr hp1) ?_
            rw [ok_some]
            refine ⟨by rw [g1, hw'], ?_, g5, fun j q1 q2 q3 => gj j q1 q3, gc⟩
            rw [g2]; unfold grD; congr 1; simp; omega
          · refine ok_F (fun q => hp1 ((nI_leI (b := 1) (by omega) (by decide)).mp q)) ?_
            rw [ok_lt, ok_some]
            refine ⟨?_, ?_, ?_, fun j q1 q2 q3 => ?_, fun c' q => ?_⟩
            · rw [s2_nj (by decide), g1, hw']
            · rw [s2_eq, show nI p - 1 = nI (p - 1) from pk_sub (b := 1) p1]; unfold grD; congr 1; simp; omega
            · rw [s2_nj (by decide)]; exact g5
            · rw [s2_nj q2]; exact gj j q1 q3
            · rw [s2_ne q]; exact gc c' q
        by_cases h9 : 9 ≤ w
        · refine ok_T ((nI_leI (a := 9) (by decide) (by omega)).mpr h9) ?_
          exact tail _ w (e0 _) (e1 _) (e2 _) s2_eq (fun j q1 q3 => s2_nj q3) (fun c' q => s2_ne q) (by unfold grW; simp; omega)
        · refine ok_F (fun q => h9 ((nI_leI (a := 9) (by decide) (by omega)).mp q)) ?_
          rw [ok_lt, nI_1]
          exact tail _ (w + 1) (by rw [s2_nj (by decide)]; exact e0 _) s2_eq (by rw [s2_nj (by decide)]; exact e2 _) (by rw [s2_nj (by decide), s2_eq]) (fun j q1 q3 => by rw [s2_nj q1, s2_nj q3]) (fun c' q => by rw [s2_ne q, s2_ne q]) (by unfold grW; simp; omega)
      · -- long
        refine ok_T rfl ?_
        rw [e0, e2]
        refine ok_T rfl ?_
        by_cases h9 : 9 ≤ p
        · refine ok_T ((nI_leI (a := 9) (by decide) (by omega)).mpr h9) (ok_F (by decide) ?_)
          rw [ok_some]
          refine ⟨?_, ?_, s2_eq, fun j q1 q2 q3 => s2_nj q3, fun c' q => s2_ne q⟩
          · rw [e1]; rfl
          · rw [e2]; unfold grD; congr 1; simp; omega
        · refine ok_F (fun q => h9 ((nI_leI (a := 9) (by decide) (by omega)).mp q)) ?_
          rw [ok_lt, nI_1, s2_nj (by decide), e0]
          refine ok_F (by decide) ?_
          rw [ok_some]
          refine ⟨?_, ?_, ?_, fun j q1 q2 q3 => ?_, fun c' q => ?_⟩
          · rw [s2_nj (by decide), e1]; rfl
          · rw [s2_eq]; unfold grD; congr 1; simp; omega
          · rw [s2_nj (by decide), s2_eq]
          · rw [s2_nj q2, s2_nj q3]
          · rw [s2_ne q, s2_ne q]
    · refine ok_F (fun q => hr ((nI_eq (b := 0) (by have := Nat.mod_lt (dd + 1) (show 0 < gr by omega); omega) (by decide)).mp q)) ?_
      exact hfin (fun q => hr q.2)
