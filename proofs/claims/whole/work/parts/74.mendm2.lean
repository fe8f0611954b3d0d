/-- whether a row of patches serves -/
theorem served_iff {A : AB} {d w n : Nat} {row : Nat → Nat} (hA : okAB A) (hr : ∀ k, k < n → row k < itm 0 (a0 A)) (hlow : ∀ j, j < n → hmb A d w j = none) : exF (ftA A (vw (sim (hdA A) (bkX A (rwL d row n)) (d + 1))) w) (itm 0 (a0 A)) = true ↔ ∃ h, h < itm 0 (a0 A) ∧ fsv A d w n h = true ∧ ∀ k, k < n → row k = h := by
  have hft : ∀ h, h < itm 0 (a0 A) → ftA A (vw (sim (hdA A) (bkX A (rwL d row n)) (d + 1))) w h = fsv A d w (cnR (rwL d row n) h) h := by
    intro h hh
    have := mend_view (R := rwL d row n) hA rwL_D (fun q hq => by obtain ⟨k, hk, rfl⟩ := rwL_mem hq; exact hr k hk) hh
    unfold ftA fsv
    rw [this]
  rw [exF_iff]
  constructor
  · rintro ⟨h, hh, q⟩
    rw [hft h hh] at q
    have hle := cnR_le (d := d) (n := n) (h := h) (row := row)
    by_cases e : cnR (rwL d row n) h = n
    · rw [e] at q
      exact ⟨h, hh, q, cnR_eq.mp e⟩
    · obtain ⟨x, hx, _⟩ := lf_le (c := fsv A d w (cnR (rwL d row n) h)) (itm 0 (a0 A)) 0 h (by omega) (by omega) q
      have := hlow (cnR (rwL d row n) h) (by omega)
      unfold hmb at this
      rw [this] at hx; cases hx
  · rintro ⟨h, hh, q1, q2⟩
    refine ⟨h, hh, ?_⟩
    rw [hft h hh, cnR_eq.mpr q2]
    exact q1
def vaR (n : Nat) (row : Nat → Nat) : Nat := if n = 0 then 0 else if n = 1 then row 0 else if n = 2 then 8 * row 0 + row 1 else 64 * row 0 + 8 * row 1 + row 2
theorem t8_level {A : AB} {d w n : Nat} {i : Option Nat} {z : Int32} {σ0 : St} {Q : Int32 → St → Prop} {kb : Int32 → St → Option (Int32 × St)} (hA : okAB A) (h0 : RX A (bkA A) σ0) (hd : d < 40) (hw : w < itm 1 (a1 A)) (hn : n ≤ 3) (hi : ∀ v, i = some v → v < 3) (hz : z = oI i) (hlow : ∀ j, j < n → hmb A d w j = none)
    (hyes : ∀ h σ, hmb A d w n = some h → RX A (bkA A) σ → hiM σ0 σ → Q (mdO i (some (n, h))) σ) (hno : ∀ σ, hmb A d w n = none → RX A (bkA A) σ → hiM σ0 σ → Ok (kb (nI n + 1) σ) Q) : Ok (M8_mendOf_J34 kb (nI w) (nI d) z (nI (aP A).length) (nI n) (if n = 0 ∨ 0 < itm 0 (a0 A) then 1 else 0) σ0) Q := by
  have h8 := itm_le (t := 0) hA.1.1
  have hP := hA.2.2.2.1.2
  unfold M8_mendOf_J34
  -- rows, one behind the other
  have walk : ∀ fu row σ, 1000 ≤ fu + vaR n row → RX A (bkA A) σ → hiM σ0 σ → (∀ k, k < n → σ 22 k = nI (row k)) → (∀ k, k < n → row k < itm 0 (a0 A)) → (∀ hs, hmb A d w n = some hs → n = 0 ∨ row 0 < hs ∨ ∀ k, k < n → row k = hs) → Ok (M8_mendOf_L59 (nI w) (nI d) z (nI (aP A).length) (nI n) (fun σ22 => lt (nI n + 1) fun v23 => kb v23 σ22) fu 1 σ) Q := by
    intro fu
    induction fu with
    | zero =>
      intro row σ hf hR hhi hrow hrl hinv
      exfalso
      have e0 : n = 0 ∨ n = 1 ∨ n = 2 ∨ n = 3 := by omega
      unfold vaR at hf
      rcases e0 with rfl | rfl | rfl | rfl
      · simp at hf
      · have := hrl 0 (by omega); simp at hf; omega
      · have := hrl 0 (by omega); have := hrl 1 (by omega); simp at hf; omega
      · have := hrl 0 (by omega); have := hrl 1 (by omega); have := hrl 2 (by omega); simp at hf; omega
    | succ fu ih =>
      intro row σ hf hR hhi hrow hrl hinv
      rw [M8_mendOf_L59, if_neg (by decide)]
      -- the patches of the row
      have add : ∀ fu2 k σ1, k ≤ n → n + 1 ≤ fu2 + k → RX A (bkX A (rwL d row k)) σ1 → hiM σ0 σ1 → (∀ j, j < n → σ1 22 j = nI (row j)) → Ok (M8_mendOf_L67 (nI w) (nI d) z (nI (aP A).length) (nI n) (fun σ14 => bd (M8_isServed (nI w) (nI d) σ14) fun r15 σ15 => lt (s2 σ15 0 13 (nI (aP A).length)) fun σ16 => if r15 = 0 then bd (M8_goesOn (nI n) σ16) fun r18 σ18 => M8_mendOf_L59 (nI w) (nI d) z (nI (aP A).length) (nI n) (fun σ22 => lt (nI n + 1) fun v23 => kb v23 σ22) fu r18 σ18 else if z = -1 then some (nI n, σ16) else if nI n ≤ z then some (-1, σ16) else if inb z 3 then some (σ16 22 z.toNatClampNeg, σ16) else none) fu2 (nI k) σ1) Q := by
        intro fu2
        induction fu2 with
        | zero => intro k σ1 _ _; omega
        | succ fu2 ih2 =>
          intro k σ1 hk hf2 hR1 hhi1 hrow1
          rw [M8_mendOf_L67]
          by_cases e : n ≤ k
          · have ekn : k = n := by omega
            subst ekn
            rw [if_pos ((nI_leI (by omega) (by omega)).mpr (by omega))]
            refine ok_call (x_served hR1 hA hd hw) ?_
            rintro r σ2 ⟨rfl, hR2, hF2⟩
            rw [ok_lt]
            have hR3 := RX_less hR2 hA
            have hhi3 : hiM σ0 (s2 σ2 0 13 (nI (aP A).length)) := hhi1.tr (fun c q => by rw [s2_ne (by omega), (frX.ofL hF2).hi c q])
            have hrow3 : ∀ j, j < k → s2 σ2 0 13 (nI (aP A).length) 22 j = nI (row j) := fun j hj => by rw [s2_ne (by decide), hF2.1 22 (by decide) (by decide)]; exact hrow1 j hj
            have hsi := served_iff (d := d) (w := w) (row := row) hA hrl hlow
            by_cases c : exF (ftA A (vw (sim (hdA A) (bkX A (rwL d row k)) (d + 1))) w) (itm 0 (a0 A)) = true
            · rw [if_pos c]
              refine ok_F (by decide) ?_
              obtain ⟨h, hh, q1, q2⟩ := hsi.mp c
              obtain ⟨x, hx, hxh⟩ := lf_le (c := fsv A d w k) (itm 0 (a0 A)) 0 h (by omega) (by omega) q1
              have hmx : hmb A d w k = some x := hx
              have hq := hyes x _ hmx hR3 hhi3
              unfold mdO at hq
              cases i with
              | none => exact ok_T hz (ok_some.mpr hq)
              | some v =>
                have hv3 := hi v rfl
                have hz' : z = nI v := hz
                dsimp only at hq
                refine ok_F (by rw [hz']; exact nI_m1 (by omega)) ?_
                by_cases c2 : v < k
                · rw [if_pos c2] at hq
                  refine ok_F (by rw [hz']; exact fun q => by have := (nI_leI (by omega) (by omega)).mp q; omega) ?_
                  refine ok_T (by rw [hz']; exact (inb_nI (by omega)).mpr hv3) ?_
                  rw [ok_some, hz', nI_clamp (n := v) (by omega), hrow3 v c2]
                  have : row v = x := by
                    rcases hinv x hmx with q | q | q
                    · omega
                    · have := q2 0 (by omega); omega
                    · exact q v c2
                  rw [this]; exact hq
                · rw [if_neg c2] at hq
                  refine ok_T (by rw [hz']; exact (nI_leI (by omega) (by omega)).mpr (by omega)) ?_
                  rw [ok_some]; exact hq
            · rw [if_neg c]
              refine ok_T rfl ?_
              have hnot : ∀ hs, hmb A d w k = some hs → 0 < k ∧ row 0 < hs := by
                intro hs hh
                obtain ⟨y1, y2, y3⟩ := lf_ok _ _ _ hh
                rcases hinv hs hh with q | q | q
                · exact absurd (hsi.mpr ⟨hs, by omega, y3, fun k hk => by omega⟩) c
                · by_cases ek : k = 0
                  · exact absurd (hsi.mpr ⟨hs, by omega, y3, fun k hk => by omega⟩) c
                  · exact ⟨by omega, q⟩
                · exact absurd (hsi.mpr ⟨hs, by omega, y3, q⟩) c
              refine ok_call (t8_goesOn (row := row) (m := itm 0 (a0 A)) hn h8 hR3.2.2.1.1 (fun j hj => ⟨hrow3 j (by omega), hrl j hj⟩)) ?_
              rintro r σ4 ⟨hF4, hr4⟩
              have hX4 : frX (s2 σ2 0 13 (nI (aP A).length)) σ4 := ⟨fun c q => hF4 c (by omega), fun j _ _ => by rw [hF4 0 (by decide)]⟩
              have hR4 := hR3.frame hX4
              have hhi4 := hhi3.tr hX4.hi
              rcases hr4 with ⟨rfl, hall⟩ | ⟨rfl, i0, hi0, him, hrow4⟩
              · have hnone : hmb A d w k = none := by
                  cases e2 : hmb A d w k with
                  | none => rfl
                  | some hs =>
                    obtain ⟨z1, z2⟩ := hnot hs e2
                    have := hall 0 z1
                    have := hmb_lt e2
                    omega
                cases fu with
                | zero =>
                  exfalso
                  have e0 : k = 0 ∨ k = 1 ∨ k = 2 ∨ k = 3 := by omega
                  unfold vaR at hf
                  rcases e0 with rfl | rfl | rfl | rfl
                  · simp at hf
                  · have := hrl 0 (by omega); simp at hf; omega
                  · have := hrl 0 (by omega); have := hrl 1 (by omega); simp at hf; omega
                  · have := hrl 0 (by omega); have := hrl 1 (by omega); have := hrl 2 (by omega); simp at hf; omega
                | succ fu =>
                  rw [M8_mendOf_L59, if_pos rfl, ok_lt]
                  exact hno σ4 hnone hR4 hhi4
              · have hrl4 : ∀ j, j < k → (if j < i0 then row j else row i0 + 1) < itm 0 (a0 A) := fun j hj => by
                  split
                  · exact hrl j hj
                  · exact him
                refine ih (fun j => if j < i0 then row j else row i0 + 1) σ4 ?_ hR4 hhi4 hrow4 hrl4 (fun hs hh => ?_)
                · have e0 : k = 0 ∨ k = 1 ∨ k = 2 ∨ k = 3 := by omega
                  have l0 := hrl i0 hi0
                  unfold vaR at hf ⊢
                  rcases e0 with rfl | rfl | rfl | rfl
                  · omega
                  · have : i0 = 0 := by omega
                    subst this
                    simp at hf ⊢; omega
                  · have := hrl 0 (by omega)
                    have := hrl 1 (by omega)
                    rcases (show i0 = 0 ∨ i0 = 1 by omega) with rfl | rfl
                    · simp at hf ⊢; omega
                    · simp at hf ⊢; omega
                  · have := hrl 0 (by omega)
                    have := hrl 1 (by omega)
                    have := hrl 2 (by omega)
                    rcases (show i0 = 0 ∨ i0 = 1 ∨ i0 = 2 by omega) with rfl | rfl | rfl
                    · simp at hf ⊢; omega
                    · simp at hf ⊢; omega
                    · simp at hf ⊢; omega
                · obtain ⟨z1, z2⟩ := hnot hs hh
                  right
                  by_cases e2 : i0 = 0
                  · subst e2
                    by_cases e3 : row 0 + 1 < hs
                    · left; rw [if_neg (by omega)]; exact e3
                    · right; intro j hj; rw [if_neg (by omega)]; omega
                  · left; rw [if_pos (by omega)]; exact z2
          · rw [if_neg (fun q => by have := (nI_leI (by omega) (by omega)).mp q; omega)]
            refine ok_T ((inb_nI (by omega)).mpr (by omega)) ?_
            rw [nI_clamp (n := k) (by omega), hrow1 k (by omega)]
            refine ok_call (RX_more hR1 hA (by rw [rwL_len]; omega) hd (by have := hrl k (by omega); omega)) ?_
            rintro - σ2 ⟨hR2, hhi2, h22⟩
            rw [ok_lt, nI_1 k]
            exact ih2 (k + 1) σ2 (by omega) (by omega) (by rw [rwL_succ]; exact hR2) (hhi1.tr hhi2) (fun j hj => by rw [h22]; exact hrow1 j hj)
      exact add FU 0 σ (by omega) (by have := FU_ge; omega) (by rw [show rwL d row 0 = [] from rfl, bkX0]; exact hR) hhi hrow
  have zer : ∀ fu k σ, k ≤ 3 → 4 ≤ fu + k → RX A (bkA A) σ → hiM σ0 σ → (∀ j, j < k → σ 22 j = 0) → Ok (M8_mendOf_L39 (nI w) (nI d) z (nI (aP A).length) (nI n) (if n = 0 ∨ 0 < itm 0 (a0 A) then 1 else 0) (fun σ8 => M8_mendOf_L59 (nI w) (nI d) z (nI (aP A).length) (nI n) (fun σ22 => lt (nI n + 1) fun v23 => kb v23 σ22) FU (if n = 0 ∨ 0 < itm 0 (a0 A) then 1 else 0) σ8) fu (nI k) σ) Q := by
    intro fu
    induction fu with
    | zero => intro k σ _ _; omega
    | succ fu ih =>
      intro k σ hk hf hR hhi hzr
      rw [M8_mendOf_L39]
      by_cases e : 3 ≤ k
      · rw [if_pos (show (3 : Int32) ≤ nI k from (nI_leI (a := 3) (by omega) (by omega)).mpr e)]
        by_cases c : n = 0 ∨ 0 < itm 0 (a0 A)
        · rw [if_pos c]
          refine walk FU (fun _ => 0) σ (by have := FU_ge; omega) hR hhi (fun j hj => hzr j (by omega)) (fun j hj => ?_) (fun hs hh => ?_)
          · show 0 < itm 0 (a0 A); omega
          · by_cases e2 : hs = 0
            · right; right; intro j hj; exact e2.symm
            · right; left; omega
        · rw [if_neg c]
          have hFU : FU = (FU - 1) + 1 := by have := FU_ge; omega
          rw [hFU, M8_mendOf_L59, if_pos rfl, ok_lt]
          refine hno σ ?_ hR hhi
          unfold hmb
          rw [show itm 0 (a0 A) = 0 by omega]
          rfl
      · rw [if_neg (show ¬ (3 : Int32) ≤ nI k from fun q => by have := (nI_leI (a := 3) (by omega) (by omega)).mp q; omega)]
        refine ok_T ((inb_nI (by omega)).mpr (by omega)) ?_
        rw [nI_clamp (n := k) (by omega), ok_lt, ok_lt, nI_1 k]
        have hX : frX σ (s2 σ 22 k 0) := frX.rf.s (Or.inr (Or.inl ⟨by decide, by decide⟩))
        refine ih (k + 1) _ (by omega) (by omega) (hR.frame hX) (hhi.tr hX.hi) (fun j hj => ?_)
        by_cases e2 : j = k
        · rw [e2, s2_eq]
        · rw [s2_nj e2]; exact hzr j (by omega)
  exact zer FU 0 σ0 (by omega) (by have := FU_ge; omega) h0 hiM.rf (fun j hj => by omega)
theorem x_mend {A : AB} {σ0 : St} {d w : Nat} {i : Option Nat} (h0 : RX A (bkA A) σ0) (hA : okAB A) (hd : d < 40) (hw : w < itm 1 (a1 A)) (hi : ∀ v, i = some v → v < 3) : isX A (bkA A) (M8_mendOf (nI w) (nI d) (oI i) σ0) σ0 (mdV A d w i) := by
  unfold M8_mendOf isX
  have h8 := itm_le (t := 0) hA.1.1
  have hP := hA.2.2.2.1.2
  rw [ok_lt, show σ0 0 13 = nI (aP A).length from h0.2.2.2.2.2.2.2.2.2.2.2.1.1]
  have key : ∀ fu n j σ, n + j = 4 → j + 1 ≤ fu → RX A (bkA A) σ → hiM σ0 σ → (∀ k, k < n → hmb A d w k = none) → Ok (M8_mendOf_L9 (nI w) (nI d) (oI i) (nI (aP A).length) (fun σ26 => some (-1, σ26)) fu (nI n) σ) (fun r σ' => r = mdO i (mdF A d w j n) ∧ RX A (bkA A) σ' ∧ hiM σ0 σ') := by
    intro fu
    induction fu with
    | zero => intro n j σ _ c; omega
    | succ fu ih =>
      intro n j σ hn hf hR hhi hlow
      rw [M8_mendOf_L9]
      cases j with
      | zero =>
        rw [if_pos (show (4 : Int32) ≤ nI n from (nI_leI (a := 4) (by omega) (by omega)).mpr (by omega)), ok_some]
        exact ⟨rfl, hR, hhi⟩
      | succ j =>
        rw [if_neg (show ¬ (4 : Int32) ≤ nI n from fun q => by have := (nI_leI (a := 4) (by omega) (by omega)).mp q; omega)]
        have hs : mdF A d w (j + 1) n = match hmb A d w n with
          | some h => some (n, h)
          | none => mdF A d w j (n + 1) := rfl
        have lev := t8_level (A := A) (d := d) (w := w) (n := n) (i := i) (z := oI i) (σ0 := σ) (Q := fun r σ' => r = mdO i (mdF A d w (j + 1) n) ∧ RX A (bkA A) σ' ∧ hiM σ0 σ') (kb := fun x5 σ => M8_mendOf_L9 (nI w) (nI d) (oI i) (nI (aP A).length) (fun σ26 => some (-1, σ26)) fu x5 σ) hA hR hd hw (by omega) hi rfl hlow
          (fun h σ' hh hR' hh' => ⟨by rw [hs, hh], hR', hhi.tr hh'⟩)
          (fun σ' hh hR' hh' => by
            rw [nI_1, hs, hh]
            refine ih (n + 1) j σ' (by omega) (by omega) hR' (hhi.tr hh') (fun k hk => ?_)
            by_cases e : k = n
            · rw [e]; exact hh
            · exact hlow k (by omega))
        unfold M8_mendOf_J29
        by_cases c : n = 0
        · rw [if_pos (by rw [c]; rfl)]
          rw [if_pos (Or.inl c)] at lev
          exact lev
        · rw [if_neg (show ¬ nI n = 0 from nI_ne0 (by omega) (by omega)), hR.2.2.1.1]
          by_cases c2 : 0 < itm 0 (a0 A)
          · rw [if_neg (nI_nle c2 (by omega))]
            rw [if_pos (Or.inr c2)] at lev
            exact lev
          · rw [if_pos (show nI (itm 0 (a0 A)) ≤ 0 by rw [show itm 0 (a0 A) = 0 by omega]; decide)]
            rw [if_neg (by omega)] at lev
            exact lev
  exact key FU 0 4 σ0 (by omega) (by have := FU_ge; omega) h0 hiM.rf (fun k hk => by omega)
theorem m_mend {A : AB} {σ : St} (x y z : Int32) (h : RM A σ) (hA : okAB A) : isM (M8_mend x y z σ) σ (sMend x y z A) := by
  unfold M8_mend sMend
  refine m_rd h hA (fun σ1 hR => ?_)
  rw [e8_isWorkR x hR.to hA, bind_s]
  by_cases q1 : inb x (itm 1 (a1 A))
  · rw [if_pos q1, if_neg (by decide), e8_isDay, bind_s]
    by_cases q2 : inb y 40
    · rw [if_pos q2, if_neg (by decide), e8_inx z (-1) 2 σ1 (a := -1) (b := 2) rfl rfl, bind_s]
      obtain ⟨w, hw, rfl, hx⟩ := inb_ex q1
      obtain ⟨d, hd, rfl, hy⟩ := inb_ex q2
      rw [nI_clamp hx, nI_clamp hy]
      by_cases q3 : z = -1
      · subst q3
        rw [if_pos (show -1 ≤ (-1 : Int32).toInt ∧ (-1 : Int32).toInt ≤ 2 by decide), if_neg (by decide), if_pos ⟨q1, q2, Or.inl rfl⟩, if_pos rfl]
        exact isX_tail (x_mend (i := none) hR hA hd hw (fun v hv => by cases hv))
      · have hy1 : ¬ z.toInt = -1 := fun q => q3 (i32_eq.mpr (by rw [q]; rfl))
        by_cases q4 : inb z 3
        · rw [if_pos (show -1 ≤ z.toInt ∧ z.toInt ≤ 2 by obtain ⟨a, b⟩ := q4; omega), if_neg (by decide), if_pos ⟨q1, q2, Or.inr q4⟩, if_neg q3]
          obtain ⟨v, hv, rfl, hy⟩ := inb_ex q4
          rw [nI_clamp hy]
          exact isX_tail (x_mend (i := some v) hR hA hd hw (fun w hw => by cases hw; exact hv))
        · rw [if_neg (show ¬ (-1 ≤ z.toInt ∧ z.toInt ≤ 2) from fun z => q4 ⟨by omega, by omega⟩), if_pos rfl, if_neg (fun z => z.2.2.elim q3 q4)]
          exact isX_some hR hiM.rf rfl
    · rw [if_neg q2, if_pos rfl, if_neg (fun z => q2 z.2.1)]
      exact isX_some hR hiM.rf rfl
  · rw [if_neg q1, if_pos rfl, if_neg (fun z => q1 z.1)]
    exact isX_some hR hiM.rf rfl
