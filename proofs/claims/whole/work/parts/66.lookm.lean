theorem x_livesF {A : AB} {B : Bk} {σ : St} {d : Nat} (hd : d < 40) (h : RX A B σ) : Ok (M8_lives (nI d) σ) (fun _ σ' => RX A B σ' ∧ mV σ' (itm 0 (a0 A)) (vw (sim (hdA A) B (d + 1))) ∧ frL σ σ') :=
  (t8_lives hd h.2.2.2.2.2.2.2.2).mono (fun _ _ hp => by
    have hR := h.frame (frX.ofL hp.1)
    exact ⟨hR, mV_of hR.2.2.2.2.2.2.2.2.2.2.2.2.2.1 hR.2.2.2.2.2.2.2.2.2.2.2.2.2.2.1 hR.2.2.2.2.2.2.2.2.2.1.2.1 hp.2, hp.1⟩)
theorem x_look {A : AB} {σ0 : St} {d : Nat} (h0 : RX A (bkA A) σ0) (hA : okAB A) (hd : d < 40) : isX A (bkA A) (M8_lookOf (nI d) σ0) σ0 (loV A d) := by
  unfold M8_lookOf isX
  have hl := hA.2.1.2
  have h8 := itm_le (t := 0) hA.1.1
  refine ok_call (x_never (w := 0) h0 hA (by decide)) ?_
  rintro r σ1 ⟨rfl, hR1, hi1⟩
  -- the greatest of a hole
  have gre : ∀ (kx : Int32 → St → Option (Int32 × St)) (x3 x4 : Int32) (i : Nat) (σ : St), i < itm 0 (a0 A) → alC σ 24 A d (fun _ => (aL A).length) → ∀ fu v, v ≤ 10 → 11 ≤ fu + v → M8_lookOf_L132 x3 x4 (nI i) kx fu (nI (grN A d i v)) (nI v) σ = kx (nI (grN A d i 10)) σ := by
    intro kx x3 x4 i σ hi ha fu
    induction fu with
    | zero => intro v _ _; omega
    | succ fu ih =>
      intro v hv hf
      rw [M8_lookOf_L132]
      by_cases e : 10 ≤ v
      · rw [if_pos (show (10 : Int32) ≤ nI v from (nI_leI (a := 10) (by omega) (by omega)).mpr e), show v = 10 by omega]
      · have g1 := grN_le (A := A) (d := d) (h := i) v
        have g2 := alN_le (A := A) (d := d) (h := i) (v := v) (aL A).length
        rw [if_neg (show ¬ (10 : Int32) ≤ nI v from fun q => by have := (nI_leI (a := 10) (by omega) (by omega)).mp q; omega)]
        have ei : (10 : Int32) * nI i + nI v = nI (10 * i + v) := by rw [show (10 : Int32) = nI 10 from rfl, pk_mul, nI_add]
        rw [ei, nI_clamp (n := 10 * i + v) (by omega), if_pos ((inb_nI (by omega)).mpr (by omega)), show σ 24 (10 * i + v) = nI (alN A d i v (aL A).length) from ha i v hi (by omega), e8_greater (by omega) (by omega), bind_s, lt_eq, nI_1, Nat.max_comm]
        exact ih (v + 1) (by omega) (by omega)
  have fin : ∀ fu i σ', i ≤ itm 0 (a0 A) → itm 0 (a0 A) + 1 ≤ fu + i → σ' 7 0 = nI (itm 0 (a0 A)) → alC σ' 24 A d (fun _ => (aL A).length) → M8_lookOf_L115 (fun v σ => some (v, σ)) fu (loI (lkN A d i)) (loD (lkN A d i) 0) (nI i) σ' = some (loV A d, σ') := by
    intro fu
    induction fu with
    | zero => intro i σ' _ _; omega
    | succ fu ih =>
      intro i σ' hi hf h7 ha
      rw [M8_lookOf_L115, h7]
      by_cases e : itm 0 (a0 A) ≤ i
      · rw [if_pos ((nI_leI (by omega) (by omega)).mpr (by omega)), show i = itm 0 (a0 A) by omega]; rfl
      · have hg := grN_le (A := A) (d := d) (h := i) 10
        have k0 := fun kx => gre kx (loI (lkN A d i)) (loD (lkN A d i) 0) i σ' (by omega) ha FU 0 (by omega) (by have := FU_ge; omega)
        rw [if_neg (fun q => by have := (nI_leI (by omega) (by omega)).mp q; omega), show (0 : Int32) = nI (grN A d i 0) from rfl, show nI (grN A d i 0) = nI 0 from rfl]
        have k1 := k0
        rw [show nI (grN A d i 0) = nI 0 from rfl] at k1
        rw [show (nI 0) = (0 : Int32) from rfl] at k1 ⊢
        rw [k1]
        have this := ih (i + 1) σ' (by omega) (by omega) h7 ha
        have hs : lkN A d (i + 1) = (match lkN A d i with
          | none => some (i, grN A d i 10)
          | some (b, l) => if grN A d i 10 < l then some (i, grN A d i 10) else some (b, l)) := rfl
        unfold M8_lookOf_J177 M8_lookOf_J182 M8_lookOf_J195 M8_lookOf_J208
        rw [if_neg (show ¬ (1 : Int32) = 0 by decide), if_neg (show ¬ (1 : Int32) = 0 by decide), if_pos (show (0 : Int32) = 0 from rfl), if_pos (show (0 : Int32) = 0 from rfl), lt_eq, lt_eq, nI_1]
        cases e1 : lkN A d i with
        | none =>
          rw [e1] at hs
          rw [hs] at this
          rw [if_pos (show loI none = -1 from rfl)]
          exact this
        | some q =>
          obtain ⟨b, l⟩ := q
          obtain ⟨y1, y2⟩ := lkN_lt i b l e1
          rw [e1] at hs
          dsimp only at hs
          rw [if_neg (show ¬ loI (some (b, l)) = -1 from nI_m1 (a := b) (by omega))]
          by_cases c : grN A d i 10 < l
          · rw [if_pos c] at hs
            rw [hs] at this
            have z : ¬ loD (some (b, l)) 0 ≤ nI (grN A d i 10) := fun q => by have := (nI_leI (a := l) (by omega) (by omega)).mp q; omega
            rw [if_neg z]
            exact this
          · rw [if_neg c] at hs
            rw [hs] at this
            have z : loD (some (b, l)) 0 ≤ nI (grN A d i 10) := (nI_leI (a := l) (by omega) (by omega)).mpr (by omega)
            rw [if_pos z]
            exact this
  -- a loan's part
  have add : ∀ (kx : St → Option (Int32 × St)) (P : Int32 → St → Prop) (k : Nat) (σa : St), RX A (bkA A) σa → mV σa (itm 0 (a0 A)) (vw (sim (hdA A) (bkL A k) (d + 1))) → asB A (bkL A k) = true → (∀ σ', frX σa σ' → alC σ' 24 A d (fun _ => k + 1) → Ok (kx σ') P) → ∀ fu h σ, h ≤ itm 0 (a0 A) → itm 0 (a0 A) + 1 ≤ fu + h → (∀ c, c ≠ 24 → σ c = σa c) → alC σ 24 A d (fun j => if j < h then k + 1 else k) → Ok (M8_lookOf_L63 (nI d) (nvV A 0) (nI k) kx fu (nI h) σ) P := by
    intro kx P k σa hRa hva has hkx fu
    induction fu with
    | zero => intro h σ _ _; omega
    | succ fu ih =>
      intro h σ hh hf hF ha
      rw [M8_lookOf_L63, hF 7 (by decide), hRa.2.2.1.1]
      by_cases e : itm 0 (a0 A) ≤ h
      · rw [if_pos ((nI_leI (by omega) (by omega)).mpr (by omega))]
        refine hkx σ ⟨fun c q => hF c (by omega), fun j _ _ => by rw [hF 0 (by decide)]⟩ (fun h' v hh' hv => ?_)
        have := ha h' v hh' hv
        dsimp only at this
        rw [if_pos (by omega)] at this; exact this
      · have hlt := lk_lt (okV_L hA k (d + 1)) (show h < itm 0 (a0 A) by omega)
        have hv : mV σ (itm 0 (a0 A)) (vw (sim (hdA A) (bkL A k) (d + 1))) := fun j hj => by
          rw [hF 12 (by decide), hF 13 (by decide), hF 14 (by decide)]; exact hva j hj
        rw [if_neg (fun q => by have := (nI_leI (by omega) (by omega)).mp q; omega), e8_looks hv h8 (by omega), bind_s]
        have ei : (10 : Int32) * nI h + nI (lk (vw (sim (hdA A) (bkL A k) (d + 1))) h) = nI (10 * h + lk (vw (sim (hdA A) (bkL A k) (d + 1))) h) := by rw [show (10 : Int32) = nI 10 from rfl, pk_mul, nI_add]
        rw [ei, nI_clamp (n := 10 * h + lk (vw (sim (hdA A) (bkL A k) (d + 1))) h) (by omega)]
        refine ok_T ((inb_nI (by omega)).mpr (by omega)) ?_
        rw [ok_lt, ok_lt, nI_1]
        exact ih (h + 1) _ (by omega) (by omega) (fun c q => by rw [s2_ne q]; exact hF c q) (alC_step ha (by omega) hlt has)
  have key : ∀ fu k σ, k ≤ (aL A).length → (aL A).length + 1 ≤ fu + k → RX A (bkA A) σ → hiM σ0 σ → alC σ 24 A d (fun _ => k) → Ok (M8_lookOf_L29 (nI d) (nvV A 0) (fun σ22 => M8_lookOf_L115 (fun v36 σ37 => some (v36, σ37)) FU (-1) 0 0 σ22) fu (nI k) σ) (fun r σ' => r = loV A d ∧ RX A (bkA A) σ' ∧ hiM σ0 σ') := by
    intro fu
    induction fu with
    | zero => intro k σ _ _; omega
    | succ fu ih =>
      intro k σ hk hf hR hi ha
      rw [M8_lookOf_L29, show σ 0 9 = nI (aL A).length from hR.2.2.2.2.2.2.2.2.2.1.1]
      by_cases e : (aL A).length ≤ k
      · rw [if_pos ((nI_leI (by omega) (by omega)).mpr (by omega))]
        have k0 := fin FU 0 σ (by omega) (by have := FU_ge; omega) hR.2.2.1.1 (by rw [show (aL A).length = k by omega]; exact ha)
        rw [show loI (lkN A d 0) = -1 from rfl, show loD (lkN A d 0) 0 = 0 from rfl, show nI 0 = 0 from rfl] at k0
        rw [k0, ok_some]
        exact ⟨rfl, hR, hi⟩
      · rw [if_neg (fun q => by have := (nI_leI (by omega) (by omega)).mp q; omega)]
        have hin : M8_isIn (nvV A 0) (nI k) σ = some (if asB A (bkL A k) = true then 1 else 0, σ) := by
          have hb := bm_lt (nvF A 0) (aL A).length
          have hp : 2 ^ (aL A).length ≤ 2 ^ 12 := Nat.pow_le_pow_right (by decide) hl
          unfold M8_isIn nvV
          rw [show nvN A 0 = (aL A).length from rfl, itx (i_test (by omega) (by omega)), bm_bit]
          show some (if (decide (k < (aL A).length) && asB A (bkL A k)) = true then (1 : Int32) else 0, σ) = _
          rw [decide_eq_true (show k < (aL A).length by omega), Bool.true_and]
        rw [hin, bind_s]
        by_cases c : asB A (bkL A k) = true
        · rw [if_pos c, if_neg (by decide), ok_lt]
          have hR2 : RX A (bk2 A (some k) none) (s2 σ 0 26 (nI k)) := RX_skip (sk := none) (sp := none) hR (fun c q => s2_ne q) (fun j q1 q2 => s2_nj q1) s2_eq (by rw [s2_nj (by decide)]; exact hR.2.2.2.2.2.2.2.2.2.2.2.2.1.2.1) (fun v hv => by cases hv; omega) (fun v hv => by cases hv)
          refine ok_call (x_livesF hd hR2) ?_
          rintro - σ3 ⟨hR3, hv3, hL3⟩
          have hF3 := frX.ofL hL3
          rw [ok_lt]
          have hR4 : RX A (bk2 A none none) (s2 σ3 0 26 (-1)) := RX_skip (sk := some k) (sp := none) hR3 (fun c q => s2_ne q) (fun j q1 q2 => s2_nj q1) s2_eq (by rw [s2_nj (by decide)]; exact hR3.2.2.2.2.2.2.2.2.2.2.2.2.1.2.1) (fun v hv => by cases hv) (fun v hv => by cases hv)
          have hi4 : hiM σ0 (s2 σ3 0 26 (-1)) := hi.tr (fun c q => by rw [s2_ne (by omega), hF3.hi c q, s2_ne (by omega)])
          have h24 : ∀ c, c = 12 ∨ c = 13 ∨ c = 14 → s2 σ3 0 26 (-1) c = σ3 c := fun c q => s2_ne (by omega)
          refine add _ _ k (s2 σ3 0 26 (-1)) hR4 (fun j hj => by rw [h24 12 (by decide), h24 13 (by decide), h24 14 (by decide)]; exact hv3 j hj) c (fun σ5 hF5 ha5 => ?_) FU 0 _ (by omega) (by have := FU_ge; omega) (fun _ _ => rfl) (fun i v z1 z2 => ?_)
          · rw [M8_lookOf_J101, ok_lt, nI_1]
            exact ih (k + 1) σ5 (by omega) (by omega) (hR4.frame hF5) (hi4.tr hF5.hi) ha5
          · dsimp only
            rw [if_neg (by omega), s2_ne (by decide), hL3.1 24 (by decide) (by decide), s2_ne (by decide)]
            exact ha i v z1 z2
        · rw [if_neg c, if_pos rfl, M8_lookOf_J101, ok_lt, nI_1]
          exact ih (k + 1) σ (by omega) (by omega) hR hi (alC_skip ha (by simpa using c))
  have z80 : ∀ fu i σ, i ≤ 80 → 81 ≤ fu + i → frX σ1 σ → (∀ j, j < i → σ 24 j = 0) → Ok (M8_lookOf_L8 (nI d) (nvV A 0) (fun σ6 => M8_lookOf_L29 (nI d) (nvV A 0) (fun σ22 => M8_lookOf_L115 (fun v36 σ37 => some (v36, σ37)) FU (-1) 0 0 σ22) FU 0 σ6) fu (nI i) σ) (fun r σ' => r = loV A d ∧ RX A (bkA A) σ' ∧ hiM σ0 σ') := by
    intro fu
    induction fu with
    | zero => intro i σ _ _; omega
    | succ fu ih =>
      intro i σ hi hf hF hz
      rw [M8_lookOf_L8]
      by_cases e : 80 ≤ i
      · rw [if_pos (show (80 : Int32) ≤ nI i from (nI_leI (a := 80) (by omega) (by omega)).mpr e)]
        exact key FU 0 σ (by omega) (by have := FU_ge; omega) (hR1.frame hF) (hi1.tr hF.hi) (fun h v z1 z2 => hz _ (by omega))
      · rw [if_neg (show ¬ (80 : Int32) ≤ nI i from fun q => by have := (nI_leI (a := 80) (by omega) (by omega)).mp q; omega)]
        refine ok_T ((inb_nI (by omega)).mpr (by omega)) ?_
        rw [ok_lt, ok_lt, nI_1, nI_clamp (n := i) (by omega)]
        refine ih (i + 1) _ (by omega) (by omega) (hF.s (Or.inl rfl)) (fun j hj => ?_)
        by_cases ej : j = i
        · rw [ej, s2_eq]
        · rw [s2_nj ej]; exact hz j (by omega)
  exact z80 FU 0 σ1 (by omega) (by have := FU_ge; omega) frX.rf (fun j hj => by omega)
theorem m_look {A : AB} {σ : St} (x : Int32) (h : RM A σ) (hA : okAB A) : isM (M8_look x σ) σ (sLook x A) := by
  unfold M8_look sLook
  refine m_rd h hA (fun σ1 hR => ?_)
  rw [e8_isDay, bind_s]
  by_cases q1 : inb x 40
  · rw [if_pos q1, if_neg (by decide), if_pos q1]
    obtain ⟨d, hd, rfl, hx⟩ := inb_ex q1
    rw [nI_clamp hx]
    exact isX_tail (x_look hR hA hd)
  · rw [if_neg q1, if_pos rfl, if_neg q1]
    exact isX_some hR hiM.rf rfl
