theorem tbM_set {σ : St} {A : AB} {V : Vw} {w w' u : Nat} {v : Int32} (hA : okAB A) (h : tbM σ A V w') (hne : w ≠ w') (hu : u < 2 ^ itm 0 (a0 A)) : tbM (s2 σ 21 (256 * w + u) v) A V w' := by
  have hp := p256 hA
  intro s hs
  rw [s2_nj (by omega)]
  exact h s hs
theorem t8_bestNow {A : AB} {B : Bk} {σ0 : St} {V : Vw} (h0 : RX A B σ0) (hA : okAB A) (hv0 : mV σ0 (itm 0 (a0 A)) V) (hV : okV (itm 0 (a0 A)) V) : Ok (M8_bestNow σ0) (fun r σ => r = nI (mwV A V) ∧ (∀ c, c ≠ 21 → σ c = σ0 c) ∧ ∀ w, w ≤ nW A → tbM σ A V w) := by
  have h8 := itm_le (t := 0) hA.1.1
  have w8 : nW A ≤ 8 := itm_le (t := 1) hA.1.2.1
  have hp := p256 hA
  have hM := okM_A hA V
  have frm : ∀ σ, (∀ c, c ≠ 21 → σ c = σ0 c) → RX A B σ ∧ mV σ (itm 0 (a0 A)) V := fun σ hF => ⟨h0.frame ⟨fun c q => hF c (by omega), fun j _ _ => by rw [hF 0 (by decide)]⟩, fun j hj => by
    rw [hF 12 (by decide), hF 13 (by decide), hF 14 (by decide)]; exact hv0 j hj⟩
  unfold M8_bestNow
  rw [ok_lt, ok_lt, h0.2.2.1.1, h0.2.2.2.1.1, show (1 : Int32) <<< (nI (itm 0 (a0 A)) &&& 31) = nI (2 ^ itm 0 (a0 A)) from i_shl ⟨itm 0 (a0 A), by omega⟩]
  have bss : ∀ w u, w < nW A → bst (nW A) (woA A) (fbA A V) (nW A - w) u = mxH (fun h => woA A w + bst (nW A) (woA A) (fbA A V) (nW A - (w + 1)) (u ||| 2 ^ h)) (fun h => (fbA A V w).testBit h && !u.testBit h) (bst (nW A) (woA A) (fbA A V) (nW A - (w + 1)) u) (itm 0 (a0 A)) := by
    intro w u hw
    rw [← mxH_more (k := 8) (n := itm 0 (a0 A)) (fun h hh => by rw [fb_bit, decide_eq_false (show ¬ h < itm 0 (a0 A) by omega)]; rfl) h8]
    rw [show nW A - w = (nW A - (w + 1)) + 1 by omega]
    show mxH (fun h => woA A (nW A - (nW A - (w + 1) + 1)) + _) (fun h => (fbA A V (nW A - (nW A - (w + 1) + 1))).testBit h && _) _ 8 = _
    rw [show nW A - (nW A - (w + 1) + 1) = w by omega]
  -- the levels, from the last: w1 - 1 is the level
  have lev : ∀ fu w1 σ, w1 ≤ nW A + 1 → w1 + 1 ≤ fu → (∀ c, c ≠ 21 → σ c = σ0 c) → (∀ w, w1 ≤ w → w ≤ nW A → tbM σ A V w) → Ok (M8_bestNow_L16 (nI (2 ^ itm 0 (a0 A))) (fun σ26 => some (σ26 21 0, σ26)) fu (nI w1 - 1) σ) (fun r σ => r = nI (mwV A V) ∧ (∀ c, c ≠ 21 → σ c = σ0 c) ∧ ∀ w, w ≤ nW A → tbM σ A V w) := by
    intro fu
    induction fu with
    | zero => intro w1 σ _ c; omega
    | succ fu ih =>
      intro w1 σ hw hf hF ht
      rw [M8_bestNow_L16]
      cases w1 with
      | zero =>
        rw [if_pos (by decide), ok_some]
        exact ⟨ht 0 (by omega) (by omega) 0 (Nat.two_pow_pos _), hF, fun w hw => ht w (by omega) hw⟩
      | succ w =>
        rw [nI_pred, if_neg (nI_pos (by omega))]
        have sets : ∀ fu2 u σ, u ≤ 2 ^ itm 0 (a0 A) → 2 ^ itm 0 (a0 A) + 1 ≤ fu2 + u → (∀ c, c ≠ 21 → σ c = σ0 c) → (∀ w', w + 1 ≤ w' → w' ≤ nW A → tbM σ A V w') → (∀ s, s < u → σ 21 (256 * w + s) = nI (bst (nW A) (woA A) (fbA A V) (nW A - w) s)) → Ok (M8_bestNow_L22 (nI (2 ^ itm 0 (a0 A))) (nI w) (fun σ24 => lt (nI w + (-1)) fun v25 => M8_bestNow_L16 (nI (2 ^ itm 0 (a0 A))) (fun σ26 => some (σ26 21 0, σ26)) fu v25 σ24) fu2 (nI u) σ) (fun r σ => r = nI (mwV A V) ∧ (∀ c, c ≠ 21 → σ c = σ0 c) ∧ ∀ w, w ≤ nW A → tbM σ A V w) := by
          intro fu2
          induction fu2 with
          | zero => intro u σ _ _; omega
          | succ fu2 ih2 =>
            intro u σ hu hf2 hF ht hs
            obtain ⟨hR, hv⟩ := frm σ hF
            rw [M8_bestNow_L22]
            by_cases e : 2 ^ itm 0 (a0 A) ≤ u
            · rw [if_pos ((nI_leI (by omega) (by omega)).mpr (by omega)), ok_lt, add_m1]
              refine ih w σ (by omega) (by omega) hF (fun w' h1 h2 => ?_)
              by_cases ew : w' = w
              · subst ew; exact fun s hs' => hs s (by omega)
              · exact ht w' (by omega) h2
            · rw [if_neg (fun q => by have := (nI_leI (by omega) (by omega)).mp q; omega), hR.2.2.2.1.1]
              have fin : ∀ σ', (∀ c, c ≠ 21 → σ' c = σ0 c) → σ' = σ → Ok (M8_bestNow_J118 (fun x3 σ => M8_bestNow_L22 (nI (2 ^ itm 0 (a0 A))) (nI w) (fun σ24 => lt (nI w + (-1)) fun v25 => M8_bestNow_L16 (nI (2 ^ itm 0 (a0 A))) (fun σ26 => some (σ26 21 0, σ26)) fu v25 σ24) fu2 x3 σ) (nI (2 ^ itm 0 (a0 A))) (nI w) (nI u) (nI (bst (nW A) (woA A) (fbA A V) (nW A - w) u)) σ') (fun r σ => r = nI (mwV A V) ∧ (∀ c, c ≠ 21 → σ c = σ0 c) ∧ ∀ w, w ≤ nW A → tbM σ A V w) := by
                intro σ' hF' hσ
                subst hσ
                unfold M8_bestNow_J118
                rw [ixm]
                refine ok_T ((inb_nI (by omega)).mpr (by omega)) ?_
                rw [nI_clamp (n := 256 * w + u) (by omega), ok_lt, ok_lt, nI_1]
                refine ih2 (u + 1) _ (by omega) (by omega) (fun c q => by rw [s2_ne q]; exact hF c q) (fun w' h1 h2 => tbM_set hA (ht w' h1 h2) (by omega) (by omega)) (fun s hs' => ?_)
                by_cases es : s = u
                · subst es; rw [s2_eq]
                · rw [s2_nj (by omega)]; exact hs s (by omega)
              by_cases ew : w = nW A
              · have hz : bst (nW A) (woA A) (fbA A V) (nW A - w) u = 0 := by rw [ew, Nat.sub_self]; rfl
                rw [if_pos (by rw [ew])]
                unfold M8_bestNow_J55
                have hFU : FU = (FU - 1) + 1 := by have := FU_ge; omega
                rw [hFU, M8_bestNow_L60, hR.2.2.1.1, hR.2.2.2.1.1, ew, if_pos (show nI (itm 1 (a1 A)) ≤ nI (nW A) from nI_le (Nat.le_refl _) (by omega))]
                have hfin := fin σ hF rfl
                rw [hz, ew] at hfin
                split
                · exact hfin
                · exact hfin
              · rw [if_neg (fun q => ew ((nI_eq (by omega) (by omega)).mp q)), ixm']
                refine ok_T ((inb_nI (by omega)).mpr (by omega)) ?_
                have htn := ht (w + 1) (by omega) (by omega)
                rw [nI_clamp (n := 256 * (w + 1) + u) (by omega), htn u (by omega)]
                unfold M8_bestNow_J55
                have hwm : w < nW A := by omega
                have hfin := fin σ hF rfl
                rw [bss w u hwm] at hfin
                generalize hg : (fun h => woA A w + bst (nW A) (woA A) (fbA A V) (nW A - (w + 1)) (u ||| 2 ^ h)) = g at hfin
                generalize hpp : (fun h => (fbA A V w).testBit h && !u.testBit h) = p at hfin
                generalize hss : bst (nW A) (woA A) (fbA A V) (nW A - (w + 1)) u = s at hfin
                have hs9 : s ≤ 81 := by rw [← hss]; have := bst_le (m := nW A) (fb := fbA A V) hM.2.1 (nW A - (w + 1)) u; omega
                have hg9 : ∀ h, g h ≤ 81 := fun h => by
                  rw [← hg]
                  have := bst_le (m := nW A) (fb := fbA A V) hM.2.1 (nW A - (w + 1)) (u ||| 2 ^ h)
                  have := hM.2.1 w
                  show woA A w + _ ≤ 81; omega
                have inn : ∀ kx : Int32 → St → Option (Int32 × St), ∀ fu3 h, h ≤ itm 0 (a0 A) → itm 0 (a0 A) + 1 ≤ fu3 + h → M8_bestNow_L60 (nI (2 ^ itm 0 (a0 A))) (nI w) (nI u) kx fu3 (nI (mxH g p s h)) (nI h) σ = kx (nI (mxH g p s (itm 0 (a0 A)))) σ := by
                  intro kx fu3
                  induction fu3 with
                  | zero => intro h _ _; omega
                  | succ fu3 ih3 =>
                    intro h hh hf3
                    rw [M8_bestNow_L60, hR.2.2.1.1, hR.2.2.2.1.1]
                    by_cases e3 : itm 0 (a0 A) ≤ h
                    · rw [if_pos ((nI_leI (by omega) (by omega)).mpr (by omega)), show h = itm 0 (a0 A) by omega]
                    · have hmx := mxH_le (p := p) hs9 hg9 h
                      have hgh := hg9 h
                      have hsx : mxH g p s (h + 1) = if p h then max (mxH g p s h) (g h) else mxH g p s h := rfl
                      have hpb : p h = ((fbA A V w).testBit h && !u.testBit h) := by rw [← hpp]
                      have this := ih3 (h + 1) (by omega) (by omega)
                      rw [if_neg (show ¬ nI (itm 0 (a0 A)) ≤ nI h from fun q => by have := (nI_leI (by omega) (by omega)).mp q; omega), if_neg (show ¬ nI (itm 1 (a1 A)) ≤ nI w from fun q => by have := (nI_leI (a := nW A) (by omega) (by omega)).mp q; omega), e8_may hR hA hv hV hwm (by omega) (by omega), bind_s, ← hpb]
                      by_cases c : p h = true
                      · rw [if_pos c, if_neg (by decide), e8_worthBy hR hA hwm (by omega) (by omega) htn, bind_s, show woA A w + bst (nW A) (woA A) (fbA A V) (nW A - (w + 1)) (u ||| 2 ^ h) = g h by rw [← hg], e8_greater (by omega) (by omega), bind_s, M8_bestNow_J110, lt_eq, nI_1]
                        rw [hsx, if_pos c, Nat.max_comm] at this
                        exact this
                      · rw [if_neg c, if_pos rfl, M8_bestNow_J110, lt_eq, nI_1]
                        rw [hsx, if_neg c] at this
                        exact this
                have k0 := fun kx => inn kx FU 0 (by omega) (by have := FU_ge; omega)
                rw [show nI (mxH g p s 0) = nI s from rfl, show nI 0 = 0 from rfl] at k0
                rw [k0]
                exact hfin
        exact sets FU 0 σ (Nat.zero_le _) (by have := FU_ge; omega) hF ht (fun s hs => by omega)
  have := lev FU (nW A + 1) σ0 (by omega) (by have := FU_ge; omega) (fun _ _ => rfl) (fun w h1 h2 => by omega)
  rw [nI_pred] at this
  exact this
theorem uoN_ltn {fb : Nat → Nat} {k : Nat} (h : ∀ w, fb w < 2 ^ k) : ∀ n, uoN fb n < 2 ^ k := by
  intro n
  induction n with
  | zero => exact Nat.two_pow_pos k
  | succ n ih => exact Nat.or_lt_two_pow ih (h n)
theorem usd_lt {A : AB} {V : Vw} {w : Nat} (hw : w ≤ nW A) : usd (nW A) (woA A) (fbA A V) w < 2 ^ itm 0 (a0 A) := by
  have h1 := usd_sub (m := nW A) (wo := woA A) (fb := fbA A V) w hw
  have h2 : usd (nW A) (woA A) (fbA A V) w &&& uoN (fbA A V) (nW A) ≤ uoN (fbA A V) (nW A) := Nat.and_le_right
  have h3 := uoN_ltn (fb := fbA A V) (k := itm 0 (a0 A)) fbA_lt (nW A)
  omega
theorem lhS_n {A : AB} {V : Vw} (hA : okAB A) (w u : Nat) : lhS (nW A) (woA A) (fbA A V) w u = lf (cnd (nW A) (woA A) (fbA A V) w u) (itm 0 (a0 A)) 0 := by
  have h8 := itm_le (t := 0) hA.1.1
  unfold lhS
  have := lf_more (c := cnd (nW A) (woA A) (fbA A V) w u) (i := 8 - itm 0 (a0 A)) (itm 0 (a0 A)) 0 (fun x hx => by
    unfold cnd
    rw [fb_bit, decide_eq_false (show ¬ x < itm 0 (a0 A) by omega)]; rfl)
  rw [show itm 0 (a0 A) + (8 - itm 0 (a0 A)) = 8 by omega] at this
  exact this
theorem x_best {A : AB} {σ0 : St} {d : Nat} {i : Option Nat} (h0 : RX A (bkA A) σ0) (hA : okAB A) (hd : d < 40) (hi : ∀ v, i = some v → v < 8) : isX A (bkA A) (M8_bestOf (nI d) (oI i) σ0) σ0 (beV A d i) := by
  unfold M8_bestOf isX
  have h8 := itm_le (t := 0) hA.1.1
  have w8 : nW A ≤ 8 := itm_le (t := 1) hA.1.2.1
  have hp := p256 hA
  refine ok_call (x_livesV hd h0) ?_
  rintro - σ1 ⟨hR1, hv1, hF1⟩
  have hv1 : mV σ1 (itm 0 (a0 A)) (vwA A d) := hv1
  have hV := okV_A hA d
  refine ok_call (t8_bestNow hR1 hA hv1 hV) ?_
  rintro r σ2 ⟨rfl, hF2, ht⟩
  have hX2 : frX σ1 σ2 := ⟨fun c q => hF2 c (by omega), fun j _ _ => by rw [hF2 0 (by decide)]⟩
  have hR := hR1.frame hX2
  have hv : mV σ2 (itm 0 (a0 A)) (vwA A d) := fun j hj => by
    rw [hF2 12 (by decide), hF2 13 (by decide), hF2 14 (by decide)]; exact hv1 j hj
  have hhi : hiM σ0 σ2 := hF1.hi.tr hX2.hi
  generalize hVe : vwA A d = V at *
  -- the holes, from the last
  have hol : ∀ (kx : Int32 → St → Option (Int32 × St)) (x2 x3 : Int32) (w u : Nat), w < nW A → u < 2 ^ itm 0 (a0 A) → ∀ fu h1, h1 ≤ itm 0 (a0 A) → h1 + 1 ≤ fu → M8_bestOf_L49 x2 x3 (nI u) (nI w) kx fu (oI (lf (cnd (nW A) (woA A) (fbA A V) w u) (itm 0 (a0 A) - h1) h1)) (nI h1 - 1) σ2 = kx (oI (lhS (nW A) (woA A) (fbA A V) w u)) σ2 := by
    intro kx x2 x3 w u hw hu fu
    induction fu with
    | zero => intro h1 _ c; omega
    | succ fu ih =>
      intro h1 hh hf
      rw [M8_bestOf_L49]
      cases h1 with
      | zero =>
        rw [if_pos (by decide), lhS_n hA]; rfl
      | succ h =>
        have hM := okM_A hA V
        have b1 := bst_le (m := nW A) (fb := fbA A V) hM.2.1 (nW A - (w + 1)) (u ||| 2 ^ h)
        have b2 := bst_le (m := nW A) (fb := fbA A V) hM.2.1 (nW A - w) u
        have b3 := hM.2.1 w
        have this := ih h (by omega) (by omega)
        have hlf : lf (cnd (nW A) (woA A) (fbA A V) w u) (itm 0 (a0 A) - h) h = if cnd (nW A) (woA A) (fbA A V) w u h then some h else lf (cnd (nW A) (woA A) (fbA A V) w u) (itm 0 (a0 A) - (h + 1)) (h + 1) := by
          rw [show itm 0 (a0 A) - h = (itm 0 (a0 A) - (h + 1)) + 1 by omega]; rfl
        have hcn : cnd (nW A) (woA A) (fbA A V) w u h = (((fbA A V w).testBit h && !u.testBit h) && decide (woA A w + bst (nW A) (woA A) (fbA A V) (nW A - (w + 1)) (u ||| 2 ^ h) = bst (nW A) (woA A) (fbA A V) (nW A - w) u)) := rfl
        rw [hlf, hcn] at this
        rw [nI_pred, if_neg (nI_pos (by omega)), e8_may hR hA hv hV hw (by omega) (by omega), bind_s]
        by_cases c : ((fbA A V w).testBit h && !u.testBit h) = true
        · rw [if_pos c, if_neg (by decide), e8_worthBy hR hA hw (by omega) hu (ht (w + 1) (by omega)), bind_s, ixm, if_pos ((inb_nI (by omega)).mpr (by omega)), nI_clamp (n := 256 * w + u) (by omega), ht w (by omega) u hu]
          rw [c, Bool.true_and] at this
          by_cases c2 : woA A w + bst (nW A) (woA A) (fbA A V) (nW A - (w + 1)) (u ||| 2 ^ h) = bst (nW A) (woA A) (fbA A V) (nW A - w) u
          · rw [if_pos (by rw [c2]), M8_bestOf_J101, lt_eq, add_m1]
            rw [decide_eq_true c2] at this
            exact this
          · rw [if_neg (fun q => c2 ((nI_eq (by omega) (by omega)).mp q)), M8_bestOf_J99, M8_bestOf_J101, lt_eq, add_m1]
            rw [decide_eq_false c2] at this
            exact this
        · rw [if_neg c, if_pos rfl, M8_bestOf_J99, M8_bestOf_J101, lt_eq, add_m1]
          rw [show ((fbA A V w).testBit h && !u.testBit h) = false by simpa using c] at this
          exact this
  cases i with
  | none =>
    have hFU : FU = (FU - 1) + 1 := by have := FU_ge; omega
    rw [hFU, M8_bestOf_L19, if_pos (show oI none < 0 by decide)]
    unfold M8_bestOf_J134
    rw [if_pos (show oI none = -1 from rfl), ok_some]
    refine ⟨?_, hR, hhi⟩
    unfold beV
    rw [hVe]
  | some v =>
    have hv8 := hi v rfl
    have key : ∀ fu w y, w ≤ nW A → w ≤ v + 1 → nW A + 1 ≤ fu + w → (w = v + 1 → y = oI (lhS (nW A) (woA A) (fbA A V) v (usd (nW A) (woA A) (fbA A V) v))) → M8_bestOf_L19 (nI v) (nI (mwV A V)) (fun v20 σ21 => M8_bestOf_J134 (nI v) (nI (mwV A V)) v20 σ21) fu (nI (usd (nW A) (woA A) (fbA A V) w)) y (nI w) σ2 = some (bhV (nW A) (woA A) (fbA A V) v, σ2) := by
      intro fu
      induction fu with
      | zero => intro w y _ _ _; omega
      | succ fu ih =>
        intro w y hw hwv hf hy
        rw [M8_bestOf_L19, hR.2.2.2.1.1]
        have fin : (w = v + 1 ∨ nW A ≤ w) → M8_bestOf_J134 (nI v) (nI (mwV A V)) y σ2 = some (bhV (nW A) (woA A) (fbA A V) v, σ2) := by
          intro hh
          unfold M8_bestOf_J134 bhV
          rw [if_neg (nI_m1 (by omega)), hR.2.2.2.1.1]
          by_cases c : nW A ≤ v
          · rw [if_pos ((nI_leI (by omega) (by omega)).mpr c), if_neg (by omega)]
          · rw [if_neg (fun q => c ((nI_leI (by omega) (by omega)).mp q)), if_pos (by omega), hy (by omega)]
        by_cases e1 : v < w
        · rw [if_pos ((nI_ltI (by omega) (by omega)).mpr e1)]
          exact fin (Or.inl (by omega))
        · rw [if_neg (fun q => e1 ((nI_ltI (by omega) (by omega)).mp q))]
          by_cases e2 : nW A ≤ w
          · rw [if_pos ((nI_leI (by omega) (by omega)).mpr e2)]
            exact fin (Or.inr e2)
          · have hul := usd_lt (A := A) (V := V) (w := w) (by omega)
            rw [if_neg (fun q => e2 ((nI_leI (by omega) (by omega)).mp q)), lt_eq, hR.2.2.1.1]
            have k0 := fun kx => hol kx (nI v) (nI (mwV A V)) w _ (show w < nW A by omega) hul FU (itm 0 (a0 A)) (by omega) (by have := FU_ge; omega)
            rw [Nat.sub_self, show oI (lf (cnd (nW A) (woA A) (fbA A V) w (usd (nW A) (woA A) (fbA A V) w)) 0 (itm 0 (a0 A))) = -1 from rfl] at k0
            rw [k0, M8_bestOf_J125, lt_eq, lt_eq, nI_1]
            have hs : usd (nW A) (woA A) (fbA A V) (w + 1) = (match lhS (nW A) (woA A) (fbA A V) w (usd (nW A) (woA A) (fbA A V) w) with
              | none => usd (nW A) (woA A) (fbA A V) w
              | some h => usd (nW A) (woA A) (fbA A V) w ||| 2 ^ h) := rfl
            have this := ih (w + 1) (oI (lhS (nW A) (woA A) (fbA A V) w (usd (nW A) (woA A) (fbA A V) w))) (by omega) (by omega) (by omega) (fun q => by rw [show w = v by omega])
            cases e3 : lhS (nW A) (woA A) (fbA A V) w (usd (nW A) (woA A) (fbA A V) w) with
            | none =>
              rw [e3] at hs this
              rw [hs] at this
              rw [if_pos (show oI none = -1 from rfl), Int32.or_zero]
              exact this
            | some h =>
              rw [e3] at hs this
              rw [hs] at this
              have h8' := (lhS_ok e3).1
              rw [if_neg (show ¬ oI (some h) = -1 from nI_m1 (a := h) (by omega)), show oI (some h) = nI h from rfl, i_or1 (by omega) h8']
              exact this
    have k0 := key FU 0 (-1) (by omega) (by omega) (by have := FU_ge; omega) (fun q => by omega)
    rw [show nI (usd (nW A) (woA A) (fbA A V) 0) = 0 from rfl, show nI 0 = 0 from rfl] at k0
    rw [show oI (some v) = nI v from rfl, k0, ok_some]
    refine ⟨?_, hR, hhi⟩
    unfold beV
    rw [hVe]
theorem m_best {A : AB} {σ : St} (x y : Int32) (h : RM A σ) (hA : okAB A) : isM (M8_best x y σ) σ (sBest x y A) := by
  unfold M8_best sBest
  refine m_rd h hA (fun σ1 hR => ?_)
  rw [e8_isDay, bind_s]
  by_cases q1 : inb x 40
  · rw [if_pos q1, if_neg (by decide), e8_inx y (-1) 7 σ1 (a := -1) (b := 7) rfl rfl, bind_s]
    obtain ⟨d, hd, rfl, hx⟩ := inb_ex q1
    rw [nI_clamp hx]
    by_cases q2 : y = -1
    · subst q2
      rw [if_pos (show -1 ≤ (-1 : Int32).toInt ∧ (-1 : Int32).toInt ≤ 7 by decide), if_neg (by decide), if_pos ⟨q1, Or.inl rfl⟩, if_pos rfl]
      exact isX_tail (x_best (i := none) hR hA hd (fun v hv => by cases hv))
    · have hy1 : ¬ y.toInt = -1 := fun q => q2 (i32_eq.mpr (by rw [q]; rfl))
      by_cases q3 : inb y 8
      · rw [if_pos (show -1 ≤ y.toInt ∧ y.toInt ≤ 7 by obtain ⟨a, b⟩ := q3; omega), if_neg (by decide), if_pos ⟨q1, Or.inr q3⟩, if_neg q2]
        obtain ⟨v, hv, rfl, hy⟩ := inb_ex q3
        rw [nI_clamp hy]
        exact isX_tail (x_best (i := some v) hR hA hd (fun w hw => by cases hw; exact hv))
      · rw [if_neg (show ¬ (-1 ≤ y.toInt ∧ y.toInt ≤ 7) from fun z => q3 ⟨by omega, by omega⟩), if_pos rfl, if_neg (fun z => z.2.elim q2 q3)]
        exact isX_some hR hiM.rf rfl
  · rw [if_neg q1, if_pos rfl, if_neg (fun z => q1 z.1)]
    exact isX_some hR hiM.rf rfl
