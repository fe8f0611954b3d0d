def ouK (A : AB) (d k : Nat) : Bool := decide ((g4 (aL A) k).2.1 < itm 0 (a0 A) ∧ gou (simA A (d + 1)) (g4 (aL A) k).2.1 = some k)
def mwK (A : AB) (d k : Nat) : Nat := mwV A (vw (sim (hdA A) (bkL A k) (d + 1)))
def clN (A : AB) (d : Nat) : Nat → Option (Nat × Nat)
  | 0 => none
  | k + 1 => if ouK A d k then (match clN A d k with
    | none => some (k, mwK A d k)
    | some (b, v) => if mwK A d k ≤ v then some (b, v) else some (k, mwK A d k)) else clN A d k
def clV (A : AB) (d w : Nat) : Int32 := match clN A d (aL A).length with
  | none => -1
  | some (b, v) => if w = 0 then nI b else nI v - nI (mwV A (vwA A d))
def sCall (x y : Int32) (A : AB) : Sp := (if inb x 40 ∧ inb y 2 then clV A x.toNatClampNeg y.toNatClampNeg else -1002, A)
theorem clN_lt {A : AB} {d : Nat} (hA : okAB A) : ∀ n b l, clN A d n = some (b, l) → b < n ∧ l ≤ 72 := by
  intro n
  induction n with
  | zero => intro b l h; cases h
  | succ n ih =>
    intro b l h
    unfold clN at h
    have hm : mwK A d n ≤ 72 := mwV_le hA _
    split at h
    · cases e : clN A d n with
      | none => rw [e] at h; cases h; exact ⟨by omega, hm⟩
      | some q =>
        obtain ⟨b', l'⟩ := q
        rw [e] at h
        obtain ⟨y1, y2⟩ := ih b' l' e
        dsimp only at h
        split at h
        · cases h; exact ⟨by omega, y2⟩
        · cases h; exact ⟨by omega, hm⟩
    · obtain ⟨y1, y2⟩ := ih b l h
      exact ⟨by omega, y2⟩
theorem oI_k {o : Option Nat} {k : Nat} (hk : k < 2 ^ 31) (h : ∀ v, o = some v → v < 2 ^ 31) : oI o = nI k ↔ o = some k := by
  cases o with
  | none => exact ⟨fun q => absurd q.symm (nI_m1 hk), fun q => by cases q⟩
  | some v =>
    show nI v = nI k ↔ _
    rw [nI_eq (h v rfl) hk]
    exact ⟨fun q => by rw [q], fun q => by cases q; rfl⟩
theorem c_call {A : AB} {σ : St} (x y : Int32) (h : RC A σ) (hA : okAB A) : isC (M7_call x y σ) σ (sCall x y A) := by
  unfold M7_call sCall isC
  have hl := hA.2.1.2
  have h8 := itm_le (t := 0) hA.1.1
  rw [e7_isBelow x 40 σ (n := 40) rfl (by decide), bind_s]
  by_cases q1 : inb x 40
  · rw [if_pos q1, if_neg (by decide), e7_isBelow y 2 σ (n := 2) rfl (by decide), bind_s]
    by_cases q2 : inb y 2
    · rw [if_pos q2, if_neg (by decide), if_pos (show inb x 40 ∧ inb y 2 from ⟨q1, q2⟩)]
      obtain ⟨d, hd, rfl, hx⟩ := inb_ex q1
      obtain ⟨w, hw, rfl, hy⟩ := inb_ex q2
      rw [nI_clamp hx, nI_clamp hy]
      refine ok_call (c_told h hA) ?_
      rintro _ σ1 ⟨rfl, hR, hT, hlo⟩
      refine ok_T rfl ?_
      refine ok_call (t7_mostWorth hR hA (Or.inl rfl) hd (cV_A hA hT hd) (okV_A hA d)) ?_
      rintro r σ2 ⟨rfl, hF, -, -⟩
      have key : ∀ fu k σ', k ≤ (aL A).length → (aL A).length + 1 ≤ fu + k → RC A σ' → toC σ' A → loC σ σ' → Ok (M7_call_L43 (nI d) (nI w) 48 (nI (mwV A (vwA A d))) (fun v17 v18 σ19 => some (if v17 = -1 then -1 else if nI w = 0 then v17 else v18 - nI (mwV A (vwA A d)), σ19)) fu (loI (clN A d k)) (loD (clN A d k) (-1)) (nI k) σ') (fun r σ' => r = clV A d w ∧ RC A σ' ∧ loC σ σ') := by
        intro fu
        induction fu with
        | zero => intro k σ' _ _; omega
        | succ fu ih =>
          intro k σ' hk hf hR hT hlo
          rw [M7_call_L43, hR.2.2.1.1]
          by_cases e : (aL A).length ≤ k
          · rw [if_pos ((nI_leI (by omega) (by omega)).mpr (by omega)), ok_some, show k = (aL A).length by omega]
            refine ⟨?_, hR, hlo⟩
            unfold clV
            cases e1 : clN A d (aL A).length with
            | none => rw [if_pos (show loI none = -1 from rfl)]
            | some q =>
              obtain ⟨b, v⟩ := q
              have hb := (clN_lt hA _ b v e1).1
              rw [if_neg (show ¬ loI (some (b, v)) = -1 from nI_m1 (a := b) (by omega))]
              rcases (show w = 0 ∨ w = 1 by omega) with rfl | rfl
              · rfl
              · rfl
          · obtain ⟨z1, z2, z3, z4, z5⟩ := hA.2.1.1 k (by omega)
            rw [if_neg (fun q => by have := (nI_leI (by omega) (by omega)).mp q; omega), show M4_cell 33 (nI k) 1 σ' = some (nI (g4 (aL A) k).2.1, σ') from e4_cell (c := 1) hR.2.2.1 (by omega) (by decide), bind_s]
            have hout : M1_isOutBy 48 (nI d) (nI (g4 (aL A) k).2.1) (nI k) σ' = some (if ouK A d k = true then 1 else 0, σ') := by
              unfold M1_isOutBy ouK
              rw [show σ' 48 9 = nI (itm 0 (a0 A)) from hT.1.1]
              by_cases c : itm 0 (a0 A) ≤ (g4 (aL A) k).2.1
              · rw [if_pos ((nI_leI (by omega) (by omega)).mpr c), if_neg (by simp; omega)]
              · rw [if_neg (fun q => c ((nI_leI (by omega) (by omega)).mp q)), e1_loan hd (by omega), bind_s, show σ' (48 + 4) (d * 8 + (g4 (aL A) k).2.1) = oI (gou (simA A (d + 1)) (g4 (aL A) k).2.1) from ((hT.2 d hd).1 _ (show (g4 (aL A) k).2.1 < itm 0 (a0 A) by omega)).2.2]
                have hlt := gou_lt (B := bkA A) (d := d + 1) (okH_hd hA) hA.2.1.1 (show (g4 (aL A) k).2.1 < itm 0 (a0 A) by omega)
                rw [itx (oI_k (by omega) (fun v hv => by have : v < (aL A).length := hlt v hv; omega))]
                by_cases c2 : gou (simA A (d + 1)) (g4 (aL A) k).2.1 = some k
                · rw [if_pos c2, if_pos (by simp [c2]; omega)]
                · rw [if_neg c2, if_neg (by simp [c2])]
            rw [hout, bind_s]
            have hs : clN A d (k + 1) = if ouK A d k then (match clN A d k with
              | none => some (k, mwK A d k)
              | some (b, v) => if mwK A d k ≤ v then some (b, v) else some (k, mwK A d k)) else clN A d k := rfl
            by_cases c : ouK A d k = true
            · rw [if_pos c, if_neg (by decide)]
              rw [if_pos c] at hs
              refine ok_call (c_wol hR hA (k := k) (by omega) hd) ?_
              rintro _ σ3 ⟨rfl, hR3, hs3, -, hF3⟩
              refine ok_T rfl ?_
              refine ok_call (t7_mostWorth hR3 hA (Or.inr rfl) hd (hs3 d (by omega)) (okV_L hA k (d + 1))) ?_
              rintro r σ4 ⟨rfl, hF4, -, -⟩
              have hR4 := hR3.frB hA hF4
              have hT4 : toC σ4 A := hT.keep hA (fun c q1 q2 => by rw [hF4 c (by omega), hF3.1 c (by omega)])
              have hlo4 : loC σ σ4 := (hlo.tr hF3.lo).tr (fun c q => hF4 c (by omega))
              have this := ih (k + 1) σ4 (by omega) (by omega) hR4 hT4 hlo4
              have hm : mwK A d k ≤ 72 := mwV_le hA _
              show Ok (M7_call_J113 _ _ _ _ _ (if nI (mwK A d k) ≤ _ then _ else _) (if nI (mwK A d k) ≤ _ then _ else nI (mwK A d k)) _ _) _
              rw [M7_call_J113, ok_lt, nI_1]
              cases e1 : clN A d k with
              | none =>
                rw [e1] at hs
                rw [hs] at this
                have z : ¬ nI (mwK A d k) ≤ loD none (-1) := fun q => by
                  rw [i32_le, nI_toInt (by omega)] at q
                  have : (loD none (-1)).toInt = -1 := rfl
                  omega
                rw [if_neg z, if_neg z]
                exact this
              | some q =>
                obtain ⟨b, v⟩ := q
                obtain ⟨y1, y2⟩ := clN_lt hA k b v e1
                rw [e1] at hs
                dsimp only at hs
                by_cases c2 : mwK A d k ≤ v
                · rw [if_pos c2] at hs
                  rw [hs] at this
                  have z : nI (mwK A d k) ≤ loD (some (b, v)) (-1) := (nI_leI (b := v) (by omega) (by omega)).mpr c2
                  rw [if_pos z, if_pos z]
                  exact this
                · rw [if_neg c2] at hs
                  rw [hs] at this
                  have z : ¬ nI (mwK A d k) ≤ loD (some (b, v)) (-1) := fun q => c2 ((nI_leI (b := v) (by omega) (by omega)).mp q)
                  rw [if_neg z, if_neg z]
                  exact this
            · rw [if_neg c, if_pos rfl, M7_call_J113, ok_lt, nI_1]
              rw [if_neg c] at hs
              have this := ih (k + 1) σ' (by omega) (by omega) hR hT hlo
              rw [hs] at this
              exact this
      have k0 := key FU 0 σ2 (by omega) (by have := FU_ge; omega) (hR.frB hA hF) (hT.keep hA (fun c q1 q2 => hF c (by omega))) (hlo.tr (fun c q => hF c (by omega)))
      rw [show loI (clN A d 0) = -1 from rfl, show loD (clN A d 0) (-1) = -1 from rfl, show nI 0 = 0 from rfl] at k0
      exact k0
    · rw [if_neg q2, if_pos rfl, if_neg (fun z => q2 z.2)]
      exact isC_A h loC.rf rfl
  · rw [if_neg q1, if_pos rfl, if_neg (fun z => q1 z.1)]
    exact isC_A h loC.rf rfl
def exN (G : Gs) (k : Nat) : Nat → Bool
  | 0 => false
  | h + 1 => exN G k h || decide (gou G h = some k)
theorem exN_iff {G : Gs} {k : Nat} : ∀ n, exN G k n = true ↔ ∃ h, h < n ∧ gou G h = some k := by
  intro n
  induction n with
  | zero => exact ⟨fun q => (by cases q), fun ⟨h, q, _⟩ => (by omega)⟩
  | succ n ih =>
    unfold exN
    rw [Bool.or_eq_true, ih, decide_eq_true_iff]
    constructor
    · rintro (⟨h, q1, q2⟩ | q)
      · exact ⟨h, by omega, q2⟩
      · exact ⟨n, by omega, q⟩
    · rintro ⟨h, q1, q2⟩
      by_cases e : h = n
      · right; rw [← e]; exact q2
      · left; exact ⟨h, by omega, q2⟩
theorem ex_ouK {A : AB} {d k : Nat} (hA : okAB A) : exN (simA A (d + 1)) k (itm 0 (a0 A)) = ouK A d k := by
  have hG := okG_sim (B := bkA A) (okH_hd hA) hA.2.1.1 (d + 1)
  rw [Bool.eq_iff_iff, exN_iff]
  unfold ouK
  rw [decide_eq_true_iff]
  constructor
  · rintro ⟨h, q1, q2⟩
    have := ((hG h q1).2.2.2.2 k q2).2.2
    have e : (g4 (aL A) k).2.1 = h := this
    rw [e]; exact ⟨q1, q2⟩
  · rintro ⟨q1, q2⟩
    exact ⟨_, q1, q2⟩
theorem x_call {A : AB} {σ0 : St} {d w : Nat} (h0 : RX A (bkA A) σ0) (hA : okAB A) (hd : d < 40) (hw : w < 2) : isX A (bkA A) (M8_callOf (nI d) (nI w) σ0) σ0 (clV A d w) := by
  unfold M8_callOf isX
  have hl := hA.2.1.2
  have h8 := itm_le (t := 0) hA.1.1
  have key : ∀ fu k σ, k ≤ (aL A).length → (aL A).length + 1 ≤ fu + k → RX A (bkA A) σ → hiM σ0 σ → Ok (M8_callOf_L8 (nI d) (nI w) (fun v21 v22 σ23 => if v21 = -1 then M8_callOf_J156 v21 σ23 else if nI w = 0 then M8_callOf_J156 v21 σ23 else bd (M8_bestOf (nI d) (-1) σ23) fun r26 σ26 => some (v22 - r26, σ26)) fu (loI (clN A d k)) (loD (clN A d k) 0) (nI k) σ) (fun r σ' => r = clV A d w ∧ RX A (bkA A) σ' ∧ hiM σ0 σ') := by
    intro fu
    induction fu with
    | zero => intro k σ _ _; omega
    | succ fu ih =>
      intro k σ hk hf hR hi
      rw [M8_callOf_L8, show σ 0 9 = nI (aL A).length from hR.2.2.2.2.2.2.2.2.2.1.1]
      by_cases e : (aL A).length ≤ k
      · rw [if_pos ((nI_leI (by omega) (by omega)).mpr (by omega)), show k = (aL A).length by omega]
        unfold clV M8_callOf_J156
        cases e1 : clN A d (aL A).length with
        | none => exact ok_T rfl (ok_some.mpr ⟨rfl, hR, hi⟩)
        | some q =>
          obtain ⟨b, v⟩ := q
          have hb := (clN_lt hA _ b v e1).1
          refine ok_F (nI_m1 (a := b) (by omega)) ?_
          rcases (show w = 0 ∨ w = 1 by omega) with rfl | rfl
          · exact ok_T rfl (ok_some.mpr ⟨rfl, hR, hi⟩)
          · refine ok_F (by decide) ?_
            refine ok_call (x_best (i := none) hR hA hd (fun v hv => by cases hv)) ?_
            rintro r σ1 ⟨rfl, hR1, hi1⟩
            rw [ok_some]
            exact ⟨rfl, hR1, hi.tr hi1⟩
      · rw [if_neg (fun q => by have := (nI_leI (by omega) (by omega)).mp q; omega)]
        refine ok_call (x_lives hd hR) ?_
        rintro - σ1 ⟨hR1, hm1, hF1⟩
        have out : ∀ (kx : Int32 → St → Option (Int32 × St)) (x3 x4 : Int32) fu2 j, j ≤ itm 0 (a0 A) → itm 0 (a0 A) + 1 ≤ fu2 + j → M8_callOf_L28 (nI d) (nI w) x3 x4 (nI k) kx fu2 (if exN (simA A (d + 1)) k j then 1 else 0) (nI j) σ1 = kx (if ouK A d k then 1 else 0) σ1 := by
          intro kx x3 x4 fu2
          induction fu2 with
          | zero => intro j _ _; omega
          | succ fu2 ih2 =>
            intro j hj hf2
            rw [M8_callOf_L28, hR1.2.2.1.1]
            by_cases e2 : itm 0 (a0 A) ≤ j
            · rw [if_pos ((nI_leI (by omega) (by omega)).mpr (by omega)), ← ex_ouK hA, show j = itm 0 (a0 A) by omega]
            · rw [if_neg (fun q => by have := (nI_leI (by omega) (by omega)).mp q; omega)]
              have this := ih2 (j + 1) (by omega) (by omega)
              have hs : exN (simA A (d + 1)) k (j + 1) = (exN (simA A (d + 1)) k j || decide (gou (simA A (d + 1)) j = some k)) := rfl
              rw [hs] at this
              cases e3 : exN (simA A (d + 1)) k j with
              | true =>
                rw [e3, Bool.true_or] at this
                rw [if_neg (by decide), M8_callOf_J56, M8_callOf_J61, lt_eq, nI_1]
                exact this
              | false =>
                rw [e3, Bool.false_or] at this
                have hlt := gou_lt (B := bkA A) (d := d + 1) (okH_hd hA) hA.2.1.1 (show j < itm 0 (a0 A) by omega)
                rw [if_pos (by decide), if_pos ((inb_nI (by omega)).mpr (by omega)), nI_clamp (n := j) (by omega), show σ1 14 j = oI (gou (simA A (d + 1)) j) from (hm1.1 j (show j < itm 0 (a0 A) by omega)).2.2.1, itx (oI_k (by omega) (fun v hv => by have : v < (aL A).length := hlt v hv; omega))]
                by_cases c : gou (simA A (d + 1)) j = some k
                · rw [if_pos c, M8_callOf_J56, M8_callOf_J61, lt_eq, nI_1]
                  rw [decide_eq_true c] at this
                  exact this
                · rw [if_neg c, M8_callOf_J61, lt_eq, nI_1]
                  rw [decide_eq_false c] at this
                  exact this
        have k0 := fun kx x3 x4 => out kx x3 x4 FU 0 (by omega) (by have := FU_ge; omega)
        rw [show (if exN (simA A (d + 1)) k 0 = true then (1 : Int32) else 0) = 0 from rfl, show nI 0 = 0 from rfl] at k0
        rw [k0]
        have hs : clN A d (k + 1) = if ouK A d k then (match clN A d k with
          | none => some (k, mwK A d k)
          | some (b, v) => if mwK A d k ≤ v then some (b, v) else some (k, mwK A d k)) else clN A d k := rfl
        by_cases c : ouK A d k = true
        · rw [if_pos c] at hs
          rw [if_pos c]
          refine ok_F (by decide) ?_
          rw [ok_lt]
          have hR2 : RX A (bk2 A (some k) none) (s2 σ1 0 26 (nI k)) := RX_skip (sk := none) (sp := none) hR1 (fun c q => s2_ne q) (fun j q1 q2 => s2_nj q1) s2_eq (by rw [s2_nj (by decide)]; exact hR1.2.2.2.2.2.2.2.2.2.2.2.2.1.2.1) (fun v hv => by cases hv; omega) (fun v hv => by cases hv)
          refine ok_call (x_livesF hd hR2) ?_
          rintro - σ3 ⟨hR3, hv3, hL3⟩
          have hF3 := frX.ofL hL3
          rw [ok_lt]
          have hR4 : RX A (bk2 A none none) (s2 σ3 0 26 (-1)) := RX_skip (sk := some k) (sp := none) hR3 (fun c q => s2_ne q) (fun j q1 q2 => s2_nj q1) s2_eq (by rw [s2_nj (by decide)]; exact hR3.2.2.2.2.2.2.2.2.2.2.2.2.1.2.1) (fun v hv => by cases hv) (fun v hv => by cases hv)
          have hi4 : hiM σ0 (s2 σ3 0 26 (-1)) := (hi.tr hF1.hi).tr (fun c q => by rw [s2_ne (by omega), hF3.hi c q, s2_ne (by omega)])
          have h24 : ∀ c, c = 12 ∨ c = 13 ∨ c = 14 → s2 σ3 0 26 (-1) c = σ3 c := fun c q => s2_ne (by omega)
          refine ok_call (t8_bestNow (V := vw (sim (hdA A) (bkL A k) (d + 1))) hR4 hA (fun j hj => by rw [h24 12 (by decide), h24 13 (by decide), h24 14 (by decide)]; exact hv3 j hj) (okV_L hA k (d + 1))) ?_
          rintro r σ5 ⟨rfl, hF5, -⟩
          have hX5 : frX (s2 σ3 0 26 (-1)) σ5 := ⟨fun c q => hF5 c (by omega), fun j _ _ => by rw [hF5 0 (by decide)]⟩
          have hR5 : RX A (bkA A) σ5 := hR4.frame hX5
          have this := ih (k + 1) σ5 (by omega) (by omega) hR5 (hi4.tr hX5.hi)
          have hm : mwK A d k ≤ 72 := mwV_le hA _
          show Ok (if loI (clN A d k) = -1 then M8_callOf_J108 _ _ _ _ _ _ (nI (mwK A d k)) _ else if nI (mwK A d k) ≤ _ then M8_callOf_J113 _ _ _ _ _ _ (nI (mwK A d k)) _ _ else M8_callOf_J108 _ _ _ _ _ _ (nI (mwK A d k)) _) _
          unfold M8_callOf_J108 M8_callOf_J113 M8_callOf_J126 M8_callOf_J139 M8_callOf_J141
          rw [if_neg (show ¬ (1 : Int32) = 0 by decide), if_neg (show ¬ (1 : Int32) = 0 by decide), if_pos (show (0 : Int32) = 0 from rfl), if_pos (show (0 : Int32) = 0 from rfl), nI_1]
          cases e1 : clN A d k with
          | none =>
            rw [e1] at hs
            rw [hs] at this
            refine ok_T rfl ?_
            rw [ok_lt]
            exact this
          | some q =>
            obtain ⟨b, v⟩ := q
            obtain ⟨y1, y2⟩ := clN_lt hA k b v e1
            rw [e1] at hs
            dsimp only at hs
            refine ok_F (nI_m1 (a := b) (by omega)) ?_
            by_cases c2 : mwK A d k ≤ v
            · rw [if_pos c2] at hs
              rw [hs] at this
              refine ok_T ((nI_leI (b := v) (by omega) (by omega)).mpr c2) ?_
              rw [ok_lt]
              exact this
            · rw [if_neg c2] at hs
              rw [hs] at this
              refine ok_F (fun q => c2 ((nI_leI (b := v) (by omega) (by omega)).mp q)) ?_
              rw [ok_lt]
              exact this
        · rw [if_neg c] at hs
          rw [if_neg c]
          refine ok_T rfl ?_
          rw [M8_callOf_J141, ok_lt, nI_1]
          have this := ih (k + 1) σ1 (by omega) (by omega) hR1 (hi.tr hF1.hi)
          rw [hs] at this
          exact this
  have k0 := key FU 0 σ0 (by omega) (by have := FU_ge; omega) h0 hiM.rf
  rw [show loI (clN A d 0) = -1 from rfl, show loD (clN A d 0) 0 = 0 from rfl, show nI 0 = 0 from rfl] at k0
  exact k0
theorem m_call {A : AB} {σ : St} (x y : Int32) (h : RM A σ) (hA : okAB A) : isM (M8_call x y σ) σ (sCall x y A) := by
  unfold M8_call sCall
  refine m_rd h hA (fun σ1 hR => ?_)
  rw [e8_isDay, bind_s]
  by_cases q1 : inb x 40
  · rw [if_pos q1, if_neg (by decide), e8_isTwo, bind_s]
    by_cases q2 : inb y 2
    · rw [if_pos q2, if_neg (by decide), if_pos (show inb x 40 ∧ inb y 2 from ⟨q1, q2⟩)]
      obtain ⟨d, hd, rfl, hx⟩ := inb_ex q1
      obtain ⟨k, hk, rfl, hy⟩ := inb_ex q2
      rw [nI_clamp hx, nI_clamp hy]
      exact isX_tail (x_call hR hA hd hk)
    · rw [if_neg q2, if_pos rfl, if_neg (fun z => q2 z.2)]
      exact isX_some hR hiM.rf rfl
  · rw [if_neg q1, if_pos rfl, if_neg (fun z => q1 z.1)]
    exact isX_some hR hiM.rf rfl
