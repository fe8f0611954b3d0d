theorem xH4 {A : AB} {σ0 σ : St} {x0 : Int64} {kx : Int64 → St → Option (Int64 × St)} {P : Int64 → St → Prop} {h : Nat} (hh : h < itm 0 (a0 A)) (hA : okAB A) (hS : SX A σ0 σ) (hk : ∀ σ', SX A σ0 σ' → Ok (kx (itD (mx (fun k => nI (fig 0 (a0 A) h k))) x0 (4)) σ') P) : Ok (M8_tellsHole_L6 (nI h) kx FU x0 0 σ) P := by
  have h8 := itm_le (t := 0) hA.1.1
  have w8 := itm_le (t := 1) hA.1.2.1
  have hl := hA.2.1.2
  refine loopX (L := M8_tellsHole_L6 (nI h) kx) (g := mx (fun k => nI (fig 0 (a0 A) h k))) (4) (by omega) hS (fun n x σ h' => ?_) (fun n x k σ hk' h' hQ => ?_) hk
  · rw [M8_tellsHole_L6, if_pos (show (4 : Int32) ≤ nI 4 from (nI_leI (a := 4) (by omega) (by omega)).mpr (by omega))]
  · rw [M8_tellsHole_L6, if_neg (show ¬ (4 : Int32) ≤ nI k from fun q => by have := (nI_leI (a := 4) (by omega) (by omega)).mp q; omega)]
    have e4 : (4 : Int32) * nI h + nI k = nI (4 * h + k) := by rw [show (4 : Int32) = nI 4 from rfl, pk_mul, nI_add]
    rw [e4, nI_clamp (n := 4 * h + k) (by omega)]
    refine ok_T ((inb_nI (by omega)).mpr (by omega)) ?_
    have := h'.1.2.2.1.2 h k hh hk'
    rw [show 32 * 0 + 4 * h + k = 4 * h + k by omega] at this
    rw [this, ok_lt, ok_lt, nI_1]
    exact hQ σ h'
theorem xW4 {A : AB} {σ0 σ : St} {x0 : Int64} {kx : Int64 → St → Option (Int64 × St)} {P : Int64 → St → Prop} {w : Nat} (hh : w < itm 1 (a1 A)) (hA : okAB A) (hS : SX A σ0 σ) (hk : ∀ σ', SX A σ0 σ' → Ok (kx (itD (mx (fun k => nI (fig 1 (a1 A) w k))) x0 (4)) σ') P) : Ok (M8_tellsWork_L6 (nI w) kx FU x0 0 σ) P := by
  have h8 := itm_le (t := 0) hA.1.1
  have w8 := itm_le (t := 1) hA.1.2.1
  have hl := hA.2.1.2
  refine loopX (L := M8_tellsWork_L6 (nI w) kx) (g := mx (fun k => nI (fig 1 (a1 A) w k))) (4) (by omega) hS (fun n x σ h' => ?_) (fun n x k σ hk' h' hQ => ?_) hk
  · rw [M8_tellsWork_L6, if_pos (show (4 : Int32) ≤ nI 4 from (nI_leI (a := 4) (by omega) (by omega)).mpr (by omega))]
  · rw [M8_tellsWork_L6, if_neg (show ¬ (4 : Int32) ≤ nI k from fun q => by have := (nI_leI (a := 4) (by omega) (by omega)).mp q; omega)]
    have e4 : (32 : Int32) + 4 * nI w + nI k = nI (32 + 4 * w + k) := by rw [show (4 : Int32) = nI 4 from rfl, pk_mul, show (32 : Int32) = nI 32 from rfl, nI_add, nI_add]
    rw [e4, nI_clamp (n := 32 + 4 * w + k) (by omega)]
    refine ok_T ((inb_nI (by omega)).mpr (by omega)) ?_
    have this : σ 8 (32 + 4 * w + k) = nI (fig 1 (a1 A) w k) := h'.1.2.2.2.1.2 w k hh hk'
    rw [this, ok_lt, ok_lt, nI_1]
    exact hQ σ h'
theorem xH6 {A : AB} {σ0 σ : St} {x0 : Int64} {kx : Int64 → St → Option (Int64 × St)} {P : Int64 → St → Prop} {h : Nat} (hh : h < itm 0 (a0 A)) (hA : okAB A) (hS : SX A σ0 σ) (hk : ∀ σ', SX A σ0 σ' → Ok (kx (itD (mx (fun j => isV A (if j < 3 then 5 else 39) h (j % 3))) x0 (6)) σ') P) : Ok (M8_tellsHole_L42 (nI h) kx FU x0 0 σ) P := by
  have h8 := itm_le (t := 0) hA.1.1
  have w8 := itm_le (t := 1) hA.1.2.1
  have hl := hA.2.1.2
  refine loopX (L := M8_tellsHole_L42 (nI h) kx) (g := mx (fun j => isV A (if j < 3 then 5 else 39) h (j % 3))) (6) (by omega) hS (fun n x σ h' => ?_) (fun n x k σ hk' h' hQ => ?_) hk
  · rw [M8_tellsHole_L42, if_pos (show (6 : Int32) ≤ nI 6 from (nI_leI (a := 6) (by omega) (by omega)).mpr (by omega))]
  · rw [M8_tellsHole_L42, if_neg (show ¬ (6 : Int32) ≤ nI k from fun q => by have := (nI_leI (a := 6) (by omega) (by omega)).mp q; omega)]
    unfold M8_tellsHole_J68
    have em : nI k - nI k / 3 * 3 = nI (k % 3) := pk_rem (d := 3) (by omega) (by decide) (by decide)
    have ed : (if (3 : Int32) ≤ nI k then (39 : Int32) else 5) = nI (if k < 3 then 5 else 39) := by
      by_cases c : k < 3
      · rw [if_neg (show ¬ (3 : Int32) ≤ nI k from fun q => by have := (nI_leI (a := 3) (by omega) (by omega)).mp q; omega), if_pos c]; rfl
      · rw [if_pos (show (3 : Int32) ≤ nI k from (nI_leI (a := 3) (by omega) (by omega)).mpr (by omega)), if_neg c]; rfl
    rw [em, ed]
    refine goX (x_is h'.1 hA (by split <;> omega) hh (Nat.mod_lt _ (by decide))) h' (fun σ' h'' => ?_)
    rw [ok_lt, ok_lt, nI_1]
    exact hQ σ' h''
theorem h6 {A : AB} {h : Nat} {x : Int64} : itD (mx (fun j => isV A (if j < 3 then 5 else 39) h (j % 3))) x 6 = itD (mx (fun k => isV A 39 h k)) (itD (mx (fun k => isV A 5 h k)) x 3) 3 := by
  simp [itD, mx]
theorem xHole {A : AB} {σ0 σ : St} {x : Int64} {h : Nat} (hA : okAB A) (hh : h < itm 0 (a0 A)) (hS : SX A σ0 σ) : Ok (M8_tellsHole x (nI h) σ) (fun r σ' => r = dgH A x h ∧ SX A σ0 σ') := by
  unfold M8_tellsHole
  refine xH4 hh hA hS (fun σ1 h1 => ?_)
  refine xH6 hh hA h1 (fun σ2 h2 => ?_)
  rw [h6]
  refine goX (x_serves (d := 5) h2.1 hA (by decide) hh) h2 (fun σ4 h4 => ?_)
  rw [ok_some]
  exact ⟨rfl, h4⟩
theorem xWork {A : AB} {σ0 σ : St} {x : Int64} {w : Nat} (hA : okAB A) (hh : w < itm 1 (a1 A)) (hS : SX A σ0 σ) : Ok (M8_tellsWork x (nI w) σ) (fun r σ' => r = dgW A x w ∧ SX A σ0 σ') := by
  unfold M8_tellsWork
  refine xW4 hh hA hS (fun σ1 h1 => ?_)
  refine goX (x_mend (d := 3) (i := none) h1.1 hA (by decide) hh (fun v hv => by cases hv)) h1 (fun σ2 h2 => ?_)
  rw [ok_lt]
  refine goX (x_mend (d := 3) (i := some 0) h2.1 hA (by decide) hh (fun v hv => by cases hv; decide)) h2 (fun σ3 h3 => ?_)
  rw [ok_lt]
  refine goX (x_moths (c := 5) (d := 9) (k := 0) h3.1 hA (by decide) (by decide) hh (by decide)) h3 (fun σ4 h4 => ?_)
  rw [ok_lt]
  refine goX (x_moths (c := 5) (d := 9) (k := 1) h4.1 hA (by decide) (by decide) hh (by decide)) h4 (fun σ5 h5 => ?_)
  rw [ok_some]
  exact ⟨rfl, h5⟩
theorem xDay {A : AB} {σ0 σ : St} {x : Int64} {d : Nat} (hA : okAB A) (hd : d < 40) (hS : SX A σ0 σ) : Ok (M8_tellsDay x (nI d) σ) (fun r σ' => r = dgD A x d ∧ SX A σ0 σ') := by
  unfold M8_tellsDay
  refine goX (x_behind (w := 0) hS.1 hA hd (by decide)) hS (fun σ1 h1 => ?_)
  rw [ok_lt]
  refine goX (x_behind (w := 1) h1.1 hA hd (by decide)) h1 (fun σ2 h2 => ?_)
  rw [ok_lt]
  refine goX (x_best (i := none) h2.1 hA hd (fun v hv => by cases hv)) h2 (fun σ3 h3 => ?_)
  rw [ok_lt]
  refine goX (x_best (i := some 0) h3.1 hA hd (fun v hv => by cases hv; decide)) h3 (fun σ4 h4 => ?_)
  rw [ok_lt]
  refine goX (x_call (w := 0) h4.1 hA hd (by decide)) h4 (fun σ5 h5 => ?_)
  rw [ok_lt]
  refine goX (x_call (w := 1) h5.1 hA hd (by decide)) h5 (fun σ6 h6 => ?_)
  rw [ok_lt]
  refine goX (x_look h6.1 hA hd) h6 (fun σ7 h7 => ?_)
  rw [ok_some]
  exact ⟨rfl, h7⟩
theorem x_H {A : AB} {σ0 σ : St} {x0 : Int64} {kx : Int64 → St → Option (Int64 × St)} {P : Int64 → St → Prop} (hA : okAB A) (hS : SX A σ0 σ) (hk : ∀ σ', SX A σ0 σ' → Ok (kx (itD (dgH A) x0 (itm 0 (a0 A))) σ') P) : Ok (M8_digest_L59 kx FU x0 0 σ) P := by
  have h8 := itm_le (t := 0) hA.1.1
  have w8 := itm_le (t := 1) hA.1.2.1
  have hl := hA.2.1.2
  refine loopX (L := M8_digest_L59 kx) (g := dgH A) (itm 0 (a0 A)) (by omega) hS (fun n x σ h => ?_) (fun n x k σ hk' h hQ => ?_) hk
  · rw [M8_digest_L59, h.1.2.2.1.1, if_pos ((nI_leI (by omega) (by omega)).mpr (by omega))]
  · rw [M8_digest_L59, h.1.2.2.1.1, if_neg (fun q => by have := (nI_leI (by omega) (by omega)).mp q; omega)]
    refine ok_call (xHole hA hk' h) ?_
    rintro r σ' ⟨rfl, h'⟩
    rw [ok_lt, nI_1]
    exact hQ σ' h'
theorem x_W {A : AB} {σ0 σ : St} {x0 : Int64} {kx : Int64 → St → Option (Int64 × St)} {P : Int64 → St → Prop} (hA : okAB A) (hS : SX A σ0 σ) (hk : ∀ σ', SX A σ0 σ' → Ok (kx (itD (dgW A) x0 (itm 1 (a1 A))) σ') P) : Ok (M8_digest_L84 kx FU x0 0 σ) P := by
  have h8 := itm_le (t := 0) hA.1.1
  have w8 := itm_le (t := 1) hA.1.2.1
  have hl := hA.2.1.2
  refine loopX (L := M8_digest_L84 kx) (g := dgW A) (itm 1 (a1 A)) (by omega) hS (fun n x σ h => ?_) (fun n x k σ hk' h hQ => ?_) hk
  · rw [M8_digest_L84, h.1.2.2.2.1.1, if_pos ((nI_leI (by omega) (by omega)).mpr (by omega))]
  · rw [M8_digest_L84, h.1.2.2.2.1.1, if_neg (fun q => by have := (nI_leI (by omega) (by omega)).mp q; omega)]
    refine ok_call (xWork hA hk' h) ?_
    rintro r σ' ⟨rfl, h'⟩
    rw [ok_lt, nI_1]
    exact hQ σ' h'
theorem x_L3 {A : AB} {σ0 σ : St} {x0 : Int64} {kx : Int64 → St → Option (Int64 × St)} {P : Int64 → St → Prop} {j : Nat} (hj : j < (aL A).length) (hA : okAB A) (hS : SX A σ0 σ) (hk : ∀ σ', SX A σ0 σ' → Ok (kx (itD (mx (fun k => cameV A j k)) x0 (3)) σ') P) : Ok (M8_digest_L120 (nI j) kx FU x0 0 σ) P := by
  have h8 := itm_le (t := 0) hA.1.1
  have w8 := itm_le (t := 1) hA.1.2.1
  have hl := hA.2.1.2
  refine loopX (L := M8_digest_L120 (nI j) kx) (g := mx (fun k => cameV A j k)) (3) (by omega) hS (fun n x σ h => ?_) (fun n x k σ hk' h hQ => ?_) hk
  · rw [M8_digest_L120, if_pos (show (3 : Int32) ≤ nI 3 from (nI_leI (a := 3) (by omega) (by omega)).mpr (by omega))]
  · rw [M8_digest_L120, if_neg (show ¬ (3 : Int32) ≤ nI k from fun q => by have := (nI_leI (a := 3) (by omega) (by omega)).mp q; omega)]
    refine goX (x_came h.1 hA hj hk') h (fun σ' h' => ?_)
    rw [ok_lt, ok_lt, nI_1]
    exact hQ σ' h'
theorem x_L {A : AB} {σ0 σ : St} {x0 : Int64} {kx : Int64 → St → Option (Int64 × St)} {P : Int64 → St → Prop} (hA : okAB A) (hS : SX A σ0 σ) (hk : ∀ σ', SX A σ0 σ' → Ok (kx (itD (dgL A) x0 ((aL A).length)) σ') P) : Ok (M8_digest_L109 kx FU x0 0 σ) P := by
  have h8 := itm_le (t := 0) hA.1.1
  have w8 := itm_le (t := 1) hA.1.2.1
  have hl := hA.2.1.2
  refine loopX (L := M8_digest_L109 kx) (g := dgL A) ((aL A).length) (by omega) hS (fun n x σ h => ?_) (fun n x k σ hk' h hQ => ?_) hk
  · rw [M8_digest_L109, show σ 0 9 = nI (aL A).length from h.1.2.2.2.2.2.2.2.2.2.1.1, if_pos ((nI_leI (by omega) (by omega)).mpr (by omega))]
  · rw [M8_digest_L109, show σ 0 9 = nI (aL A).length from h.1.2.2.2.2.2.2.2.2.2.1.1, if_neg (fun q => by have := (nI_leI (by omega) (by omega)).mp q; omega)]
    refine x_L3 hk' hA h (fun σ' h' => ?_)
    rw [ok_lt, nI_1]
    exact hQ σ' h'
theorem x_6 {A : AB} {σ0 σ : St} {x0 : Int64} {kx : Int64 → St → Option (Int64 × St)} {P : Int64 → St → Prop} (hA : okAB A) (hS : SX A σ0 σ) (hk : ∀ σ', SX A σ0 σ' → Ok (kx (itD (mx (fun p => brV A p)) x0 (6)) σ') P) : Ok (M8_digest_L173 kx FU x0 0 σ) P := by
  have h8 := itm_le (t := 0) hA.1.1
  have w8 := itm_le (t := 1) hA.1.2.1
  have hl := hA.2.1.2
  refine loopX (L := M8_digest_L173 kx) (g := mx (fun p => brV A p)) (6) (by omega) hS (fun n x σ h => ?_) (fun n x k σ hk' h hQ => ?_) hk
  · rw [M8_digest_L173, if_pos (show (6 : Int32) ≤ nI 6 from (nI_leI (a := 6) (by omega) (by omega)).mpr (by omega))]
  · rw [M8_digest_L173, if_neg (show ¬ (6 : Int32) ≤ nI k from fun q => by have := (nI_leI (a := 6) (by omega) (by omega)).mp q; omega)]
    refine goX (x_breaches h.1 hA hk') h (fun σ' h' => ?_)
    rw [ok_lt, ok_lt, nI_1]
    exact hQ σ' h'
theorem x_8 {A : AB} {σ0 σ : St} {kx : Int64 → St → Option (Int64 × St)} {P : Int64 → St → Prop} (hA : okAB A) (hR : RM A σ) (hi : hiM σ0 σ) (hk : ∀ σ', RM A σ' → hiM σ0 σ' → Ok (kx (itD (mx (fun k => coV A (nI k))) 17 8) σ') P) : Ok (M8_digest_L6 kx FU 17 0 σ) P := by
  refine loopG (S := fun σ => RM A σ ∧ hiM σ0 σ) (L := M8_digest_L6 kx) (kx := kx) (N := 8) (g := mx (fun k => coV A (nI k))) (x0 := 17) (fun n x σ h => ?_) (fun n x k σ hk' h hQ => ?_) (fun σ h => hk σ h.1 h.2) FU 0 σ (by omega) (by have := FU_ge; omega) ⟨hR, hi⟩
  · rw [M8_digest_L6, if_pos (show (8 : Int32) ≤ nI 8 by decide)]
  · rw [M8_digest_L6, if_neg (show ¬ (8 : Int32) ≤ nI k from fun q => by have := (nI_leI (a := 8) (by omega) (by omega)).mp q; omega)]
    refine ok_call (m_count (nI k) h.1 hA) ?_
    rintro r σ' ⟨rfl, hR', hi'⟩
    rw [ok_lt, ok_lt, nI_1]
    exact hQ σ' ⟨hR', h.2.tr hi'⟩
theorem m_digest {A : AB} {σ : St} (h : RM A σ) (hA : okAB A) : isM6 (M8_digest σ) σ (sDigest A) := by
  unfold M8_digest isM6 sDigest
  refine x_8 (σ0 := σ) hA h hiM.rf (fun σ1 hR1 hi1 => ?_)
  refine ok_call (t8_readsText (t := 0) (by decide) hR1.1) ?_
  rintro r σ2 ⟨rfl, hF2, hr2⟩
  rw [ok_lt]
  have hR2 : RM A σ2 := RM_reads hR1 hF2.1
  refine ok_call (t8_readsText (t := 1) (by decide) hR2.2.1) ?_
  rintro r σ3 ⟨rfl, hF3, hr3⟩
  rw [ok_lt]
  have hR3 : RM A σ3 := RM_reads hR2 hF3.1
  have h8 := itm_le (t := 0) hA.1.1
  have hr2' : rdM σ3 0 (a0 A) := ⟨by rw [hF3.2.1 0 (by decide)]; exact hr2.1, fun k w q1 q2 => by rw [hF3.2.2 _ (by omega)]; exact hr2.2 k w q1 q2⟩
  have h3 : SX A σ σ3 := ⟨RX_of ⟨hR3, hr2', hr3⟩ hA, (hi1.tr (fun c q => hF2.1 c (by omega) (by omega))).tr (fun c q => hF3.1 c (by omega) (by omega))⟩
  refine x_H (x0 := itD (mx (fun t => oI (fpos t (tx A t)))) (itD (mx (fun k => coV A (nI k))) 17 8) 2) hA h3 (fun σ4 h4 => ?_)
  refine x_W hA h4 (fun σ5 h5 => ?_)
  refine x_L hA h5 (fun σ6 h6 => ?_)
  refine ok_call (xDay (d := 0) hA (by decide) h6) ?_
  rintro r σ7 ⟨rfl, h7⟩
  refine ok_call (xDay (d := 5) hA (by decide) h7) ?_
  rintro r σ8 ⟨rfl, h8⟩
  refine ok_call (xDay (d := 39) hA (by decide) h8) ?_
  rintro r σ9 ⟨rfl, h9⟩
  refine x_6 hA h9 (fun σ10 h10 => ?_)
  refine goX (x_first h10.1 hA) h10 (fun σ11 h11 => ?_)
  rw [ok_lt]
  refine goX (x_never (w := 0) h11.1 hA (by decide)) h11 (fun σ12 h12 => ?_)
  rw [ok_lt]
  refine goX (x_never (w := 1) h12.1 hA (by decide)) h12 (fun σ13 h13 => ?_)
  rw [ok_lt]
  refine goX (x_run (s := 7) (n := 20) (w := 0) h13.1 hA (by decide) (by decide) (by decide)) h13 (fun σ14 h14 => ?_)
  rw [ok_lt]
  refine goX (x_run (s := 7) (n := 20) (w := 1) h14.1 hA (by decide) (by decide) (by decide)) h14 (fun σ15 h15 => ?_)
  rw [ok_some]
  exact ⟨rfl, h15.1.to.1, h15.2⟩
