theorem cH4 {A : AB} {σ0 σ : St} {x0 : Int64} {kx : Int64 → St → Option (Int64 × St)} {P : Int64 → St → Prop} {h : Nat} (hh : h < itm 0 (a0 A)) (hA : okAB A) (hS : SC A σ0 σ) (hk : ∀ σ', SC A σ0 σ' → Ok (kx (itD (mx (fun k => nI (fig 0 (a0 A) h k))) x0 (4)) σ') P) : Ok (M7_digestHole_L6 (nI h) kx FU x0 0 σ) P := by
  have h8 := itm_le (t := 0) hA.1.1
  have w8 := itm_le (t := 1) hA.1.2.1
  have hl := hA.2.1.2
  refine loopC (L := M7_digestHole_L6 (nI h) kx) (g := mx (fun k => nI (fig 0 (a0 A) h k))) (4) (by omega) hS (fun n x σ h => ?_) (fun n x k σ hk' h hQ => ?_) hk
  · rw [M7_digestHole_L6, if_pos (show (4 : Int32) ≤ nI 4 from (nI_leI (a := 4) (by omega) (by omega)).mpr (by omega))]
  · rw [M7_digestHole_L6, if_neg (show ¬ (4 : Int32) ≤ nI k from fun q => by have := (nI_leI (a := 4) (by omega) (by omega)).mp q; omega)]
    refine goC (c_hole _ _ h.1 hA) (v_hole hA hh hk') h (fun σ' h' => ?_)
    rw [ok_lt, ok_lt, nI_1]
    exact hQ σ' h'
theorem cH5 {A : AB} {σ0 σ : St} {x0 : Int64} {kx : Int64 → St → Option (Int64 × St)} {P : Int64 → St → Prop} {h : Nat} (hh : h < itm 0 (a0 A)) (hA : okAB A) (hS : SC A σ0 σ) (hk : ∀ σ', SC A σ0 σ' → Ok (kx (itD (mx (fun k => isV A 5 h k)) x0 (3)) σ') P) : Ok (M7_digestHole_L38 (nI h) kx FU x0 0 σ) P := by
  have h8 := itm_le (t := 0) hA.1.1
  have w8 := itm_le (t := 1) hA.1.2.1
  have hl := hA.2.1.2
  refine loopC (L := M7_digestHole_L38 (nI h) kx) (g := mx (fun k => isV A 5 h k)) (3) (by omega) hS (fun n x σ h => ?_) (fun n x k σ hk' h hQ => ?_) hk
  · rw [M7_digestHole_L38, if_pos (show (3 : Int32) ≤ nI 3 from (nI_leI (a := 3) (by omega) (by omega)).mpr (by omega))]
  · rw [M7_digestHole_L38, if_neg (show ¬ (3 : Int32) ≤ nI k from fun q => by have := (nI_leI (a := 3) (by omega) (by omega)).mp q; omega)]
    refine goC (c_is _ _ _ h.1 hA) (v_is (d := 5) hA (by decide) hh hk') h (fun σ' h' => ?_)
    rw [ok_lt, ok_lt, nI_1]
    exact hQ σ' h'
theorem cH39 {A : AB} {σ0 σ : St} {x0 : Int64} {kx : Int64 → St → Option (Int64 × St)} {P : Int64 → St → Prop} {h : Nat} (hh : h < itm 0 (a0 A)) (hA : okAB A) (hS : SC A σ0 σ) (hk : ∀ σ', SC A σ0 σ' → Ok (kx (itD (mx (fun k => isV A 39 h k)) x0 (3)) σ') P) : Ok (M7_digestHole_L71 (nI h) kx FU x0 0 σ) P := by
  have h8 := itm_le (t := 0) hA.1.1
  have w8 := itm_le (t := 1) hA.1.2.1
  have hl := hA.2.1.2
  refine loopC (L := M7_digestHole_L71 (nI h) kx) (g := mx (fun k => isV A 39 h k)) (3) (by omega) hS (fun n x σ h => ?_) (fun n x k σ hk' h hQ => ?_) hk
  · rw [M7_digestHole_L71, if_pos (show (3 : Int32) ≤ nI 3 from (nI_leI (a := 3) (by omega) (by omega)).mpr (by omega))]
  · rw [M7_digestHole_L71, if_neg (show ¬ (3 : Int32) ≤ nI k from fun q => by have := (nI_leI (a := 3) (by omega) (by omega)).mp q; omega)]
    refine goC (c_is _ _ _ h.1 hA) (v_is (d := 39) hA (by decide) hh hk') h (fun σ' h' => ?_)
    rw [ok_lt, ok_lt, nI_1]
    exact hQ σ' h'
theorem cW4 {A : AB} {σ0 σ : St} {x0 : Int64} {kx : Int64 → St → Option (Int64 × St)} {P : Int64 → St → Prop} {w : Nat} (hh : w < itm 1 (a1 A)) (hA : okAB A) (hS : SC A σ0 σ) (hk : ∀ σ', SC A σ0 σ' → Ok (kx (itD (mx (fun k => nI (fig 1 (a1 A) w k))) x0 (4)) σ') P) : Ok (M7_digestWork_L6 (nI w) kx FU x0 0 σ) P := by
  have h8 := itm_le (t := 0) hA.1.1
  have w8 := itm_le (t := 1) hA.1.2.1
  have hl := hA.2.1.2
  refine loopC (L := M7_digestWork_L6 (nI w) kx) (g := mx (fun k => nI (fig 1 (a1 A) w k))) (4) (by omega) hS (fun n x σ h => ?_) (fun n x k σ hk' h hQ => ?_) hk
  · rw [M7_digestWork_L6, if_pos (show (4 : Int32) ≤ nI 4 from (nI_leI (a := 4) (by omega) (by omega)).mpr (by omega))]
  · rw [M7_digestWork_L6, if_neg (show ¬ (4 : Int32) ≤ nI k from fun q => by have := (nI_leI (a := 4) (by omega) (by omega)).mp q; omega)]
    refine goC (c_work _ _ h.1 hA) (v_work hA hh hk') h (fun σ' h' => ?_)
    rw [ok_lt, ok_lt, nI_1]
    exact hQ σ' h'
theorem cHole {A : AB} {σ0 σ : St} {x : Int64} {h : Nat} (hA : okAB A) (hh : h < itm 0 (a0 A)) (hS : SC A σ0 σ) : Ok (M7_digestHole x (nI h) σ) (fun r σ' => r = dgH A x h ∧ SC A σ0 σ') := by
  unfold M7_digestHole
  refine cH4 hh hA hS (fun σ1 h1 => ?_)
  refine cH5 hh hA h1 (fun σ2 h2 => ?_)
  refine cH39 hh hA h2 (fun σ3 h3 => ?_)
  refine goC (c_serves _ _ h3.1 hA) (v_serves (d := 5) hA (by decide) hh) h3 (fun σ4 h4 => ?_)
  rw [ok_some]
  exact ⟨rfl, h4⟩
theorem cWork {A : AB} {σ0 σ : St} {x : Int64} {w : Nat} (hA : okAB A) (hh : w < itm 1 (a1 A)) (hS : SC A σ0 σ) : Ok (M7_digestWork x (nI w) σ) (fun r σ' => r = dgW A x w ∧ SC A σ0 σ') := by
  unfold M7_digestWork
  refine cW4 hh hA hS (fun σ1 h1 => ?_)
  refine goC (c_mend _ _ _ h1.1 hA) (v_mend0 hA hh) h1 (fun σ2 h2 => ?_)
  rw [ok_lt]
  refine goC (c_mend _ _ _ h2.1 hA) (v_mend1 hA hh) h2 (fun σ3 h3 => ?_)
  rw [ok_lt]
  refine goC6 (c_moths _ _ _ _ h3.1 hA) (v_moths (k := 0) hA hh (by decide)) h3 (fun σ4 h4 => ?_)
  rw [ok_lt]
  refine goC6 (c_moths _ _ _ _ h4.1 hA) (v_moths (k := 1) hA hh (by decide)) h4 (fun σ5 h5 => ?_)
  rw [ok_some]
  exact ⟨rfl, h5⟩
theorem c_8 {A : AB} {σ0 σ : St} {x0 : Int64} {kx : Int64 → St → Option (Int64 × St)} {P : Int64 → St → Prop} (hA : okAB A) (hS : SC A σ0 σ) (hk : ∀ σ', SC A σ0 σ' → Ok (kx (itD (mx (fun k => coV A (nI k))) x0 (8)) σ') P) : Ok (M7_digest_L6 kx FU x0 0 σ) P := by
  have h8 := itm_le (t := 0) hA.1.1
  have w8 := itm_le (t := 1) hA.1.2.1
  have hl := hA.2.1.2
  refine loopC (L := M7_digest_L6 kx) (g := mx (fun k => coV A (nI k))) (8) (by omega) hS (fun n x σ h => ?_) (fun n x k σ hk' h hQ => ?_) hk
  · rw [M7_digest_L6, if_pos (show (7 : Int32) < nI 8 by decide)]
  · rw [M7_digest_L6, if_neg (show ¬ (7 : Int32) < nI k from fun q => by have := (nI_ltI (a := 7) (by omega) (by omega)).mp q; omega)]
    refine goC (c_count _ h.1 hA) (rfl) h (fun σ' h' => ?_)
    rw [ok_lt, ok_lt, nI_1]
    exact hQ σ' h'
theorem c_2 {A : AB} {σ0 σ : St} {x0 : Int64} {kx : Int64 → St → Option (Int64 × St)} {P : Int64 → St → Prop} (hA : okAB A) (hS : SC A σ0 σ) (hk : ∀ σ', SC A σ0 σ' → Ok (kx (itD (mx (fun t => oI (fpos t (tx A t)))) x0 (2)) σ') P) : Ok (M7_digest_L33 kx FU x0 0 σ) P := by
  have h8 := itm_le (t := 0) hA.1.1
  have w8 := itm_le (t := 1) hA.1.2.1
  have hl := hA.2.1.2
  refine loopC (L := M7_digest_L33 kx) (g := mx (fun t => oI (fpos t (tx A t)))) (2) (by omega) hS (fun n x σ h => ?_) (fun n x k σ hk' h hQ => ?_) hk
  · rw [M7_digest_L33, if_pos (show (2 : Int32) ≤ nI 2 from (nI_leI (a := 2) (by omega) (by omega)).mpr (by omega))]
  · rw [M7_digest_L33, if_neg (show ¬ (2 : Int32) ≤ nI k from fun q => by have := (nI_leI (a := 2) (by omega) (by omega)).mp q; omega)]
    refine goC (c_fault _ h.1 hA) (v_fault hk') h (fun σ' h' => ?_)
    rw [ok_lt, ok_lt, nI_1]
    exact hQ σ' h'
theorem c_H {A : AB} {σ0 σ : St} {x0 : Int64} {kx : Int64 → St → Option (Int64 × St)} {P : Int64 → St → Prop} (hA : okAB A) (hS : SC A σ0 σ) (hk : ∀ σ', SC A σ0 σ' → Ok (kx (itD (dgH A) x0 (itm 0 (a0 A))) σ') P) : Ok (M7_digest_L59 kx FU x0 0 σ) P := by
  have h8 := itm_le (t := 0) hA.1.1
  have w8 := itm_le (t := 1) hA.1.2.1
  have hl := hA.2.1.2
  refine loopC (L := M7_digest_L59 kx) (g := dgH A) (itm 0 (a0 A)) (by omega) hS (fun n x σ h => ?_) (fun n x k σ hk' h hQ => ?_) hk
  · rw [M7_digest_L59, h.1.1.2.2.1, if_pos ((nI_leI (by omega) (by omega)).mpr (by omega))]
  · rw [M7_digest_L59, h.1.1.2.2.1, if_neg (fun q => by have := (nI_leI (by omega) (by omega)).mp q; omega)]
    refine ok_call (cHole hA hk' h) ?_
    rintro r σ' ⟨rfl, h'⟩
    rw [ok_lt, nI_1]
    exact hQ σ' h'
theorem c_W {A : AB} {σ0 σ : St} {x0 : Int64} {kx : Int64 → St → Option (Int64 × St)} {P : Int64 → St → Prop} (hA : okAB A) (hS : SC A σ0 σ) (hk : ∀ σ', SC A σ0 σ' → Ok (kx (itD (dgW A) x0 (itm 1 (a1 A))) σ') P) : Ok (M7_digest_L85 kx FU x0 0 σ) P := by
  have h8 := itm_le (t := 0) hA.1.1
  have w8 := itm_le (t := 1) hA.1.2.1
  have hl := hA.2.1.2
  refine loopC (L := M7_digest_L85 kx) (g := dgW A) (itm 1 (a1 A)) (by omega) hS (fun n x σ h => ?_) (fun n x k σ hk' h hQ => ?_) hk
  · rw [M7_digest_L85, h.1.2.1.2.2.1, if_pos ((nI_leI (by omega) (by omega)).mpr (by omega))]
  · rw [M7_digest_L85, h.1.2.1.2.2.1, if_neg (fun q => by have := (nI_leI (by omega) (by omega)).mp q; omega)]
    refine ok_call (cWork hA hk' h) ?_
    rintro r σ' ⟨rfl, h'⟩
    rw [ok_lt, nI_1]
    exact hQ σ' h'
theorem c_L3 {A : AB} {σ0 σ : St} {x0 : Int64} {kx : Int64 → St → Option (Int64 × St)} {P : Int64 → St → Prop} {j : Nat} (hj : j < (aL A).length) (hA : okAB A) (hS : SC A σ0 σ) (hk : ∀ σ', SC A σ0 σ' → Ok (kx (itD (mx (fun k => cameV A j k)) x0 (3)) σ') P) : Ok (M7_digest_L128 (nI j) kx FU x0 0 σ) P := by
  have h8 := itm_le (t := 0) hA.1.1
  have w8 := itm_le (t := 1) hA.1.2.1
  have hl := hA.2.1.2
  refine loopC (L := M7_digest_L128 (nI j) kx) (g := mx (fun k => cameV A j k)) (3) (by omega) hS (fun n x σ h => ?_) (fun n x k σ hk' h hQ => ?_) hk
  · rw [M7_digest_L128, if_pos (show (3 : Int32) ≤ nI 3 from (nI_leI (a := 3) (by omega) (by omega)).mpr (by omega))]
  · rw [M7_digest_L128, if_neg (show ¬ (3 : Int32) ≤ nI k from fun q => by have := (nI_leI (a := 3) (by omega) (by omega)).mp q; omega)]
    refine goC (c_came _ _ h.1 hA) (v_came hA hj hk') h (fun σ' h' => ?_)
    rw [ok_lt, ok_lt, nI_1]
    exact hQ σ' h'
theorem c_L {A : AB} {σ0 σ : St} {x0 : Int64} {kx : Int64 → St → Option (Int64 × St)} {P : Int64 → St → Prop} (hA : okAB A) (hS : SC A σ0 σ) (hk : ∀ σ', SC A σ0 σ' → Ok (kx (itD (dgL A) x0 ((aL A).length)) σ') P) : Ok (M7_digest_L111 kx FU x0 0 σ) P := by
  have h8 := itm_le (t := 0) hA.1.1
  have w8 := itm_le (t := 1) hA.1.2.1
  have hl := hA.2.1.2
  refine loopC (L := M7_digest_L111 kx) (g := dgL A) ((aL A).length) (by omega) hS (fun n x σ h => ?_) (fun n x k σ hk' h hQ => ?_) hk
  · rw [M7_digest_L111, h.1.2.2.1.1, if_pos ((nI_leI (by omega) (by omega)).mpr (by omega))]
  · rw [M7_digest_L111, h.1.2.2.1.1, if_neg (fun q => by have := (nI_leI (by omega) (by omega)).mp q; omega)]
    refine c_L3 hk' hA h (fun σ' h' => ?_)
    rw [ok_lt, nI_1]
    exact hQ σ' h'
theorem c_6 {A : AB} {σ0 σ : St} {x0 : Int64} {kx : Int64 → St → Option (Int64 × St)} {P : Int64 → St → Prop} (hA : okAB A) (hS : SC A σ0 σ) (hk : ∀ σ', SC A σ0 σ' → Ok (kx (itD (mx (fun p => brV A p)) x0 (6)) σ') P) : Ok (M7_digest_L185 kx FU x0 0 σ) P := by
  have h8 := itm_le (t := 0) hA.1.1
  have w8 := itm_le (t := 1) hA.1.2.1
  have hl := hA.2.1.2
  refine loopC (L := M7_digest_L185 kx) (g := mx (fun p => brV A p)) (6) (by omega) hS (fun n x σ h => ?_) (fun n x k σ hk' h hQ => ?_) hk
  · rw [M7_digest_L185, if_pos (show (6 : Int32) ≤ nI 6 from (nI_leI (a := 6) (by omega) (by omega)).mpr (by omega))]
  · rw [M7_digest_L185, if_neg (show ¬ (6 : Int32) ≤ nI k from fun q => by have := (nI_leI (a := 6) (by omega) (by omega)).mp q; omega)]
    refine goC (c_breaches _ h.1 hA) (v_breaches hk') h (fun σ' h' => ?_)
    rw [ok_lt, ok_lt, nI_1]
    exact hQ σ' h'
theorem c_digest {A : AB} {σ : St} (h : RC A σ) (hA : okAB A) : isC6 (M7_digest σ) σ (sDigest A) := by
  unfold M7_digest isC6 sDigest
  have hS : SC A σ σ := ⟨h, loC.rf⟩
  refine c_8 hA hS (fun σ1 h1 => ?_)
  refine c_2 hA h1 (fun σ2 h2 => ?_)
  refine c_H hA h2 (fun σ3 h3 => ?_)
  refine c_W hA h3 (fun σ4 h4 => ?_)
  refine c_L hA h4 (fun σ5 h5 => ?_)
  refine ok_call (cDay (d := 0) hA (by decide) h5) ?_
  rintro r σ6 ⟨rfl, h6⟩
  refine ok_call (cDay (d := 5) hA (by decide) h6) ?_
  rintro r σ7 ⟨rfl, h7⟩
  refine ok_call (cDay (d := 39) hA (by decide) h7) ?_
  rintro r σ8 ⟨rfl, h8⟩
  refine c_6 hA h8 (fun σ9 h9 => ?_)
  refine goC (c_first h9.1 hA) rfl h9 (fun σ10 h10 => ?_)
  rw [ok_lt]
  refine goC (c_never _ h10.1 hA) (v_never (w := 0) (by decide)) h10 (fun σ11 h11 => ?_)
  rw [ok_lt]
  refine goC (c_never _ h11.1 hA) (v_never (w := 1) (by decide)) h11 (fun σ12 h12 => ?_)
  rw [ok_lt]
  refine goC (c_run _ _ _ h12.1 hA) (v_run (w := 0) (by decide)) h12 (fun σ13 h13 => ?_)
  rw [ok_lt]
  refine goC (c_run _ _ _ h13.1 hA) (v_run (w := 1) (by decide)) h13 (fun σ14 h14 => ?_)
  rw [ok_some]
  exact ⟨rfl, h14.1, h14.2⟩
