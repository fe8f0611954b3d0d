-- the digest
def itD (g : Int64 → Nat → Int64) (x : Int64) : Nat → Int64
  | 0 => x
  | k + 1 => g (itD g x k) k
def mx (f : Nat → Int32) (x : Int64) (k : Nat) : Int64 := 31 * x + (f k).toInt64
theorem loopG {S : St → Prop} {L : Nat → Int64 → Int32 → St → Option (Int64 × St)} {kx : Int64 → St → Option (Int64 × St)} {N : Nat} {g : Int64 → Nat → Int64} {P : Int64 → St → Prop} {x0 : Int64}
    (hend : ∀ n x σ, S σ → L (n + 1) x (nI N) σ = kx x σ)
    (hstep : ∀ n x k σ, k < N → S σ → (∀ σ', S σ' → Ok (L n (g x k) (nI (k + 1)) σ') P) → Ok (L (n + 1) x (nI k) σ) P)
    (hkx : ∀ σ, S σ → Ok (kx (itD g x0 N) σ) P) : ∀ fu k σ, k ≤ N → N + 1 ≤ fu + k → S σ → Ok (L fu (itD g x0 k) (nI k) σ) P := by
  intro fu
  induction fu with
  | zero => intro k σ _ _; omega
  | succ fu ih =>
    intro k σ hk hf hS
    by_cases e : k = N
    · subst e
      rw [hend fu _ σ hS]
      exact hkx σ hS
    · exact hstep fu _ k σ (by omega) hS (fun σ' hS' => ih (k + 1) σ' (by omega) (by omega) hS')
def SC (A : AB) (σ0 σ : St) : Prop := RC A σ ∧ loC σ0 σ
def SX (A : AB) (σ0 σ : St) : Prop := RX A (bkA A) σ ∧ hiM σ0 σ
theorem loopC {A : AB} {σ0 σ : St} {L : Nat → Int64 → Int32 → St → Option (Int64 × St)} {kx : Int64 → St → Option (Int64 × St)} {g : Int64 → Nat → Int64} {P : Int64 → St → Prop} {x0 : Int64} (N : Nat) (hN : N < 100) (hS : SC A σ0 σ)
    (hend : ∀ n x σ, SC A σ0 σ → L (n + 1) x (nI N) σ = kx x σ)
    (hstep : ∀ n x k σ, k < N → SC A σ0 σ → (∀ σ', SC A σ0 σ' → Ok (L n (g x k) (nI (k + 1)) σ') P) → Ok (L (n + 1) x (nI k) σ) P)
    (hkx : ∀ σ, SC A σ0 σ → Ok (kx (itD g x0 N) σ) P) : Ok (L FU x0 0 σ) P :=
  loopG hend hstep hkx FU 0 σ (by omega) (by have := FU_ge; omega) hS
theorem loopX {A : AB} {σ0 σ : St} {L : Nat → Int64 → Int32 → St → Option (Int64 × St)} {kx : Int64 → St → Option (Int64 × St)} {g : Int64 → Nat → Int64} {P : Int64 → St → Prop} {x0 : Int64} (N : Nat) (hN : N < 100) (hS : SX A σ0 σ)
    (hend : ∀ n x σ, SX A σ0 σ → L (n + 1) x (nI N) σ = kx x σ)
    (hstep : ∀ n x k σ, k < N → SX A σ0 σ → (∀ σ', SX A σ0 σ' → Ok (L n (g x k) (nI (k + 1)) σ') P) → Ok (L (n + 1) x (nI k) σ) P)
    (hkx : ∀ σ, SX A σ0 σ → Ok (kx (itD g x0 N) σ) P) : Ok (L FU x0 0 σ) P :=
  loopG hend hstep hkx FU 0 σ (by omega) (by have := FU_ge; omega) hS
/-- a step that calls an act of the class, and goes on with its answer -/
theorem goC {A : AB} {σ0 σ : St} {α : Type} {x : Option (Int32 × St)} {s : Sp} {v : Int32} {f : Int32 → St → Option (α × St)} {P : α → St → Prop} (h : isC x σ s) (e : s = (v, A)) (hS : SC A σ0 σ) (k : ∀ σ', SC A σ0 σ' → Ok (f v σ') P) : Ok (bd x f) P := by
  subst e
  refine ok_call h ?_
  rintro r σ' ⟨rfl, hR, hlo⟩
  exact k σ' ⟨hR, hS.2.tr hlo⟩
theorem goC6 {A : AB} {σ0 σ : St} {α : Type} {x : Option (Int64 × St)} {s : Sp6} {v : Int64} {f : Int64 → St → Option (α × St)} {P : α → St → Prop} (h : isC6 x σ s) (e : s = (v, A)) (hS : SC A σ0 σ) (k : ∀ σ', SC A σ0 σ' → Ok (f v σ') P) : Ok (bd x f) P := by
  subst e
  refine ok_call h ?_
  rintro r σ' ⟨rfl, hR, hlo⟩
  exact k σ' ⟨hR, hS.2.tr hlo⟩
theorem goX {A : AB} {σ0 σ : St} {α β : Type} {x : Option (β × St)} {v : β} {f : β → St → Option (α × St)} {P : α → St → Prop} (h : isX A (bkA A) x σ v) (hS : SX A σ0 σ) (k : ∀ σ', SX A σ0 σ' → Ok (f v σ') P) : Ok (bd x f) P := by
  refine ok_call h ?_
  rintro r σ' ⟨rfl, hR, hlo⟩
  exact k σ' ⟨hR, hS.2.tr hlo⟩
theorem i3 {d n : Nat} (h : d < n) (hn : n ≤ 1000) : inb (nI d) n ∧ (nI d).toNatClampNeg = d := ⟨(inb_nI (by omega)).mpr h, nI_clamp (by omega)⟩
-- the public answers at numbers that may be
theorem v_is {A : AB} {d h w : Nat} (hA : okAB A) (hd : d < 40) (hh : h < itm 0 (a0 A)) (hw : w < 3) : sIs (nI d) (nI h) (nI w) A = (isV A d h w, A) := by
  have h8 := itm_le (t := 0) hA.1.1
  unfold sIs
  rw [if_pos ⟨(i3 hd (by decide)).1, (i3 hh (by omega)).1, (i3 hw (by decide)).1⟩, (i3 hd (by decide)).2, (i3 hh (by omega)).2, (i3 hw (by decide)).2]
theorem v_hole {A : AB} {h w : Nat} (hA : okAB A) (hh : h < itm 0 (a0 A)) (hw : w < 4) : sHole (nI h) (nI w) A = (nI (fig 0 (a0 A) h w), A) := by
  have h8 := itm_le (t := 0) hA.1.1
  unfold sHole
  rw [if_pos ⟨(i3 hh (by omega)).1, (i3 hw (by decide)).1⟩, (i3 hh (by omega)).2, (i3 hw (by decide)).2]
theorem v_work {A : AB} {h w : Nat} (hA : okAB A) (hh : h < itm 1 (a1 A)) (hw : w < 4) : sWork (nI h) (nI w) A = (nI (fig 1 (a1 A) h w), A) := by
  have h8 := itm_le (t := 1) hA.1.2.1
  unfold sWork
  rw [if_pos ⟨(i3 hh (by omega)).1, (i3 hw (by decide)).1⟩, (i3 hh (by omega)).2, (i3 hw (by decide)).2]
theorem v_serves {A : AB} {d h : Nat} (hA : okAB A) (hd : d < 40) (hh : h < itm 0 (a0 A)) : sServes (nI d) (nI h) A = (srV A d h, A) := by
  have h8 := itm_le (t := 0) hA.1.1
  unfold sServes
  rw [if_pos ⟨(i3 hd (by decide)).1, (i3 hh (by omega)).1⟩, (i3 hd (by decide)).2, (i3 hh (by omega)).2]
theorem v_behind {A : AB} {d w : Nat} (hd : d < 40) (hw : w < 2) : sBehind (nI d) (nI w) A = (behV A d w, A) := by
  unfold sBehind
  rw [if_pos ⟨(i3 hd (by decide)).1, (i3 hw (by decide)).1⟩, (i3 hd (by decide)).2, (i3 hw (by decide)).2]
theorem v_call {A : AB} {d w : Nat} (hd : d < 40) (hw : w < 2) : sCall (nI d) (nI w) A = (clV A d w, A) := by
  unfold sCall
  rw [if_pos ⟨(i3 hd (by decide)).1, (i3 hw (by decide)).1⟩, (i3 hd (by decide)).2, (i3 hw (by decide)).2]
theorem v_look {A : AB} {d : Nat} (hd : d < 40) : sLook (nI d) A = (loV A d, A) := by
  unfold sLook
  rw [if_pos (i3 hd (by decide)).1, (i3 hd (by decide)).2]
theorem v_best0 {A : AB} {d : Nat} (hd : d < 40) : sBest (nI d) (-1) A = (beV A d none, A) := by
  unfold sBest
  rw [if_pos ⟨(i3 hd (by decide)).1, Or.inl rfl⟩, (i3 hd (by decide)).2, if_pos rfl]
theorem v_best1 {A : AB} {d : Nat} (hd : d < 40) : sBest (nI d) 0 A = (beV A d (some 0), A) := by
  unfold sBest
  rw [if_pos ⟨(i3 hd (by decide)).1, Or.inr (by decide)⟩, (i3 hd (by decide)).2, if_neg (by decide)]; rfl
theorem v_mend0 {A : AB} {w : Nat} (hA : okAB A) (hw : w < itm 1 (a1 A)) : sMend (nI w) 3 (-1) A = (mdV A 3 w none, A) := by
  have h8 := itm_le (t := 1) hA.1.2.1
  unfold sMend
  rw [if_pos ⟨(i3 hw (by omega)).1, by decide, Or.inl rfl⟩, (i3 hw (by omega)).2, if_pos rfl]; rfl
theorem v_mend1 {A : AB} {w : Nat} (hA : okAB A) (hw : w < itm 1 (a1 A)) : sMend (nI w) 3 0 A = (mdV A 3 w (some 0), A) := by
  have h8 := itm_le (t := 1) hA.1.2.1
  unfold sMend
  rw [if_pos ⟨(i3 hw (by omega)).1, by decide, Or.inr (by decide)⟩, (i3 hw (by omega)).2, if_neg (by decide)]; rfl
theorem v_moths {A : AB} {w k : Nat} (hA : okAB A) (hw : w < itm 1 (a1 A)) (hk : k < 2) : sMoths 5 9 (nI w) (nI k) A = (moV A 5 9 w k, A) := by
  have h8 := itm_le (t := 1) hA.1.2.1
  unfold sMoths
  rw [if_pos ⟨by decide, by decide, (i3 hw (by omega)).1, (i3 hk (by decide)).1⟩, (i3 hw (by omega)).2, (i3 hk (by decide)).2]; rfl
theorem v_came {A : AB} {k w : Nat} (hA : okAB A) (hk : k < (aL A).length) (hw : w < 3) : sCame (nI k) (nI w) A = (cameV A k w, A) := by
  have hl := hA.2.1.2
  unfold sCame
  rw [if_pos ⟨(i3 hk (by omega)).1, (i3 hw (by decide)).1⟩, (i3 hk (by omega)).2, (i3 hw (by decide)).2]
theorem v_breaches {A : AB} {p : Nat} (hp : p < 6) : sBreaches (nI p) A = (brV A p, A) := by
  unfold sBreaches
  rw [if_pos (i3 hp (by decide)).1, (i3 hp (by decide)).2]
theorem v_never {A : AB} {w : Nat} (hw : w < 2) : sNever (nI w) A = (nvV A w, A) := by
  unfold sNever
  rw [if_pos (i3 hw (by decide)).1, (i3 hw (by decide)).2]
theorem v_run {A : AB} {w : Nat} (hw : w < 2) : sRun 7 20 (nI w) A = (rnV A 7 20 w, A) := by
  unfold sRun
  rw [if_pos ⟨by decide, by decide, (i3 hw (by decide)).1⟩, (i3 hw (by decide)).2]; rfl
theorem v_fault {A : AB} {t : Nat} (ht : t < 2) : sFault (nI t) A = (oI (fpos t (tx A t)), A) := by
  unfold sFault
  rw [if_pos (i3 ht (by decide)).1, (i3 ht (by decide)).2]
-- what is told
def dgH (A : AB) (x : Int64) (h : Nat) : Int64 := 31 * itD (mx (fun k => isV A 39 h k)) (itD (mx (fun k => isV A 5 h k)) (itD (mx (fun k => nI (fig 0 (a0 A) h k))) x 4) 3) 3 + (srV A 5 h).toInt64
def dgW (A : AB) (x : Int64) (w : Nat) : Int64 := 31 * (31 * (31 * (31 * itD (mx (fun k => nI (fig 1 (a1 A) w k))) x 4 + (mdV A 3 w none).toInt64) + (mdV A 3 w (some 0)).toInt64) + moV A 5 9 w 0) + moV A 5 9 w 1
def dgD (A : AB) (x : Int64) (d : Nat) : Int64 := 31 * (31 * (31 * (31 * (31 * (31 * (31 * x + (behV A d 0).toInt64) + (behV A d 1).toInt64) + (beV A d none).toInt64) + (beV A d (some 0)).toInt64) + (clV A d 0).toInt64) + (clV A d 1).toInt64) + (loV A d).toInt64
def dgL (A : AB) (x : Int64) (k : Nat) : Int64 := itD (mx (fun j => cameV A k j)) x 3
def dgE (A : AB) (x : Int64) : Int64 := 31 * (31 * (31 * (31 * (31 * x + (fsV A).toInt64) + (nvV A 0).toInt64) + (nvV A 1).toInt64) + (rnV A 7 20 0).toInt64) + (rnV A 7 20 1).toInt64
def dgV (A : AB) : Int64 := dgE A (itD (mx (fun p => brV A p)) (dgD A (dgD A (dgD A (itD (dgL A) (itD (dgW A) (itD (dgH A) (itD (mx (fun t => oI (fpos t (tx A t)))) (itD (mx (fun k => coV A (nI k))) 17 8) 2) (itm 0 (a0 A))) (itm 1 (a1 A))) (aL A).length) 0) 5) 39) 6)
def sDigest (A : AB) : Sp6 := (dgV A, A)
-- the class
theorem cDay {A : AB} {σ0 σ : St} {x : Int64} {d : Nat} (hA : okAB A) (hd : d < 40) (hS : SC A σ0 σ) : Ok (M7_digestDay x (nI d) σ) (fun r σ' => r = dgD A x d ∧ SC A σ0 σ') := by
  unfold M7_digestDay
  refine goC (c_behind _ _ hS.1 hA) (v_behind (w := 0) hd (by decide)) hS (fun σ1 h1 => ?_)
  rw [ok_lt]
  refine goC (c_behind _ _ h1.1 hA) (v_behind (w := 1) hd (by decide)) h1 (fun σ2 h2 => ?_)
  rw [ok_lt]
  refine goC (c_best _ _ h2.1 hA) (v_best0 hd) h2 (fun σ3 h3 => ?_)
  rw [ok_lt]
  refine goC (c_best _ _ h3.1 hA) (v_best1 hd) h3 (fun σ4 h4 => ?_)
  rw [ok_lt]
  refine goC (c_call _ _ h4.1 hA) (v_call (w := 0) hd (by decide)) h4 (fun σ5 h5 => ?_)
  rw [ok_lt]
  refine goC (c_call _ _ h5.1 hA) (v_call (w := 1) hd (by decide)) h5 (fun σ6 h6 => ?_)
  rw [ok_lt]
  refine goC (c_look _ h6.1 hA) (v_look hd) h6 (fun σ7 h7 => ?_)
  rw [ok_some]
  exact ⟨rfl, h7⟩
