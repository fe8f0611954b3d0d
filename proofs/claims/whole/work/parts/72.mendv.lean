-- patches more, of one day
theorem eP_all {L : List Q4} : eP L none L.length = L := by
  unfold eP
  rw [List.filter_eq_self.mpr (fun a _ => by simp)]
  apply List.ext_getElem
  · simp
  · intro i h1 h2
    simp [g4]
    rw [List.getElem?_eq_getElem h2]; rfl
def bkX (A : AB) (R : List Q4) : Bk := (aL A, none, aF A, aP A ++ R, none)
def rwD (d : Nat) (R : List Q4) : Prop := ∀ q, q ∈ R → q.1 = d
theorem patch_other {n d j : Nat} {R : List Q4} (hR : rwD d R) (hj : j ≠ d) (G : Gs) : R.foldl (fun G x => patchS n j x G) G = G := by
  induction R generalizing G with
  | nil => rfl
  | cons q R ih =>
    rw [List.foldl_cons]
    have hq := hR q List.mem_cons_self
    have : patchS n j q G = G := by unfold patchS; rw [if_neg (fun z => hj (z.1.symm.trans hq))]
    rw [this]
    exact ih (fun q hq => hR q (List.mem_cons_of_mem _ hq)) G
theorem patchD_app {H : Hd} {L F P R : List Q4} {d : Nat} {G : Gs} : patchD H (L, none, F, P ++ R, none) d G = R.foldl (fun G x => patchS H.1 d x G) (patchD H (L, none, F, P, none) d G) := by
  unfold patchD
  dsimp only
  rw [eP_all, eP_all, List.foldl_append]
theorem sim_before {H : Hd} {L F P R : List Q4} {d : Nat} (hR : rwD d R) : ∀ n, n ≤ d → sim H (L, none, F, P ++ R, none) n = sim H (L, none, F, P, none) n := by
  intro n
  induction n with
  | zero => intro _; rfl
  | succ n ih =>
    intro hn
    show dayS H _ n _ = dayS H _ n _
    rw [ih (by omega)]
    unfold dayS midD
    rw [patchD_app, patch_other hR (by omega)]
    rfl
/-- how often a hole is named -/
def cnR (R : List Q4) (h : Nat) : Nat := (R.filter (fun q => q.2.1 = h)).length
theorem patch_cnt {n d : Nat} {R : List Q4} (hR : rwD d R) (hn : ∀ q, q ∈ R → q.2.1 < n) : ∀ (G : Gs), (∀ h, h < n → 1 ≤ gw G h) → (∀ h, h < n → gw (R.foldl (fun G x => patchS n d x G) G) h = if gou G h = none then max (gw G h - cnR R h) 1 else gw G h) ∧ gd (R.foldl (fun G x => patchS n d x G) G) = gd G ∧ gou (R.foldl (fun G x => patchS n d x G) G) = gou G ∧ gdd (R.foldl (fun G x => patchS n d x G) G) = gdd G := by
  induction R with
  | nil =>
    intro G hG
    refine ⟨fun h hh => ?_, rfl, rfl, rfl⟩
    have := hG h hh
    show gw G h = if gou G h = none then max (gw G h - 0) 1 else gw G h
    split
    · rw [Nat.sub_zero, Nat.max_eq_left this]
    · rfl
  | cons q R ih =>
    intro G hG
    rw [List.foldl_cons]
    have hq := hR q List.mem_cons_self
    have hqn := hn q List.mem_cons_self
    have hcn : ∀ h, cnR (q :: R) h = (if q.2.1 = h then 1 else 0) + cnR R h := fun h => by
      unfold cnR
      rw [List.filter_cons]
      by_cases e : q.2.1 = h
      · simp [e]; omega
      · simp [e]
    by_cases c : gou G q.2.1 = none
    · have e1 : patchS n d q G = (up (gw G) q.2.1 (max (gw G q.2.1 - 1) 1), gd G, gou G, gdd G, gfl G, gct G, gbr G, gla G, gba G) := by unfold patchS; rw [if_pos ⟨hq, hqn, c⟩]
      rw [e1]
      obtain ⟨y1, y2, y3, y4⟩ := ih (fun q hq => hR q (List.mem_cons_of_mem _ hq)) (fun q hq => hn q (List.mem_cons_of_mem _ hq)) (up (gw G) q.2.1 (max (gw G q.2.1 - 1) 1), gd G, gou G, gdd G, gfl G, gct G, gbr G, gla G, gba G) (fun h hh => by
        show 1 ≤ up (gw G) q.2.1 (max (gw G q.2.1 - 1) 1) h
        unfold up
        split
        · omega
        · exact hG h hh)
      refine ⟨fun h hh => ?_, y2, y3, y4⟩
      rw [y1 h hh, hcn h]
      show (if gou G h = none then max (up (gw G) q.2.1 (max (gw G q.2.1 - 1) 1) h - cnR R h) 1 else up (gw G) q.2.1 (max (gw G q.2.1 - 1) 1) h) = _
      by_cases e : h = q.2.1
      · subst e
        rw [up_eq, if_pos c, if_pos c, if_pos rfl]
        have := hG _ hh
        omega
      · rw [up_ne e, if_neg (show ¬ q.2.1 = h from fun z => e z.symm), Nat.zero_add]
    · have e1 : patchS n d q G = G := by unfold patchS; rw [if_neg (fun z => c z.2.2)]
      rw [e1]
      obtain ⟨y1, y2, y3, y4⟩ := ih (fun q hq => hR q (List.mem_cons_of_mem _ hq)) (fun q hq => hn q (List.mem_cons_of_mem _ hq)) G hG
      refine ⟨fun h hh => ?_, y2, y3, y4⟩
      rw [y1 h hh, hcn h]
      by_cases e : h = q.2.1
      · subst e
        rw [if_neg c, if_neg c]
      · rw [if_neg (show ¬ q.2.1 = h from fun z => e z.symm), Nat.zero_add]
/-- of a hole: wide, deep, by which loan out, days out -/
def hq (G : Gs) (h : Nat) : Nat × Nat × Option Nat × Nat := (gw G h, gd G h, gou G h, gdd G h)
theorem hq_oth {H : Hd} {dy : Nat → Nat} {d k h : Nat} {G : Gs} (e : h ≠ k) : hq (passS H dy d k G) h = hq G h := by
  unfold hq passS
  split
  · rfl
  · dsimp only
    split
    · simp only [gw, gd, gou, gdd, up, if_neg e]
    · simp only [gw, gd, gou, gdd, up, if_neg e]
theorem hq_self {H : Hd} {dy : Nat → Nat} {d h : Nat} {G1 G2 : Gs} (e : hq G1 h = hq G2 h) : hq (passS H dy d h G1) h = hq (passS H dy d h G2) h := by
  unfold hq at e
  simp only [Prod.mk.injEq] at e
  obtain ⟨e1, e2, e3, e4⟩ := e
  unfold passS
  rw [e3]
  cases q : gou G2 h with
  | none =>
    unfold hq
    dsimp only
    rw [e1, e2, e3, e4]
  | some id =>
    dsimp only
    rw [e1, e2, e4]
    split
    · unfold hq; simp only [gw, gd, gou, gdd, up, if_true]
    · unfold hq
      simp only [gw, gd, gou, gdd, up, if_true] at e3 q ⊢
      rw [e3]
theorem hq_passD {H : Hd} {B : Bk} {d h : Nat} {G : Gs} : ∀ n, (h < n → hq (passD H B d G n) h = hq (passS H (dyB B) d h G) h) ∧ (n ≤ h → hq (passD H B d G n) h = hq G h) := by
  intro n
  induction n with
  | zero => exact ⟨fun q => (by omega), fun _ => rfl⟩
  | succ n ih =>
    rw [passD_succ]
    refine ⟨fun q => ?_, fun q => ?_⟩
    · by_cases e : h = n
      · subst e
        exact hq_self (ih.2 (Nat.le_refl _))
      · rw [hq_oth e]; exact ih.1 (by omega)
    · rw [hq_oth (by omega)]; exact ih.2 (by omega)
def pbA (A : AB) (d h : Nat) : Bool := (gou (midD (hdA A) (bkA A) d (simA A d)) h).isNone
def mdW (A : AB) (d n h : Nat) : Nat := if pbA A d h then max ((vwA A d h).1 - n) 1 else (vwA A d h).1
theorem mend_view {A : AB} {d h : Nat} {R : List Q4} (hA : okAB A) (hR : rwD d R) (hn : ∀ q, q ∈ R → q.2.1 < itm 0 (a0 A)) (hh : h < itm 0 (a0 A)) : vw (sim (hdA A) (bkX A R) (d + 1)) h = (mdW A d (cnR R h) h, (vwA A d h).2.1, (vwA A d h).2.2) := by
  have hb : sim (hdA A) (bkX A R) d = simA A d := sim_before hR d (Nat.le_refl _)
  have hm : midD (hdA A) (bkX A R) d (sim (hdA A) (bkX A R) d) = R.foldl (fun G x => patchS (hdA A).1 d x G) (midD (hdA A) (bkA A) d (simA A d)) := by
    rw [hb]
    exact patchD_app
  have hg := okG_mid (B := bkA A) (d := d) (okH_hd hA) hA.2.1.1
  obtain ⟨c1, c2, c3, c4⟩ := patch_cnt (n := (hdA A).1) hR hn (midD (hdA A) (bkA A) d (simA A d)) (fun h hh => (hg h hh).1)
  have p1 := (hq_passD (H := hdA A) (B := bkX A R) (d := d) (h := h) (G := midD (hdA A) (bkX A R) d (sim (hdA A) (bkX A R) d)) (hdA A).1).1 hh
  have p2 := (hq_passD (H := hdA A) (B := bkA A) (d := d) (h := h) (G := midD (hdA A) (bkA A) d (simA A d)) (hdA A).1).1 hh
  have hv : ∀ G : Gs, vw G h = ((hq G h).1, (hq G h).2.1, ((hq G h).2.2.1).isNone) := fun _ => rfl
  have d1 : hq (sim (hdA A) (bkX A R) (d + 1)) h = hq (passS (hdA A) (dyB (bkX A R)) d h (midD (hdA A) (bkX A R) d (sim (hdA A) (bkX A R) d))) h := p1
  have d2 : hq (simA A (d + 1)) h = hq (passS (hdA A) (dyB (bkA A)) d h (midD (hdA A) (bkA A) d (simA A d))) h := p2
  have hVA : vwA A d h = ((hq (simA A (d + 1)) h).1, (hq (simA A (d + 1)) h).2.1, ((hq (simA A (d + 1)) h).2.2.1).isNone) := rfl
  unfold mdW
  rw [hv, hVA, d1, d2, hm]
  generalize hM : midD (hdA A) (bkA A) d (simA A d) = M at *
  have c1h := c1 h hh
  have hpb : pbA A d h = (gou M h).isNone := by unfold pbA; rw [hM]
  rw [hpb]
  cases e : gou M h with
  | none =>
    rw [if_pos e] at c1h
    have f1 : passS (hdA A) (dyB (bkX A R)) d h (R.foldl (fun G x => patchS (hdA A).1 d x G) M) = R.foldl (fun G x => patchS (hdA A).1 d x G) M := by unfold passS; rw [c3, e]
    have f2 : passS (hdA A) (dyB (bkA A)) d h M = M := by unfold passS; rw [e]
    rw [f1, f2]
    unfold hq
    dsimp only
    rw [c1h, c2, c3, e]
    rfl
  | some id =>
    rw [if_neg (by rw [e]; intro q; cases q)] at c1h
    have : hq (R.foldl (fun G x => patchS (hdA A).1 d x G) M) h = hq M h := by
      unfold hq; rw [c1h, c2, c3, c4]
    have f1 := hq_self (H := hdA A) (dy := dyB (bkX A R)) (d := d) this
    rw [f1]
    rfl
-- what the fewest patches are
def fsv (A : AB) (d w n h : Nat) : Bool := (vwA A d h).2.2 && su A w h (mdW A d n h) (vwA A d h).2.1
def hmb (A : AB) (d w n : Nat) : Option Nat := lf (fsv A d w n) (itm 0 (a0 A)) 0
def mdF (A : AB) (d w : Nat) : Nat → Nat → Option (Nat × Nat)
  | 0, _ => none
  | j + 1, n => match hmb A d w n with
    | some h => some (n, h)
    | none => mdF A d w j (n + 1)
def mdO (i : Option Nat) (o : Option (Nat × Nat)) : Int32 := match o with
  | none => -1
  | some (n, h) => match i with
    | none => nI n
    | some v => if v < n then nI h else -1
def mdV (A : AB) (d w : Nat) (i : Option Nat) : Int32 := mdO i (mdF A d w 4 0)
def sMend (x y z : Int32) (A : AB) : Sp := (if inb x (itm 1 (a1 A)) ∧ inb y 40 ∧ (z = -1 ∨ inb z 3) then mdV A y.toNatClampNeg x.toNatClampNeg (if z = -1 then none else some z.toNatClampNeg) else -2, A)
theorem e7_mendedBy {A : AB} {σ : St} {d w n : Nat} (h : RC A σ) (hA : okAB A) (hT : toC σ A) (hd : d < 40) (hw : w < itm 1 (a1 A)) (hn : n ≤ 3) : M7_holeMendedBy 48 (nI w) (nI d) (nI n) σ = some (oI (hmb A d w n), σ) := by
  have h8 := itm_le (t := 0) hA.1.1
  have hv := cV_A hA hT hd
  have hV := okV_A hA d
  have hpb : ∀ k, k < itm 0 (a0 A) → M1_couldBePatched 48 (nI d) (nI k) σ = some (if pbA A d k then 1 else 0, σ) := by
    intro k hk
    unfold M1_couldBePatched
    have hb := bm_lt (fun h => (gou (midD (hdA A) (bkA A) d (sim (hdA A) (bkA A) d)) h).isNone) (hdA A).1
    have hp : 2 ^ (hdA A).1 ≤ 256 := p256 hA
    rw [if_pos ((inb_nI (by omega)).mpr (by omega)), nI_clamp (n := d) (by omega), (hT.2 d hd).2.1, itx (shr_test (by omega) (by omega)), bm_bit]
    show some (if (decide (k < itm 0 (a0 A)) && pbA A d k) = true then (1 : Int32) else 0, σ) = _
    rw [decide_eq_true hk, Bool.true_and]
  unfold M7_holeMendedBy
  have key : ∀ fu k j, k + j = itm 0 (a0 A) → j + 1 ≤ fu → M7_holeMendedBy_L3 48 (nI w) (nI d) (nI n) (fun σ12 => some (-1, σ12)) fu (nI k) σ = some (oI (lf (fsv A d w n) j k), σ) := by
    intro fu
    induction fu with
    | zero => intro k j _ c; omega
    | succ fu ih =>
      intro k j hk hf
      rw [M7_holeMendedBy_L3, h.1.2.2.1]
      cases j with
      | zero => rw [if_pos ((nI_leI (by omega) (by omega)).mpr (by omega))]; rfl
      | succ j =>
        have this := ih (k + 1) j (by omega) (by omega)
        have hVk := hV.2 k (by omega)
        have hlf : lf (fsv A d w n) (j + 1) k = if fsv A d w n k then some k else lf (fsv A d w n) j (k + 1) := rfl
        have hJ : ∀ x, x = mdW A d n k → (vwA A d k).2.2 = true → M7_holeMendedBy_J59 (fun x5 σ => M7_holeMendedBy_L3 48 (nI w) (nI d) (nI n) (fun σ12 => some (-1, σ12)) fu x5 σ) 48 (nI w) (nI d) (nI n) (nI k) (nI x) σ = some (oI (lf (fsv A d w n) (j + 1) k), σ) := by
          intro x hx hb
          have hx9 : x ≤ 9 := by rw [hx]; unfold mdW; split <;> omega
          unfold M7_holeMendedBy_J59
          rw [e1_deep hv h8 hd (by omega), bind_s, e7_suits h hA hw (by omega) (by omega) (by omega), bind_s, hlf]
          have hfs : fsv A d w n k = su A w k x (vwA A d k).2.1 := by unfold fsv; rw [hb, hx]; rfl
          rw [hfs]
          by_cases c : su A w k x (vwA A d k).2.1 = true
          · rw [if_pos c, if_neg (by decide), if_pos c]; rfl
          · rw [if_neg c, if_pos rfl, if_neg c, M7_holeMendedBy_J81, lt_eq, nI_1]
            exact this
        rw [if_neg (fun q => by have := (nI_leI (by omega) (by omega)).mp q; omega), e1_loan hd (by omega), bind_s]
        by_cases c : (vwA A d k).2.2 = true
        · rw [if_pos ((hv k (by omega)).2.2.mpr c), e1_wide hv h8 hd (by omega), bind_s, hpb k (by omega), bind_s]
          by_cases c2 : pbA A d k = true
          · rw [if_pos c2, if_neg (by decide), lt_eq]
            have e1 : (if 1 < nI (vwA A d k).1 - nI n then nI (vwA A d k).1 - nI n else 1) = nI (max ((vwA A d k).1 - n) 1) := by
              by_cases c3 : 1 < (vwA A d k).1 - n
              · rw [if_pos (by rw [i32_lt, pk_sub_toInt (by omega) (by omega)]; show (1 : Int) < _; omega), pk_sub (by omega), Nat.max_eq_left (by omega)]
              · rw [if_neg (by rw [i32_lt, pk_sub_toInt (by omega) (by omega)]; show ¬ (1 : Int) < _; omega), Nat.max_eq_right (by omega)]; rfl
            rw [e1]
            exact hJ _ (by unfold mdW; rw [if_pos c2]) c
          · rw [if_neg c2, if_pos rfl]
            exact hJ _ (by unfold mdW; rw [if_neg c2]) c
        · rw [if_neg (fun q => c ((hv k (by omega)).2.2.mp q)), M7_holeMendedBy_J81, lt_eq, nI_1, hlf, if_neg (by unfold fsv; rw [show (vwA A d k).2.2 = false by simpa using c]; simp)]
          exact this
  have k0 := key FU 0 (itm 0 (a0 A)) (by omega) (by have := FU_ge; omega)
  exact k0
theorem hmb_lt {A : AB} {d w n x : Nat} (h : hmb A d w n = some x) : x < itm 0 (a0 A) := by
  have := (lf_ok _ _ _ h).2.1
  omega
theorem c_mend {A : AB} {σ : St} (x y z : Int32) (h : RC A σ) (hA : okAB A) : isC (M7_mend x y z σ) σ (sMend x y z A) := by
  unfold M7_mend sMend isC
  have h8 := itm_le (t := 0) hA.1.1
  rw [e7_isWork x h hA, bind_s]
  by_cases q1 : inb x (itm 1 (a1 A))
  · rw [if_pos q1, if_neg (by decide), e7_isBelow y 40 σ (n := 40) rfl (by decide), bind_s]
    by_cases q2 : inb y 40
    · rw [if_pos q2, if_neg (by decide)]
      obtain ⟨w, hw, rfl, hx⟩ := inb_ex q1
      obtain ⟨d, hd, rfl, hy⟩ := inb_ex q2
      rw [nI_clamp hx, nI_clamp hy]
      have J : ∀ i : Option Nat, (∀ v, i = some v → v < 3) → z = oI i → Ok (M7_mend_J33 (nI w) (nI d) z σ) (fun r σ' => r = mdV A d w i ∧ RC A σ' ∧ loC σ σ') := by
        intro i hi hz
        unfold M7_mend_J33
        refine ok_call (c_told h hA) ?_
        rintro _ σ1 ⟨rfl, hR, hT, hlo⟩
        refine ok_T rfl ?_
        have key : ∀ fu n j, n + j = 4 → j + 1 ≤ fu → M7_mend_L42 (nI w) (nI d) z 48 (fun σ14 => some (-1, σ14)) fu (nI n) σ1 = some (mdO i (mdF A d w j n), σ1) := by
          intro fu
          induction fu with
          | zero => intro n j _ c; omega
          | succ fu ih =>
            intro n j hn hf
            rw [M7_mend_L42]
            cases j with
            | zero => rw [if_pos (show (3 : Int32) < nI n from (nI_ltI (a := 3) (by omega) (by omega)).mpr (by omega))]; rfl
            | succ j =>
              have this := ih (n + 1) j (by omega) (by omega)
              rw [if_neg (show ¬ (3 : Int32) < nI n from fun q => by have := (nI_ltI (a := 3) (by omega) (by omega)).mp q; omega), e7_mendedBy hR hA hT hd hw (by omega), bind_s]
              have hs : mdF A d w (j + 1) n = match hmb A d w n with
                | some h => some (n, h)
                | none => mdF A d w j (n + 1) := rfl
              cases e : hmb A d w n with
              | none =>
                rw [e] at hs
                rw [hs, if_pos (show oI none = -1 from rfl), lt_eq, nI_1]
                exact this
              | some hh =>
                have hlt := hmb_lt e
                rw [e] at hs
                rw [hs, if_neg (show ¬ oI (some hh) = -1 from nI_m1 (a := hh) (by omega))]
                unfold mdO
                cases i with
                | none => rw [if_pos (show z = -1 from hz)]
                | some v =>
                  have hv3 := hi v rfl
                  have hz' : z = nI v := hz
                  rw [hz', if_neg (nI_m1 (by omega))]
                  dsimp only
                  by_cases c : v < n
                  · rw [if_neg (fun q => by have := (nI_leI (by omega) (by omega)).mp q; omega), if_pos c]; rfl
                  · rw [if_pos ((nI_leI (by omega) (by omega)).mpr (by omega)), if_neg c]
        have k0 := key FU 0 4 (by omega) (by have := FU_ge; omega)
        rw [show nI 0 = 0 from rfl] at k0
        rw [k0, ok_some]
        exact ⟨rfl, hR, hlo⟩
      by_cases q3 : z = -1
      · rw [if_pos q3, if_pos ⟨q1, q2, Or.inl q3⟩, if_pos q3]
        exact J none (fun v hv => by cases hv) q3
      · rw [if_neg q3, e7_isBelow z 3 σ (n := 3) rfl (by decide), bind_s]
        by_cases q4 : inb z 3
        · rw [if_pos q4, if_neg (by decide), if_pos ⟨q1, q2, Or.inr q4⟩, if_neg q3]
          obtain ⟨v, hv, rfl, hz⟩ := inb_ex q4
          rw [nI_clamp hz]
          exact J (some v) (fun w hw => by cases hw; exact hv) rfl
        · rw [if_neg q4, if_pos rfl, if_neg (fun z => z.2.2.elim q3 q4)]
          exact isC_A h loC.rf rfl
    · rw [if_neg q2, if_pos rfl, if_neg (fun z => q2 z.2.1)]
      exact isC_A h loC.rf rfl
  · rw [if_neg q1, if_pos rfl, if_neg (fun z => q1 z.1)]
    exact isC_A h loC.rf rfl
