def bk2 (A : AB) (sk sp : Option Nat) : Bk := (aL A, sk, aF A, aP A, sp)
theorem RX_skip {A : AB} {sk sp sk' sp' : Option Nat} {σ σ' : St} (h : RX A (bk2 A sk sp) σ) (hF : ∀ c, c ≠ 0 → σ' c = σ c) (h0 : ∀ j, j ≠ 26 → j ≠ 27 → σ' 0 j = σ 0 j) (e1 : σ' 0 26 = oI sk') (e2 : σ' 0 27 = oI sp') (b1 : ∀ v, sk' = some v → v < 2 ^ 31) (b2 : ∀ v, sp' = some v → v < 2 ^ 31) : RX A (bk2 A sk' sp') σ' := by
  refine h.book (fun c q => hF c (by omega)) (fun j q => h0 j (by omega) (by omega)) ?_
  obtain ⟨⟨a1, a2⟩, ⟨b1', b2', b3⟩, ⟨c1, c2, c3⟩, ⟨d1, d2, d3⟩, -, r⟩ := h.2.2.2.2.2.2.2.2
  refine ⟨⟨by rw [hF 7 (by decide)]; exact a1, fun k w q1 q2 => by rw [hF 8 (by decide)]; exact a2 k w q1 q2⟩, ⟨by rw [h0 9 (by decide) (by decide)]; exact b1', b2', fun k hk => by rw [hF 9 (by decide)]; exact b3 k hk⟩, ⟨by rw [h0 11 (by decide) (by decide)]; exact c1, c2, fun k hk => by rw [hF 10 (by decide)]; exact c3 k hk⟩, ⟨by rw [h0 13 (by decide) (by decide)]; exact d1, d2, fun k hk => by rw [hF 11 (by decide)]; exact d3 k hk⟩, ⟨e1, e2, b1, b2⟩, r⟩
theorem x_never {A : AB} {σ0 : St} {w : Nat} (h0 : RX A (bkA A) σ0) (hA : okAB A) (hw : w < 2) : isX A (bkA A) (M8_neverOf (nI w) σ0) σ0 (nvV A w) := by
  unfold M8_neverOf isX
  have hN := nvN_le hA w
  have key : ∀ fu k σ sk sp, k ≤ nvN A w → nvN A w + 1 ≤ fu + k → RX A (bk2 A sk sp) σ → hiM σ0 σ → Ok (M8_neverOf_L4 (nI w) (fun v11 σ12 => lt (s2 σ12 0 26 (-1)) fun σ13 => lt (s2 σ13 0 27 (-1)) fun σ14 => some (v11, σ14)) fu (nI (bm (nvF A w) k)) (nI k) σ) (fun r σ' => r = nvV A w ∧ RX A (bkA A) σ' ∧ hiM σ0 σ') := by
    intro fu
    induction fu with
    | zero => intro k _ _ _ _; omega
    | succ fu ih =>
      intro k σ sk sp hk hf hR hi
      rw [M8_neverOf_L4]
      unfold M8_neverOf_J20
      have eN : (if nI w = 0 then σ 0 9 else σ 0 13) = nI (nvN A w) := by
        unfold nvN
        rcases (show w = 0 ∨ w = 1 by omega) with rfl | rfl
        · rw [if_pos (show nI 0 = 0 from rfl), if_pos rfl]; exact hR.2.2.2.2.2.2.2.2.2.1.1
        · rw [if_neg (by decide), if_neg (by decide)]; exact hR.2.2.2.2.2.2.2.2.2.2.2.1.1
      rw [eN]
      by_cases e : nvN A w ≤ k
      · rw [if_pos ((nI_leI (by omega) (by omega)).mpr (by omega)), ok_lt, ok_lt, ok_some, show k = nvN A w by omega]
        refine ⟨rfl, RX_skip (sk' := none) (sp' := none) hR (fun c q => by rw [s2_ne q, s2_ne q]) (fun j q1 q2 => by rw [s2_nj q2, s2_nj q1]) (by rw [s2_nj (by decide), s2_eq]; rfl) s2_eq (fun v hv => by cases hv) (fun v hv => by cases hv), hi.tr (fun c q => by rw [s2_ne (by omega), s2_ne (by omega)])⟩
      · rw [if_neg (fun q => by have := (nI_leI (by omega) (by omega)).mp q; omega)]
        unfold M8_neverOf_J33 M8_neverOf_J47
        rw [ok_lt, ok_lt]
        have hR2 : RX A (bk2 A (if w = 0 then some k else none) (if w = 0 then none else some k)) (s2 (s2 σ 0 26 (if nI w = 0 then nI k else -1)) 0 27 (if nI w = 1 then nI k else -1)) := by
          refine RX_skip hR (fun c q => by rw [s2_ne q, s2_ne q]) (fun j q1 q2 => by rw [s2_nj q2, s2_nj q1]) ?_ ?_ (fun v hv => ?_) (fun v hv => ?_)
          · rw [s2_nj (by decide), s2_eq]
            rcases (show w = 0 ∨ w = 1 by omega) with rfl | rfl
            · rfl
            · rfl
          · rw [s2_eq]
            rcases (show w = 0 ∨ w = 1 by omega) with rfl | rfl
            · rfl
            · rfl
          · split at hv
            · cases hv; omega
            · cases hv
          · split at hv
            · cases hv
            · cases hv; omega
        refine ok_call (x_seen hR2 hA) ?_
        rintro r σ1 ⟨rfl, hR1, hF1⟩
        have hi1 : hiM σ0 σ1 := hi.tr (fun c q => by rw [hF1.hi c q, s2_ne (by omega), s2_ne (by omega)])
        unfold M8_neverOf_J65
        rw [ok_lt, ok_lt, nI_1]
        have eb : asB A (bk2 A (if w = 0 then some k else none) (if w = 0 then none else some k)) = nvF A w k := by
          unfold nvF
          rcases (show w = 0 ∨ w = 1 by omega) with rfl | rfl
          · rfl
          · rfl
        rw [eb]
        by_cases c : nvF A w k = true
        · rw [if_pos c, if_neg (by decide), bmx_or (by omega) c]
          exact ih (k + 1) σ1 _ _ (by omega) (by omega) hR1 hi1
        · rw [if_neg c, if_pos rfl, Int32.or_zero, ← bm_skip (f := nvF A w) (by simpa using c)]
          exact ih (k + 1) σ1 _ _ (by omega) (by omega) hR1 hi1
  exact key FU 0 σ0 none none (by omega) (by have := FU_ge; omega) h0 hiM.rf
theorem m_never {A : AB} {σ : St} (x : Int32) (h : RM A σ) (hA : okAB A) : isM (M8_never x σ) σ (sNever x A) := by
  unfold M8_never sNever
  refine m_rd h hA (fun σ1 hR => ?_)
  rw [e8_isTwo, bind_s]
  by_cases q1 : inb x 2
  · rw [if_pos q1, if_neg (by decide), if_pos q1]
    obtain ⟨d, hd, rfl, hx⟩ := inb_ex q1
    rw [nI_clamp hx]
    exact isX_tail (x_never hR hA hd)
  · rw [if_neg q1, if_pos rfl, if_neg q1]
    exact isX_some hR hiM.rf rfl
-- look
def alN (A : AB) (d h v : Nat) : Nat → Nat
  | 0 => 0
  | k + 1 => alN A d h v k + if asB A (bkL A k) = true ∧ lk (vw (sim (hdA A) (bkL A k) (d + 1))) h = v then 1 else 0
theorem alN_le {A : AB} {d h v : Nat} : ∀ k, alN A d h v k ≤ k := by
  intro k
  induction k with
  | zero => exact Nat.le_refl _
  | succ k ih => unfold alN; split <;> omega
def grN (A : AB) (d h : Nat) : Nat → Nat
  | 0 => 0
  | v + 1 => max (grN A d h v) (alN A d h v (aL A).length)
theorem grN_le {A : AB} {d h : Nat} : ∀ v, grN A d h v ≤ (aL A).length := by
  intro v
  induction v with
  | zero => exact Nat.zero_le _
  | succ v ih =>
    have := alN_le (A := A) (d := d) (h := h) (v := v) (aL A).length
    unfold grN; omega
def lkN (A : AB) (d : Nat) : Nat → Option (Nat × Nat)
  | 0 => none
  | h + 1 => match lkN A d h with
    | none => some (h, grN A d h 10)
    | some (b, l) => if grN A d h 10 < l then some (h, grN A d h 10) else some (b, l)
def loI (o : Option (Nat × Nat)) : Int32 := match o with
  | none => -1
  | some (b, _) => nI b
def loD (o : Option (Nat × Nat)) (d : Int32) : Int32 := match o with
  | none => d
  | some (_, l) => nI l
def loV (A : AB) (d : Nat) : Int32 := loI (lkN A d (itm 0 (a0 A)))
def sLook (x : Int32) (A : AB) : Sp := (if inb x 40 then loV A x.toNatClampNeg else -2, A)
theorem lkN_lt {A : AB} {d : Nat} : ∀ n b l, lkN A d n = some (b, l) → b < n ∧ l ≤ (aL A).length := by
  intro n
  induction n with
  | zero => intro b l h; cases h
  | succ n ih =>
    intro b l h
    unfold lkN at h
    have := grN_le (A := A) (d := d) (h := n) 10
    cases e : lkN A d n with
    | none => rw [e] at h; cases h; exact ⟨by omega, this⟩
    | some q =>
      obtain ⟨b', l'⟩ := q
      rw [e] at h
      obtain ⟨y1, y2⟩ := ih b' l' e
      dsimp only at h
      split at h
      · cases h; exact ⟨by omega, this⟩
      · cases h; exact ⟨by omega, y2⟩
theorem RC.hi {A : AB} {σ σ' : St} (hA : okAB A) (h : RC A σ) (hF : ∀ c, ((25 ≤ c ∧ c < 66) ∨ (90 ≤ c ∧ c < 98)) → σ' c = σ c) : RC A σ' := by
  refine h.keep hA (fun c q => hF c (by omega)) (by rw [hF 40 (by decide)]) (by rw [hF 42 (by decide)]) (by rw [hF 44 (by decide)]) (by rw [hF 25 (by decide)]) (by rw [hF 25 (by decide)]) ?_
  rcases h.2.2.2.2.2.2.2.2.2.2 with s | ⟨s, f⟩
  · left; rw [hF 25 (by decide)]; exact s
  · right; exact ⟨by rw [hF 25 (by decide)]; exact s, f.frame (itm_hd hA) (fun c q1 q2 => hF c (by omega))⟩
def alC (σ : St) (c : Nat) (A : AB) (d : Nat) (f : Nat → Nat) : Prop := ∀ h v, h < itm 0 (a0 A) → v < 10 → σ c (10 * h + v) = nI (alN A d h v (f h))
theorem alC_step {σ : St} {c d h k : Nat} {A : AB} (hal : alC σ c A d (fun j => if j < h then k + 1 else k)) (hh : h < itm 0 (a0 A)) (hV : lk (vw (sim (hdA A) (bkL A k) (d + 1))) h < 10) (has : asB A (bkL A k) = true) : alC (s2 σ c (10 * h + lk (vw (sim (hdA A) (bkL A k) (d + 1))) h) (σ c (10 * h + lk (vw (sim (hdA A) (bkL A k) (d + 1))) h) + 1)) c A d (fun j => if j < h + 1 then k + 1 else k) := by
  intro h' v hh' hv
  dsimp only
  have hs : ∀ j w, alN A d j w (k + 1) = alN A d j w k + if asB A (bkL A k) = true ∧ lk (vw (sim (hdA A) (bkL A k) (d + 1))) j = w then 1 else 0 := fun _ _ => rfl
  by_cases e : h' = h
  · subst e
    rw [if_pos (by omega), hs]
    have := hal h' v hh hv
    dsimp only at this
    rw [if_neg (by omega)] at this
    by_cases c : lk (vw (sim (hdA A) (bkL A k) (d + 1))) h' = v
    · subst c
      rw [s2_eq, this, nI_1, if_pos ⟨has, rfl⟩]
    · rw [s2_nj (by omega), this, if_neg (fun q => c q.2)]; rfl
  · rw [s2_nj (by omega)]
    have := hal h' v hh' hv
    dsimp only at this
    rw [this]
    by_cases c : h' < h
    · rw [if_pos c, if_pos (by omega)]
    · rw [if_neg c, if_neg (by omega)]
theorem alC_skip {σ : St} {c d k : Nat} {A : AB} (hal : alC σ c A d (fun _ => k)) (has : asB A (bkL A k) = false) : alC σ c A d (fun _ => k + 1) := by
  intro h v hh hv
  have := hal h v hh hv
  have hs : alN A d h v (k + 1) = alN A d h v k + if asB A (bkL A k) = true ∧ lk (vw (sim (hdA A) (bkL A k) (d + 1))) h = v then 1 else 0 := rfl
  dsimp only at this ⊢
  rw [this, hs, if_neg (fun q => by rw [has] at q; cases q.1)]; rfl
theorem t7_addTo {A : AB} {σ0 : St} {d k D : Nat} (hA : okAB A) (h0 : RC A σ0) (hs : seC σ0 A (bkL A k) D) (hd : d < D) (hd4 : d < 40) (has : asB A (bkL A k) = true) (hal : alC σ0 88 A d (fun _ => k)) : Ok (M7_addToAlike 66 (nI d) σ0) (fun _ σ' => (∀ c, c ≠ 88 → σ' c = σ0 c) ∧ alC σ' 88 A d (fun _ => k + 1)) := by
  unfold M7_addToAlike
  have h8 := itm_le (t := 0) hA.1.1
  have key : ∀ fu h σ, h ≤ itm 0 (a0 A) → itm 0 (a0 A) + 1 ≤ fu + h → (∀ c, c ≠ 88 → σ c = σ0 c) → alC σ 88 A d (fun j => if j < h then k + 1 else k) → Ok (M7_addToAlike_L2 66 (nI d) (fun σ => some ((), σ)) fu (nI h) σ) (fun _ σ' => (∀ c, c ≠ 88 → σ' c = σ0 c) ∧ alC σ' 88 A d (fun _ => k + 1)) := by
    intro fu
    induction fu with
    | zero => intro h σ _ _; omega
    | succ fu ih =>
      intro h σ hh hf hF ha
      rw [M7_addToAlike_L2, hF 26 (by decide), h0.1.2.2.1]
      by_cases e : itm 0 (a0 A) ≤ h
      · rw [if_pos ((nI_leI (by omega) (by omega)).mpr (by omega)), ok_some]
        refine ⟨hF, fun h' v hh' hv => ?_⟩
        have := ha h' v hh' hv
        dsimp only at this
        rw [if_pos (by omega)] at this; exact this
      · have hlt := lk_lt (okV_L hA k (d + 1)) (show h < itm 0 (a0 A) by omega)
        have hv : cV σ 66 d (itm 0 (a0 A)) (vw (sim (hdA A) (bkL A k) (d + 1))) := (hs.keep (fun c q1 q2 => hF c (by omega))) d hd
        rw [if_neg (fun q => by have := (nI_leI (by omega) (by omega)).mp q; omega), e1_sight hv h8 hd4 (by omega), bind_s]
        have ei : nI h * 10 + nI (lk (vw (sim (hdA A) (bkL A k) (d + 1))) h) = nI (10 * h + lk (vw (sim (hdA A) (bkL A k) (d + 1))) h) := by rw [show (10 : Int32) = nI 10 from rfl, pk_mul, nI_add, Nat.mul_comm]
        rw [ei, nI_clamp (n := 10 * h + lk (vw (sim (hdA A) (bkL A k) (d + 1))) h) (by omega)]
        refine ok_T ((inb_nI (by omega)).mpr (by omega)) ?_
        rw [ok_lt, ok_lt, nI_1]
        exact ih (h + 1) _ (by omega) (by omega) (fun c q => by rw [s2_ne q]; exact hF c q) (alC_step ha (by omega) hlt has)
  exact key FU 0 σ0 (by omega) (by have := FU_ge; omega) (fun _ _ => rfl) (fun h v hh hv => by dsimp only; rw [if_neg (by omega)]; exact hal h v hh hv)
theorem e7_greatest {A : AB} {σ : St} {d h : Nat} (hA : okAB A) (hal : alC σ 88 A d (fun _ => (aL A).length)) (hh : h < itm 0 (a0 A)) : M7_greatestAlike (nI h) σ = some (nI (grN A d h 10), σ) := by
  unfold M7_greatestAlike
  have hl := hA.2.1.2
  have h8 := itm_le (t := 0) hA.1.1
  have key : ∀ fu v, v ≤ 10 → 11 ≤ fu + v → M7_greatestAlike_L4 (nI h) (fun v σ => some (v, σ)) fu (nI (grN A d h v)) (nI v) σ = some (nI (grN A d h 10), σ) := by
    intro fu
    induction fu with
    | zero => intro v _ _; omega
    | succ fu ih =>
      intro v hv hf
      rw [M7_greatestAlike_L4]
      by_cases e : 9 < v
      · rw [if_pos (show (9 : Int32) < nI v from (nI_ltI (a := 9) (by omega) (by omega)).mpr e), show v = 10 by omega]
      · have g1 := grN_le (A := A) (d := d) (h := h) v
        have g2 := alN_le (A := A) (d := d) (h := h) (v := v) (aL A).length
        rw [if_neg (show ¬ (9 : Int32) < nI v from fun q => by have := (nI_ltI (a := 9) (by omega) (by omega)).mp q; omega)]
        have ei : nI h * 10 + nI v = nI (10 * h + v) := by rw [show (10 : Int32) = nI 10 from rfl, pk_mul, nI_add, Nat.mul_comm]
        rw [ei, nI_clamp (n := 10 * h + v) (by omega), if_pos ((inb_nI (by omega)).mpr (by omega)), hal h v hh (by omega), lt_eq, lt_eq, nI_1]
        have ee : (if nI (grN A d h v) < nI (alN A d h v (aL A).length) then nI (alN A d h v (aL A).length) else nI (grN A d h v)) = nI (grN A d h (v + 1)) := by
          show _ = nI (max (grN A d h v) (alN A d h v (aL A).length))
          by_cases c : grN A d h v < alN A d h v (aL A).length
          · rw [if_pos ((nI_ltI (by omega) (by omega)).mpr c), Nat.max_eq_right (by omega)]
          · rw [if_neg (fun q => c ((nI_ltI (by omega) (by omega)).mp q)), Nat.max_eq_left (by omega)]
        rw [ee]
        exact ih (v + 1) (by omega) (by omega)
  have k0 := key FU 0 (by omega) (by have := FU_ge; omega)
  exact k0
theorem c_look {A : AB} {σ : St} (x : Int32) (h : RC A σ) (hA : okAB A) : isC (M7_look x σ) σ (sLook x A) := by
  unfold M7_look sLook isC
  have hl := hA.2.1.2
  have h8 := itm_le (t := 0) hA.1.1
  rw [e7_isBelow x 40 σ (n := 40) rfl (by decide), bind_s]
  by_cases q1 : inb x 40
  · rw [if_pos q1, if_neg (by decide), if_pos q1]
    obtain ⟨d, hd, rfl, hx⟩ := inb_ex q1
    rw [nI_clamp hx]
    refine ok_call (tJ_fill (c := 88) (x := 0) (by decide)) ?_
    rintro - σ1 ⟨hF1, hz⟩
    have hR1 : RC A σ1 := h.hi hA (fun c q => hF1 c (by omega))
    have hlo1 : loC σ σ1 := fun c q => hF1 c (by omega)
    rw [e7_last hR1 hA, bind_s, ok_lt]
    have hls := lsN_lt hA _ (Nat.le_refl _)
    have hls' : lsA A < 40 := hls
    have em : (if nI d < nI (lsA A) then nI (lsA A) else nI d) = nI (max d (lsA A)) := by
      by_cases c : d < lsA A
      · rw [if_pos ((nI_ltI (by omega) (by omega)).mpr c), Nat.max_eq_right (by omega)]
      · rw [if_neg (fun q => c ((nI_ltI (by omega) (by omega)).mp q)), Nat.max_eq_left (by omega)]
    rw [em]
    have hD : ∀ k, k < (aS A).length → (g4 (aS A) k).1 < max d (lsA A) + 1 := fun k hk => by have := lsN_ge (A := A) (aS A).length k hk; unfold lsA; omega
    have fin : ∀ fu i σ', i ≤ itm 0 (a0 A) → itm 0 (a0 A) + 1 ≤ fu + i → RC A σ' → alC σ' 88 A d (fun _ => (aL A).length) → M7_look_L84 (fun v σ => some (v, σ)) fu (loI (lkN A d i)) (loD (lkN A d i) 13) (nI i) σ' = some (loV A d, σ') := by
      intro fu
      induction fu with
      | zero => intro i σ' _ _; omega
      | succ fu ih =>
        intro i σ' hi hf hR ha
        rw [M7_look_L84, hR.1.2.2.1]
        by_cases e : itm 0 (a0 A) ≤ i
        · rw [if_pos ((nI_leI (by omega) (by omega)).mpr (by omega)), show i = itm 0 (a0 A) by omega]; rfl
        · have hg := grN_le (A := A) (d := d) (h := i) 10
          rw [if_neg (fun q => by have := (nI_leI (by omega) (by omega)).mp q; omega), e7_greatest hA ha (by omega), bind_s, M7_look_J118, lt_eq, nI_1]
          have this := ih (i + 1) σ' (by omega) (by omega) hR ha
          have hs : lkN A d (i + 1) = (match lkN A d i with
            | none => some (i, grN A d i 10)
            | some (b, l) => if grN A d i 10 < l then some (i, grN A d i 10) else some (b, l)) := rfl
          cases e1 : lkN A d i with
          | none =>
            rw [e1] at hs
            rw [hs] at this
            have z : ¬ loD none 13 ≤ nI (grN A d i 10) := fun q => by have := (nI_leI (a := 13) (by omega) (by omega)).mp q; omega
            rw [if_neg z, if_neg z]
            exact this
          | some q =>
            obtain ⟨b, l⟩ := q
            obtain ⟨y1, y2⟩ := lkN_lt i b l e1
            rw [e1] at hs
            dsimp only at hs
            by_cases c : grN A d i 10 < l
            · rw [if_pos c] at hs
              rw [hs] at this
              have z : ¬ loD (some (b, l)) 13 ≤ nI (grN A d i 10) := fun q => by have := (nI_leI (a := l) (by omega) (by omega)).mp q; omega
              rw [if_neg z, if_neg z]
              exact this
            · rw [if_neg c] at hs
              rw [hs] at this
              have z : loD (some (b, l)) 13 ≤ nI (grN A d i 10) := (nI_leI (a := l) (by omega) (by omega)).mpr (by omega)
              rw [if_pos z, if_pos z]
              exact this
    have key : ∀ fu k σ', k ≤ (aL A).length → (aL A).length + 1 ≤ fu + k → RC A σ' → loC σ σ' → alC σ' 88 A d (fun _ => k) → Ok (M7_look_L31 (nI d) (nI (max d (lsA A))) (fun σ13 => M7_look_L84 (fun v18 σ19 => some (v18, σ19)) FU (-1) 13 0 σ13) fu (nI k) σ') (fun r σ' => r = loV A d ∧ RC A σ' ∧ loC σ σ') := by
      intro fu
      induction fu with
      | zero => intro k σ' _ _; omega
      | succ fu ih =>
        intro k σ' hk hf hR hlo ha
        rw [M7_look_L31, hR.2.2.1.1]
        by_cases e : (aL A).length ≤ k
        · rw [if_pos ((nI_leI (by omega) (by omega)).mpr (by omega))]
          have k0 := fin FU 0 σ' (by omega) (by have := FU_ge; omega) hR (by rw [show (aL A).length = k by omega]; exact ha)
          rw [show loI (lkN A d 0) = -1 from rfl, show loD (lkN A d 0) 13 = 13 from rfl, show nI 0 = 0 from rfl] at k0
          rw [k0, ok_some]
          exact ⟨rfl, hR, hlo⟩
        · rw [if_neg (fun q => by have := (nI_leI (by omega) (by omega)).mp q; omega)]
          refine ok_call (c_wol hR hA (k := k) (by omega) (show max d (lsA A) < 40 by omega)) ?_
          rintro _ σ2 ⟨rfl, hR2, hs2, -, hF2⟩
          refine ok_T rfl ?_
          have ha2 : alC σ2 88 A d (fun _ => k) := fun i v z1 z2 => by rw [hF2.1 88 (by decide)]; exact ha i v z1 z2
          rw [e7_seen hR2 hA hs2 hD (fun d => okV_L hA k d), bind_s]
          by_cases c : asB A (bkL A k) = true
          · rw [if_pos c, if_neg (by decide)]
            refine ok_call (t7_addTo hA hR2 hs2 (by omega) hd c ha2) ?_
            rintro - σ3 ⟨hF3, ha3⟩
            rw [M7_look_J69, ok_lt, nI_1]
            exact ih (k + 1) σ3 (by omega) (by omega) (hR2.hi hA (fun c q => hF3 c (by omega))) ((hlo.tr hF2.lo).tr (fun c q => hF3 c (by omega))) ha3
          · rw [if_neg c, if_pos rfl, M7_look_J69, ok_lt, nI_1]
            exact ih (k + 1) σ2 (by omega) (by omega) hR2 (hlo.tr hF2.lo) (alC_skip ha2 (by simpa using c))
    exact key FU 0 σ1 (by omega) (by have := FU_ge; omega) hR1 hlo1 (fun i v z1 z2 => hz _ (by show 10 * i + v < 80; omega))
  · rw [if_neg q1, if_pos rfl, if_neg q1]
    exact isC_A h loC.rf rfl
