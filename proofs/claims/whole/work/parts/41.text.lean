-- what a byte tells at place k of an item of text t
def dig (least b : Nat) : Option Nat := if 48 + least ≤ b ∧ b ≤ 57 then some (b - 48) else none
def tg (t k b : Nat) : Option Nat :=
  if k = 0 then (if b = 114 then some 0 else if b = 115 then some 1 else if b = 108 then some 2 else if b = 97 ∧ t = 1 then some 3 else none)
  else if k = 4 then (if b = 59 then some 0 else none)
  else if k = 1 then dig 1 b
  else if k = 2 then dig (1 - t) b
  else dig t b
def tI (o : Option Nat) : Int32 := match o with
  | some v => nI v
  | none => -9
/-- where a text cannot go on -/
def fpos (t : Nat) (b : List Nat) : Option Nat :=
  match (List.range b.length).find? (fun i => (tg t (i % 5) (b.getD i 0)).isNone) with
  | some i => some i
  | none => if b.length = 0 ∨ b.length % 5 = 4 then none else some b.length
def itm (t : Nat) (b : List Nat) : Nat := if fpos t b = none then (b.length + 1) / 5 else 0
def fig (t : Nat) (b : List Nat) (k w : Nat) : Nat := (tg t w (b.getD (5 * k + w) 0)).getD 0
def oI (o : Option Nat) : Int32 := match o with
  | some v => nI v
  | none => -1
theorem fpos_at {t i : Nat} {b : List Nat} (hi : i < b.length) (h0 : tg t (i % 5) (b.getD i 0) = none) (h1 : ∀ j, j < i → tg t (j % 5) (b.getD j 0) ≠ none) : fpos t b = some i := by
  have : (List.range b.length).find? (fun i => (tg t (i % 5) (b.getD i 0)).isNone) = some i := by
    rw [List.find?_range_eq_some]
    refine ⟨by rw [h0]; rfl, List.mem_range.mpr hi, fun j hj => ?_⟩
    have := h1 j hj
    cases h : tg t (j % 5) (b.getD j 0) with
    | none => exact absurd h this
    | some v => simp
  unfold fpos
  rw [this]
theorem fpos_end {t : Nat} {b : List Nat} (h1 : ∀ j, j < b.length → tg t (j % 5) (b.getD j 0) ≠ none) : fpos t b = if b.length = 0 ∨ b.length % 5 = 4 then none else some b.length := by
  have : (List.range b.length).find? (fun i => (tg t (i % 5) (b.getD i 0)).isNone) = none := by
    rw [List.find?_eq_none]
    intro j hj
    have := h1 j (List.mem_range.mp hj)
    cases h : tg t (j % 5) (b.getD j 0) with
    | none => exact absurd h this
    | some v => simp
  unfold fpos
  rw [this]
theorem fpos_none {t : Nat} {b : List Nat} (h : fpos t b = none) : (∀ j, j < b.length → tg t (j % 5) (b.getD j 0) ≠ none) ∧ (b.length = 0 ∨ b.length % 5 = 4) := by
  unfold fpos at h
  cases hf : (List.range b.length).find? (fun i => (tg t (i % 5) (b.getD i 0)).isNone) with
  | some i => rw [hf] at h; cases h
  | none =>
    rw [hf] at h
    rw [List.find?_eq_none] at hf
    refine ⟨fun j hj e => hf j (List.mem_range.mpr hj) (by rw [e]; rfl), ?_⟩
    by_cases hc : b.length = 0 ∨ b.length % 5 = 4
    · exact hc
    · simp only [if_neg hc] at h; cases h
theorem nI_eqL {b n : Nat} (hb : b < 2 ^ 31) (hn : n < 2 ^ 31) : (nI b = (OfNat.ofNat n : Int32)) ↔ b = n := nI_eq hb hn
theorem nI_irem {a d : Nat} (ha : a < 2 ^ 31) (h0 : 0 < d) (hd : d < 2 ^ 31) : nI a - nI a / nI d * nI d = nI (a % d) := pk_rem ha h0 hd
theorem e8_shapeOf {t b : Nat} (ht : t < 2) (hb : b < 256) (σ : St) : M8_shapeOf (nI t) (nI b) σ = some (tI (tg t 0 b), σ) := by
  unfold M8_shapeOf
  congr 2
  simp only [nI_eqL (show b < 2 ^ 31 by omega) (show 114 < 2 ^ 31 by decide), nI_eqL (show b < 2 ^ 31 by omega) (show 115 < 2 ^ 31 by decide), nI_eqL (show b < 2 ^ 31 by omega) (show 108 < 2 ^ 31 by decide), nI_eqL (show b < 2 ^ 31 by omega) (show 97 < 2 ^ 31 by decide), nI_eqL (show t < 2 ^ 31 by omega) (show 1 < 2 ^ 31 by decide)]
  unfold tg
  by_cases h1 : b = 114 <;> by_cases h2 : b = 115 <;> by_cases h3 : b = 108 <;> by_cases h4 : b = 97 <;> by_cases h5 : t = 1 <;> simp_all [tI] <;> rfl
theorem e8_fromJ {least b : Nat} (hl : least < 2) (hb : b < 256) (σ : St) : M8_tellsOf_J57 (nI b) (nI least) σ = some (tI (dig least b), σ) := by
  unfold M8_tellsOf_J57
  have h1 : ((48 + nI least : Int32).toInt64).toInt = ((48 + least : Nat) : Int) := by
    rw [Int32.toInt_toInt64, show (48 : Int32) = nI 48 from rfl, nI_add, nI_toInt (by omega)]
  rw [e8_inx (nI b) _ _ σ h1 (b := 57) rfl, bind_s, nI_toInt (by omega)]
  unfold dig
  by_cases h : 48 + least ≤ b ∧ b ≤ 57
  · rw [if_pos (show ((48 + least : Nat) : Int) ≤ (b : Int) ∧ (b : Int) ≤ 57 by omega), if_pos h]
    show some (nI b - nI 48, σ) = _
    rw [pk_sub (by omega)]; rfl
  · rw [if_neg (show ¬ (((48 + least : Nat) : Int) ≤ (b : Int) ∧ (b : Int) ≤ 57) by omega), if_neg h]; rfl
theorem e8_tellsOf {t k b : Nat} (ht : t < 2) (hk : k < 5) (hb : b < 256) (σ : St) : M8_tellsOf (nI t) (nI k) (nI b) σ = some (tI (tg t k b), σ) := by
  have hJ1 : M8_tellsOf_J57 (nI b) 1 σ = _ := e8_fromJ (least := 1) (by decide) hb σ
  have hJ0 : M8_tellsOf_J57 (nI b) 0 σ = _ := e8_fromJ (least := 0) (by decide) hb σ
  unfold M8_tellsOf M8_tellsOf_J42 M8_tellsOf_J52 M8_tellsOf_J56
  rw [e8_shapeOf ht hb, hJ1, hJ0]
  rcases (show k = 0 ∨ k = 1 ∨ k = 2 ∨ k = 3 ∨ k = 4 by omega) with rfl | rfl | rfl | rfl | rfl <;> rcases (show t = 0 ∨ t = 1 by omega) with rfl | rfl
  all_goals first | rfl | skip
  all_goals
    show some (if nI b = 59 then (0 : Int32) else -9, σ) = _
    rw [itx (nI_eqL (show b < 2 ^ 31 by omega) (show 59 < 2 ^ 31 by decide))]
    unfold tg
    by_cases h : b = 59 <;> simp [h, tI] <;> rfl
theorem tI_m9 {o : Option Nat} (h : ∀ v, o = some v → v < 2 ^ 31) : tI o = -9 ↔ o = none := by
  cases o with
  | none => simp [tI]
  | some v =>
    have := h v rfl
    simp only [tI, reduceCtorEq, iff_false]
    rw [i32_eq, nI_toInt this]; intro e; have : (-9 : Int32).toInt = -9 := rfl; omega
theorem tg_lt {t k b v : Nat} (h : tg t k b = some v) : v < 10 := by
  unfold tg dig at h
  split at h
  · split at h
    · cases h; decide
    · split at h
      · cases h; decide
      · split at h
        · cases h; decide
        · split at h
          · cases h; decide
          · cases h
  · split at h
    · split at h
      · cases h; decide
      · cases h
    · split at h
      · split at h
        · cases h; omega
        · cases h
      · split at h
        · split at h
          · cases h; omega
          · cases h
        · split at h
          · cases h; omega
          · cases h
/-- text t of the reference -/
def tM (σ : St) (t : Nat) (b : List Nat) : Prop := σ 6 t = nI b.length ∧ b.length ≤ 39 ∧ (∀ i, i < b.length → σ 5 (40 * t + i) = nI (b.getD i 0)) ∧ ∀ i, b.getD i 0 < 256
theorem tg_ok {t k b : Nat} : ∀ v, tg t k b = some v → v < 2 ^ 31 := fun v h => by have := tg_lt h; omega
/-- what the reference has read of text t -/
def rdM (σ : St) (t : Nat) (b : List Nat) : Prop := σ 7 t = nI (itm t b) ∧ ∀ k w, k < itm t b → w < 4 → σ 8 (32 * t + 4 * k + w) = nI (fig t b k w)
def frM (t : Nat) (σ σ' : St) : Prop := (∀ c, c ≠ 7 → c ≠ 8 → σ' c = σ c) ∧ (∀ j, j ≠ t → σ' 7 j = σ 7 j) ∧ ∀ j, (j < 32 * t ∨ 32 * t + 32 ≤ j) → σ' 8 j = σ 8 j
theorem s2_eq {σ : St} {k j : Nat} {v : Int32} : s2 σ k j v k j = v := by simp [s2]
theorem s2_nj {σ : St} {k j i : Nat} {v : Int32} (h : i ≠ j) : s2 σ k j v k i = σ k i := by simp [s2, h]
theorem s2_nk {σ : St} {k j c i : Nat} {v : Int32} (h : c ≠ k) : s2 σ k j v c i = σ c i := by simp [s2, h]
theorem l8_reads {t : Nat} {b : List Nat} (ht : t < 2) {kx : St → Option (Int32 × St)} {P : Int32 → St → Prop} {σ0 : St} (hT : tM σ0 t b)
    (hx : ∀ σ, frM t σ0 σ → (∀ j, j < b.length → tg t (j % 5) (b.getD j 0) ≠ none) → σ 7 t = nI ((b.length + 1) / 5) → (∀ j, j < b.length → j % 5 < 4 → σ 8 (32 * t + 4 * (j / 5) + j % 5) = tI (tg t (j % 5) (b.getD j 0))) → Ok (kx σ) P)
    (hf : ∀ i σ, i < b.length → frM t σ0 σ → tg t (i % 5) (b.getD i 0) = none → (∀ j, j < i → tg t (j % 5) (b.getD j 0) ≠ none) → σ 7 t = 0 → P (nI i) σ) :
    ∀ (n i : Nat) (σ : St), i ≤ b.length → b.length + 1 ≤ n + i → frM t σ0 σ → (∀ j, j < i → tg t (j % 5) (b.getD j 0) ≠ none) → σ 7 t = nI ((i + 1) / 5) → (∀ j, j < i → j % 5 < 4 → σ 8 (32 * t + 4 * (j / 5) + j % 5) = tI (tg t (j % 5) (b.getD j 0))) → Ok (M8_readsText_L16 (nI t) (nI b.length) kx n (nI i) σ) P := by
  obtain ⟨hT1, hT2, hT3, hT4⟩ := hT
  intro n
  induction n with
  | zero => intro i σ h1 h2; omega
  | succ n ih =>
    intro i σ hi hn hF hg h7 h8
    rw [M8_readsText_L16]
    by_cases he : i = b.length
    · subst he
      refine ok_T ((nI_leI (by omega) (by omega)).mpr (Nat.le_refl _)) ?_
      exact hx σ hF hg h7 h8
    · have hlt : i < b.length := by omega
      refine ok_F (fun q => he (by have := (nI_leI (by omega) (by omega)).mp q; omega)) ?_
      rw [ok_lt, show (5 : Int32) = nI 5 from rfl, pk_rem (by omega) (by decide) (by decide)]
      have e1 : (40 : Int32) * nI t + nI i = nI (40 * t + i) := by rw [show (40 : Int32) = nI 40 from rfl, pk_mul, nI_add]
      rw [e1]
      refine ok_T ((inb_nI (by omega)).mpr (by omega)) ?_
      have e2 : σ 5 (nI (40 * t + i)).toNatClampNeg = nI (b.getD i 0) := by
        rw [nI_clamp (by omega), hF.1 5 (by decide) (by decide), hT3 i hlt]
      rw [e2, e8_tellsOf ht (Nat.mod_lt _ (by decide)) (hT4 i), bind_s]
      by_cases hw : tg t (i % 5) (b.getD i 0) = none
      · refine ok_T ((tI_m9 tg_ok).mpr hw) ?_
        refine ok_T ((inb_nI (by omega)).mpr (by omega)) ?_
        rw [ok_lt, ok_some, nI_clamp (by omega)]
        refine hf i _ hlt ⟨fun c h1 h2 => ?_, fun j hj => ?_, fun j hj => ?_⟩ hw hg s2_eq
        · rw [s2_ne h1]; exact hF.1 c h1 h2
        · rw [s2_nj hj]; exact hF.2.1 j hj
        · rw [s2_nk (by decide)]; exact hF.2.2 j hj
      · refine ok_F (fun q => hw ((tI_m9 tg_ok).mp q)) ?_
        have hJ : ∀ σ, frM t σ0 σ → σ 7 t = nI ((i + 1) / 5) → (∀ j, j < i + 1 → j % 5 < 4 → σ 8 (32 * t + 4 * (j / 5) + j % 5) = tI (tg t (j % 5) (b.getD j 0))) → Ok (M8_readsText_J87 (fun x3 σ => M8_readsText_L16 (nI t) (nI b.length) kx n x3 σ) (nI t) (nI b.length) (nI i) (nI (i % 5)) σ) P := by
          intro σ hF h7 h8
          unfold M8_readsText_J87 M8_readsText_J105
          refine ok_T ((inb_nI (by omega)).mpr (by omega)) ?_
          refine ok_T ((inb_nI (by omega)).mpr (by show t < ln 7; exact ht)) ?_
          rw [ok_lt, ok_lt, nI_clamp (by omega), show (1 : Int32) = nI 1 from rfl, nI_add, h7]
          have e4 : nI ((i + 1) / 5) + (if nI (i % 5) = 3 then nI 1 else 0) = nI ((i + 1 + 1) / 5) := by
            rw [itx (nI_eqL (n := 3) (by omega) (by decide))]
            by_cases h3 : i % 5 = 3
            · rw [if_pos h3, nI_add]; congr 1; omega
            · rw [if_neg h3, show (0 : Int32) = nI 0 from rfl, nI_add]; congr 1; omega
          rw [e4]
          refine ih (i + 1) _ (by omega) (by omega) ⟨fun c h1 h2 => ?_, fun j hj => ?_, fun j hj => ?_⟩ (fun j hj => ?_) s2_eq (fun j hj hj2 => ?_)
          · rw [s2_ne h1]; exact hF.1 c h1 h2
          · rw [s2_nj hj]; exact hF.2.1 j hj
          · rw [s2_nk (by decide)]; exact hF.2.2 j hj
          · rcases Nat.lt_or_ge j i with q | q
            · exact hg j q
            · rw [show j = i by omega]; exact hw
          · rw [s2_nk (by decide)]; exact h8 j hj hj2
        by_cases h4 : i % 5 = 4
        · refine ok_T ((nI_leI (a := 4) (by decide) (by omega)).mpr (by omega)) ?_
          refine hJ σ hF h7 (fun j hj hj2 => h8 j ?_ hj2)
          rcases Nat.lt_or_ge j i with q | q
          · exact q
          · rw [show j = i by omega] at hj2; omega
        · refine ok_F (fun q => by have := (nI_leI (a := 4) (by decide) (by omega)).mp q; omega) ?_
          have e5 : (32 : Int32) * nI t + 4 * (nI i / nI 5) + nI (i % 5) = nI (32 * t + 4 * (i / 5) + i % 5) := by
            rw [pk_div (by omega) (by decide) (by decide), show (32 : Int32) = nI 32 from rfl, show (4 : Int32) = nI 4 from rfl, pk_mul, pk_mul, nI_add, nI_add]
          rw [e5]
          refine ok_T ((inb_nI (by omega)).mpr (by omega)) ?_
          rw [ok_lt, nI_clamp (by omega)]
          refine hJ _ ⟨fun c h1 h2 => ?_, fun j hj => ?_, fun j hj => ?_⟩ ?_ (fun j hj hj2 => ?_)
          · rw [s2_ne h2]; exact hF.1 c h1 h2
          · rw [s2_nk (by decide)]; exact hF.2.1 j hj
          · rw [s2_nj (by omega)]; exact hF.2.2 j hj
          · rw [s2_nk (by decide)]; exact h7
          · by_cases hji : j = i
            · subst hji; exact s2_eq
            · rw [s2_nj (by omega)]; exact h8 j (by omega) hj2
theorem t8_readsText {t : Nat} {b : List Nat} {σ0 : St} (ht : t < 2) (hT : tM σ0 t b) : Ok (M8_readsText (nI t) σ0) (fun r σ => r = oI (fpos t b) ∧ frM t σ0 σ ∧ rdM σ t b) := by
  obtain ⟨hT1, hT2, hT3, hT4⟩ := id hT
  unfold M8_readsText
  refine ok_T ((inb_nI (by omega)).mpr (by omega)) ?_
  rw [ok_lt, ok_lt, nI_clamp (by omega), s2_nk (show 6 ≠ 7 by decide), hT1]
  have hF : frM t σ0 (s2 σ0 7 t 0) := ⟨fun c h1 h2 => s2_ne h1, fun j hj => s2_nj hj, fun j hj => s2_nk (by decide)⟩
  refine l8_reads ht hT ?_ ?_ FU 0 (s2 σ0 7 t 0) (Nat.zero_le _) (by unfold FU; omega) hF (fun j hj => by omega) s2_eq (fun j hj => by omega)
  · intro σ hF hg h7 h8
    have hfe := fpos_end hg
    have hrd : ∀ k w, k < (b.length + 1) / 5 → w < 4 → b.length % 5 = 4 → σ 8 (32 * t + 4 * k + w) = nI (fig t b k w) := by
      intro k w hk hw hl
      have h := h8 (5 * k + w) (by omega) (by omega)
      rw [show (5 * k + w) / 5 = k by omega, show (5 * k + w) % 5 = w by omega] at h
      rw [h]
      have hn := hg (5 * k + w) (by omega)
      rw [show (5 * k + w) % 5 = w by omega] at hn
      unfold fig
      cases e : tg t w (b.getD (5 * k + w) 0) with
      | none => exact absurd e hn
      | some v => rfl
    by_cases h0 : b.length = 0
    · refine ok_T ((nI_leI (b := 0) (by omega) (by decide)).mpr (by omega)) ?_
      rw [ok_some]
      have hfp : fpos t b = none := by rw [hfe, if_pos (Or.inl h0)]
      refine ⟨by rw [hfp]; rfl, hF, ?_, fun k w hk hw => ?_⟩
      · rw [h7]; unfold itm; rw [if_pos hfp]
      · unfold itm at hk; rw [if_pos hfp] at hk; omega
    · refine ok_F (fun q => h0 (by have := (nI_leI (b := 0) (by omega) (by decide)).mp q; omega)) ?_
      rw [show (5 : Int32) = nI 5 from rfl, pk_rem (by omega) (by decide) (by decide)]
      by_cases h4 : b.length % 5 = 4
      · refine ok_T ((nI_eqL (n := 4) (by omega) (by decide)).mpr h4) ?_
        rw [ok_some]
        have hfp : fpos t b = none := by rw [hfe, if_pos (Or.inr h4)]
        refine ⟨by rw [hfp]; rfl, hF, ?_, fun k w hk hw => ?_⟩
        · rw [h7]; unfold itm; rw [if_pos hfp]
        · unfold itm at hk; rw [if_pos hfp] at hk; exact hrd k w hk hw h4
      · refine ok_F (fun q => h4 ((nI_eqL (n := 4) (by omega) (by decide)).mp q)) ?_
        rw [ok_lt, ok_some]
        have hfp : fpos t b = some b.length := by rw [hfe, if_neg (by omega)]
        have hi0 : itm t b = 0 := by unfold itm; rw [hfp]; simp
        refine ⟨by rw [hfp]; rfl, ⟨fun c h1 h2 => ?_, fun j hj => ?_, fun j hj => ?_⟩, ?_, fun k w hk hw => ?_⟩
        · rw [s2_ne h1]; exact hF.1 c h1 h2
        · rw [s2_nj hj]; exact hF.2.1 j hj
        · rw [s2_nk (by decide)]; exact hF.2.2 j hj
        · rw [s2_eq, hi0]; rfl
        · omega
  · intro i σ hi hF hw hg h7
    have hfp := fpos_at hi hw hg
    have hi0 : itm t b = 0 := by unfold itm; rw [hfp]; simp
    exact ⟨by rw [hfp]; rfl, hF, by rw [h7, hi0]; rfl, fun k w hk _ => by omega⟩
theorem tM.frame {t t' : Nat} {b : List Nat} {σ σ' : St} (h : tM σ t b) (hF : frM t' σ σ') : tM σ' t b := by
  obtain ⟨h1, h2, h3, h4⟩ := h
  exact ⟨by rw [hF.1 6 (by decide) (by decide)]; exact h1, h2, fun i hi => by rw [hF.1 5 (by decide) (by decide)]; exact h3 i hi, h4⟩
/-- the reference reads both texts -/
def frR (σ σ' : St) : Prop := ∀ c, c ≠ 7 → c ≠ 8 → σ' c = σ c
theorem itm_le {t : Nat} {b : List Nat} (h : b.length ≤ 39) : itm t b ≤ 8 := by
  unfold itm; split <;> omega
theorem t8_reads {b0 b1 : List Nat} {σ0 : St} (h0 : tM σ0 0 b0) (h1 : tM σ0 1 b1) : Ok (M8_reads σ0) (fun _ σ => frR σ0 σ ∧ rdM σ 0 b0 ∧ rdM σ 1 b1) := by
  unfold M8_reads
  refine ok_call (t8_readsText (t := 0) (by decide) h0) ?_
  rintro r σ ⟨-, hF, hr⟩
  refine ok_call (t8_readsText (t := 1) (by decide) (h1.frame hF)) ?_
  rintro r2 σ2 ⟨-, hF2, hr2⟩
  rw [ok_some]
  refine ⟨fun c q1 q2 => ?_, ⟨?_, fun k w hk hw => ?_⟩, hr2⟩
  · rw [hF2.1 c q1 q2, hF.1 c q1 q2]
  · rw [hF2.2.1 0 (by decide)]; exact hr.1
  · have := itm_le (t := 0) h0.2.1
    rw [hF2.2.2 (32 * 0 + 4 * k + w) (by omega)]; exact hr.2 k w hk hw
-- the class's text: t = 26 + 3 i
theorem idx_loop (o0 : Nat) (x4 : Int32) (σ : St) (ho : isByt o0) (n : Nat) : MJ1_indexOfChar_4cfef_L7 o0 (nI (bln o0)) x4 (fun σ => some (-1, σ)) (n + 5) 0 σ = some (if (114 : Int32) = x4 then 0 else if (115 : Int32) = x4 then 1 else if (108 : Int32) = x4 then 2 else if o0 = 101 ∧ (97 : Int32) = x4 then 3 else -1, σ) := by
  rcases ho with rfl | rfl
  · rw [MJ1_indexOfChar_4cfef_L7, if_neg (by decide), if_pos (by decide)]
    by_cases h1 : (114 : Int32) = x4
    · rw [if_pos h1]; exact if_pos h1
    · rw [if_neg h1, if_neg (show ¬ bch 100 (0 : Int32).toNatClampNeg = x4 from h1)]
      simp only [lt]; rw [show (0 : Int32) + 1 = 1 by decide]
      rw [MJ1_indexOfChar_4cfef_L7, if_neg (by decide), if_pos (by decide)]
      by_cases h2 : (115 : Int32) = x4
      · rw [if_pos h2]; exact if_pos h2
      · rw [if_neg h2, if_neg (show ¬ bch 100 (1 : Int32).toNatClampNeg = x4 from h2)]
        simp only [lt]; rw [show (1 : Int32) + 1 = 2 by decide]
        rw [MJ1_indexOfChar_4cfef_L7, if_neg (by decide), if_pos (by decide)]
        by_cases h3 : (108 : Int32) = x4
        · rw [if_pos h3]; exact if_pos h3
        · rw [if_neg h3, if_neg (show ¬ bch 100 (2 : Int32).toNatClampNeg = x4 from h3)]
          simp only [lt]; rw [show (2 : Int32) + 1 = 3 by decide]
          rw [MJ1_indexOfChar_4cfef_L7, if_pos (by decide)]; simp
  · rw [MJ1_indexOfChar_4cfef_L7, if_neg (by decide), if_pos (by decide)]
    by_cases h1 : (114 : Int32) = x4
    · rw [if_pos h1]; exact if_pos h1
    · rw [if_neg h1, if_neg (show ¬ bch 101 (0 : Int32).toNatClampNeg = x4 from h1)]
      simp only [lt]; rw [show (0 : Int32) + 1 = 1 by decide]
      rw [MJ1_indexOfChar_4cfef_L7, if_neg (by decide), if_pos (by decide)]
      by_cases h2 : (115 : Int32) = x4
      · rw [if_pos h2]; exact if_pos h2
      · rw [if_neg h2, if_neg (show ¬ bch 101 (1 : Int32).toNatClampNeg = x4 from h2)]
        simp only [lt]; rw [show (1 : Int32) + 1 = 2 by decide]
        rw [MJ1_indexOfChar_4cfef_L7, if_neg (by decide), if_pos (by decide)]
        by_cases h3 : (108 : Int32) = x4
        · rw [if_pos h3]; exact if_pos h3
        · rw [if_neg h3, if_neg (show ¬ bch 101 (2 : Int32).toNatClampNeg = x4 from h3)]
          simp only [lt]; rw [show (2 : Int32) + 1 = 3 by decide]
          rw [MJ1_indexOfChar_4cfef_L7, if_neg (by decide), if_pos (by decide)]
          by_cases h4 : (97 : Int32) = x4
          · rw [if_pos (show bch 101 (3 : Int32).toNatClampNeg = x4 from h4)]; simp [h4]
          · rw [if_neg (show ¬ bch 101 (3 : Int32).toNatClampNeg = x4 from h4)]
            simp only [lt]; rw [show (3 : Int32) + 1 = 4 by decide]
            rw [MJ1_indexOfChar_4cfef_L7, if_pos (by decide)]; simp [h4]
theorem byte_eq : ∀ b : Fin 256, ((114 : Int32) = (nI b.val).toInt8.toInt32 ↔ b.val = 114) ∧ ((115 : Int32) = (nI b.val).toInt8.toInt32 ↔ b.val = 115) ∧ ((108 : Int32) = (nI b.val).toInt8.toInt32 ↔ b.val = 108) ∧ ((97 : Int32) = (nI b.val).toInt8.toInt32 ↔ b.val = 97) := by decide +kernel
theorem char_eq : ∀ b : Fin 256, (((nI b.val).toUInt32 % 65536).toInt32 = nI b.val) := by decide +kernel
theorem e_idx {t b : Nat} (ht : t < 2) (hb : b < 256) (σ : St) : MJ0_indexOf_0f7a4 (98 + t) (nI b) σ = some (oI (tg t 0 b), σ) := by
  unfold MJ0_indexOf_0f7a4 MJ0_indexOf_7cf53 MJ0_isLatin1_aae02 MJ0_length_8abf5 MJ0_coder_7d493 MJ1_indexOf_4cfef MJ1_canEncode_9a6ad MJ1_indexOfChar_4cfef
  simp only [bind_s]
  rw [if_neg (by decide)]
  have hsh : ∀ x : Nat, x < 2 → (nI (bln (98 + x + 2)) >>> ((0 : Int32) &&& 31)) = nI (bln (100 + x)) := by
    intro x hx
    rcases (show x = 0 ∨ x = 1 by omega) with rfl | rfl <;> decide
  rw [hsh t ht]
  have c1 : ¬ nI b < 0 := nI_pos (by omega)
  have c2 : ¬ (255 : Int32) < nI b := nI_nlt (a := 255) (by omega) (by decide)
  rw [if_neg c1, if_neg c2, if_neg (by decide)]
  simp only [lt]
  have hbl : ¬ nI (bln (98 + t + 2)) < nI (bln (100 + t)) := by
    rw [show 98 + t + 2 = 100 + t by omega]
    rcases (show t = 0 ∨ t = 1 by omega) with rfl | rfl <;> decide
  rw [if_neg (show ¬ (0 : Int32) < 0 by decide), if_neg hbl]
  have hpos : (0 : Int32) < nI (bln (100 + t)) := by rcases (show t = 0 ∨ t = 1 by omega) with rfl | rfl <;> decide
  rw [if_pos hpos, show 98 + t + 2 = 100 + t by omega, show FU = (FU - 5) + 5 from rfl, idx_loop (100 + t) _ σ (by rcases (show t = 0 ∨ t = 1 by omega) with rfl | rfl <;> decide) (FU - 5)]
  simp only [bind_s]
  obtain ⟨q1, q2, q3, q4⟩ := byte_eq ⟨b, hb⟩
  simp only at q1 q2 q3 q4
  simp only [q1, q2, q3, q4, show 100 + t = 101 ↔ t = 1 by omega]
  unfold tg
  clear q1 q2 q3 q4 hsh hpos hbl c1 c2
  congr 2
  by_cases h1 : b = 114
  · simp [h1, oI]; rfl
  · by_cases h2 : b = 115
    · simp [h2, oI]; rfl
    · by_cases h3 : b = 108
      · simp [h3, oI]; rfl
      · by_cases h4 : b = 97
        · by_cases h5 : t = 1
          · simp [h4, h5, oI]; rfl
          · simp [h4, h5, oI]
        · simp [h1, h2, h3, h4, oI]
