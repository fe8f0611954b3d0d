/-- the bytes of text t of the class, at the cell o -/
def tC0 (σ : St) (t o : Nat) (b : List Nat) : Prop := o = 26 + 3 * t ∧ t < 2 ∧ σ o 5 = nI b.length ∧ b.length ≤ 39 ∧ (∀ i, i < b.length → σ (o + 1) i = nI (b.getD i 0)) ∧ (∀ i, b.getD i 0 < 256) ∧ σ o 1 = nI (1 - t) ∧ σ o 2 = nI t
def tC (σ : St) (t o : Nat) (b : List Nat) : Prop := tC0 σ t o b ∧ σ o 6 = oI (fpos t b) ∧ σ o 7 = nI (itm t b) ∧ ∀ k w, k < itm t b → w < 4 → σ (o + 2) (4 * k + w) = nI (fig t b k w)
theorem e6_from {least b : Nat} (hl : least < 2) (hb : b < 256) (σ : St) : M6_isFigureFrom (nI least) (nI b) σ = some (if dig least b = none then 0 else 1, σ) := by
  unfold M6_isFigureFrom
  rw [show (48 : Int32) = nI 48 from rfl, nI_add, show (57 : Int32) = nI 57 from rfl, it2 (e := 48 + least ≤ b ∧ b ≤ 57) (by rw [nI_ltI (by omega) (by omega), nI_ltI (by omega) (by omega)]; omega)]
  unfold dig
  by_cases h : 48 + least ≤ b ∧ b ≤ 57
  · rw [if_pos h, if_pos h]; rfl
  · rw [if_neg h, if_neg h]; rfl
theorem oI_neg {o : Option Nat} (h : ∀ v, o = some v → v < 2 ^ 31) : oI o < 0 ↔ o = none := by
  cases o with
  | none => simp [oI]
  | some v =>
    have := h v rfl
    simp only [oI, reduceCtorEq, iff_false]
    exact nI_pos this
theorem oI_m1 {o : Option Nat} (h : ∀ v, o = some v → v < 2 ^ 31) : oI o = -1 ↔ o = none := by
  cases o with
  | none => simp [oI]
  | some v =>
    have := h v rfl
    simp only [oI, reduceCtorEq, iff_false]
    exact nI_m1 this
theorem e6_goesOnAt {t o i : Nat} {b : List Nat} {σ : St} (hT : tC0 σ t o b) (hi : i < b.length) : M6_goesOnAt o (nI i) σ = some (if tg t (i % 5) (b.getD i 0) = none then 0 else 1, σ) := by
  obtain ⟨rfl, ht, h5, hl, hb, hb2, h1, h2⟩ := hT
  unfold M6_goesOnAt
  rw [if_pos ((inb_nI (by omega)).mpr (by omega))]
  simp only [lt]
  have hbi := hb2 i
  rw [nI_clamp (by omega), hb i hi, show (5 : Int32) = nI 5 from rfl, pk_rem (by omega) (by decide) (by decide), h1, h2, show 98 + (26 + 3 * t - 26) / 3 = 98 + t by omega, char_eq ⟨b.getD i 0, hbi⟩]
  show (if nI (i % 5) = nI 0 then bd (MJ0_indexOf_0f7a4 (98 + t) (nI (b.getD i 0)) σ) _ else if nI (i % 5) = nI 1 then bd (M6_isFigureFrom (nI 1) _ _) _ else if nI (i % 5) = nI 2 then _ else if nI (i % 5) = nI 3 then _ else _) = _
  rw [e_idx ht hbi, e6_from (by decide) hbi, e6_from (by omega) hbi, e6_from (by omega) hbi]
  simp only [bind_s]
  have hm := Nat.mod_lt i (show 0 < 5 by decide)
  generalize hk : i % 5 = k at hm
  generalize hx : b.getD i 0 = x at hbi
  rcases (show k = 0 ∨ k = 1 ∨ k = 2 ∨ k = 3 ∨ k = 4 by omega) with rfl | rfl | rfl | rfl | rfl
  · rw [if_pos rfl, itx (oI_neg tg_ok)]
  · rw [if_neg (by decide), if_pos rfl]
    show (if (if dig 1 x = none then (0 : Int32) else 1) = 0 ∨ _ then _ else _) = some (if dig 1 x = none then 0 else 1, σ)
    by_cases h : dig 1 x = none <;> simp [h]
  · rw [if_neg (by decide), if_neg (by decide), if_pos rfl]
    show (if (if dig (1 - t) x = none then (0 : Int32) else 1) = 0 ∨ _ then _ else _) = some (if dig (1 - t) x = none then 0 else 1, σ)
    by_cases h : dig (1 - t) x = none <;> simp [h]
  · rw [if_neg (by decide), if_neg (by decide), if_neg (by decide), if_pos rfl]
    show (if (if dig t x = none then (0 : Int32) else 1) = 0 ∨ _ then _ else _) = some (if dig t x = none then 0 else 1, σ)
    by_cases h : dig t x = none <;> simp [h]
  · rw [if_neg (by decide), if_neg (by decide), if_neg (by decide), if_neg (by decide), itx (nI_eqL (n := 59) (show x < 2 ^ 31 by omega) (by decide))]
    show some (_, σ) = some (if (if x = 59 then some 0 else none) = none then 0 else 1, σ)
    by_cases h : x = 59 <;> simp [h]
theorem e6_firstFault {t o : Nat} {b : List Nat} {σ : St} (hT : tC0 σ t o b) : M6_firstFault o σ = some (oI (fpos t b), σ) := by
  have hT' := hT
  obtain ⟨ho, ht, h5, hl, hb, hb2, h1, h2⟩ := hT'
  unfold M6_firstFault
  have key : ∀ (n i : Nat), i ≤ b.length → b.length + 1 ≤ n + i → (∀ j, j < i → tg t (j % 5) (b.getD j 0) ≠ none) → M6_firstFault_L2 o (fun (σ5 : St) =>
    if (σ5 o 5) = 0 then M6_firstFault_J43 σ5 else if ((σ5 o 5) - (σ5 o 5) / 5 * 5) = 4 then M6_firstFault_J43 σ5 else some (σ5 o 5, σ5)) n (nI i) σ = some (oI (fpos t b), σ) := by
    intro n
    induction n with
    | zero => intro i a c; omega
    | succ n ih =>
      intro i hi hn hg
      rw [M6_firstFault_L2, h5]
      by_cases he : i = b.length
      · rw [if_pos ((nI_leI (by omega) (by omega)).mpr (by omega))]
        unfold M6_firstFault_J43
        subst he
        rw [fpos_end hg, show (5 : Int32) = nI 5 from rfl, pk_rem (by omega) (by decide) (by decide), itx (nI_eqL (n := 0) (by omega) (by decide)), itx (nI_eqL (n := 4) (by omega) (by decide))]
        by_cases h0 : b.length = 0
        · simp [h0, oI]
        · by_cases h4 : b.length % 5 = 4
          · simp [h4, oI]
          · simp [h0, h4, oI]
      · rw [if_neg (fun q => he (by have := (nI_leI (by omega) (by omega)).mp q; omega)), e6_goesOnAt hT (by omega), bind_s]
        by_cases hw : tg t (i % 5) (b.getD i 0) = none
        · simp only [hw, if_true]
          rw [fpos_at (by omega) hw hg]; rfl
        · simp only [hw, if_false]
          rw [if_neg (by decide)]
          simp only [lt]
          rw [nI_1]
          refine ih (i + 1) (by omega) (by omega) (fun j hj => ?_)
          rcases Nat.lt_or_ge j i with q | q
          · exact hg j q
          · rw [show j = i by omega]; exact hw
  exact key FU 0 (Nat.zero_le _) (by have := FU_ge; omega) (fun j hj => by omega)
/-- what a text of the class leaves as it was -/
def frT (o : Nat) (σ σ' : St) : Prop := (∀ c, c ≠ o → c ≠ o + 2 → σ' c = σ c) ∧ ∀ j, j ≠ 6 → j ≠ 7 → σ' o j = σ o j
theorem tC0.frame {t o : Nat} {b : List Nat} {σ σ' : St} (h : tC0 σ t o b) (hF : frT o σ σ') : tC0 σ' t o b := by
  obtain ⟨ho, ht, h5, hl, hb, hb2, h1, h2⟩ := h
  exact ⟨ho, ht, by rw [hF.2 5 (by decide) (by decide)]; exact h5, hl, fun i hi => by rw [hF.1 (o + 1) (by omega) (by omega)]; exact hb i hi, hb2, by rw [hF.2 1 (by decide) (by decide)]; exact h1, by rw [hF.2 2 (by decide) (by decide)]; exact h2⟩
theorem t6_parse {t o : Nat} {b : List Nat} {σ0 : St} (hT : tC0 σ0 t o b) : Ok (M6_parse o σ0) (fun _ σ => frT o σ0 σ ∧ tC σ t o b) := by
  have hT' := hT
  obtain ⟨ho, ht, h5, hl, hb, hb2, h1, h2⟩ := hT'
  unfold M6_parse
  rw [e6_firstFault hT, bind_s, ok_lt]
  unfold M6_parse_J29
  rw [ok_lt]
  have hfl : ∀ v, fpos t b = some v → v < 2 ^ 31 := by
    intro v hv
    unfold fpos at hv
    split at hv
    · rename_i i hi
      have := List.mem_range.mp (List.mem_of_find?_eq_some hi)
      cases hv; omega
    · split at hv
      · cases hv
      · cases hv; omega
  have e7 : (if (s2 σ0 o 6 (oI (fpos t b)) o 6) = (-1) then ((s2 σ0 o 6 (oI (fpos t b)) o 5) + 1) / 5 else 0) = nI (itm t b) := by
    rw [s2_eq, s2_nj (by decide), h5, itx (oI_m1 hfl), nI_1, show (5 : Int32) = nI 5 from rfl, pk_div (by omega) (by decide) (by decide)]
    unfold itm
    by_cases h : fpos t b = none
    · rw [if_pos h, if_pos h]
    · rw [if_neg h, if_neg h]; rfl
  rw [e7]
  generalize hm : itm t b = m
  have hm8 : m ≤ 8 := by rw [← hm]; exact itm_le hl
  have hlen : m ≠ 0 → (∀ j, j < b.length → tg t (j % 5) (b.getD j 0) ≠ none) ∧ 5 * m = b.length + 1 := by
    intro h0
    by_cases hf : fpos t b = none
    · obtain ⟨g1, g2⟩ := fpos_none hf
      unfold itm at hm; rw [if_pos hf] at hm
      exact ⟨g1, by omega⟩
    · unfold itm at hm; rw [if_neg hf] at hm; omega
  have hval : ∀ k w, k < m → w < 4 → tg t w (b.getD (5 * k + w) 0) = some (fig t b k w) := by
    intro k w hk hw
    obtain ⟨g1, g2⟩ := hlen (by omega)
    have hn := g1 (5 * k + w) (by omega)
    rw [show (5 * k + w) % 5 = w by omega] at hn
    unfold fig
    cases e : tg t w (b.getD (5 * k + w) 0) with
    | none => exact absurd e hn
    | some v => rfl
  have hdg : ∀ k w, k < m → 0 < w → w < 4 → 48 + fig t b k w = b.getD (5 * k + w) 0 := by
    intro k w hk h0 hw
    have h := hval k w hk hw
    have hd : ∀ l x f : Nat, dig l x = some f → 48 + f = x := by
      intro l x f hh
      unfold dig at hh
      split at hh
      · cases hh; omega
      · cases hh
    rcases (show w = 1 ∨ w = 2 ∨ w = 3 by omega) with rfl | rfl | rfl
    · exact hd 1 _ _ h
    · exact hd (1 - t) _ _ h
    · exact hd t _ _ h
  have hF0 : frT o σ0 (s2 (s2 σ0 o 6 (oI (fpos t b))) o 7 (nI m)) := ⟨fun c q1 q2 => by rw [s2_ne q1, s2_ne q1], fun j q1 q2 => by rw [s2_nj q2, s2_nj q1]⟩
  -- the inner loop
  have inner : ∀ (k : Nat), k < m → ∀ (kx : St → Option (Unit × St)) (P : Unit → St → Prop) (n w : Nat) (σ : St), 1 ≤ w → w ≤ 4 → 5 ≤ n + w → frT o σ0 σ → (∀ σ', frT o σ0 σ' → σ' o 6 = σ o 6 → σ' o 7 = σ o 7 → (∀ k' w', k' < k → w' < 4 → σ' (o + 2) (4 * k' + w') = σ (o + 2) (4 * k' + w')) → (∀ w', w' < w → σ' (o + 2) (4 * k + w') = σ (o + 2) (4 * k + w')) → (∀ w', w ≤ w' → w' < 4 → σ' (o + 2) (4 * k + w') = nI (fig t b k w')) → Ok (kx σ') P) → Ok (M6_parse_L70 o (nI k) kx n (nI w) σ) P := by
    intro k hk kx P n
    induction n with
    | zero => intro w σ a c d; omega
    | succ n ih =>
      intro w σ h1w hw4 hn hF hx
      rw [M6_parse_L70]
      by_cases he : w = 4
      · refine ok_T ((nI_leI (a := 4) (by decide) (by omega)).mpr (by omega)) ?_
        exact hx σ hF rfl rfl (fun _ _ _ _ => rfl) (fun _ _ => rfl) (fun w' q1 q2 => by omega)
      · refine ok_F (fun q => by have := (nI_leI (a := 4) (by decide) (by omega)).mp q; omega) ?_
        have hlm := (hlen (by omega)).2
        have e1 : nI k * 5 + nI w = nI (k * 5 + w) := by rw [show (5 : Int32) = nI 5 from rfl, pk_mul, nI_add]
        have e2 : nI k * 4 + nI w = nI (k * 4 + w) := by rw [show (4 : Int32) = nI 4 from rfl, pk_mul, nI_add]
        rw [e1, e2]
        refine ok_T ((inb_nI (by omega)).mpr (by omega)) ?_
        refine ok_T ((inb_nI (by omega)).mpr (by omega)) ?_
        rw [ok_lt, ok_lt, nI_clamp (by omega), nI_clamp (by omega), nI_1]
        have e3 : σ (o + 1) (k * 5 + w) - 48 = nI (fig t b k w) := by
          rw [hF.1 (o + 1) (by omega) (by omega), hb (k * 5 + w) (by omega), show k * 5 + w = 5 * k + w by omega, ← hdg k w hk (by omega) (by omega), show (48 : Int32) = nI 48 from rfl, pk_sub (by omega)]
          congr 1; omega
        rw [e3]
        refine ih (w + 1) _ (by omega) (by omega) (by omega) ⟨fun c q1 q2 => ?_, fun j q1 q2 => ?_⟩ (fun σ' hF' g6 g7 ga gb gc => ?_)
        · rw [s2_ne q2]; exact hF.1 c q1 q2
        · rw [s2_nk (by omega)]; exact hF.2 j q1 q2
        · refine hx σ' hF' (by rw [g6, s2_nk (by omega)]) (by rw [g7, s2_nk (by omega)]) (fun k' w' q1 q2 => ?_) (fun w' q => ?_) (fun w' q1 q2 => ?_)
          · rw [ga k' w' q1 q2, s2_nj (by omega)]
          · rw [gb w' (by omega), s2_nj (by omega)]
          · rcases Nat.lt_or_ge w w' with q | q
            · exact gc w' (by omega) q2
            · rw [show w' = w by omega, gb w (by omega), show 4 * k + w = k * 4 + w by omega, s2_eq]
  have outer : ∀ (n k : Nat) (σ : St), k ≤ m → m + 1 ≤ n + k → frT o σ0 σ → σ o 6 = oI (fpos t b) → σ o 7 = nI m → (∀ k' w', k' < k → w' < 4 → σ (o + 2) (4 * k' + w') = nI (fig t b k' w')) → Ok (M6_parse_L34 o (fun σ => some ((), σ)) n (nI k) σ) (fun _ σ => frT o σ0 σ ∧ tC σ t o b) := by
    intro n
    induction n with
    | zero => intro k σ a c; omega
    | succ n ih =>
      intro k σ hk hn hF g6 g7 hv
      rw [M6_parse_L34, g7]
      by_cases he : k = m
      · refine ok_T ((nI_leI (by omega) (by omega)).mpr (by omega)) ?_
        rw [ok_some]
        exact ⟨hF, hT.frame hF, g6, by rw [g7, hm], fun k' w' q1 q2 => hv k' w' (by omega) q2⟩
      · refine ok_F (fun q => he (by have := (nI_leI (by omega) (by omega)).mp q; omega)) ?_
        have hlm := (hlen (by omega)).2
        have e1 : nI k * 5 = nI (k * 5) := by rw [show (5 : Int32) = nI 5 from rfl, pk_mul]
        have e2 : nI k * 4 + 0 = nI (k * 4) := by rw [show (4 : Int32) = nI 4 from rfl, pk_mul, show (0 : Int32) = nI 0 from rfl, nI_add]; rfl
        rw [e1, e2]
        refine ok_T ((inb_nI (by omega)).mpr (by omega)) ?_
        have hbk := hb2 (k * 5)
        rw [nI_clamp (by omega), hF.1 (o + 1) (by omega) (by omega), hb (k * 5) (by omega), char_eq ⟨_, hbk⟩, show 98 + (o - 26) / 3 = 98 + t by omega, e_idx ht hbk, bind_s]
        refine ok_T ((inb_nI (by omega)).mpr (by omega)) ?_
        rw [ok_lt, nI_clamp (by omega)]
        have e3 : oI (tg t 0 (b.getD (k * 5) 0)) = nI (fig t b k 0) := by
          have := hval k 0 (by omega) (by decide)
          rw [show 5 * k + 0 = k * 5 by omega] at this
          rw [this]; rfl
        rw [e3]
        refine inner k (by omega) _ _ FU 1 _ (by decide) (by decide) (by have := FU_ge; omega) ⟨fun c q1 q2 => ?_, fun j q1 q2 => ?_⟩ (fun σ' hF' gg6 gg7 ga gb gc => ?_)
        · rw [s2_ne q2]; exact hF.1 c q1 q2
        · rw [s2_nk (by omega)]; exact hF.2 j q1 q2
        · rw [ok_lt, nI_1]
          refine ih (k + 1) σ' (by omega) (by omega) hF' (by rw [gg6, s2_nk (by omega)]; exact g6) (by rw [gg7, s2_nk (by omega)]; exact g7) (fun k' w' q1 q2 => ?_)
          rcases Nat.lt_or_ge k' k with q | q
          · rw [ga k' w' q q2, s2_nj (by omega)]; exact hv k' w' q q2
          · rw [show k' = k by omega]
            rcases Nat.eq_zero_or_pos w' with rfl | hw
            · rw [gb 0 (by decide), show 4 * k + 0 = k * 4 by omega, s2_eq]
            · exact gc w' hw q2
  exact outer FU 0 _ (Nat.zero_le _) (by have := FU_ge; omega) hF0 (by rw [s2_nj (by decide), s2_eq]) s2_eq (fun k' w' q => by omega)
