theorem lf_le {c : Nat → Bool} : ∀ j h y, h ≤ y → y < h + j → c y = true → ∃ x, lf c j h = some x ∧ x ≤ y := by
  intro j
  induction j with
  | zero => intro h y a b; omega
  | succ j ih =>
    intro h y a b q
    unfold lf
    by_cases e : c h = true
    · rw [if_pos e]; exact ⟨h, rfl, a⟩
    · rw [if_neg e]
      have : h ≠ y := fun z => e (by rw [z]; exact q)
      exact ih (h + 1) y (by omega) (by omega) q
def exF (f : Nat → Bool) : Nat → Bool
  | 0 => false
  | h + 1 => exF f h || f h
theorem exF_iff {f : Nat → Bool} : ∀ n, exF f n = true ↔ ∃ h, h < n ∧ f h = true := by
  intro n
  induction n with
  | zero => exact ⟨fun q => (by cases q), fun ⟨h, q, _⟩ => (by omega)⟩
  | succ n ih =>
    unfold exF
    rw [Bool.or_eq_true, ih]
    constructor
    · rintro (⟨h, q1, q2⟩ | q)
      · exact ⟨h, by omega, q2⟩
      · exact ⟨n, by omega, q⟩
    · rintro ⟨h, q1, q2⟩
      by_cases e : h = n
      · right; rw [← e]; exact q2
      · left; exact ⟨h, by omega, q2⟩
theorem x_served {A : AB} {B : Bk} {σ0 : St} {d w : Nat} (h0 : RX A B σ0) (hA : okAB A) (hd : d < 40) (hw : w < itm 1 (a1 A)) : Ok (M8_isServed (nI w) (nI d) σ0) (fun r σ' => r = (if exF (ftA A (vw (sim (hdA A) B (d + 1))) w) (itm 0 (a0 A)) then 1 else 0) ∧ RX A B σ' ∧ frL σ0 σ') := by
  unfold M8_isServed
  have h8 := itm_le (t := 0) hA.1.1
  refine ok_call (x_livesF hd h0) ?_
  rintro - σ1 ⟨hR, hv, hF⟩
  have hV : okV (itm 0 (a0 A)) (vw (sim (hdA A) B (d + 1))) := okV_of h0.2.2.2.2.2.2.2.2.2.2.2.2.2.1 h0.2.2.2.2.2.2.2.2.2.2.2.2.2.2.1
  generalize vw (sim (hdA A) B (d + 1)) = V at *
  have key : ∀ fu h, h ≤ itm 0 (a0 A) → itm 0 (a0 A) + 1 ≤ fu + h → M8_isServed_L10 (nI w) (fun v σ => if v = 0 ∨ v = 1 then some (v, σ) else none) fu (if exF (ftA A V w) h then 1 else 0) (nI h) σ1 = some (if exF (ftA A V w) (itm 0 (a0 A)) then 1 else 0, σ1) := by
    intro fu
    induction fu with
    | zero => intro h _ _; omega
    | succ fu ih =>
      intro h hh hf
      rw [M8_isServed_L10, hR.2.2.1.1]
      by_cases e : itm 0 (a0 A) ≤ h
      · rw [if_pos ((nI_leI (by omega) (by omega)).mpr (by omega)), show h = itm 0 (a0 A) by omega, if_pos]
        cases exF (ftA A V w) (itm 0 (a0 A)) <;> decide
      · rw [if_neg (fun q => by have := (nI_leI (by omega) (by omega)).mp q; omega)]
        have this := ih (h + 1) (by omega) (by omega)
        have hs : exF (ftA A V w) (h + 1) = (exF (ftA A V w) h || ftA A V w h) := rfl
        rw [hs] at this
        cases e3 : exF (ftA A V w) h with
        | true =>
          rw [e3, Bool.true_or] at this
          rw [if_neg (by decide), M8_isServed_J46, M8_isServed_J51, lt_eq, nI_1]
          exact this
        | false =>
          rw [e3, Bool.false_or] at this
          unfold ftA at this
          rw [if_pos (by decide), if_pos ((inb_nI (by omega)).mpr (by omega)), nI_clamp (n := h) (by omega)]
          by_cases c : (V h).2.2 = true
          · rw [if_pos ((hv h (by omega)).2.2.mpr c), e8_servesNow hR hA hv hV hw (by omega), bind_s]
            rw [c, Bool.true_and] at this
            by_cases c2 : su A w h (V h).1 (V h).2.1 = true
            · rw [if_pos c2, if_neg (by decide), M8_isServed_J46, M8_isServed_J51, lt_eq, nI_1]
              rw [c2] at this
              exact this
            · rw [if_neg c2, if_pos rfl, M8_isServed_J50, M8_isServed_J51, lt_eq, nI_1]
              rw [show su A w h (V h).1 (V h).2.1 = false by simpa using c2] at this
              exact this
          · rw [if_neg (fun q => c ((hv h (by omega)).2.2.mp q)), M8_isServed_J50, M8_isServed_J51, lt_eq, nI_1]
            rw [show (V h).2.2 = false by simpa using c, Bool.false_and] at this
            exact this
  have k0 := key FU 0 (by omega) (by have := FU_ge; omega)
  rw [show (if exF (ftA A V w) 0 = true then (1 : Int32) else 0) = 0 from rfl, show nI 0 = 0 from rfl] at k0
  rw [k0, ok_some]
  exact ⟨rfl, hR, hF⟩
theorem t8_goesOn {σ0 : St} {n m : Nat} {row : Nat → Nat} (hn : n ≤ 3) (hm : m ≤ 8) (h7 : σ0 7 0 = nI m) (hr : ∀ k, k < n → σ0 22 k = nI (row k) ∧ row k < m) : Ok (M8_goesOn (nI n) σ0) (fun r σ' => (∀ c, c ≠ 22 → σ' c = σ0 c) ∧ ((r = 0 ∧ ∀ k, k < n → m ≤ row k + 1) ∨ (r = 1 ∧ ∃ i, i < n ∧ row i + 1 < m ∧ ∀ k, k < n → σ' 22 k = nI (if k < i then row k else row i + 1)))) := by
  unfold M8_goesOn
  rw [ok_lt]
  have key : ∀ fu i1, i1 ≤ n → i1 + 1 ≤ fu → (∀ k, i1 ≤ k → k < n → m ≤ row k + 1) → Ok (M8_goesOn_L4 (nI n) (fun σ17 => some (0, σ17)) fu (nI i1 - 1) σ0) (fun r σ' => (∀ c, c ≠ 22 → σ' c = σ0 c) ∧ ((r = 0 ∧ ∀ k, k < n → m ≤ row k + 1) ∨ (r = 1 ∧ ∃ i, i < n ∧ row i + 1 < m ∧ ∀ k, k < n → σ' 22 k = nI (if k < i then row k else row i + 1)))) := by
    intro fu
    induction fu with
    | zero => intro i1 _ c; omega
    | succ fu ih =>
      intro i1 hi hf hall
      rw [M8_goesOn_L4]
      cases i1 with
      | zero =>
        rw [if_pos (by decide), ok_some]
        exact ⟨fun _ _ => rfl, Or.inl ⟨rfl, fun k hk => hall k (by omega) hk⟩⟩
      | succ i =>
        obtain ⟨r1, r2⟩ := hr i (by omega)
        rw [nI_pred, if_neg (nI_pos (by omega))]
        refine ok_T ((inb_nI (by omega)).mpr (by omega)) ?_
        rw [nI_clamp (n := i) (by omega), h7, show nI m - 1 = nI (m - 1) from pk_sub (b := 1) (by omega), r1]
        by_cases c : m - 1 ≤ row i
        · refine ok_T ((nI_leI (by omega) (by omega)).mpr c) ?_
          rw [ok_lt, add_m1]
          exact ih i (by omega) (by omega) (fun k q1 q2 => by
            by_cases e : k = i
            · rw [e]; omega
            · exact hall k (by omega) q2)
        · refine ok_F (fun q => c ((nI_leI (by omega) (by omega)).mp q)) ?_
          rw [ok_lt, ok_lt, nI_1, nI_1]
          have inn : ∀ fu2 j σ, i < j → j ≤ n → n + 1 ≤ fu2 + j → (∀ c, c ≠ 22 → σ c = σ0 c) → (∀ k, k < n → σ 22 k = nI (if k < i then row k else if k < j then row i + 1 else row k)) → Ok (M8_goesOn_L39 (nI n) (nI i) (fun σ16 => some (1, σ16)) fu2 (nI j) σ) (fun r σ' => (∀ c, c ≠ 22 → σ' c = σ0 c) ∧ ((r = 0 ∧ ∀ k, k < n → m ≤ row k + 1) ∨ (r = 1 ∧ ∃ i, i < n ∧ row i + 1 < m ∧ ∀ k, k < n → σ' 22 k = nI (if k < i then row k else row i + 1)))) := by
            intro fu2
            induction fu2 with
            | zero => intro j σ _ _ _; omega
            | succ fu2 ih2 =>
              intro j σ hj1 hj2 hf2 hF hrow
              rw [M8_goesOn_L39]
              by_cases e : n ≤ j
              · rw [if_pos ((nI_leI (by omega) (by omega)).mpr (by omega)), ok_some]
                refine ⟨hF, Or.inr ⟨rfl, i, by omega, by omega, fun k hk => ?_⟩⟩
                rw [hrow k hk]
                by_cases e2 : k < i
                · rw [if_pos e2, if_pos e2]
                · rw [if_neg e2, if_neg e2, if_pos (by omega)]
              · rw [if_neg (fun q => by have := (nI_leI (by omega) (by omega)).mp q; omega)]
                refine ok_T ((inb_nI (by omega)).mpr (by omega)) (ok_T ((inb_nI (by omega)).mpr (by omega)) ?_)
                rw [nI_clamp (n := j) (by omega), nI_clamp (n := i) (by omega), ok_lt, ok_lt, nI_1]
                refine ih2 (j + 1) _ (by omega) (by omega) (by omega) (fun c q => by rw [s2_ne q]; exact hF c q) (fun k hk => ?_)
                by_cases e2 : k = j
                · subst e2
                  rw [s2_eq, hrow i (by omega), if_neg (by omega), if_pos (by omega), if_neg (by omega), if_pos (by omega)]
                · rw [s2_nj e2, hrow k hk]
                  by_cases e3 : k < i
                  · rw [if_pos e3, if_pos e3]
                  · rw [if_neg e3, if_neg e3]
                    by_cases e4 : k < j
                    · rw [if_pos e4, if_pos (by omega)]
                    · rw [if_neg e4, if_neg (by omega)]
          refine inn FU (i + 1) _ (by omega) (by omega) (by have := FU_ge; omega) (fun c q => s2_ne q) (fun k hk => ?_)
          by_cases e : k = i
          · subst e; rw [s2_eq, if_neg (by omega), if_pos (by omega)]
          · rw [s2_nj e, (hr k hk).1]
            by_cases e2 : k < i
            · rw [if_pos e2]
            · rw [if_neg e2, if_neg (by omega)]
  exact key FU n (Nat.le_refl _) (by have := FU_ge; omega) (fun k q1 q2 => by omega)
-- rows of patches
def rwL (d : Nat) (row : Nat → Nat) (n : Nat) : List Q4 := (List.range n).map (fun k => (d, row k, 0, 0))
theorem rwL_succ {d n : Nat} {row : Nat → Nat} : rwL d row (n + 1) = rwL d row n ++ [(d, row n, 0, 0)] := by
  unfold rwL; rw [List.range_succ, List.map_append]; rfl
theorem rwL_len {d n : Nat} {row : Nat → Nat} : (rwL d row n).length = n := by unfold rwL; simp
theorem rwL_mem {d n : Nat} {row : Nat → Nat} {q : Q4} (h : q ∈ rwL d row n) : ∃ k, k < n ∧ q = (d, row k, 0, 0) := by
  unfold rwL at h
  obtain ⟨k, hk, rfl⟩ := List.mem_map.mp h
  exact ⟨k, List.mem_range.mp hk, rfl⟩
theorem rwL_in {d n k : Nat} {row : Nat → Nat} (h : k < n) : (d, row k, 0, 0) ∈ rwL d row n := List.mem_map.mpr ⟨k, List.mem_range.mpr h, rfl⟩
theorem rwL_D {d n : Nat} {row : Nat → Nat} : rwD d (rwL d row n) := fun q hq => by
  obtain ⟨k, _, rfl⟩ := rwL_mem hq; rfl
theorem cnR_le {d n h : Nat} {row : Nat → Nat} : cnR (rwL d row n) h ≤ n := by
  unfold cnR
  have := List.length_filter_le (fun q : Q4 => decide (q.2.1 = h)) (rwL d row n)
  rw [rwL_len] at this; exact this
theorem cnR_eq {d n h : Nat} {row : Nat → Nat} : cnR (rwL d row n) h = n ↔ ∀ k, k < n → row k = h := by
  unfold cnR
  have e : ((rwL d row n).filter (fun q : Q4 => decide (q.2.1 = h))).length = (rwL d row n).length ↔ ∀ a ∈ rwL d row n, decide (a.2.1 = h) = true := List.length_filter_eq_length_iff
  rw [rwL_len] at e
  rw [e]
  constructor
  · intro q k hk
    have := q _ (rwL_in hk)
    simpa using this
  · intro q a ha
    obtain ⟨k, hk, rfl⟩ := rwL_mem ha
    simp [q k hk]
theorem bkX0 {A : AB} : bkX A [] = bkA A := by unfold bkX bkA; rw [List.append_nil]
theorem RX_more {A : AB} {σ : St} {R : List Q4} {a b : Nat} (h : RX A (bkX A R) σ) (hA : okAB A) (hR : R.length < 3) (ha : a < 40) (hb : b < 8) : Ok (M8_patchesMore (nI a) (nI b) σ) (fun _ σ' => RX A (bkX A (R ++ [(a, b, 0, 0)])) σ' ∧ hiM σ σ' ∧ σ' 22 = σ 22) := by
  have hP := hA.2.2.2.1.2
  obtain ⟨t0, t1, r0, r1, s, e, sh, fi, hb9⟩ := id h
  obtain ⟨⟨a1, a2⟩, ⟨b1, b2, b3⟩, ⟨c1, c2, c3⟩, ⟨d1, d2, d3⟩, ⟨e1, e2, e3⟩, k1, k2, k3, k4⟩ := hb9
  have hpM : pM σ (aP A ++ R) := ⟨d1, d3⟩
  have hlen : (aP A ++ R).length < 11 := by rw [List.length_append]; omega
  refine (m_patchesMore hpM hlen).mono ?_
  rintro - σ' ⟨p1, p2, p3⟩
  have hz : ∀ c, 0 < c → c ≠ 11 → σ' c = σ c := fun c q1 q2 => p3 c (by omega) q2
  refine ⟨h.book (fun c q => hz c (by omega) (by omega)) (fun j q => p2 j (by omega)) ?_, fun c q => hz c (by omega) (by omega), hz 22 (by decide) (by decide)⟩
  rw [List.append_assoc] at p1
  refine ⟨⟨by rw [hz 7 (by decide) (by decide)]; exact a1, fun k w q1 q2 => by rw [hz 8 (by decide) (by decide)]; exact a2 k w q1 q2⟩, ⟨by rw [p2 9 (by decide)]; exact b1, b2, fun k hk => by rw [hz 9 (by decide) (by decide)]; exact b3 k hk⟩, ⟨by rw [p2 11 (by decide)]; exact c1, c2, fun k hk => by rw [hz 10 (by decide) (by decide)]; exact c3 k hk⟩, ⟨p1.1, ?_, p1.2⟩, ⟨by rw [p2 26 (by decide)]; exact e1, by rw [p2 27 (by decide)]; exact e2, e3⟩, k1, k2, k3, ?_⟩
  · show (aP A ++ (R ++ [(a, b, 0, 0)])).length ≤ 11
    rw [List.length_append, List.length_append]
    show (aP A).length + (R.length + 1) ≤ 11
    omega
  · show okP (aP A ++ (R ++ [(a, b, 0, 0)]))
    rw [← List.append_assoc]
    exact okP_app k4 ⟨ha, hb⟩
theorem g4_appl {P R : List Q4} {k : Nat} (hk : k < P.length) : g4 (P ++ R) k = g4 P k := by
  unfold g4
  rw [List.getD_eq_getElem?_getD, List.getD_eq_getElem?_getD, List.getElem?_append_left hk]
theorem RX_less {A : AB} {σ : St} {R : List Q4} (h : RX A (bkX A R) σ) (hA : okAB A) : RX A (bkA A) (s2 σ 0 13 (nI (aP A).length)) := by
  have hP := hA.2.2.2.1.2
  obtain ⟨⟨a1, a2⟩, ⟨b1, b2, b3⟩, ⟨c1, c2, c3⟩, ⟨d1, d2, d3⟩, ⟨e1, e2, e3⟩, k1, k2, k3, k4⟩ := h.2.2.2.2.2.2.2.2
  have hz : ∀ c, c ≠ 0 → s2 σ 0 13 (nI (aP A).length) c = σ c := fun c q => s2_ne q
  have p2 : ∀ j, j ≠ 13 → s2 σ 0 13 (nI (aP A).length) 0 j = σ 0 j := fun j q => s2_nj q
  refine h.book (fun c q => hz c (by omega)) (fun j q => p2 j (by omega)) ?_
  refine ⟨⟨by rw [hz 7 (by decide)]; exact a1, fun k w q1 q2 => by rw [hz 8 (by decide)]; exact a2 k w q1 q2⟩, ⟨by rw [p2 9 (by decide)]; exact b1, b2, fun k hk => by rw [hz 9 (by decide)]; exact b3 k hk⟩, ⟨by rw [p2 11 (by decide)]; exact c1, c2, fun k hk => by rw [hz 10 (by decide)]; exact c3 k hk⟩, ⟨s2_eq, by show (aP A).length ≤ 11; omega, fun k hk => ?_⟩, ⟨by rw [p2 26 (by decide)]; exact e1, by rw [p2 27 (by decide)]; exact e2, e3⟩, k1, k2, k3, hA.2.2.2.1.1⟩
  have hk' : k < (aP A).length := hk
  rw [hz 11 (by decide)]
  have := d3 k (by show k < (aP A ++ R).length; rw [List.length_append]; omega)
  rw [show g4 (bkX A R).2.2.2.1 k = g4 (aP A) k from g4_appl hk'] at this
  exact this
