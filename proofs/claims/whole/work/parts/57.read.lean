theorem okL_app {L : List Q4} {q : Q4} (h : okL L) (hq : q.1 < 40 ∧ q.2.1 < 8 ∧ q.2.2.1 < 6 ∧ 1 ≤ q.2.2.2 ∧ q.2.2.2 ≤ 9) : okL (L ++ [q]) := by
  intro k hk
  rw [List.length_append] at hk
  have hk' : k < L.length + 1 := hk
  rw [g4_app]
  by_cases e : k < L.length
  · rw [if_pos e]; exact h k e
  · rw [if_neg e, if_pos (by omega)]; exact hq
theorem okP_app {L : List Q4} {q : Q4} (h : okP L) (hq : q.1 < 40 ∧ q.2.1 < 8) : okP (L ++ [q]) := by
  intro k hk
  rw [List.length_append] at hk
  have hk' : k < L.length + 1 := hk
  rw [g4_app]
  by_cases e : k < L.length
  · rw [if_pos e]; exact h k e
  · rw [if_neg e, if_pos (by omega)]; exact hq
theorem okS_app {L : List Q4} {q : Q4} (h : okS L) (hq : q.1 < 40 ∧ q.2.1 < 8 ∧ q.2.2.1 < 10) : okS (L ++ [q]) := by
  intro k hk
  rw [List.length_append] at hk
  have hk' : k < L.length + 1 := hk
  rw [g4_app]
  by_cases e : k < L.length
  · rw [if_pos e]; exact h k e
  · rw [if_neg e, if_pos (by omega)]; exact hq
theorem g4_dl {L : List Q4} {k : Nat} (hk : k < L.dropLast.length) : k < L.length ∧ g4 L.dropLast k = g4 L k := by
  rw [List.length_dropLast] at hk
  refine ⟨by omega, ?_⟩
  rw [← dropLast_er, g4_er, if_pos hk]
theorem okL_dl {L : List Q4} (h : okL L) : okL L.dropLast := fun k hk => by
  obtain ⟨y1, y2⟩ := g4_dl hk
  rw [y2]; exact h k y1
theorem okP_dl {L : List Q4} (h : okP L) : okP L.dropLast := fun k hk => by
  obtain ⟨y1, y2⟩ := g4_dl hk
  rw [y2]; exact h k y1
theorem ok_loan {A : AB} (x1 x2 x3 x4 : Int32) (hA : okAB A) : okAB (sLoan x1 x2 x3 x4 A).2 := by
  unfold sLoan
  split
  · rename_i q
    split
    · rename_i hlt
      obtain ⟨k1, a1, rfl, b1⟩ := inb_ex q.1
      obtain ⟨k2, a2, rfl, b2⟩ := inb_ex q.2.1
      obtain ⟨k3, a3, rfl, b3⟩ := inb_ex q.2.2.1
      obtain ⟨k4, rfl, c4, d4⟩ := one_nine q.2.2.2
      rw [nI_clamp b1, nI_clamp b2, nI_clamp b3, nI_clamp (show k4 < 2 ^ 31 by omega)]
      refine ⟨hA.1, ⟨okL_app hA.2.1.1 ⟨a1, a2, a3, c4, d4⟩, ?_⟩, hA.2.2⟩
      show (aL A ++ [(k1, k2, k3, k4)]).length ≤ 12
      rw [List.length_append]; show (aL A).length + 1 ≤ 12; omega
    · exact hA
  · exact hA
theorem ok_fill {A : AB} (x1 x2 : Int32) (hA : okAB A) : okAB (sFill x1 x2 A).2 := by
  unfold sFill
  split
  · rename_i q
    split
    · rename_i hlt
      obtain ⟨k1, a1, rfl, b1⟩ := inb_ex q.1
      obtain ⟨k2, a2, rfl, b2⟩ := inb_ex q.2
      rw [nI_clamp b1, nI_clamp b2]
      refine ⟨hA.1, hA.2.1, ⟨okP_app hA.2.2.1.1 ⟨a1, a2⟩, ?_⟩, hA.2.2.2⟩
      show (aF A ++ [(k1, k2, 0, 0)]).length ≤ 8
      rw [List.length_append]; show (aF A).length + 1 ≤ 8; omega
    · exact hA
  · exact hA
theorem ok_patch {A : AB} (x1 x2 : Int32) (hA : okAB A) : okAB (sPatch x1 x2 A).2 := by
  unfold sPatch
  split
  · rename_i q
    split
    · rename_i hlt
      obtain ⟨k1, a1, rfl, b1⟩ := inb_ex q.1
      obtain ⟨k2, a2, rfl, b2⟩ := inb_ex q.2
      rw [nI_clamp b1, nI_clamp b2]
      refine ⟨hA.1, hA.2.1, hA.2.2.1, ⟨okP_app hA.2.2.2.1.1 ⟨a1, a2⟩, ?_⟩, hA.2.2.2.2⟩
      show (aP A ++ [(k1, k2, 0, 0)]).length ≤ 8
      rw [List.length_append]; show (aP A).length + 1 ≤ 8; omega
    · exact hA
  · exact hA
theorem ok_seen {A : AB} (x1 x2 x3 : Int32) (hA : okAB A) : okAB (sSeen x1 x2 x3 A).2 := by
  unfold sSeen
  split
  · rename_i q
    split
    · rename_i hlt
      obtain ⟨k1, a1, rfl, b1⟩ := inb_ex q.1
      obtain ⟨k2, a2, rfl, b2⟩ := inb_ex q.2.1
      obtain ⟨k3, a3, rfl, b3⟩ := inb_ex q.2.2
      rw [nI_clamp b1, nI_clamp b2, nI_clamp b3]
      refine ⟨hA.1, hA.2.1, hA.2.2.1, hA.2.2.2.1, ⟨okS_app hA.2.2.2.2.1.1 ⟨a1, a2, a3⟩, ?_⟩, hA.2.2.2.2.2⟩
      show (aS A ++ [(k1, k2, k3, 0)]).length ≤ 8
      rw [List.length_append]; show (aS A).length + 1 ≤ 8; omega
    · exact hA
  · exact hA
theorem ok_forget {A : AB} (hA : okAB A) : okAB (sForget A).2 := ⟨hA.1, hA.2.1, hA.2.2.1, hA.2.2.2.1, ⟨fun k hk => absurd hk (Nat.not_lt_zero k), Nat.zero_le _⟩, hA.2.2.2.2.2⟩
theorem ok_ease {A : AB} (x : Int32) (hA : okAB A) : okAB (sEase x A).2 := by
  unfold sEase
  split
  · rename_i q
    obtain ⟨k, a, rfl, b⟩ := inb_ex q
    rw [nI_clamp b]
    refine ⟨hA.1, hA.2.1, hA.2.2.1, hA.2.2.2.1, hA.2.2.2.2.1, ?_, hA.2.2.2.2.2.2⟩
    show k ≤ 8; omega
  · exact hA
theorem ok_fi {A : AB} {k : Nat} (hA : okAB A) (hk : k ≤ 5) : okAB (setFi A k) := ⟨hA.1, hA.2.1, hA.2.2.1, hA.2.2.2.1, hA.2.2.2.2.1, hA.2.2.2.2.2.1, hA.2.2.2.2.2.2.1, hk⟩
theorem ok_sh {A : AB} {k : Nat} {s : Option (Nat × List Int32)} (hA : okAB A) (hs : ∀ f l, s = some (f, l) → f < 3 ∧ l.length ≤ 60) : okAB (setSh A (up (aSh A) k s)) := by
  refine ⟨hA.1, hA.2.1, hA.2.2.1, hA.2.2.2.1, hA.2.2.2.2.1, hA.2.2.2.2.2.1, fun j f l hj hq => ?_, hA.2.2.2.2.2.2.2⟩
  have hq' : up (aSh A) k s j = some (f, l) := hq
  by_cases e : j = k
  · subst e; rw [up_eq] at hq'; exact hs f l hq'
  · rw [up_ne e] at hq'; exact hA.2.2.2.2.2.2.1 j f l hj hq'
theorem ok_sheet {A : AB} (x f n : Int32) (hA : okAB A) : okAB (sSheet x f n A).2 := by
  unfold sSheet
  split
  · rename_i q
    split
    · rename_i q0
      obtain ⟨g, a, rfl, b⟩ := inb_ex q.2.1
      obtain ⟨m, hm, rfl, hn⟩ := inb_ex (x := n) (n := 61) ⟨q0, by have := q.2.2; omega⟩
      rw [nI_clamp b, nI_clamp hn]
      exact ok_sh hA (fun f l e => by cases e; exact ⟨a, by rw [List.length_replicate]; omega⟩)
    · exact ok_fi hA (by decide)
  · exact hA
theorem ok_lose {A : AB} (x : Int32) (hA : okAB A) : okAB (sLose x A).2 := by
  unfold sLose
  split
  · split
    · exact ok_fi hA (by decide)
    · exact ok_sh hA (fun f l e => by cases e)
  · exact hA
theorem ok_lay {A : AB} (x f i v : Int32) (hA : okAB A) : okAB (sLay x f i v A).2 := by
  unfold sLay
  split
  · rename_i q
    obtain ⟨k, hk, rfl, hx⟩ := inb_ex q.1
    rw [nI_clamp hx]
    split
    · exact ok_fi hA (by decide)
    · rename_i g l hq
      obtain ⟨hg, hl⟩ := hA.2.2.2.2.2.2.1 k g l hk hq
      split
      · split
        · exact ok_sh hA (fun f l e => by cases e; exact ⟨hg, by rw [List.length_set]; exact hl⟩)
        · exact ok_fi hA (by decide)
      · exact ok_fi hA (by decide)
  · exact hA
theorem ok_get {A : AB} (x f i : Int32) (hA : okAB A) : okAB (sGet x f i A).2 := by
  unfold sGet
  split
  · split
    · exact ok_fi hA (by decide)
    · split
      · split
        · exact hA
        · exact ok_fi hA (by decide)
      · exact ok_fi hA (by decide)
  · exact hA
theorem ok_copy {A : AB} (x1 x2 x3 x4 x5 : Int32) (hA : okAB A) : okAB (sCopy x1 x2 x3 x4 x5 A).2 := by
  unfold sCopy
  split
  · rename_i q
    obtain ⟨t, ht, rfl, hy⟩ := inb_ex q.2
    rw [nI_clamp hy]
    split
    · rename_i f l g m hq1 hq2
      obtain ⟨hg, hl⟩ := hA.2.2.2.2.2.2.1 t g m ht hq2
      split
      · split
        · exact ok_sh hA (fun f l e => by cases e; exact ⟨hg, by rw [cpL_len]; exact hl⟩)
        · exact ok_fi hA (by decide)
      · exact ok_fi hA (by decide)
    · exact ok_fi hA (by decide)
  · exact hA
theorem ok_text {A : AB} {t : Nat} {b : List Nat} (hA : okAB A) (h1 : b.length ≤ 39) (h2 : ∀ i, b.getD i 0 < 256) : okAB (setT A t b) := by
  obtain ⟨⟨p1, p2, p3, p4⟩, r⟩ := hA
  unfold setT
  split
  · exact ⟨⟨h1, p2, h2, p4⟩, r⟩
  · exact ⟨⟨p1, h1, p3, h2⟩, r⟩
theorem tx_ok {A : AB} (t : Nat) (hA : okAB A) : (tx A t).length ≤ 39 ∧ ∀ i, (tx A t).getD i 0 < 256 := by
  unfold tx
  split
  · exact ⟨hA.1.1, hA.1.2.2.1⟩
  · exact ⟨hA.1.2.1, hA.1.2.2.2⟩
theorem ok_type {A : AB} (x y : Int32) (hA : okAB A) : okAB (sType x y A).2 := by
  unfold sType
  split
  · rename_i q
    split
    · rename_i hlt
      obtain ⟨k, hk, rfl, hy⟩ := inb_ex q.2
      rw [nI_clamp hy]
      obtain ⟨g1, g2⟩ := tx_ok x.toNatClampNeg hA
      refine ok_text hA (by rw [List.length_append]; exact hlt) (fun i => ?_)
      rw [getD_app]; split
      · exact g2 i
      · split <;> omega
    · exact hA
  · exact hA
theorem ok_wipe {A : AB} (x : Int32) (hA : okAB A) : okAB (sWipe x A).2 := by
  unfold sWipe
  split
  · exact ok_text hA (Nat.zero_le _) (fun i => by simp)
  · exact hA
theorem ok_undo {A : AB} (x : Int32) (hA : okAB A) : okAB (sUndo x A).2 := by
  unfold sUndo
  split
  · split
    · exact hA
    · obtain ⟨g1, g2⟩ := tx_ok x.toNatClampNeg hA
      refine ok_text hA (by rw [List.length_dropLast]; omega) (fun i => ?_)
      rw [List.dropLast_eq_take, List.getD_eq_getElem?_getD, List.getElem?_take]
      split
      · rw [← List.getD_eq_getElem?_getD]; exact g2 i
      · decide
  · exact hA
theorem ok_back {A : AB} (x : Int32) (hA : okAB A) : okAB (sBack x A).2 := by
  unfold sBack
  by_cases q : inb x 3
  · rw [if_pos q]
    dsimp only
    by_cases e0 : x = 0
    · simp only [if_pos e0]
      split
      · exact hA
      · refine ⟨hA.1, ⟨okL_dl hA.2.1.1, ?_⟩, hA.2.2⟩
        · show (aL A).dropLast.length ≤ 12
          rw [List.length_dropLast]; have := hA.2.1.2; omega
    · simp only [if_neg e0]
      by_cases e1 : x = 1
      · simp only [if_pos e1]
        split
        · exact hA
        · refine ⟨hA.1, hA.2.1, ⟨okP_dl hA.2.2.1.1, ?_⟩, hA.2.2.2⟩
          · show (aF A).dropLast.length ≤ 8
            rw [List.length_dropLast]; have := hA.2.2.1.2; omega
      · simp only [if_neg e1]
        split
        · exact hA
        · refine ⟨hA.1, hA.2.1, hA.2.2.1, ⟨okP_dl hA.2.2.2.1.1, ?_⟩, hA.2.2.2.2⟩
          · show (aP A).dropLast.length ≤ 8
            rw [List.length_dropLast]; have := hA.2.2.2.1.2; omega
  · rw [if_neg q]; exact hA
-- read
def rdS (l : List Int32) : Nat → Nat → AB → Nat × AB
  | 0, k, A => (k, A)
  | n + 1, k, A => if 4 * k + 4 ≤ l.length then (if (sLoan (l.getD (4 * k) 0) (l.getD (4 * k + 1) 0) (l.getD (4 * k + 2) 0) (l.getD (4 * k + 3) 0) A).1 < 0 then (k, A) else rdS l n (k + 1) (sLoan (l.getD (4 * k) 0) (l.getD (4 * k + 1) 0) (l.getD (4 * k + 2) 0) (l.getD (4 * k + 3) 0) A).2) else (k, A)
def sRead (x : Int32) (A : AB) : Sp := if inb x 4 then (match aSh A x.toNatClampNeg with
  | none => fnd A 1
  | some (_, l) => (nI (rdS l 16 0 A).1, (rdS l 16 0 A).2)) else (-2, A)
theorem ok_rd {l : List Int32} : ∀ (n k : Nat) (A : AB), okAB A → okAB (rdS l n k A).2 := by
  intro n
  induction n with
  | zero => intro k A h; exact h
  | succ n ih =>
    intro k A h
    unfold rdS
    split
    · split
      · exact h
      · exact ih _ _ (ok_loan _ _ _ _ h)
    · exact h
theorem ok_read {A : AB} (x : Int32) (hA : okAB A) : okAB (sRead x A).2 := by
  unfold sRead
  split
  · split
    · exact ok_fi hA (by decide)
    · exact ok_rd _ _ _ hA
  · exact hA
theorem sLoan_sh {A : AB} (x1 x2 x3 x4 : Int32) : aSh (sLoan x1 x2 x3 x4 A).2 = aSh A := by
  unfold sLoan; split
  · split <;> rfl
  · rfl
theorem sLoan_neg {A : AB} (x1 x2 x3 x4 : Int32) (h : (sLoan x1 x2 x3 x4 A).1 < 0) (hA : okAB A) : (sLoan x1 x2 x3 x4 A).2 = A := by
  unfold sLoan at h ⊢
  split
  · rename_i q
    rw [if_pos q] at h
    split
    · rename_i hlt
      rw [if_pos hlt] at h
      exact absurd h (nI_pos (by omega))
    · rfl
  · rfl
theorem c_read {A : AB} {σ : St} (x : Int32) (h : RC A σ) (hA : okAB A) : isC (M7_read x σ) σ (sRead x A) := by
  unfold M7_read sRead
  rw [e7_isBelow x 4 σ (n := 4) rfl (by decide), bind_s]
  by_cases q1 : inb x 4
  · rw [if_pos q1, if_neg (by decide), if_pos q1, if_pos q1]
    obtain ⟨s, hs, rfl, hx⟩ := inb_ex q1
    rw [nI_clamp hx, e89]
    have cs : shC1 σ s (aSh A s) := h.2.2.2.2.2.2.2.2.1 s hs
    unfold isC
    cases hq : aSh A s with
    | none =>
      rw [hq] at cs
      have cs' : σ (90 + 2 * s) 1 = 1 := cs
      refine ok_F (by rw [cs']; decide) ?_
      exact c_found (k := 1) h hA
    | some v =>
      obtain ⟨f, l⟩ := v
      rw [hq] at cs
      refine ok_T cs.1 ?_
      obtain ⟨hf, hl⟩ := hA.2.2.2.2.2.2.1 s f l hs hq
      dsimp only
      have key : ∀ (fu n k : Nat) (A' : AB) (σ' : St), 4 * k ≤ l.length → l.length < 4 * (k + n) → n + 1 ≤ fu → okAB A' → RC A' σ' → aSh A' s = some (f, l) → loC σ σ' → Ok (M7_read_L36 (90 + 2 * s) (fun v σ => some (v, σ)) fu (nI k) (nI (4 * k)) σ') (fun r σ' => r = nI (rdS l n k A').1 ∧ RC (rdS l n k A').2 σ' ∧ loC σ σ') := by
        intro fu
        induction fu with
        | zero => intro n k A' σ' _ _ c; omega
        | succ fu ih =>
          intro n k A' σ' hk hn hfu hA' hR hq' hlo
          have cs2 : shC1 σ' s (aSh A' s) := hR.2.2.2.2.2.2.2.2.1 s hs
          rw [hq'] at cs2
          obtain ⟨s1', s2', s3', s4'⟩ := cs2
          cases n with
          | zero => omega
          | succ n =>
          rw [M7_read_L36, s3', show nI (4 * k) + 4 = nI (4 * k + 4) from nI_add _ 4]
          unfold rdS
          by_cases hc : 4 * k + 4 ≤ l.length
          · rw [if_pos hc]
            refine ok_F (fun q => by have := (nI_ltI (by omega) (by omega)).mp q; omega) ?_
            have it : ∀ j, j < l.length → M5_item (90 + 2 * s) (nI j) σ' = some (l.getD j 0, σ') := by
              intro j hj
              unfold M5_item
              rw [if_pos ((inb_nI (by omega)).mpr (by omega)), nI_clamp (n := j) (by omega), show 90 + 2 * s + 1 = 91 + 2 * s by omega, s4' j hj]
            rw [nI_1, show nI (4 * k) + 2 = nI (4 * k + 2) from nI_add _ 2, show nI (4 * k) + 3 = nI (4 * k + 3) from nI_add _ 3, it _ (by omega), bind_s, it _ (by omega), bind_s, it _ (by omega), bind_s, it _ (by omega), bind_s]
            refine ok_call (c_loan _ _ _ _ hR hA') ?_
            rintro r σ2 ⟨rfl, hR2, hlo2⟩
            have hlo' : loC σ σ2 := fun c z => by rw [hlo2 c z]; exact hlo c z
            by_cases hneg : (sLoan (l.getD (4 * k) 0) (l.getD (4 * k + 1) 0) (l.getD (4 * k + 2) 0) (l.getD (4 * k + 3) 0) A').1 < 0
            · rw [if_pos hneg]
              refine ok_F (fun q => by rw [i32_le] at q; rw [i32_lt] at hneg; omega) ?_
              rw [ok_some]
              rw [sLoan_neg _ _ _ _ hneg hA'] at hR2
              exact ⟨rfl, hR2, hlo'⟩
            · rw [if_neg hneg]
              refine ok_T (by rw [i32_le]; rw [i32_lt] at hneg; omega) ?_
              rw [ok_lt, ok_lt, nI_1]
              exact ih n (k + 1) _ σ2 (by omega) (by omega) (by omega) (ok_loan _ _ _ _ hA') hR2 (by rw [sLoan_sh]; exact hq') hlo'
          · rw [if_neg hc]
            refine ok_T ((nI_ltI (by omega) (by omega)).mpr (by omega)) ?_
            rw [ok_some]
            exact ⟨rfl, hR, hlo⟩
      exact key FU 16 0 A σ (Nat.zero_le _) (by omega) (by have := FU_ge; omega) hA h hq loC.rf
  · rw [if_neg q1, if_pos rfl, if_neg q1]
    exact isC_same h rfl
theorem m_read {A : AB} {σ : St} (x : Int32) (h : RM A σ) (hA : okAB A) : isM (M8_read x σ) σ (sRead x A) := by
  unfold M8_read sRead
  rw [e8_isSheet, bind_s]
  by_cases q1 : inb x 4
  · rw [if_pos q1, if_neg (by decide), if_pos q1, if_pos q1]
    obtain ⟨s, hs, rfl, hx⟩ := inb_ex q1
    rw [nI_clamp hx]
    have cs : shM1 σ s (aSh A s) := h.2.2.2.2.2.2.2.1 s hs
    unfold isM
    cases hq : aSh A s with
    | none =>
      rw [hq] at cs
      have cs' : σ 1 s = -1 := cs
      refine ok_F (by rw [cs']; decide) ?_
      exact m_found (k := 1) h
    | some v =>
      obtain ⟨f, l⟩ := v
      rw [hq] at cs
      obtain ⟨hf, hl⟩ := hA.2.2.2.2.2.2.1 s f l hs hq
      refine ok_T (by rw [cs.1]; exact form0 hf) ?_
      dsimp only
      have key : ∀ (fu n k : Nat) (A' : AB) (σ' : St), 4 * k ≤ l.length → l.length < 4 * (k + n) → n + 2 ≤ fu → okAB A' → RM A' σ' → aSh A' s = some (f, l) → hiM σ σ' → Ok (M8_read_L29 (nI s) (fun v σ => some (v, σ)) fu (nI k) 1 σ') (fun r σ' => r = nI (rdS l n k A').1 ∧ RM (rdS l n k A').2 σ' ∧ hiM σ σ') := by
        intro fu
        induction fu with
        | zero => intro n k A' σ' _ _ c; omega
        | succ fu ih =>
          intro n k A' σ' hk hn hfu hA' hR hq' hlo
          have cs2 : shM1 σ' s (aSh A' s) := hR.2.2.2.2.2.2.2.1 s hs
          rw [hq'] at cs2
          obtain ⟨s1', s2', s3'⟩ := cs2
          cases n with
          | zero => omega
          | succ n =>
          rw [M8_read_L29]
          refine ok_F (by decide) ?_
          refine ok_T q1 ?_
          have e4 : (4 : Int32) * nI k + 4 = nI (4 * k + 4) := by rw [show (4 : Int32) = nI 4 from rfl, pk_mul, nI_add]
          rw [nI_clamp hx, s2', e4]
          unfold rdS
          by_cases hc : 4 * k + 4 ≤ l.length
          · rw [if_pos hc]
            refine ok_F (fun q => by have := (nI_ltI (by omega) (by omega)).mp q; omega) ?_
            have e0 : (60 : Int32) * nI s + 4 * nI k = nI (60 * s + 4 * k) := by rw [show (60 : Int32) = nI 60 from rfl, show (4 : Int32) = nI 4 from rfl, pk_mul, pk_mul, nI_add]
            rw [ok_lt, e0, nI_1, show nI (60 * s + 4 * k) + 2 = nI (60 * s + 4 * k + 2) from nI_add _ 2, show nI (60 * s + 4 * k) + 3 = nI (60 * s + 4 * k + 3) from nI_add _ 3]
            refine ok_T ((inb_nI (by omega)).mpr (by omega)) ?_
            refine ok_T ((inb_nI (by omega)).mpr (by omega)) ?_
            refine ok_T ((inb_nI (by omega)).mpr (by omega)) ?_
            refine ok_T ((inb_nI (by omega)).mpr (by omega)) ?_
            rw [nI_clamp (n := 60 * s + 4 * k) (by omega), nI_clamp (n := 60 * s + 4 * k + 1) (by omega), nI_clamp (n := 60 * s + 4 * k + 2) (by omega), nI_clamp (n := 60 * s + 4 * k + 3) (by omega), s3' (4 * k) (by omega), show 60 * s + 4 * k + 1 = 60 * s + (4 * k + 1) by omega, s3' (4 * k + 1) (by omega), show 60 * s + 4 * k + 2 = 60 * s + (4 * k + 2) by omega, s3' (4 * k + 2) (by omega), show 60 * s + 4 * k + 3 = 60 * s + (4 * k + 3) by omega, s3' (4 * k + 3) (by omega)]
            refine ok_call (m_loan _ _ _ _ hR hA') ?_
            rintro r σ2 ⟨rfl, hR2, hlo2⟩
            have hlo' : hiM σ σ2 := fun c z => by rw [hlo2 c z]; exact hlo c z
            unfold M8_read_J103 M8_read_J114
            by_cases hneg : (sLoan (l.getD (4 * k) 0) (l.getD (4 * k + 1) 0) (l.getD (4 * k + 2) 0) (l.getD (4 * k + 3) 0) A').1 < 0
            · rw [if_pos hneg, if_pos hneg, if_pos rfl, ok_lt]
              rw [sLoan_neg _ _ _ _ hneg hA'] at hR2
              cases fu with
              | zero => omega
              | succ fu =>
              show Ok (M8_read_L29 (nI s) _ (fu + 1) _ _ σ2) _
              rw [M8_read_L29]
              refine ok_T (by decide) ?_
              rw [ok_some]
              exact ⟨nI_add k 0, hR2, hlo'⟩
            · rw [if_neg hneg, if_neg hneg, if_neg (by decide), ok_lt, nI_1]
              exact ih n (k + 1) _ σ2 (by omega) (by omega) (by omega) (ok_loan _ _ _ _ hA') hR2 (by rw [sLoan_sh]; exact hq') hlo'
          · rw [if_neg hc]
            refine ok_T ((nI_ltI (by omega) (by omega)).mpr (by omega)) ?_
            rw [ok_some]
            exact ⟨rfl, hR, hlo⟩
      exact key FU 16 0 A σ (Nat.zero_le _) (by omega) (by have := FU_ge; omega) hA h hq hiM.rf
  · rw [if_neg q1, if_pos rfl, if_neg q1]
    exact isM_same h rfl
