def q4 (q : Q4) (c : Nat) : Nat := if c = 0 then q.1 else if c = 1 then q.2.1 else if c = 2 then q.2.2.1 else q.2.2.2
/-- the rows at the cell r hold the list -/
def rC (σ : St) (r : Nat) (L : List Q4) : Prop := σ r 2 = nI L.length ∧ 4 * L.length ≤ ln (r + 1) ∧ ln (r + 1) ≤ 208 ∧ ∀ k c, k < L.length → c < 4 → σ (r + 1) (k * 4 + c) = nI (q4 (g4 L k) c)
theorem e4_cell {σ : St} {r k c : Nat} {L : List Q4} (h : rC σ r L) (hk : k < L.length) (hc : c < 4) : M4_cell r (nI k) (nI c) σ = some (nI (q4 (g4 L k) c), σ) := by
  obtain ⟨h1, h2, h3, h4⟩ := h
  unfold M4_cell
  have e : nI k * 4 + nI c = nI (k * 4 + c) := by rw [show (4 : Int32) = nI 4 from rfl, pk_mul, nI_add]
  rw [e, if_pos ((inb_nI (by omega)).mpr (by omega)), nI_clamp (n := k * 4 + c) (by omega), h4 k c hk hc]
/-- the class's book at the cell b; the holes' text at 26 -/
def bkC (σ : St) (b : Nat) (H : Hd) (B : Bk) : Prop :=
  (σ 26 7 = nI H.1 ∧ ∀ h w, h < H.1 → w < 4 → σ 28 (4 * h + w) = nI (H.2 h w)) ∧
  (rC σ (b + 1) B.1 ∧ rC σ (b + 3) B.2.2.1 ∧ rC σ (b + 5) B.2.2.2.1) ∧ (B.2.1 = none ∧ B.2.2.2.2 = none) ∧
  okH H ∧ okL B.1 ∧ okP B.2.2.1 ∧ okP B.2.2.2.1
def hc (o h : Nat) : Nat := o + 1 + 9 + h
def cH (σ : St) (o : Nat) (H : Hd) (G : Gs) (h : Nat) : Prop := σ (hc o h) 0 = nI (H.2 h 0) ∧ σ (hc o h) 1 = nI (gw G h) ∧ σ (hc o h) 2 = nI (gd G h) ∧ σ (hc o h) 3 = nI (H.2 h 3) ∧ σ (hc o h) 4 = oI (gou G h) ∧ σ (hc o h) 7 = (if gfl G h then 1 else 0) ∧ ∀ id, gou G h = some id → σ (hc o h) 5 = nI (gdd G h) ∧ σ (hc o h) 6 = nI (gla G id)
def mo (G : Gs) (k : Nat) : Int32 := match gba G k with
  | some x => nI x - nI (gla G k)
  | none => 0
def cLn (σ : St) (o : Nat) (G : Gs) (k : Nat) : Prop := σ (o + 7) k = (if gct G k then 1 else 0) ∧ σ (o + 8) k = oI (gbr G k) ∧ σ (o + 9) k = mo G k
def cG (σ : St) (o : Nat) (H : Hd) (G : Gs) : Prop := σ o 9 = nI H.1 ∧ (∀ h, h < H.1 → cH σ o H G h) ∧ ∀ k, k < 52 → cLn σ o G k
/-- what a course, at the cell o, leaves as it was while a day's loans, fillings, patches are looked at: all but the holes and the rows of loans -/
def frC (o : Nat) (σ σ' : St) : Prop := ∀ c, (c < o + 7 ∨ o + 18 ≤ c) → σ' c = σ c
theorem frC.rf {o : Nat} {σ : St} : frC o σ σ := fun _ _ => rfl
theorem frC.tr {o : Nat} {a b c : St} (h1 : frC o a b) (h2 : frC o b c) : frC o a c := fun k q => by rw [h2 k q, h1 k q]
theorem frC_s2 {o k j : Nat} {v : Int32} {σ0 σ : St} (h : frC o σ0 σ) (hk : o + 7 ≤ k ∧ k < o + 18) : frC o σ0 (s2 σ k j v) := fun c q => by rw [s2_ne (by omega)]; exact h c q
/-- where courses and books stand -/
def okO (o b : Nat) : Prop := (o = 48 ∨ o = 66) ∧ (b = 32 ∨ b = 39)
theorem rC.frame {σ σ' : St} {r : Nat} {L : List Q4} (h : rC σ r L) (h1 : σ' r = σ r) (h2 : σ' (r + 1) = σ (r + 1)) : rC σ' r L := by
  obtain ⟨a, b, c, e⟩ := h
  exact ⟨by rw [h1]; exact a, b, c, fun k c q1 q2 => by rw [h2]; exact e k c q1 q2⟩
theorem bkC.frame {σ σ' : St} {b : Nat} {H : Hd} {B : Bk} (h : bkC σ b H B) (hb : b = 32 ∨ b = 39) (hF : ∀ c, c < 48 → σ' c = σ c) : bkC σ' b H B := by
  obtain ⟨⟨a1, a2⟩, ⟨b1, b2, b3⟩, r⟩ := h
  exact ⟨⟨by rw [hF 26 (by decide)]; exact a1, fun h w q1 q2 => by rw [hF 28 (by decide)]; exact a2 h w q1 q2⟩, ⟨b1.frame (hF _ (by omega)) (hF _ (by omega)), b2.frame (hF _ (by omega)) (hF _ (by omega)), b3.frame (hF _ (by omega)) (hF _ (by omega))⟩, r⟩
theorem frC.low {o : Nat} {σ σ' : St} (h : frC o σ σ') (ho : 48 ≤ o) : ∀ c, c < 48 → σ' c = σ c := fun c hc => h c (Or.inl (by omega))
theorem hc_ne {o h h' : Nat} (e : h ≠ h') : hc o h ≠ hc o h' := by unfold hc; omega
theorem cH.frame {σ σ' : St} {o : Nat} {H : Hd} {G : Gs} {h : Nat} (hm : cH σ o H G h) (e : σ' (hc o h) = σ (hc o h)) : cH σ' o H G h := by
  unfold cH; rw [e]; exact hm
theorem cLn.frame {σ σ' : St} {o : Nat} {G : Gs} {k : Nat} (hm : cLn σ o G k) (e1 : σ' (o + 7) k = σ (o + 7) k) (e2 : σ' (o + 8) k = σ (o + 8) k) (e3 : σ' (o + 9) k = σ (o + 9) k) : cLn σ' o G k := ⟨e1.trans hm.1, e2.trans hm.2.1, e3.trans hm.2.2⟩
theorem l1_lends {o b : Nat} (ho : okO o b) {H : Hd} {B : Bk} {d : Nat} (hd : d < 40) {σ0 : St} {G0 : Gs} (hB : bkC σ0 b H B) (hG0 : okG H B G0) :
    ∀ (n k : Nat) (σ : St), k ≤ B.1.length → B.1.length + 1 ≤ n + k → frC o σ0 σ → cG σ o H ((eL B.1 none k).foldl (fun G x => lendS H.1 d x G) G0) → (∀ id, k ≤ id → gba ((eL B.1 none k).foldl (fun G x => lendS H.1 d x G) G0) id = none ∨ d ≠ (g4 B.1 id).1) → Ok (M1_lendAll_L2 o (nI d) (b + 1) (fun σ => some ((), σ)) n (nI k) σ) (fun _ σ => frC o σ0 σ ∧ cG σ o H (lendD H B d G0)) := by
  intro n
  induction n with
  | zero => intro k σ a b; omega
  | succ n ih =>
    intro k σ hk hn hF hm hba
    obtain ⟨ho1, ho2⟩ := id ho
    obtain ⟨⟨a1, a2⟩, ⟨hr, -, -⟩, ⟨hs1, -⟩, hH, hL, -⟩ := hB.frame ho2 (hF.low (by omega))
    have hr' := hr
    obtain ⟨r1, r2, r3, r4⟩ := hr'
    rw [M1_lendAll_L2, r1]
    by_cases he : k = B.1.length
    · refine ok_T ((nI_leI (by omega) (by omega)).mpr (by omega)) ?_
      rw [ok_some]
      refine ⟨hF, ?_⟩
      unfold lendD; rw [hs1, ← he]; exact hm
    · refine ok_F (fun q => he (by have := (nI_leI (by omega) (by omega)).mp q; omega)) ?_
      have hk' : k < B.1.length := by omega
      obtain ⟨v1, v2, v3, v4, v5⟩ := hL k hk'
      have h8 := hH.1
      rw [show (1 : Int32) = nI 1 from rfl, e4_cell hr hk' (by decide), bind_s]
      rw [show (0 : Int32) = nI 0 from rfl, e4_cell hr hk' (by decide), bind_s]
      have hGk : okG H B ((eL B.1 none k).foldl (fun G x => lendS H.1 d x G) G0) := foldl_inv hG0 (fun G x hx hG => okG_lend hL ⟨by have := (eL_mem hx).1; omega, (eL_mem hx).2⟩ hG)
      generalize hGe : (eL B.1 none k).foldl (fun G x => lendS H.1 d x G) G0 = G at hm hGk hba
      have hstep : (eL B.1 none (k + 1)).foldl (fun G x => lendS H.1 d x G) G0 = lendS H.1 d (k, g4 B.1 k) G := by
        rw [eL_succ, List.foldl_append, hGe]; simp
      have hbaN : ∀ id, gba (lendS H.1 d (k, g4 B.1 k) G) id = gba G id := by
        intro id; unfold lendS; split <;> rfl
      have hJ : ∀ σ, frC o σ0 σ → cG σ o H (lendS H.1 d (k, g4 B.1 k) G) → Ok (M1_lendAll_J69 (fun x3 σ => M1_lendAll_L2 o (nI d) (b + 1) (fun σ => some ((), σ)) n x3 σ) o (nI d) (b + 1) (nI k) σ) (fun _ σ => frC o σ0 σ ∧ cG σ o H (lendD H B d G0)) := by
        intro σ hF hm
        unfold M1_lendAll_J69
        rw [ok_lt, nI_1]
        exact ih (k + 1) σ (by omega) (by omega) hF (by rw [hstep]; exact hm) (fun id hid => by rw [hstep, hbaN]; exact hba id (by omega))
      have q0 : q4 (g4 B.1 k) 0 = (g4 B.1 k).1 := rfl
      have q1 : q4 (g4 B.1 k) 1 = (g4 B.1 k).2.1 := rfl
      rw [q0, q1]
      by_cases hdd : (g4 B.1 k).1 = d
      · refine ok_T (by rw [hdd]) ?_
        rw [hm.1]
        by_cases hh : (g4 B.1 k).2.1 < H.1
        · refine ok_F (fun q => by have := (nI_leI (by omega) (by omega)).mp q; omega) ?_
          refine ok_T ((inb_nI (by omega)).mpr (by omega)) ?_
          rw [nI_clamp (n := (g4 B.1 k).2.1) (by omega)]
          have hch := hm.2.1 _ hh
          have hid := (hGk _ hh).2.2.2.2
          obtain ⟨m0, m1, m2, m3, m4, m7, m5⟩ := hch
          show Ok (if σ (hc o (g4 B.1 k).2.1) 4 = -1 then _ else _) _
          rw [m4]
          by_cases hou : gou G (g4 B.1 k).2.1 = none
          · refine ok_T ((oI_sm (n := 52) (fun v hv => by have := (hid v hv).1; omega) (by decide)).mpr hou) ?_
            unfold M2_lendBy
            rw [ok_bind, ok_lt, ok_lt, ok_lt, ok_some]
            refine ok_T ((inb_nI (by omega)).mpr (by omega)) ?_
            rw [ok_lt, nI_clamp (n := k) (by omega)]
            show Ok (M1_lendAll_J69 _ o (nI d) (b + 1) (nI k) (s2 (s2 (s2 (s2 σ (hc o (g4 B.1 k).2.1) 4 (nI k)) (hc o (g4 B.1 k).2.1) 5 (nI 0)) (hc o (g4 B.1 k).2.1) 6 ((s2 (s2 σ (hc o (g4 B.1 k).2.1) 4 (nI k)) (hc o (g4 B.1 k).2.1) 5 (nI 0)) (hc o (g4 B.1 k).2.1) 1 * (s2 (s2 σ (hc o (g4 B.1 k).2.1) 4 (nI k)) (hc o (g4 B.1 k).2.1) 5 (nI 0)) (hc o (g4 B.1 k).2.1) 2)) (o + 7) k (nI 1))) _
            have hcb : o + 10 ≤ hc o (g4 B.1 k).2.1 ∧ hc o (g4 B.1 k).2.1 < o + 18 := by unfold hc; omega
            have e6 : ((s2 (s2 σ (hc o (g4 B.1 k).2.1) 4 (nI k)) (hc o (g4 B.1 k).2.1) 5 (nI 0)) (hc o (g4 B.1 k).2.1) 1 * (s2 (s2 σ (hc o (g4 B.1 k).2.1) 4 (nI k)) (hc o (g4 B.1 k).2.1) 5 (nI 0)) (hc o (g4 B.1 k).2.1) 2) = nI (gw G (g4 B.1 k).2.1 * gd G (g4 B.1 k).2.1) := by
              rw [s2_nj (by decide), s2_nj (by decide), s2_nj (by decide), s2_nj (by decide), m1, m2, pk_mul]
            rw [e6]
            refine hJ _ (frC_s2 (frC_s2 (frC_s2 (frC_s2 hF (by omega)) (by omega)) (by omega)) (by omega)) ?_
            have hbk : gba G k = none := by
              rcases hba k (Nat.le_refl k) with q | q
              · exact q
              · exact absurd hdd.symm q
            unfold lendS
            rw [if_pos ⟨hdd, hh, hou⟩]
            refine ⟨?_, fun h hlt => ?_, fun j hj => ?_⟩
            · rw [s2_nk (by omega), s2_nk (by omega), s2_nk (by omega), s2_nk (by omega)]; exact hm.1
            · by_cases eh : h = (g4 B.1 k).2.1
              · subst eh
                refine ⟨?_, ?_, ?_, ?_, ?_, ?_, fun id hid => ?_⟩
                · rw [s2_nk (by omega), s2_nj (by decide), s2_nj (by decide), s2_nj (by decide)]; exact m0
                · rw [s2_nk (by omega), s2_nj (by decide), s2_nj (by decide), s2_nj (by decide)]; exact m1
                · rw [s2_nk (by omega), s2_nj (by decide), s2_nj (by decide), s2_nj (by decide)]; exact m2
                · rw [s2_nk (by omega), s2_nj (by decide), s2_nj (by decide), s2_nj (by decide)]; exact m3
                · rw [s2_nk (by omega), s2_nj (by decide), s2_nj (by decide), s2_eq]; simp [gou, up, oI]
                · rw [s2_nk (by omega), s2_nj (by decide), s2_nj (by decide), s2_nj (by decide)]; exact m7
                · simp only [gou, up, if_true] at hid
                  cases hid
                  refine ⟨?_, ?_⟩
                  · rw [s2_nk (by omega), s2_nj (by decide), s2_eq]; simp [gdd, up]
                  · rw [s2_nk (by omega), s2_eq]; simp [gla, up]
              · have hmh := hm.2.1 h hlt
                have hne := hc_ne (o := o) eh
                have hid2 := (hGk h hlt).2.2.2.2
                have hcb2 : hc o h < o + 18 ∧ o + 10 ≤ hc o h := by unfold hc; omega
                obtain ⟨n0, n1, n2, n3, n4, n7, n5⟩ := hmh
                refine ⟨?_, ?_, ?_, ?_, ?_, ?_, fun id hidq => ?_⟩
                · rw [s2_nk (by omega), s2_nk hne, s2_nk hne, s2_nk hne]; exact n0
                · rw [s2_nk (by omega), s2_nk hne, s2_nk hne, s2_nk hne]; exact n1
                · rw [s2_nk (by omega), s2_nk hne, s2_nk hne, s2_nk hne]; exact n2
                · rw [s2_nk (by omega), s2_nk hne, s2_nk hne, s2_nk hne]; exact n3
                · rw [s2_nk (by omega), s2_nk hne, s2_nk hne, s2_nk hne]; simp only [gou, up, eh, if_false]; exact n4
                · rw [s2_nk (by omega), s2_nk hne, s2_nk hne, s2_nk hne]; exact n7
                · simp only [gou, up, eh, if_false] at hidq
                  refine ⟨?_, ?_⟩
                  · rw [s2_nk (by omega), s2_nk hne, s2_nk hne, s2_nk hne]; simp only [gdd, up, eh, if_false]; exact (n5 id hidq).1
                  · rw [s2_nk (by omega), s2_nk hne, s2_nk hne, s2_nk hne]
                    have : id ≠ k := by
                      intro e; subst e
                      exact eh (hid2 id hidq).2.2.symm
                    simp only [gla, up, this, if_false]; exact (n5 id hidq).2
            · have hml := hm.2.2 j hj
              by_cases ej : j = k
              · subst ej
                refine ⟨?_, ?_, ?_⟩
                · rw [s2_eq]; simp [gct, up]; rfl
                · rw [s2_nk (by omega), s2_nk (by omega), s2_nk (by omega), s2_nk (by omega)]; exact hml.2.1
                · rw [s2_nk (by omega), s2_nk (by omega), s2_nk (by omega), s2_nk (by omega)]
                  have := hml.2.2
                  unfold mo at this ⊢
                  rw [hbk] at this
                  rw [show gba (gw G, gd G, up (gou G) (g4 B.1 j).2.1 (some j), up (gdd G) (g4 B.1 j).2.1 0, gfl G, up (gct G) j true, gbr G, up (gla G) j (gw G (g4 B.1 j).2.1 * gd G (g4 B.1 j).2.1), gba G) j = none from hbk]
                  exact this
              · refine ⟨?_, ?_, ?_⟩
                · rw [s2_nj ej, s2_nk (by omega), s2_nk (by omega), s2_nk (by omega)]; simp only [gct, up, ej, if_false]; exact hml.1
                · rw [s2_nk (by omega), s2_nk (by omega), s2_nk (by omega), s2_nk (by omega)]; exact hml.2.1
                · rw [s2_nk (by omega), s2_nk (by omega), s2_nk (by omega), s2_nk (by omega)]
                  have := hml.2.2
                  unfold mo at this ⊢
                  simp only [gba, gla, up, ej, if_false] at this ⊢
                  exact this
          · refine ok_F (fun q => hou ((oI_sm (n := 52) (fun v hv => by have := (hid v hv).1; omega) (by decide)).mp q)) ?_
            refine hJ σ hF ?_
            unfold lendS; rw [if_neg (fun q => hou q.2.2)]; exact hm
        · refine ok_T ((nI_leI (by omega) (by omega)).mpr (by omega)) ?_
          refine hJ σ hF ?_
          unfold lendS; rw [if_neg (fun q => hh q.2.1)]; exact hm
      · refine ok_F (fun q => hdd ((nI_eq (by omega) (by omega)).mp q)) ?_
        refine hJ σ hF ?_
        unfold lendS; rw [if_neg (fun q => hdd q.1)]; exact hm
