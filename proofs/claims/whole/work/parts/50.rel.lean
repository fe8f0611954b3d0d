abbrev ShT : Type := Nat → Option (Nat × List Int32)
/-- what both hold: two texts, loans, fillings, patches, sights, ease, sheets, the latest finding -/
abbrev AB : Type := List Nat × List Nat × List Q4 × List Q4 × List Q4 × List Q4 × Nat × ShT × Nat
abbrev a0 (A : AB) : List Nat := A.1
abbrev a1 (A : AB) : List Nat := A.2.1
abbrev aL (A : AB) : List Q4 := A.2.2.1
abbrev aF (A : AB) : List Q4 := A.2.2.2.1
abbrev aP (A : AB) : List Q4 := A.2.2.2.2.1
abbrev aS (A : AB) : List Q4 := A.2.2.2.2.2.1
abbrev aE (A : AB) : Nat := A.2.2.2.2.2.2.1
abbrev aSh (A : AB) : ShT := A.2.2.2.2.2.2.2.1
abbrev aFi (A : AB) : Nat := A.2.2.2.2.2.2.2.2
def tx (A : AB) (t : Nat) : List Nat := if t = 0 then a0 A else a1 A
def setT (A : AB) (t : Nat) (b : List Nat) : AB := if t = 0 then (b, A.2) else (A.1, b, A.2.2)
def setL (A : AB) (L : List Q4) : AB := (A.1, A.2.1, L, A.2.2.2)
def setF (A : AB) (L : List Q4) : AB := (A.1, A.2.1, A.2.2.1, L, A.2.2.2.2)
def setP (A : AB) (L : List Q4) : AB := (A.1, A.2.1, A.2.2.1, A.2.2.2.1, L, A.2.2.2.2.2)
def setS (A : AB) (L : List Q4) : AB := (A.1, A.2.1, A.2.2.1, A.2.2.2.1, A.2.2.2.2.1, L, A.2.2.2.2.2.2)
def setE (A : AB) (e : Nat) : AB := (A.1, A.2.1, A.2.2.1, A.2.2.2.1, A.2.2.2.2.1, A.2.2.2.2.2.1, e, A.2.2.2.2.2.2.2)
def setSh (A : AB) (s : ShT) : AB := (A.1, A.2.1, A.2.2.1, A.2.2.2.1, A.2.2.2.2.1, A.2.2.2.2.2.1, A.2.2.2.2.2.2.1, s, A.2.2.2.2.2.2.2.2)
def setFi (A : AB) (f : Nat) : AB := (A.1, A.2.1, A.2.2.1, A.2.2.2.1, A.2.2.2.2.1, A.2.2.2.2.2.1, A.2.2.2.2.2.2.1, A.2.2.2.2.2.2.2.1, f)
def hdA (A : AB) : Hd := (itm 0 (a0 A), fun h w => fig 0 (a0 A) h w)
def bkA (A : AB) : Bk := (aL A, none, aF A, aP A, none)
def okS (S : List Q4) : Prop := ∀ k, k < S.length → (g4 S k).1 < 40 ∧ (g4 S k).2.1 < 8 ∧ (g4 S k).2.2.1 < 10
def okSh (s : ShT) : Prop := ∀ k f l, k < 4 → s k = some (f, l) → f < 3 ∧ l.length ≤ 60
def okAB (A : AB) : Prop := ((a0 A).length ≤ 39 ∧ (a1 A).length ≤ 39 ∧ (∀ i, (a0 A).getD i 0 < 256) ∧ ∀ i, (a1 A).getD i 0 < 256) ∧ (okL (aL A) ∧ (aL A).length ≤ 12) ∧ (okP (aF A) ∧ (aF A).length ≤ 8) ∧ (okP (aP A) ∧ (aP A).length ≤ 8) ∧ (okS (aS A) ∧ (aS A).length ≤ 8) ∧ aE A ≤ 8 ∧ okSh (aSh A) ∧ aFi A ≤ 5
theorem okH_hd {A : AB} (h : okAB A) : okH (hdA A) := by
  refine ⟨itm_le h.1.1, fun k hk => ?_⟩
  have hk' : k < itm 0 (a0 A) := hk
  have hf : fpos 0 (a0 A) = none := by
    by_cases q : fpos 0 (a0 A) = none
    · exact q
    · unfold itm at hk'; rw [if_neg q] at hk'; omega
  obtain ⟨g1, g2⟩ := fpos_none hf
  have hi : itm 0 (a0 A) = ((a0 A).length + 1) / 5 := by unfold itm; rw [if_pos hf]
  have hv : ∀ w, w < 4 → tg 0 w ((a0 A).getD (5 * k + w) 0) = some (fig 0 (a0 A) k w) := by
    intro w hw
    have hn := g1 (5 * k + w) (by omega)
    rw [show (5 * k + w) % 5 = w by omega] at hn
    unfold fig
    cases e : tg 0 w ((a0 A).getD (5 * k + w) 0) with
    | none => exact absurd e hn
    | some v => rfl
  have hd : ∀ l x f : Nat, dig l x = some f → l ≤ f ∧ f ≤ 9 := by
    intro l x f hh
    unfold dig at hh
    split at hh
    · cases hh; omega
    · cases hh
  have hs : ∀ x f : Nat, tg 0 0 x = some f → f < 3 := by
    intro x f this
    unfold tg at this
    simp only [if_true] at this
    split at this
    · cases this; decide
    · split at this
      · cases this; decide
      · split at this
        · cases this; decide
        · simp at this
  have h0 : fig 0 (a0 A) k 0 < 3 := hs _ _ (hv 0 (by decide))
  have h1 := hd 1 _ _ (hv 1 (by decide))
  have h2 := hd 1 _ _ (hv 2 (by decide))
  have h3 := hd 0 _ _ (hv 3 (by decide))
  exact ⟨h0, h1.1, h1.2, h2.1, h2.2, h3.2⟩
-- the reference
def lM (σ : St) (L : List Q4) : Prop := σ 0 9 = nI L.length ∧ ∀ k, k < L.length → σ 9 (4 * k) = nI (g4 L k).1 ∧ σ 9 (4 * k + 1) = nI (g4 L k).2.1 ∧ σ 9 (4 * k + 2) = nI (g4 L k).2.2.1 ∧ σ 9 (4 * k + 3) = nI (g4 L k).2.2.2
def fM (σ : St) (L : List Q4) : Prop := σ 0 11 = nI L.length ∧ ∀ k, k < L.length → σ 10 (2 * k) = nI (g4 L k).1 ∧ σ 10 (2 * k + 1) = nI (g4 L k).2.1
def pM (σ : St) (L : List Q4) : Prop := σ 0 13 = nI L.length ∧ ∀ k, k < L.length → σ 11 (2 * k) = nI (g4 L k).1 ∧ σ 11 (2 * k + 1) = nI (g4 L k).2.1
def sM (σ : St) (L : List Q4) : Prop := σ 0 30 = nI L.length ∧ ∀ k, k < L.length → σ 23 (3 * k) = nI (g4 L k).1 ∧ σ 23 (3 * k + 1) = nI (g4 L k).2.1 ∧ σ 23 (3 * k + 2) = nI (g4 L k).2.2.1
def shM (σ : St) (s : ShT) : Prop := ∀ k, k < 4 → match s k with
  | none => σ 1 k = -1
  | some (f, l) => σ 1 k = nI f ∧ σ 2 k = nI l.length ∧ ∀ i, i < l.length → σ 3 (60 * k + i) = l.getD i 0
def RM (A : AB) (σ : St) : Prop := tM σ 0 (a0 A) ∧ tM σ 1 (a1 A) ∧ lM σ (aL A) ∧ fM σ (aF A) ∧ pM σ (aP A) ∧ sM σ (aS A) ∧ σ 0 15 = nI (aE A) ∧ shM σ (aSh A) ∧ σ 0 4 = nI (aFi A) ∧ σ 0 26 = -1 ∧ σ 0 27 = -1
-- the class
def lmC (σ : St) : Prop := σ 33 0 = nI 12 ∧ σ 35 0 = nI 8 ∧ σ 37 0 = nI 8 ∧ σ 46 0 = nI 8 ∧ σ 40 0 = nI 52 ∧ σ 42 0 = nI 8 ∧ σ 44 0 = nI 8
def shC (σ : St) (s : ShT) : Prop := ∀ k, k < 4 → match s k with
  | none => σ (90 + 2 * k) 1 = 1
  | some (f, l) => σ (90 + 2 * k) 1 = 0 ∧ σ (90 + 2 * k) 2 = nI f ∧ σ (90 + 2 * k) 3 = nI l.length ∧ ∀ i, i < l.length → σ (91 + 2 * k) i = l.getD i 0
def stC (σ : St) (A : AB) : Prop := σ 25 5 = 1 ∨ (σ 25 5 = 0 ∧ fol σ 48 (hdA A) (bkA A) 40)
def RC (A : AB) (σ : St) : Prop := tC σ 0 26 (a0 A) ∧ tC σ 1 29 (a1 A) ∧ rC σ 33 (aL A) ∧ rC σ 35 (aF A) ∧ rC σ 37 (aP A) ∧ rC σ 46 (aS A) ∧ lmC σ ∧ σ 25 11 = nI (aE A) ∧ shC σ (aSh A) ∧ σ 25 12 = nI (aFi A) ∧ stC σ A
/-- the class's acts leave the reference's cells, and the other way -/
def loC (σ σ' : St) : Prop := ∀ c, c < 25 → σ' c = σ c
def hiM (σ σ' : St) : Prop := ∀ c, 25 ≤ c → σ' c = σ c
theorem tC.frame {σ σ' : St} {t o : Nat} {b : List Nat} (h : tC σ t o b) (e1 : σ' o = σ o) (e2 : σ' (o + 1) = σ (o + 1)) (e3 : σ' (o + 2) = σ (o + 2)) : tC σ' t o b := by
  obtain ⟨⟨x1, x2, x3, x4, x5, x6, x7, x8⟩, y1, y2, y3⟩ := h
  exact ⟨⟨x1, x2, by rw [e1]; exact x3, x4, fun i hi => by rw [e2]; exact x5 i hi, x6, by rw [e1]; exact x7, by rw [e1]; exact x8⟩, by rw [e1]; exact y1, by rw [e1]; exact y2, fun k w q1 q2 => by rw [e3]; exact y3 k w q1 q2⟩
theorem fol.frame {σ σ' : St} {o D : Nat} {H : Hd} {B : Bk} (h : fol σ o H B D) (h8 : H.1 ≤ 8) (hF : ∀ c, o ≤ c → c < o + 18 → σ' c = σ c) : fol σ' o H B D := by
  obtain ⟨⟨c1, c2, c3⟩, d⟩ := h
  refine ⟨⟨by rw [hF o (by omega) (by omega)]; exact c1, fun k hk => (c2 k hk).frame (hF _ (by unfold hc; omega) (by unfold hc; omega)), fun k hk => (c3 k hk).frame (by rw [hF _ (by omega) (by omega)]) (by rw [hF _ (by omega) (by omega)]) (by rw [hF _ (by omega) (by omega)])⟩, fun k hk => ?_⟩
  obtain ⟨d1, d2, d3⟩ := d k hk
  refine ⟨fun j hj => ?_, by rw [hF _ (by omega) (by omega)]; exact d2, by rw [hF _ (by omega) (by omega)]; exact d3⟩
  have := d1 j hj
  unfold snp at this ⊢
  rw [hF (o + 2) (by omega) (by omega), hF (o + 3) (by omega) (by omega), hF (o + 4) (by omega) (by omega)]; exact this
theorem shC.frame {σ σ' : St} {s : ShT} (h : shC σ s) (hF : ∀ c, 90 ≤ c → c < 98 → σ' c = σ c) : shC σ' s := by
  intro k hk
  have := h k hk
  revert this
  cases s k with
  | none => intro q; simp only at q ⊢; rw [hF _ (by omega) (by omega)]; exact q
  | some v =>
    obtain ⟨f, l⟩ := v
    intro q
    simp only at q ⊢
    rw [hF (90 + 2 * k) (by omega) (by omega), hF (91 + 2 * k) (by omega) (by omega)]; exact q
theorem shM.frame {σ σ' : St} {s : ShT} (h : shM σ s) (e1 : σ' 1 = σ 1) (e2 : σ' 2 = σ 2) (e3 : σ' 3 = σ 3) : shM σ' s := by
  intro k hk
  have := h k hk
  rw [e1, e2, e3]; exact this
theorem itm_hd {A : AB} (h : okAB A) : (hdA A).1 ≤ 8 := (okH_hd h).1
/-- the class's world, but for cell 25, as cells stay -/
theorem RC.frame {A : AB} {σ σ' : St} (hA : okAB A) (h : RC A σ) (hF : ∀ c, 25 ≤ c → c < 98 → σ' c = σ c) : RC A σ' := by
  obtain ⟨t0, t1, r1, r2, r3, r4, ⟨l1, l2, l3, l4, l5, l6, l7⟩, e, sh, fi, st⟩ := h
  refine ⟨t0.frame (hF _ (by decide) (by decide)) (hF _ (by decide) (by decide)) (hF _ (by decide) (by decide)), t1.frame (hF _ (by decide) (by decide)) (hF _ (by decide) (by decide)) (hF _ (by decide) (by decide)), r1.frame (hF _ (by decide) (by decide)) (hF _ (by decide) (by decide)), r2.frame (hF _ (by decide) (by decide)) (hF _ (by decide) (by decide)), r3.frame (hF _ (by decide) (by decide)) (hF _ (by decide) (by decide)), r4.frame (hF _ (by decide) (by decide)) (hF _ (by decide) (by decide)), ?_, by rw [hF 25 (by decide) (by decide)]; exact e, sh.frame (fun c q1 q2 => hF c (by omega) q2), by rw [hF 25 (by decide) (by decide)]; exact fi, ?_⟩
  · unfold lmC; rw [hF 33 (by decide) (by decide), hF 35 (by decide) (by decide), hF 37 (by decide) (by decide), hF 46 (by decide) (by decide), hF 40 (by decide) (by decide), hF 42 (by decide) (by decide), hF 44 (by decide) (by decide)]; exact ⟨l1, l2, l3, l4, l5, l6, l7⟩
  · rcases st with s | ⟨s, f⟩
    · left; rw [hF 25 (by decide) (by decide)]; exact s
    · right; exact ⟨by rw [hF 25 (by decide) (by decide)]; exact s, f.frame (itm_hd hA) (fun c q1 q2 => hF c (by omega) (by omega))⟩
theorem RM.frame {A : AB} {σ σ' : St} (h : RM A σ) (hF : ∀ c, c < 25 → σ' c = σ c) : RM A σ' := by
  obtain ⟨⟨p1, p2, p3, p4⟩, ⟨q1, q2, q3, q4⟩, l, f, p, s, e, sh, fi, n1, n2⟩ := h
  have z := fun c hc => hF c hc
  refine ⟨⟨by rw [z 6 (by decide)]; exact p1, p2, fun i hi => by rw [z 5 (by decide)]; exact p3 i hi, p4⟩, ⟨by rw [z 6 (by decide)]; exact q1, q2, fun i hi => by rw [z 5 (by decide)]; exact q3 i hi, q4⟩, ?_, ?_, ?_, ?_, by rw [z 0 (by decide)]; exact e, sh.frame (z 1 (by decide)) (z 2 (by decide)) (z 3 (by decide)), by rw [z 0 (by decide)]; exact fi, by rw [z 0 (by decide)]; exact n1, by rw [z 0 (by decide)]; exact n2⟩
  · unfold lM; rw [z 0 (by decide), z 9 (by decide)]; exact l
  · unfold fM; rw [z 0 (by decide), z 10 (by decide)]; exact f
  · unfold pM; rw [z 0 (by decide), z 11 (by decide)]; exact p
  · unfold sM; rw [z 0 (by decide), z 23 (by decide)]; exact s
/-- what a call answers, and what is then held -/
abbrev Sp : Type := Int32 × AB
def isC (x : Option (Int32 × St)) (σ : St) (s : Sp) : Prop := Ok x (fun r σ' => r = s.1 ∧ RC s.2 σ' ∧ loC σ σ')
def isM (x : Option (Int32 × St)) (σ : St) (s : Sp) : Prop := Ok x (fun r σ' => r = s.1 ∧ RM s.2 σ' ∧ hiM σ σ')
theorem loC.rf {σ : St} : loC σ σ := fun _ _ => rfl
theorem hiM.rf {σ : St} : hiM σ σ := fun _ _ => rfl
theorem isC_same {A : AB} {σ : St} {r v : Int32} (h : RC A σ) (e : v = r) : isC (some (v, σ)) σ (r, A) := ok_some.mpr ⟨e, h, loC.rf⟩
theorem isM_same {A : AB} {σ : St} {r v : Int32} (h : RM A σ) (e : v = r) : isM (some (v, σ)) σ (r, A) := ok_some.mpr ⟨e, h, hiM.rf⟩
