abbrev Q4 : Type := Nat × Nat × Nat × Nat
def g4 (L : List Q4) (k : Nat) : Q4 := L.getD k (0, 0, 0, 0)
/-- what is so on a day: how wide, how deep, by which loan out, days out, filled; of loans: counts, the day of the breach, area when lent, when back -/
abbrev Gs : Type := (Nat → Nat) × (Nat → Nat) × (Nat → Option Nat) × (Nat → Nat) × (Nat → Bool) × (Nat → Bool) × (Nat → Option Nat) × (Nat → Nat) × (Nat → Option Nat)
abbrev gw (G : Gs) : Nat → Nat := G.1
abbrev gd (G : Gs) : Nat → Nat := G.2.1
abbrev gou (G : Gs) : Nat → Option Nat := G.2.2.1
abbrev gdd (G : Gs) : Nat → Nat := G.2.2.2.1
abbrev gfl (G : Gs) : Nat → Bool := G.2.2.2.2.1
abbrev gct (G : Gs) : Nat → Bool := G.2.2.2.2.2.1
abbrev gbr (G : Gs) : Nat → Option Nat := G.2.2.2.2.2.2.1
abbrev gla (G : Gs) : Nat → Nat := G.2.2.2.2.2.2.2.1
abbrev gba (G : Gs) : Nat → Option Nat := G.2.2.2.2.2.2.2.2
def up {α : Type} (f : Nat → α) (k : Nat) (v : α) : Nat → α := fun j => if j = k then v else f j
theorem up_eq {α : Type} {f : Nat → α} {k : Nat} {v : α} : up f k v k = v := by simp [up]
theorem up_ne {α : Type} {f : Nat → α} {k j : Nat} {v : α} (h : j ≠ k) : up f k v j = f j := by simp [up, h]
/-- the figures of the holes: how many; of each shape, wide, deep, grows -/
abbrev Hd : Type := Nat × (Nat → Nat → Nat)
def lendS (n d : Nat) (x : Nat × Q4) (G : Gs) : Gs :=
  if x.2.1 = d ∧ x.2.2.1 < n ∧ gou G x.2.2.1 = none then
    (gw G, gd G, up (gou G) x.2.2.1 (some x.1), up (gdd G) x.2.2.1 0, gfl G, up (gct G) x.1 true, gbr G, up (gla G) x.1 (gw G x.2.2.1 * gd G x.2.2.1), gba G)
  else G
def fillS (n d : Nat) (q : Q4) (G : Gs) : Gs :=
  if q.1 = d ∧ q.2.1 < n ∧ gou G q.2.1 ≠ none then (gw G, gd G, gou G, gdd G, up (gfl G) q.2.1 true, gct G, gbr G, gla G, gba G) else G
def patchS (n d : Nat) (q : Q4) (G : Gs) : Gs :=
  if q.1 = d ∧ q.2.1 < n ∧ gou G q.2.1 = none then (up (gw G) q.2.1 (max (gw G q.2.1 - 1) 1), gd G, gou G, gdd G, gfl G, gct G, gbr G, gla G, gba G) else G
/-- wide and deep when a hole of that shape has grown -/
def grW (sh w : Nat) : Nat := if sh = 2 then w else min (w + 1) 9
def grD (sh d : Nat) : Nat := if sh = 2 then min (d + 1) 9 else if sh = 1 then max (d - 1) 1 else d
def passS (H : Hd) (dy : Nat → Nat) (d h : Nat) (G : Gs) : Gs :=
  match gou G h with
  | none => G
  | some id =>
    let dd := gdd G h + 1
    let gr := H.2 h 3 ≠ 0 ∧ dd % H.2 h 3 = 0
    let w := if gr then grW (H.2 h 0) (gw G h) else gw G h
    let p := if gr then grD (H.2 h 0) (gd G h) else gd G h
    if dy id ≤ dd then
      (up (gw G) h w, up (gd G) h p, up (gou G) h none, up (gdd G) h dd, up (gfl G) h false, gct G, up (gbr G) id (if gfl G h then some d else none), gla G, up (gba G) id (some (w * p)))
    else
      (up (gw G) h w, up (gd G) h p, gou G, up (gdd G) h dd, gfl G, gct G, gbr G, gla G, gba G)
def begS (H : Hd) : Gs := (fun h => H.2 h 1, fun h => H.2 h 2, fun _ => none, fun _ => 0, fun _ => false, fun _ => false, fun _ => none, fun _ => 0, fun _ => none)
/-- the loans that are looked at, in their order, with their numbers; the one of the number sk left out -/
def eL (L : List Q4) (sk : Option Nat) (k : Nat) : List (Nat × Q4) := ((List.range k).filter (fun j => some j ≠ sk)).map (fun j => (j, g4 L j))
def eP (P : List Q4) (sk : Option Nat) (k : Nat) : List Q4 := ((List.range k).filter (fun j => some j ≠ sk)).map (fun j => g4 P j)
/-- a book: loans, the one left out, fillings, patches, the one left out -/
abbrev Bk : Type := List Q4 × Option Nat × List Q4 × List Q4 × Option Nat
def dyB (B : Bk) (id : Nat) : Nat := (g4 B.1 id).2.2.2
def lendD (H : Hd) (B : Bk) (d : Nat) (G : Gs) : Gs := (eL B.1 B.2.1 B.1.length).foldl (fun G x => lendS H.1 d x G) G
def fillD (H : Hd) (B : Bk) (d : Nat) (G : Gs) : Gs := (eP B.2.2.1 none B.2.2.1.length).foldl (fun G x => fillS H.1 d x G) G
def patchD (H : Hd) (B : Bk) (d : Nat) (G : Gs) : Gs := (eP B.2.2.2.1 B.2.2.2.2 B.2.2.2.1.length).foldl (fun G x => patchS H.1 d x G) G
/-- a day till the patches are looked at -/
def midD (H : Hd) (B : Bk) (d : Nat) (G : Gs) : Gs := patchD H B d (fillD H B d (lendD H B d G))
def passD (H : Hd) (B : Bk) (d : Nat) (G : Gs) (k : Nat) : Gs := (List.range k).foldl (fun G h => passS H (dyB B) d h G) G
def dayS (H : Hd) (B : Bk) (d : Nat) (G : Gs) : Gs := passD H B d (midD H B d G) H.1
/-- behind d days -/
def sim (H : Hd) (B : Bk) : Nat → Gs
  | 0 => begS H
  | d + 1 => dayS H B d (sim H B d)
theorem eL_succ {L : List Q4} {sk : Option Nat} {k : Nat} : eL L sk (k + 1) = eL L sk k ++ (if some k ≠ sk then [(k, g4 L k)] else []) := by
  unfold eL
  rw [List.range_succ, List.filter_append, List.map_append]
  by_cases h : some k ≠ sk <;> simp [h]
theorem eP_succ {L : List Q4} {sk : Option Nat} {k : Nat} : eP L sk (k + 1) = eP L sk k ++ (if some k ≠ sk then [g4 L k] else []) := by
  unfold eP
  rw [List.range_succ, List.filter_append, List.map_append]
  by_cases h : some k ≠ sk <;> simp [h]
theorem passD_succ {H : Hd} {B : Bk} {d k : Nat} {G : Gs} : passD H B d G (k + 1) = passS H (dyB B) d k (passD H B d G k) := by
  unfold passD
  rw [List.range_succ, List.foldl_append]; rfl
/-- holes as told: what they can be -/
def okH (H : Hd) : Prop := H.1 ≤ 8 ∧ ∀ h, h < H.1 → H.2 h 0 < 3 ∧ 1 ≤ H.2 h 1 ∧ H.2 h 1 ≤ 9 ∧ 1 ≤ H.2 h 2 ∧ H.2 h 2 ≤ 9 ∧ H.2 h 3 ≤ 9
def okL (L : List Q4) : Prop := ∀ k, k < L.length → (g4 L k).1 < 40 ∧ (g4 L k).2.1 < 8 ∧ (g4 L k).2.2.1 < 6 ∧ 1 ≤ (g4 L k).2.2.2 ∧ (g4 L k).2.2.2 ≤ 9
def okP (P : List Q4) : Prop := ∀ k, k < P.length → (g4 P k).1 < 40 ∧ (g4 P k).2.1 < 8
/-- what holds behind each step: sizes stay within, days out are fewer than told, the loan is one that there is -/
def okG (H : Hd) (B : Bk) (G : Gs) : Prop := ∀ h, h < H.1 → 1 ≤ gw G h ∧ gw G h ≤ 9 ∧ 1 ≤ gd G h ∧ gd G h ≤ 9 ∧ ∀ id, gou G h = some id → id < B.1.length ∧ gdd G h < dyB B id ∧ (g4 B.1 id).2.1 = h
theorem okG_lend {H : Hd} {B : Bk} {G : Gs} {d : Nat} (hL : okL B.1) {x : Nat × Q4} (hx : x.1 < B.1.length ∧ x.2 = g4 B.1 x.1) (h : okG H B G) : okG H B (lendS H.1 d x G) := by
  unfold lendS
  split
  · rename_i hc
    intro h' hh
    obtain ⟨a1, a2, a3, a4, a5⟩ := h h' hh
    refine ⟨a1, a2, a3, a4, fun id hid => ?_⟩
    simp only [gou, gdd, up] at hid ⊢
    by_cases e : h' = x.2.2.1
    · rw [if_pos e] at hid ⊢
      cases hid
      refine ⟨hx.1, ?_, by rw [← hx.2]; exact e.symm⟩
      have := (hL x.1 hx.1).2.2.2.1
      unfold dyB; omega
    · rw [if_neg e] at hid ⊢
      exact a5 id hid
  · exact h
theorem okG_fill {H : Hd} {B : Bk} {G : Gs} {d : Nat} {q : Q4} (h : okG H B G) : okG H B (fillS H.1 d q G) := by
  unfold fillS
  split
  · exact h
  · exact h
theorem okG_patch {H : Hd} {B : Bk} {G : Gs} {d : Nat} {q : Q4} (h : okG H B G) : okG H B (patchS H.1 d q G) := by
  unfold patchS
  split
  · intro h' hh
    obtain ⟨a1, a2, a3, a4, a5⟩ := h h' hh
    refine ⟨?_, ?_, a3, a4, a5⟩
    · simp only [gw, up]; split <;> omega
    · simp only [gw, up]
      split
      · rename_i e; rw [← e]; have := a2; simp only [gw] at this ⊢; omega
      · exact a2
  · exact h
theorem gr_ok' {sh w p : Nat} (h1 : 1 ≤ w) (h2 : w ≤ 9) (h3 : 1 ≤ p) (h4 : p ≤ 9) : 1 ≤ grW sh w ∧ grW sh w ≤ 9 ∧ 1 ≤ grD sh p ∧ grD sh p ≤ 9 := by
  unfold grW grD
  split <;> (try split) <;> omega
theorem okG_pass {H : Hd} {B : Bk} {G : Gs} {d h0 : Nat} (h : okG H B G) (hh0 : h0 < H.1) : okG H B (passS H (dyB B) d h0 G) := by
  unfold passS
  split
  · exact h
  · rename_i id hid
    obtain ⟨b1, b2, b3, b4, b5⟩ := h h0 hh0
    have gk := gr_ok' (sh := H.2 h0 0) b1 b2 b3 b4
    dsimp only
    split
    · intro h' hh
      obtain ⟨a1, a2, a3, a4, a5⟩ := h h' hh
      simp only [gw, gd, gou, gdd, up]
      by_cases e : h' = h0
      · simp only [e, if_true]
        refine ⟨?_, ?_, ?_, ?_, fun id hid => by cases hid⟩ <;> split <;> first | exact gk.1 | exact gk.2.1 | exact gk.2.2.1 | exact gk.2.2.2 | assumption
      · simp only [e, if_false]
        exact ⟨a1, a2, a3, a4, a5⟩
    · rename_i hdy
      intro h' hh
      obtain ⟨a1, a2, a3, a4, a5⟩ := h h' hh
      simp only [gw, gd, gou, gdd, up]
      by_cases e : h' = h0
      · subst e
        simp only [if_true]
        refine ⟨?_, ?_, ?_, ?_, fun id2 hid2 => ?_⟩
        · split; exact gk.1; exact b1
        · split; exact gk.2.1; exact b2
        · split; exact gk.2.2.1; exact b3
        · split; exact gk.2.2.2; exact b4
        · have : id2 = id := Option.some.inj (hid2.symm.trans hid)
          subst this
          exact ⟨(b5 _ hid).1, by show gdd G h' + 1 < dyB B id2; omega, (b5 _ hid).2.2⟩
      · simp only [e, if_false]
        exact ⟨a1, a2, a3, a4, a5⟩
theorem okG_beg {H : Hd} {B : Bk} (hH : okH H) : okG H B (begS H) := by
  intro h hh
  obtain ⟨a1, a2, a3, a4, a5, a6⟩ := hH.2 h hh
  exact ⟨a2, a3, a4, a5, fun id hid => by cases hid⟩
theorem foldl_inv {α β : Type} {f : β → α → β} {P : β → Prop} : ∀ {l : List α} {b : β}, P b → (∀ b a, a ∈ l → P b → P (f b a)) → P (l.foldl f b) := by
  intro l
  induction l with
  | nil => intro b h _; exact h
  | cons a l ih => intro b h hs; exact ih (hs b a List.mem_cons_self h) (fun b a' h' => hs b a' (List.mem_cons_of_mem _ h'))
theorem eL_mem {L : List Q4} {sk : Option Nat} {k : Nat} {x : Nat × Q4} (h : x ∈ eL L sk k) : x.1 < k ∧ x.2 = g4 L x.1 := by
  unfold eL at h
  obtain ⟨j, hj, rfl⟩ := List.mem_map.mp h
  exact ⟨List.mem_range.mp (List.mem_filter.mp hj).1, rfl⟩
theorem okG_lendD {H : Hd} {B : Bk} {G : Gs} {d : Nat} (hL : okL B.1) (h : okG H B G) : okG H B (lendD H B d G) := by
  unfold lendD
  exact foldl_inv h (fun G x hx hG => okG_lend hL (eL_mem hx) hG)
theorem okG_fillD {H : Hd} {B : Bk} {G : Gs} {d : Nat} (h : okG H B G) : okG H B (fillD H B d G) := foldl_inv h (fun _ _ _ hG => okG_fill hG)
theorem okG_patchD {H : Hd} {B : Bk} {G : Gs} {d : Nat} (h : okG H B G) : okG H B (patchD H B d G) := foldl_inv h (fun _ _ _ hG => okG_patch hG)
theorem okG_passD {H : Hd} {B : Bk} {G : Gs} {d k : Nat} (h : okG H B G) (hk : k ≤ H.1) : okG H B (passD H B d G k) := by
  unfold passD
  exact foldl_inv h (fun G x hx hG => okG_pass hG (by have := List.mem_range.mp hx; omega))
theorem okG_sim {H : Hd} {B : Bk} (hH : okH H) (hL : okL B.1) : ∀ d, okG H B (sim H B d) := by
  intro d
  induction d with
  | zero => exact okG_beg hH
  | succ d ih => exact okG_passD (okG_patchD (okG_fillD (okG_lendD hL ih))) (Nat.le_refl _)
/-- before day d: loans that are out, or back, were of earlier days -/
def okD (B : Bk) (d : Nat) (G : Gs) : Prop := (∀ id, gba G id ≠ none → (g4 B.1 id).1 < d) ∧ ∀ h id, gou G h = some id → (g4 B.1 id).1 < d
theorem okD_pass {H : Hd} {B : Bk} {G : Gs} {d d0 h0 : Nat} (h : okD B d G) : okD B d (passS H (dyB B) d0 h0 G) := by
  unfold passS
  split
  · exact h
  · rename_i id hid
    dsimp only
    split
    · refine ⟨fun j hj => ?_, fun h' j hj => ?_⟩
      · simp only [gba, up] at hj
        by_cases e : j = id
        · subst e; exact h.2 _ _ hid
        · rw [if_neg e] at hj; exact h.1 j hj
      · simp only [gou, up] at hj
        by_cases e : h' = h0
        · rw [if_pos e] at hj; cases hj
        · rw [if_neg e] at hj; exact h.2 h' j hj
    · exact h
theorem okD_sim {H : Hd} {B : Bk} : ∀ d, okD B d (sim H B d) := by
  intro d
  induction d with
  | zero => exact ⟨fun id h => absurd rfl h, fun h id hid => by cases hid⟩
  | succ d ih =>
    have h0 : okD B (d + 1) (sim H B d) := ⟨fun id h => by have := ih.1 id h; omega, fun h id hid => by have := ih.2 h id hid; omega⟩
    have h1 : okD B (d + 1) (lendD H B d (sim H B d)) := by
      unfold lendD
      refine foldl_inv h0 (fun G x hx hG => ?_)
      unfold lendS
      split
      · rename_i hc
        refine ⟨hG.1, fun h id hid => ?_⟩
        simp only [gou, up] at hid
        by_cases e : h = x.2.2.1
        · rw [if_pos e] at hid; cases hid
          rw [← (eL_mem hx).2, hc.1]; omega
        · rw [if_neg e] at hid; exact hG.2 h id hid
      · exact hG
    have h2 : okD B (d + 1) (fillD H B d (lendD H B d (sim H B d))) := foldl_inv h1 (fun G x hx hG => by unfold fillS; split <;> exact hG)
    have h3 : okD B (d + 1) (midD H B d (sim H B d)) := foldl_inv h2 (fun G x hx hG => by unfold patchS; split <;> exact hG)
    show okD B (d + 1) (passD H B d (midD H B d (sim H B d)) H.1)
    unfold passD
    exact foldl_inv h3 (fun G x hx hG => okD_pass hG)
/-- a hole that there is not is never filled -/
def okFl (H : Hd) (G : Gs) : Prop := ∀ h, H.1 ≤ h → gfl G h = false
theorem okFl_sim {H : Hd} {B : Bk} : ∀ d, okFl H (sim H B d) := by
  intro d
  induction d with
  | zero => intro h _; rfl
  | succ d ih =>
    have h1 : okFl H (lendD H B d (sim H B d)) := by
      unfold lendD
      exact foldl_inv ih (fun G x hx hG => by unfold lendS; split <;> exact hG)
    have h2 : okFl H (fillD H B d (lendD H B d (sim H B d))) := by
      unfold fillD
      refine foldl_inv h1 (fun G x hx hG => ?_)
      unfold fillS
      split
      · rename_i hc
        intro h hh
        simp only [gfl, up]
        rw [if_neg (by omega)]; exact hG h hh
      · exact hG
    have h3 : okFl H (midD H B d (sim H B d)) := foldl_inv h2 (fun G x hx hG => by unfold patchS; split <;> exact hG)
    show okFl H (passD H B d (midD H B d (sim H B d)) H.1)
    unfold passD
    refine foldl_inv h3 (fun G x hx hG => ?_)
    unfold passS
    split
    · exact hG
    · dsimp only
      split
      · intro h hh
        simp only [gfl, up]
        split
        · rfl
        · exact hG h hh
      · exact hG
