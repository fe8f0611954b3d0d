def adr (q1 q2 : Nat) (u1 u2 aK aV : Nat → Nat) : Nat → Nat := fun k => ([q2, (u2 0), (u2 1), (u2 2), (u2 3), (u2 4), (u2 5), (u2 6), (u2 7), (u2 8), (u2 9), (u2 10), (u2 11), (u2 12), (u2 13), (u2 14), (u2 15), (u2 16), (u2 17), (u2 18), (u2 19), (u2 20), (u2 21), (u2 22), (u2 23), q1, (u1 0), (u1 1), (u1 2), (u1 3), (u1 4), (u1 5), (u1 6), (u1 11), (u1 12), (u1 7), (u1 8), (u1 9), (u1 10), (u1 33), (u1 38), (u1 39), (u1 34), (u1 35), (u1 36), (u1 37), (u1 13), (u1 14), (u1 15), (u1 16), (u1 17), (u1 18), (u1 19), (u1 20), (u1 21), (u1 22), (u1 23), (u1 24), (u1 25), (u1 26), (u1 27), (u1 28), (u1 29), (u1 30), (u1 31), (u1 32), (u1 40), (u1 41), (u1 42), (u1 43), (u1 44), (u1 45), (u1 46), (u1 47), (u1 48), (u1 49), (u1 50), (u1 51), (u1 52), (u1 53), (u1 54), (u1 55), (u1 56), (u1 57), (u1 58), (u1 59), (u1 60), (u1 61), (u1 62), (u1 63), (u1 64), (u1 65), (u1 66), (u1 67), (u1 68), (u1 69), (u1 70), (u1 71), (aK 0), (aK 1), (aV 0), (aV 1)] : List Nat).getD k 0
def W0 (g : Gd) (q1 q2 : Nat) (u1 u2 aK : Nat → Nat) : va_W := bw7 g aK q1 u1 ++ bw8 g q2 u2
def W1 (g : Gd) (q1 q2 : Nat) (u1 u2 aK aV : Nat → Nat) : va_W := (((W0 g q1 q2 u1 u2 aK).set 17 ((u1 16), .inl (g.2.2.1, 8, .inr (.inr (.inr (.inr (fun i => some ((adr q1 q2 u1 u2 aK aV) (49 + 9 + i))))))))).set 42 ((u1 41), .inl (g.2.2.1, 8, .inr (.inr (.inr (.inr (fun i => some ((adr q1 q2 u1 u2 aK aV) (67 + 9 + i))))))))).set 64 ((u1 63), .inl (g.2.2.2, 4, .inr (.inr (.inr (.inr (fun i => some ((adr q1 q2 u1 u2 aK aV) (89 + 1 + 2 * i))))))))
theorem fm_of {α β : Type} {f : α → Option β} {is : List α} {L : List β} (h : is.map f = L.map some) : is.filterMap f = L := by
  have e : (is.map f).filterMap id = is.filterMap f := by simp [List.filterMap_map]
  rw [← e, h]
  simp [List.filterMap_map]
theorem w1_sub (g : Gd) (q1 q2 : Nat) (u1 u2 aK aV : Nat → Nat) : ([73, 74, 75, 76, 77, 78, 79, 80, 81, 82, 83, 84, 85, 86, 87, 88, 89, 90, 91, 92, 93, 94, 95, 96, 97, 0, 1, 2, 3, 4, 5, 6, 7, 12, 13, 8, 9, 10, 11, 34, 39, 40, 35, 36, 37, 38, 14, 15, 16, 17, 18, 19, 20, 21, 22, 23, 24, 25, 26, 27, 28, 29, 30, 31, 32, 33, 41, 42, 43, 44, 45, 46, 47, 48, 49, 50, 51, 52, 53, 54, 55, 56, 57, 58, 59, 60, 61, 62, 63, 64, 65, 66, 67, 68, 69, 70, 71, 72] : List Nat).map (fun i => (W1 g q1 q2 u1 u2 aK aV)[i]?) = (wl g (adr q1 q2 u1 u2 aK aV) σ0).map some := by rfl
theorem w1_P {g : Gd} {q1 q2 : Nat} {u1 u2 aK aV : Nat → Nat} {H : Heap} (hP0 : va_P g.1 cls (W0 g q1 q2 u1 u2 aK) H) : va_P g.1 cls (wl g (adr q1 q2 u1 u2 aK aV) σ0) H := by
  have hP49 := va_P.put (k := 17) (e1 := .inl (g.2.2.1, 8, .inr (.inr (.inr (.inr (fun i => some ((adr q1 q2 u1 u2 aK aV) (49 + 9 + i)))))))) hP0 rfl (va_same_array (hP0 17 ((u1 16), .inl (g.2.2.1, 8, .inr (.inr (.inr (.inr (fun i => some (u1 (25 + 1 * i)))))))) rfl) (fun i hi => by
    have hh : i = 0 ∨ i = 1 ∨ i = 2 ∨ i = 3 ∨ i = 4 ∨ i = 5 ∨ i = 6 ∨ i = 7 := by omega
    rcases hh with rfl | rfl | rfl | rfl | rfl | rfl | rfl | rfl <;> rfl))
  have hP67 := va_P.put (k := 42) (e1 := .inl (g.2.2.1, 8, .inr (.inr (.inr (.inr (fun i => some ((adr q1 q2 u1 u2 aK aV) (67 + 9 + i)))))))) hP49 rfl (va_same_array (hP49 42 ((u1 41), .inl (g.2.2.1, 8, .inr (.inr (.inr (.inr (fun i => some (u1 (50 + 1 * i)))))))) rfl) (fun i hi => by
    have hh : i = 0 ∨ i = 1 ∨ i = 2 ∨ i = 3 ∨ i = 4 ∨ i = 5 ∨ i = 6 ∨ i = 7 := by omega
    rcases hh with rfl | rfl | rfl | rfl | rfl | rfl | rfl | rfl <;> rfl))
  have hP89 := va_P.put (k := 64) (e1 := .inl (g.2.2.2, 4, .inr (.inr (.inr (.inr (fun i => some ((adr q1 q2 u1 u2 aK aV) (89 + 1 + 2 * i)))))))) hP67 rfl (va_same_array (hP67 64 ((u1 63), .inl (g.2.2.2, 4, .inr (.inr (.inr (.inr (fun i => some (u1 (64 + 2 * i)))))))) rfl) (fun i hi => by
    have hh : i = 0 ∨ i = 1 ∨ i = 2 ∨ i = 3 := by omega
    rcases hh with rfl | rfl | rfl | rfl <;> rfl))
  exact va_P.sub (ws' := wl g (adr q1 q2 u1 u2 aK aV) σ0) (ws := W1 g q1 q2 u1 u2 aK aV) hP89 _ (fm_of (w1_sub g q1 q2 u1 u2 aK aV))
theorem w1_D {g : Gd} {q1 q2 : Nat} {u1 u2 aK aV : Nat → Nat} {A : Nat → Prop} (hD0 : va_D A (W0 g q1 q2 u1 u2 aK)) : va_D A (wl g (adr q1 q2 u1 u2 aK aV) σ0) := by
  have d1 := va_D.put (k := 17) (q := (u1 16)) (e1 := .inl (g.2.2.1, 8, .inr (.inr (.inr (.inr (fun i => some ((adr q1 q2 u1 u2 aK aV) (49 + 9 + i)))))))) hD0 rfl
  have d2 := va_D.put (k := 42) (q := (u1 41)) (e1 := .inl (g.2.2.1, 8, .inr (.inr (.inr (.inr (fun i => some ((adr q1 q2 u1 u2 aK aV) (67 + 9 + i)))))))) d1 rfl
  have d3 := va_D.put (k := 64) (q := (u1 63)) (e1 := .inl (g.2.2.2, 4, .inr (.inr (.inr (.inr (fun i => some ((adr q1 q2 u1 u2 aK aV) (89 + 1 + 2 * i)))))))) d2 rfl
  exact va_D.sub (ws' := wl g (adr q1 q2 u1 u2 aK aV) σ0) (ws := W1 g q1 q2 u1 u2 aK aV) d3 _ (by decide +kernel) (w1_sub g q1 q2 u1 u2 aK aV)
