/-- the program gives an answer, and what it gives is as said -/
def Ok {α : Type} (x : Option (α × St)) (P : α → St → Prop) : Prop := ∃ r σ', x = some (r, σ') ∧ P r σ'
theorem ok_some {α : Type} {v : α} {σ : St} {P : α → St → Prop} : Ok (some (v, σ)) P ↔ P v σ := by
  constructor
  · rintro ⟨r, s, h, hp⟩; cases h; exact hp
  · intro h; exact ⟨v, σ, rfl, h⟩
theorem ok_none {α : Type} {P : α → St → Prop} : Ok (none : Option (α × St)) P ↔ False := by
  constructor
  · rintro ⟨r, s, h, hp⟩; cases h
  · exact False.elim
theorem ok_ite {α : Type} {c : Prop} [Decidable c] {A B : Option (α × St)} {P : α → St → Prop} : Ok (if c then A else B) P ↔ ((c → Ok A P) ∧ (¬ c → Ok B P)) := by
  by_cases h : c <;> simp [h]
theorem ok_T {α : Type} {c : Prop} [Decidable c] {A B : Option (α × St)} {P : α → St → Prop} (h : c) (hA : Ok A P) : Ok (if c then A else B) P := by rw [if_pos h]; exact hA
theorem ok_F {α : Type} {c : Prop} [Decidable c] {A B : Option (α × St)} {P : α → St → Prop} (h : ¬ c) (hA : Ok B P) : Ok (if c then A else B) P := by rw [if_neg h]; exact hA
theorem ok_lt {α β : Type} {x : β} {f : β → Option (α × St)} {P : α → St → Prop} : Ok (lt x f) P ↔ Ok (f x) P := Iff.rfl
theorem ok_bind {α β : Type} {x : Option (β × St)} {f : β → St → Option (α × St)} {P : α → St → Prop} : Ok (bd x f) P ↔ Ok x (fun r σ => Ok (f r σ) P) := by
  constructor
  · rintro ⟨r, s, h, hp⟩
    cases x with
    | none => cases h
    | some q => exact ⟨q.1, q.2, rfl, r, s, h, hp⟩
  · rintro ⟨q, s, rfl, r, s2, h, hp⟩
    exact ⟨r, s2, h, hp⟩
theorem Ok.mono {α : Type} {x : Option (α × St)} {P Q : α → St → Prop} (h : Ok x P) (k : ∀ r σ, P r σ → Q r σ) : Ok x Q := by
  obtain ⟨r, s, e, hp⟩ := h
  exact ⟨r, s, e, k r s hp⟩
theorem ok_call {α β : Type} {x : Option (β × St)} {f : β → St → Option (α × St)} {P0 : β → St → Prop} {P : α → St → Prop} (h : Ok x P0) (k : ∀ r σ, P0 r σ → Ok (f r σ) P) : Ok (bd x f) P :=
  ok_bind.mpr (h.mono k)
theorem bind_s {α β : Type} {r : β} {s : St} {f : β → St → Option α} : bd (some (r, s)) f = f r s := rfl
theorem itx {α : Type} {c d : Prop} [Decidable c] [Decidable d] (h : c ↔ d) (a b : α) : (if c then a else b) = (if d then a else b) := by
  by_cases hc : c
  · rw [if_pos hc, if_pos (h.mp hc)]
  · rw [if_neg hc, if_neg (fun q => hc (h.mpr q))]
theorem it2 {α : Type} {c d e : Prop} [Decidable c] [Decidable d] [Decidable e] (h : e ↔ (¬ c ∧ ¬ d)) (a b : α) : (if c then a else if d then a else b) = (if e then b else a) := by
  by_cases hc : c
  · rw [if_pos hc, if_neg (fun q => (h.mp q).1 hc)]
  · rw [if_neg hc]
    by_cases hd : d
    · rw [if_pos hd, if_neg (fun q => (h.mp q).2 hd)]
    · rw [if_neg hd, if_pos (h.mpr ⟨hc, hd⟩)]
theorem FU_ge : 1000000 ≤ FU := by unfold FU; omega
-- numbers
theorem lit (n : Nat) : (OfNat.ofNat n : Int32) = nI n := rfl
theorem i32_lt {a b : Int32} : a < b ↔ a.toInt < b.toInt := Int32.lt_iff_toInt_lt
theorem i32_le {a b : Int32} : a ≤ b ↔ a.toInt ≤ b.toInt := Int32.le_iff_toInt_le
theorem i32_eq {a b : Int32} : a = b ↔ a.toInt = b.toInt := Int32.toInt_inj.symm
theorem i32_range (a : Int32) : -2147483648 ≤ a.toInt ∧ a.toInt < 2147483648 := ⟨Int32.le_toInt a, Int32.toInt_lt a⟩
theorem inb_nI {k n : Nat} (hk : k < 2 ^ 31) : inb (nI k) n ↔ k < n := by
  unfold inb; rw [nI_toInt hk]; omega
theorem inb_ex {x : Int32} {n : Nat} (h : inb x n) : ∃ k, k < n ∧ x = nI k ∧ k < 2 ^ 31 := by
  have hr := i32_range x
  obtain ⟨h1, h2⟩ := h
  have hlt : x.toInt.toNat < 2 ^ 31 := by omega
  exact ⟨x.toInt.toNat, by omega, i32_eq.mpr (by rw [nI_toInt hlt]; omega), hlt⟩
theorem nI_inj {a b : Nat} (ha : a < 2 ^ 31) (hb : b < 2 ^ 31) : (nI a = nI b) ↔ a = b := nI_eq ha hb
theorem nI_m1 {a : Nat} (ha : a < 2 ^ 31) : ¬ nI a = -1 := by
  rw [i32_eq, nI_toInt ha]; intro h; have : (-1 : Int32).toInt = -1 := rfl; omega
theorem m1_nI {a : Nat} (ha : a < 2 ^ 31) : ¬ -1 = nI a := fun h => nI_m1 ha h.symm
/-- x below n, as the class asks it -/
theorem e7_isBelow (x y : Int32) (σ : St) {n : Nat} (hy : y = nI n) (hn : n < 2 ^ 31) : M7_isBelow x y σ = some (if inb x n then 1 else 0, σ) := by
  subst hy
  unfold M7_isBelow
  rw [it2 (e := inb x n)]
  rw [i32_lt, i32_le, nI_toInt hn]
  unfold inb
  have h0 : (0 : Int32).toInt = 0 := rfl
  rw [h0]; omega
theorem cmp_lt (a b : Int64) : lg_cmp a b < 0 ↔ a < b := by
  unfold lg_cmp
  rw [Int64.lt_iff_toInt_lt]
  by_cases h : a > b
  · rw [if_pos h]; have := Int64.lt_iff_toInt_lt.mp h; constructor
    · intro h; exact absurd h (by decide)
    · intro h; omega
  · rw [if_neg h]
    have h2 : ¬ b.toInt < a.toInt := fun q => h (Int64.lt_iff_toInt_lt.mpr q)
    by_cases e : a = b
    · rw [if_pos e]; subst e; constructor
      · intro h; exact absurd h (by decide)
      · intro h; omega
    · rw [if_neg e]
      have : a.toInt ≠ b.toInt := fun q => e (Int64.toInt_inj.mp q)
      constructor
      · intro _; omega
      · intro _; decide
theorem cmp_gt (a b : Int64) : 0 < lg_cmp a b ↔ b < a := by
  unfold lg_cmp
  by_cases h : a > b
  · rw [if_pos h]; constructor
    · intro _; exact h
    · intro _; decide
  · rw [if_neg h]
    by_cases e : a = b
    · rw [if_pos e]; constructor
      · intro h; exact absurd h (by decide)
      · intro q; exact absurd q h
    · rw [if_neg e]; constructor
      · intro h; exact absurd h (by decide)
      · intro q; exact absurd q h
theorem e8_in (x lo hi : Int64) (σ : St) : M8_in x lo hi σ = some (if lo ≤ x ∧ x ≤ hi then 1 else 0, σ) := by
  unfold M8_in
  rw [it2 (e := lo ≤ x ∧ x ≤ hi)]
  rw [cmp_lt, cmp_gt]
  simp only [Int64.lt_iff_toInt_lt, Int64.le_iff_toInt_le]
  omega
/-- x within a to b, as the reference asks it -/
theorem e8_inx (x : Int32) (lo hi : Int64) (σ : St) {a b : Int} (ha : lo.toInt = a) (hb : hi.toInt = b) : M8_in x.toInt64 lo hi σ = some (if a ≤ x.toInt ∧ x.toInt ≤ b then 1 else 0, σ) := by
  rw [e8_in, itx (d := a ≤ x.toInt ∧ x.toInt ≤ b)]
  simp only [Int64.le_iff_toInt_le, Int32.toInt_toInt64, ha, hb]
theorem e8_in0 (x : Int32) (hi : Int64) (σ : St) {n : Nat} (hb : hi.toInt = (n : Int) - 1) : M8_in x.toInt64 0 hi σ = some (if inb x n then 1 else 0, σ) := by
  rw [e8_inx x 0 hi σ (a := 0) rfl hb, itx (d := inb x n)]
  unfold inb
  omega
theorem e8_isTwo (x : Int32) (σ : St) : M8_isTwo x σ = some (if inb x 2 then 1 else 0, σ) := by
  unfold M8_isTwo
  rw [e8_in0 x 1 σ (n := 2) rfl, bind_s]
  by_cases h : inb x 2 <;> simp [h]
theorem e8_isSheet (x : Int32) (σ : St) : M8_isSheet x σ = some (if inb x 4 then 1 else 0, σ) := by
  unfold M8_isSheet
  rw [e8_in0 x 3 σ (n := 4) rfl, bind_s]
  by_cases h : inb x 4 <;> simp [h]
theorem e8_isDay (x : Int32) (σ : St) : M8_isDay x σ = some (if inb x 40 then 1 else 0, σ) := by
  unfold M8_isDay
  rw [e8_in0 x 39 σ (n := 40) rfl, bind_s]
  by_cases h : inb x 40 <;> simp [h]
theorem e8_isAnyHole (x : Int32) (σ : St) : M8_isAnyHole x σ = some (if inb x 8 then 1 else 0, σ) := by
  unfold M8_isAnyHole
  rw [e8_in0 x 7 σ (n := 8) rfl, bind_s]
  by_cases h : inb x 8 <;> simp [h]
