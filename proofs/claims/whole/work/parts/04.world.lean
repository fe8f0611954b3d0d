abbrev St : Type := Nat → Nat → Int32
def s2 (σ : St) (k j : Nat) (v : Int32) : St := fun k' j' => if k' = k ∧ j' = j then v else σ k' j'
theorem s2_ne {σ : St} {k j i : Nat} {v : Int32} (h : i ≠ k) : s2 σ k j v i = σ i := by
  funext j'; simp [s2, h]
theorem s2_row {σ : St} {k j : Nat} {v : Int32} : s2 σ k j v k = upd (σ k) j v := by
  funext j'; simp [s2, upd]
/-- a whole row of a cell anew -/
def s1 (σ : St) (k : Nat) (f : Nat → Int32) : St := fun k' => if k' = k then f else σ k'
theorem s1_ne {σ : St} {k i : Nat} {f : Nat → Int32} (h : i ≠ k) : s1 σ k f i = σ i := by simp [s1, h]
theorem s1_row {σ : St} {k : Nat} {f : Nat → Int32} : s1 σ k f k = f := by simp [s1]
def NN : Nat := 98
def kdL : List Nat := [8, 9, 9, 9, 9, 9, 9, 9, 9, 9, 9, 9, 9, 9, 9, 9, 9, 9, 9, 9, 9, 9, 9, 9, 9, 7, 6, 9, 9, 6, 9, 9, 0, 4, 9, 4, 9, 4, 9, 0, 4, 9, 4, 9, 4, 9, 4, 9, 1, 10, 9, 9, 9, 9, 9, 9, 9, 9, 2, 2, 2, 2, 2, 2, 2, 2, 1, 10, 9, 9, 9, 9, 9, 9, 9, 9, 2, 2, 2, 2, 2, 2, 2, 2, 3, 9, 9, 9, 9, 11, 5, 9, 5, 9, 5, 9, 5, 9]
def lnL : List Nat := [0, 4, 4, 240, 60, 80, 2, 2, 64, 208, 16, 22, 8, 8, 8, 8, 8, 52, 52, 52, 52, 2304, 3, 24, 80, 0, 0, 39, 32, 0, 39, 32, 0, 0, 48, 0, 32, 0, 32, 0, 0, 208, 0, 32, 0, 32, 0, 32, 0, 8, 320, 320, 320, 40, 40, 52, 52, 52, 0, 0, 0, 0, 0, 0, 0, 0, 0, 8, 320, 320, 320, 40, 40, 52, 52, 52, 0, 0, 0, 0, 0, 0, 0, 0, 0, 8, 8, 2304, 80, 4, 0, 60, 0, 60, 0, 60, 0, 60]
def kd (k : Nat) : Nat := kdL.getD k 12
def ln (k : Nat) : Nat := lnL.getD k 0
abbrev Gd : Type := va_G × ClassId × ClassId × ClassId
abbrev cls : List vw_C := [(RX0, TX0, 3), (RX1, TX1, 10), (RX2, TX2, 8), (RX3, TX3, 4), (RX4, TX4, 3), (RX5, TX5, 4), (RX6, TX6, 8), (RX7, TX7, 13), (RX8, TX8, 34)]
abbrev tysG (g : Gd) : List (ClassId × FieldType) := [(g.2.1, .int), (g.2.2.1, .object RX2), (g.2.2.2, .object RX5)]
def cel (κ : Nat) (g : Gd) (a : Nat → Nat) (σ : St) (k : Nat) : va_E := match κ with
  | 0 => .inr (0, [.ref (a (k + 1)), .ref (a (k + 3)), .ref (a (k + 5))])
  | 1 => .inr (1, [.ref (a (k + 1)), .ref (a (k + 2)), .ref (a (k + 3)), .ref (a (k + 4)), .ref (a (k + 5)), .ref (a (k + 6)), .ref (a (k + 7)), .ref (a (k + 8)), .ref (a (k + 9)), .int (σ k 9)])
  | 2 => .inr (2, [.int (σ k 0), .int (σ k 1), .int (σ k 2), .int (σ k 3), .int (σ k 4), .int (σ k 5), .int (σ k 6), .int (σ k 7)])
  | 3 => .inr (3, [.ref (a (k + 1)), .ref (a (k + 2)), .ref (a (k + 3)), .int (σ k 3)])
  | 4 => .inr (4, [.int (σ k 0), .ref (a (k + 1)), .int (σ k 2)])
  | 5 => .inr (5, [.ref (a (k + 1)), .int (σ k 1), .int (σ k 2), .int (σ k 3)])
  | 6 => .inr (6, [.ref (a (98 + (k - 26) / 3)), .int (σ k 1), .int (σ k 2), .ref (a (k + 1)), .ref (a (k + 2)), .int (σ k 5), .int (σ k 6), .int (σ k 7)])
  | 7 => .inr (7, [.ref (a (k + 1)), .ref (a (k + 4)), .ref (a (k + 7)), .ref (a (k + 21)), .ref (a (k + 23)), .int (σ k 5), .ref (a (k + 14)), .ref (a (k + 41)), .ref (a (k + 59)), .ref (a (k + 63)), .ref (a (k + 64)), .int (σ k 11), .int (σ k 12)])
  | 8 => .inr (8, [.ref (a (k + 1)), .ref (a (k + 2)), .ref (a (k + 3)), .ref (a (k + 4)), .int (σ k 4), .ref (a (k + 5)), .ref (a (k + 6)), .ref (a (k + 7)), .ref (a (k + 8)), .int (σ k 9), .ref (a (k + 9)), .int (σ k 11), .ref (a (k + 10)), .int (σ k 13), .ref (a (k + 11)), .int (σ k 15), .ref (a (k + 12)), .ref (a (k + 13)), .ref (a (k + 14)), .ref (a (k + 15)), .ref (a (k + 16)), .int (σ k 21), .ref (a (k + 17)), .ref (a (k + 18)), .ref (a (k + 19)), .ref (a (k + 20)), .int (σ k 26), .int (σ k 27), .ref (a (k + 21)), .ref (a (k + 22)), .int (σ k 30), .ref (a (k + 23)), .ref (a (k + 24)), .int (σ k 33)])
  | 9 => .inl (g.2.1, ln k, .inl (σ k))
  | 10 => .inl (g.2.2.1, 8, .inr (.inr (.inr (.inr (fun i => some (a (k + 9 + i)))))))
  | _ => .inl (g.2.2.2, 4, .inr (.inr (.inr (.inr (fun i => some (a (k + 1 + 2 * i)))))))
def wl (g : Gd) (a : Nat → Nat) (σ : St) : va_W := (List.range NN).map (fun k => (a k, cel (kd k) g a σ k))
theorem kd_lt {k κ : Nat} (h : kd k = κ) (hκ : κ < 12) : k < NN := by
  rcases Nat.lt_or_ge k NN with q | q
  · exact q
  · exfalso
    have : kd k = 12 := by
      unfold kd
      have h0 : kdL[k]? = none := List.getElem?_eq_none (by simpa [kdL, NN] using q)
      simp [List.getD, h0]
    omega
theorem wl_get {g : Gd} {a : Nat → Nat} {σ : St} {k : Nat} (hk : k < NN) : (wl g a σ)[k]? = some (a k, cel (kd k) g a σ k) := by
  simp [wl, hk]
theorem wl_at {g : Gd} {a : Nat → Nat} {σ : St} {k κ : Nat} (h : kd k = κ) (hκ : κ < 12) : (wl g a σ)[k]? = some (a k, cel κ g a σ k) := by
  rw [wl_get (kd_lt h hκ), h]
theorem cel_congr {κ : Nat} {g : Gd} {a : Nat → Nat} {σ σ' : St} {k : Nat} (h : σ' k = σ k) : cel κ g a σ' k = cel κ g a σ k := by
  unfold cel; split <;> simp [h]
theorem wl_set {g : Gd} {a : Nat → Nat} {σ σ' : St} {k κ : Nat} {x : va_E} (hk : kd k = κ) (hκ : κ < 12) (h1 : x = cel κ g a σ' k) (h2 : ∀ i, i ≠ k → σ' i = σ i) : (wl g a σ).set k (a k, x) = wl g a σ' := by
  apply List.ext_getElem?
  intro i
  rw [List.getElem?_set]
  by_cases hi : k = i
  · subst hi
    rw [if_pos rfl, if_pos (by simpa [wl] using kd_lt hk hκ), wl_at hk hκ, h1]
  · rw [if_neg hi]
    by_cases hn : i < NN
    · rw [wl_get hn, wl_get hn, cel_congr (h2 i (Ne.symm hi))]
    · have e1 : (wl g a σ)[i]? = none := List.getElem?_eq_none (by simp [wl]; omega)
      have e2 : (wl g a σ')[i]? = none := List.getElem?_eq_none (by simp [wl]; omega)
      rw [e1, e2]
def Ad (a : Nat → Nat) : Nat → Prop := fun q => ∃ k, k < NN ∧ q = a k
def Inj (a : Nat → Nat) : Prop := ∀ i j, i < NN → j < NN → a i = a j → i = j
theorem wl_lt {g : Gd} {a : Nat → Nat} {σ : St} {i : Nat} {q : Nat × va_E} (h : (wl g a σ)[i]? = some q) : i < NN ∧ q.1 = a i := by
  have hi : i < NN := by
    have := (List.getElem?_eq_some_iff.mp h).1
    simpa [wl] using this
  rw [wl_get hi] at h
  cases h
  exact ⟨hi, rfl⟩
theorem wl_D {g : Gd} {a : Nat → Nat} (h : Inj a) (σ : St) : va_D (Ad a) (wl g a σ) := by
  refine ⟨fun i j p q hp hq e => ?_, fun k q hk => ?_⟩
  · obtain ⟨h1, h2⟩ := wl_lt hp
    obtain ⟨h3, h4⟩ := wl_lt hq
    exact h i j h1 h3 (by rw [← h2, ← h4, e])
  · obtain ⟨h1, h2⟩ := wl_lt hk
    exact ⟨k, h1, h2⟩
def TB : List Cond := lw_tbl.filter goodWord
def isNestW : Cond → Bool
  | .fieldLinkNest .. => true
  | .methodLinkNest .. => true
  | _ => false
def NL : List Cond := tables_1.filter isNestW
def SK (a : Nat → Nat) (U : State) : Prop := vk_S 2 [3, 4] [[114, 115, 108], [114, 115, 108, 97]] (fun i => a (98 + i)) (fun i => a (100 + i)) (Ad a) U U.heap ∧ va_Z "java/lang/String" "COMPACT_STRINGS" "Z" (.int 1) (Ad a) U U.heap
def KP (g : Gd) (a : Nat → Nat) (U : State) : Prop := va_K g.1 cls (tysG g) U ∧ Inj a ∧ (∀ w ∈ NL, va_Nw w U) ∧ SK a U
theorem KP.moved {g : Gd} {a : Nat → Nat} {s U : State} (hW : s.WarmedH U.vm) (hq : ∀ q : Nat, q < s.heap.size → ¬ Ad a q → U.heap[q]? = s.heap[q]?) (h : KP g a s) : KP g a U := by
  obtain ⟨h1, h2, h3, h4, h5⟩ := h
  refine ⟨va_K.moved hW.alike h1, h2, fun w hw => ?_, vk_S.moved hW.alike (h4.kept hq), va_Z.moved hW.alike (h5.kept hq)⟩
  have hz := h3 w hw
  have hn : isNestW w = true := (List.mem_filter.mp hw).2
  match w, hn, hz with
  | .fieldLinkNest .., _, hz => exact va_Nw.warmF hW hz
  | .methodLinkNest .., _, hz => exact va_Nw.warmM hW hz
theorem KP.calling {g : Gd} {a : Nat → Nat} {U : State} {fr : JFrame} {mk : MethodId} {av : Array Value} (h : KP g a U) : KP g a (U.calling fr mk av) := by
  obtain ⟨h1, h2, h3, h4, h5⟩ := h
  refine ⟨va_K.moved (u := U) (Vm.Alike.refl U.vm) h1, h2, fun w hw => ?_, vk_S.moved (u := U) (Vm.Alike.refl U.vm) h4, va_Z.moved (u := U) (Vm.Alike.refl U.vm) h5⟩
  have hn : isNestW w = true := (List.mem_filter.mp hw).2
  exact va_Nw.same (by match w, hn with
    | .fieldLinkNest .., _ => rfl
    | .methodLinkNest .., _ => rfl) (u := U) rfl (h3 w hw)
/-- what stands fixed while a method runs -/
def Fx (p : Program) (s : State) (m : MethodId) (args : Array Value) (meth : Method) (c : Code) (cc : ByteArray) (nL : Nat) (own : String) (rt : Option FieldType) (R : Room) (cz sz : Nat) (g : Gd) (a : Nat → Nat) : Prop :=
  p.tables.exec = Jvm.exec ∧ c.code = cc ∧ c.maxLocals = nL ∧ s.vm.findClass own = some m.cls ∧ (∀ w ∈ TB, w.before args s = true) ∧ KP g a s ∧ meth.sig.returnType = rt ∧ meth.locks = false ∧ cz ≤ R.cells ∧ sz ≤ R.slots
/-- the machine at pc, over the world σ, comes to Q -/
def Z (p : Program) (l : Launch) (e : Env) (R : Room) (s : State) (m : MethodId) (args : Array Value) (below : List Frame) (meth : Method) (c : Code) (Q : State → Prop) (nL : Nat) (g : Gd) (a : Nat → Nat) (cz sz : Nat) (σ : St) (pc : Nat) (lv : List (Nat × Value)) (st : List Value) : Prop :=
  ∀ (H : Heap) (locs : List Loc) (ls : Array Slot), va_P g.1 cls (wl g a σ) H → va_S (Ad a) s.heap H locs → lv_has ls nL lv → W p l e R s m args below meth c H locs cz sz Q (F0 m pc ls st)
