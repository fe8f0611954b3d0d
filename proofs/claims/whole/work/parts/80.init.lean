def KC (g : Gd) (aS : Nat → Nat) (U : State) : Prop := va_K g.1 cls (tysG g) U ∧ (∀ w ∈ NL, va_Nw w U) ∧ va_AO RX2 U ∧ va_AO RX5 U ∧ vk_R RX7 11 "rsl" (aS 0) U ∧ vk_R RX7 20 "rsla" (aS 1) U
theorem KC.moved {g : Gd} {aS : Nat → Nat} {s U : State} (hW : s.WarmedH U.vm) (h : KC g aS s) : KC g aS U := by
  obtain ⟨h1, h3, h4, h5, h6, h7⟩ := h
  refine ⟨va_K.moved hW.alike h1, fun w hw => ?_, h4.moved hW.alike, h5.moved hW.alike, h6.warm hW, h7.warm hW⟩
  have hz := h3 w hw
  have hn : isNestW w = true := (List.mem_filter.mp hw).2
  match w, hn, hz with
  | .fieldLinkNest .., _, hz => exact va_Nw.warmF hW hz
  | .methodLinkNest .., _, hz => exact va_Nw.warmM hW hz
theorem KC.calling {g : Gd} {aS : Nat → Nat} {U : State} {fr : JFrame} {mk : MethodId} {av : Array Value} (h : KC g aS U) : KC g aS (U.calling fr mk av) := by
  obtain ⟨h1, h3, h4, h5, h6, h7⟩ := h
  refine ⟨va_K.moved (u := U) (Vm.Alike.refl U.vm) h1, fun w hw => ?_, va_AO.moved (u := U) (Vm.Alike.refl U.vm) h4, va_AO.moved (u := U) (Vm.Alike.refl U.vm) h5, vk_R.same (u := U) rfl h6, vk_R.same (u := U) rfl h7⟩
  have hn : isNestW w = true := (List.mem_filter.mp hw).2
  exact va_Nw.same (by match w, hn with
    | .fieldLinkNest .., _ => rfl
    | .methodLinkNest .., _ => rfl) (u := U) rfl (h3 w hw)
/-- what stands fixed while a constructor runs -/
def FK (p : Program) (s : State) (m : MethodId) (args : Array Value) (c : Code) (cc : ByteArray) (nL : Nat) (own : String) (g : Gd) (aS : Nat → Nat) (A : Nat → Prop) : Prop :=
  p.tables.exec = Jvm.exec ∧ c.code = cc ∧ c.maxLocals = nL ∧ s.vm.findClass own = some m.cls ∧ (∀ w ∈ TB, w.before args s = true) ∧ KC g aS s ∧ (∀ q : Nat, s.heap.size ≤ q → A q)
def ZK (p : Program) (l : Launch) (e : Env) (R : Room) (s : State) (m : MethodId) (args : Array Value) (below : List Frame) (meth : Method) (c : Code) (Q : State → Prop) (nL : Nat) (g : Gd) (A : Nat → Prop) (ws : va_W) (cz sz : Nat) (pc : Nat) (lv : List (Nat × Value)) (st : List Value) : Prop :=
  ∀ (H : Heap) (locs : List Loc) (ls : Array Slot), va_P g.1 cls ws H → va_D A ws → va_S A s.heap H locs → lv_has ls nL lv → W p l e R s m args below meth c H locs cz sz Q (F0 m pc ls st)
def PcK (g : Gd) (aS : Nat → Nat) (av : List Value) (sz : Nat) (ws : va_W) : Array Value → State → Prop := va_Pc av (fun U => U.heap.size = sz ∧ va_P g.1 cls ws U.heap ∧ va_D (fun _ => True) ws ∧ KC g aS U)
def QvK (g : Gd) (ws : va_W) (sz : Nat) (B : (Nat → Nat) → va_W) : Array Value → State → Outcome → State → Prop := va_Qv (S := Nat → Nat) (fun _ => True) (fun u t => va_P g.1 cls (B u) t.heap ∧ va_D (va_A ws sz) (B u)) (va_A ws sz)
def rmC (L mc ms : Nat) : Room := { frames := L, cells := mc, slots := ms, locals := 34 * L }
/-- a constructor's contract -/
def CtK (l : Launch) (y : MethodName) (b : ByteArray) (n L mc ms : Nat) (g : Gd) (aS : Nat → Nat) (q : Nat) (e0 : va_E) (As : List Value) (B : (Nat → Nat) → va_W) : Prop :=
  ∀ sz : Nat, Met l y (wsY y b n none) (rmC L mc ms) (PcK g aS (.ref q :: As) sz [(q, e0)]) (QvK g [(q, e0)] sz B) mc ms (va_A [(q, e0)] sz)
section RowsK
variable {p : Program} {l : Launch} {e : Env} {R : Room} {s : State} {m : MethodId} {args : Array Value} {below : List Frame} {meth : Method} {c : Code} {Q : State → Prop} {cc : ByteArray} {nL : Nat} {own : String} {g : Gd} {aS : Nat → Nat} {A : Nat → Prop} {cz sz : Nat} {ws : va_W} {pc : Nat} {lv lv' : List (Nat × Value)} {st st0 rest : List Value}
theorem va_same_array {D : va_G} {cl : List vw_C} {q : Nat} {cA : ClassId} {n : Nat} {f f' : Nat → Option Nat} {H : Heap} (h : va_at D cl (q, .inl (cA, n, .inr (.inr (.inr (.inr f))))) H) (hf : ∀ i, i < n → f i = f' i) : va_at D cl (q, .inl (cA, n, .inr (.inr (.inr (.inr f'))))) H := by
  have e : arrV cA n (fun j => va_rf (f j)) = arrV cA n (fun j => va_rf (f' j)) := by
    unfold arrV
    congr 1
    congr 1
    funext j
    show va_rf (f j.val) = va_rf (f' j.val)
    rw [hf j.val j.isLt]
  show H[q]? = some (arrV cA n (fun j => va_rf (f' j)))
  rw [← e]
  exact h
theorem va_P.put {D : va_G} {cl : List vw_C} {ws : va_W} {q k : Nat} {e0 e1 : va_E} {H : Heap} (h : va_P D cl ws H) (hk : ws[k]? = some (q, e0)) (he : va_at D cl (q, e1) H) : va_P D cl (ws.set k (q, e1)) H := by
  intro i x hx
  rw [List.getElem?_set] at hx
  by_cases hi : k = i
  · subst hi
    rw [if_pos rfl] at hx
    split at hx
    · cases hx; exact he
    · cases hx
  · rw [if_neg hi] at hx
    exact h i x hx
theorem va_D.put {A : Nat → Prop} {ws : va_W} {q k : Nat} {e0 e1 : va_E} (h : va_D A ws) (hk : ws[k]? = some (q, e0)) : va_D A (ws.set k (q, e1)) := h.set hk
theorem last_C (wr : va_W) (x : Nat × va_E) : ([wr.length] : List Nat).map (fun i => (wr ++ [x])[i]?) = ([x] : va_W).map some := by simp
theorem last_R (wr : va_W) (x : Nat × va_E) : (List.range wr.length).map (fun i => (wr ++ [x])[i]?) = wr.map some := by
  apply List.ext_getElem?
  intro i
  by_cases hi : i < wr.length
  · simp [hi, List.getElem?_append_left]
  · simp [hi]
theorem va_nd_of : ∀ (L : List Nat), L.Nodup → va_nd L = true := by
  intro L
  induction L with
  | nil => intro _; rfl
  | cons a L ih =>
    intro h
    have h1 := List.nodup_cons.mp h
    simp [va_nd, h1.1, ih h1.2]
/-- behind a constructor's call: its object was the last cell -/
theorem va_joinLast {A0 : Nat → Prop} {D : va_G} {cl : List vw_C} {wr w1 : va_W} {x : Nat × va_E} {H0 H H1 : Heap} {locs : List Loc} (hP : va_P D cl (wr ++ [x]) H) (hD : va_D A0 (wr ++ [x])) (hS : va_S A0 H0 H locs) (hA : ∀ q, H0.size ≤ q → A0 q)
    (hk : ∀ q : Nat, q < H.size → ¬ va_A [x] H.size q → H1[q]? = H[q]?) (hP1 : va_P D cl w1 H1) (hD1 : va_D (va_A [x] H.size) w1) : va_P D cl (wr ++ w1) H1 ∧ va_D A0 (wr ++ w1) :=
  va_join (wc := [x]) hP hD [wr.length] (List.range wr.length) (last_C wr x) (last_R wr x) (va_nd_of _ List.nodup_range) (fun i hi h => by simp at hi h; omega) hk (va_free (wc := [x]) hD hS hA [wr.length] (last_C wr x)) hP1 hD1
theorem k_imul {x y : Int32} (F : FK p s m args c cc nL own g aS A) (d : decode cc pc = .ok (.imul, 1)) (z : ZK p l e R s m args below meth c Q nL g A ws cz sz (pc + 1) lv (.int (x * y) :: st)) : ZK p l e R s m args below meth c Q nL g A ws cz sz pc lv (.int y :: .int x :: st) :=
  fun H locs ls hP hD hS hl => lv_imul F.1 F.2.1 d (z H locs ls hP hD hS hl)
theorem k_iconst {n : Int} {v : Int32} (F : FK p s m args c cc nL own g aS A) (d : decode cc pc = .ok (.iconst n, 1)) (hv : Int32.ofInt n = v) (z : ZK p l e R s m args below meth c Q nL g A ws cz sz (pc + 1) lv (.int v :: st)) : ZK p l e R s m args below meth c Q nL g A ws cz sz pc lv (st) :=
  fun H locs ls hP hD hS hl => lv_iconst F.1 F.2.1 d hv (z H locs ls hP hD hS hl)
theorem k_bipush {n : Int} {v : Int32} (F : FK p s m args c cc nL own g aS A) (d : decode cc pc = .ok (.bipush n, 2)) (hv : (Int8.ofInt n).toInt32 = v) (z : ZK p l e R s m args below meth c Q nL g A ws cz sz (pc + 2) lv (.int v :: st)) : ZK p l e R s m args below meth c Q nL g A ws cz sz pc lv (st) :=
  fun H locs ls hP hD hS hl => lv_bipush F.1 F.2.1 d hv (z H locs ls hP hD hS hl)
theorem k_sipush {n : Int} {v : Int32} (F : FK p s m args c cc nL own g aS A) (d : decode cc pc = .ok (.sipush n, 3)) (hv : (Int16.ofInt n).toInt32 = v) (z : ZK p l e R s m args below meth c Q nL g A ws cz sz (pc + 3) lv (.int v :: st)) : ZK p l e R s m args below meth c Q nL g A ws cz sz pc lv (st) :=
  fun H locs ls hP hD hS hl => lv_sipush F.1 F.2.1 d hv (z H locs ls hP hD hS hl)
theorem k_dup {v : Value} (F : FK p s m args c cc nL own g aS A) (d : decode cc pc = .ok (.dup, 1)) (hv : v.category = 1) (z : ZK p l e R s m args below meth c Q nL g A ws cz sz (pc + 1) lv (v :: v :: st)) : ZK p l e R s m args below meth c Q nL g A ws cz sz pc lv (v :: st) :=
  fun H locs ls hP hD hS hl => lv_dup F.1 F.2.1 d hv (z H locs ls hP hD hS hl)
theorem k_iload_n {k : Fin 4} {i q : Nat} {x : Int32} (F : FK p s m args c cc nL own g aS A) (d : decode cc pc = .ok (.iload_n k, 1)) (hi : (k : Nat) = i) (hq : lv[q]? = some (i, .int x)) (z : ZK p l e R s m args below meth c Q nL g A ws cz sz (pc + 1) lv (.int x :: st)) : ZK p l e R s m args below meth c Q nL g A ws cz sz pc lv (st) :=
  fun H locs ls hP hD hS hl => lv_iload_n F.1 F.2.1 d hi (lv_at hl q hq) (z H locs ls hP hD hS hl)
theorem k_istore_n {k : Fin 4} {i : Nat} {x : Int32} (F : FK p s m args c cc nL own g aS A) (d : decode cc pc = .ok (.istore_n k, 1)) (hi : (k : Nat) = i) (hn : i < nL) (hl' : (i, Value.int x) :: lv.filter (fun q => !(q.1 == i) && !(q.1 + 1 == i && q.2.category == 2)) = lv') (z : ZK p l e R s m args below meth c Q nL g A ws cz sz (pc + 1) lv' st) : ZK p l e R s m args below meth c Q nL g A ws cz sz pc lv (.int x :: st) :=
  fun H locs ls hP hD hS hl => lv_istore_n F.1 F.2.1 d hi hl hn hl' (fun ls hl => z H locs ls hP hD hS hl)
theorem k_aload_n {k : Fin 4} {i q : Nat} {x : Nat} (F : FK p s m args c cc nL own g aS A) (d : decode cc pc = .ok (.aload_n k, 1)) (hi : (k : Nat) = i) (hq : lv[q]? = some (i, .ref x)) (z : ZK p l e R s m args below meth c Q nL g A ws cz sz (pc + 1) lv (.ref x :: st)) : ZK p l e R s m args below meth c Q nL g A ws cz sz pc lv (st) :=
  fun H locs ls hP hD hS hl => lv_aload_n F.1 F.2.1 d hi (lv_at hl q hq) (z H locs ls hP hD hS hl)
theorem k_astore_n {k : Fin 4} {i : Nat} {x : Nat} (F : FK p s m args c cc nL own g aS A) (d : decode cc pc = .ok (.astore_n k, 1)) (hi : (k : Nat) = i) (hn : i < nL) (hl' : (i, Value.ref x) :: lv.filter (fun q => !(q.1 == i) && !(q.1 + 1 == i && q.2.category == 2)) = lv') (z : ZK p l e R s m args below meth c Q nL g A ws cz sz (pc + 1) lv' st) : ZK p l e R s m args below meth c Q nL g A ws cz sz pc lv (.ref x :: st) :=
  fun H locs ls hP hD hS hl => lv_astore_n F.1 F.2.1 d hi hl hn hl' (fun ls hl => z H locs ls hP hD hS hl)
theorem k_iinc {i q : Nat} {n : Int} {x v : Int32} (F : FK p s m args c cc nL own g aS A) (d : decode cc pc = .ok (.iinc i n, 3)) (hq : lv[q]? = some (i, .int x)) (hv : x + Int32.ofInt n = v) (hn : i < nL) (hl' : (i, Value.int v) :: lv.filter (fun q => !(q.1 == i) && !(q.1 + 1 == i && q.2.category == 2)) = lv') (z : ZK p l e R s m args below meth c Q nL g A ws cz sz (pc + 3) lv' st) : ZK p l e R s m args below meth c Q nL g A ws cz sz pc lv st :=
  fun H locs ls hP hD hS hl => lv_iinc F.1 F.2.1 d hl hq hv hn hl' (fun ls hl => z H locs ls hP hD hS hl)
theorem k_goto {off : Int} {tgt : Nat} (F : FK p s m args c cc nL own g aS A) (d : decode cc pc = .ok (.goto off, 3)) (ht : (pc : Int) + off = (tgt : Int)) (z : ZK p l e R s m args below meth c Q nL g A ws cz sz tgt lv st) : ZK p l e R s m args below meth c Q nL g A ws cz sz pc lv st :=
  fun H locs ls hP hD hS hl => lv_goto F.1 F.2.1 d ht (z H locs ls hP hD hS hl)
theorem k_geT {x y : Int32} {off : Int} {tgt : Nat} (F : FK p s m args c cc nL own g aS A) (d : decode cc pc = .ok (.if_icmp .ge off, 3)) (ht : (pc : Int) + off = (tgt : Int)) (hc : y ≤ x) (z : ZK p l e R s m args below meth c Q nL g A ws cz sz tgt lv st) : ZK p l e R s m args below meth c Q nL g A ws cz sz pc lv (.int y :: .int x :: st) :=
  fun H locs ls hP hD hS hl => lv_icmp_ge F.1 F.2.1 d ht (fun _ => z H locs ls hP hD hS hl) (fun h => absurd hc h)
theorem k_geF {x y : Int32} {off : Int} {tgt : Nat} (F : FK p s m args c cc nL own g aS A) (d : decode cc pc = .ok (.if_icmp .ge off, 3)) (ht : (pc : Int) + off = (tgt : Int)) (hc : ¬ y ≤ x) (z : ZK p l e R s m args below meth c Q nL g A ws cz sz (pc + 3) lv st) : ZK p l e R s m args below meth c Q nL g A ws cz sz pc lv (.int y :: .int x :: st) :=
  fun H locs ls hP hD hS hl => lv_icmp_ge F.1 F.2.1 d ht (fun h => absurd h hc) (fun _ => z H locs ls hP hD hS hl)
theorem k_obj {idx q : Nat} (F : FK p s m args c cc nL own g aS A) (hlink : Cond.methodLink own idx Lib.objectInit ∈ TB) (d : decode cc pc = .ok (.invokespecial idx, 3)) (hR : 1 ≤ R.frames ∧ 20 ≤ R.locals) (z : ZK p l e R s m args below meth c Q nL g A ws cz sz (pc + 3) lv []) : ZK p l e R s m args below meth c Q nL g A ws cz sz pc lv [.ref q] :=
  fun H locs ls hP hD hS hl => W.objInit F.1 F.2.1 F.2.2.2.1 (F.2.2.2.2.1 _ hlink) (F.2.2.2.2.1 _ (tbm 24 (by decide +kernel) rfl)) (F.2.2.2.2.1 _ (tbm 25 (by decide +kernel) rfl)) rfl (by rw [F.2.2.1]; exact hl.1) rfl d hR.1 (Nat.le_trans (Nat.le_of_ble_eq_true rfl) hR.2) (W.eq (g2 := F0 m (pc + 3) ls []) rfl (z H locs ls hP hD hS hl))
theorem k_new {C : String} {T : u_T} {N ci index : Nat} {ty : Nat → FieldType} {fs : List Value} {ws' : Nat → va_W} (F : FK p s m args c cc nL own g aS A) (hin : ∀ w ∈ u_ws C T N, w ∈ TB) (hty : ∀ k, k < N → parseFieldDescriptor (T k).2.2.1 = some (ty k)) (hcl : Cond.classLink own index C ∈ TB) (hinst : Cond.instantiable C N ∈ TB) (hini : Cond.initialized C ∈ TB) (hc : cls[ci]? = some (C, T, N)) (hfs : ∀ j, j < N → defaultValue (ty j) = vp_V fs j) (hcells : cz + 1 ≤ R.cells) (hslots : sz + N ≤ R.slots) (d : decode cc pc = .ok (.new index, 3)) (hw : ∀ q, ws ++ [(q, .inr (ci, fs))] = ws' q) (z : ∀ q, ZK p l e R s m args below meth c Q nL g A (ws' q) (cz + 1) (sz + N) (pc + 3) lv (.ref q :: st)) : ZK p l e R s m args below meth c Q nL g A ws cz sz pc lv st :=
  fun H locs ls hP hD hS hl => va_new F.1 F.2.1 F.2.2.2.2.1 hin ty hty F.2.2.2.1 (F.2.2.2.2.1 _ hcl) (F.2.2.2.2.1 _ hinst) (F.2.2.2.2.1 _ hini) F.2.2.2.2.2.1.1 hP hD hS F.2.2.2.2.2.2 hc hfs hcells hslots d (fun q H1 hP1 hD1 hS1 => by
    rw [hw q] at hP1 hD1
    exact z q H1 locs ls hP1 hD1 hS1 hl)
theorem k_newa {n : Int32} {N : Nat} {ws' : Nat → va_W} (F : FK p s m args c cc nL own g aS A) (hn : ¬ n < 0) (hN : n.toNatClampNeg = N) (hbytes : N * 4 ≤ 536870912) (hcells : cz + 1 ≤ R.cells) (hslots : sz + N ≤ R.slots) (d : decode cc pc = .ok (.newarray .int, 2)) (hw : ∀ q, ws ++ [(q, .inl (g.2.1, N, .inl (fun _ => 0)))] = ws' q) (z : ∀ q, ZK p l e R s m args below meth c Q nL g A (ws' q) (cz + 1) (sz + N) (pc + 2) lv (.ref q :: st)) : ZK p l e R s m args below meth c Q nL g A ws cz sz pc lv (.int n :: st) :=
  fun H locs ls hP hD hS hl => va_newa (atype := .int) (ty := .int) (a0 := (N, .inl (fun _ => 0))) F.1 F.2.1 (F.2.2.2.2.1 _ (tbm 63 (by decide +kernel) rfl)) rfl F.2.2.2.2.2.1.1 hP hD hS F.2.2.2.2.2.2 (fun _ => rfl) hn hN hbytes hcells hslots d (fun q cA H1 hK1 hP1 hD1 hS1 => by
    have e1 : s.vm.findClass ("[" ++ FieldType.int.toString) = some cA := (hK1.2 3 (cA, .int) rfl).2
    have e2 : s.vm.findClass ("[" ++ FieldType.int.toString) = some g.2.1 := (F.2.2.2.2.2.1.1.2 0 (g.2.1, .int) rfl).2
    have e : cA = g.2.1 := Option.some.inj (e1.symm.trans e2)
    subst e
    rw [hw q] at hP1 hD1
    exact z q H1 locs ls hP1 hD1 hS1 hl)
theorem k_newq {C : String} {index t0 : Nat} {cQ : ClassId} {n : Int32} {N : Nat} {ws' : Nat → va_W} (F : FK p s m args c cc nL own g aS A) (hcl : Cond.classLink own index C ∈ TB) (hover : va_AO C s) (ht : (tysG g)[t0]? = some (cQ, .object C)) (hn : ¬ n < 0) (hN : n.toNatClampNeg = N) (hbytes : N * 4 ≤ 536870912) (hcells : cz + 1 ≤ R.cells) (hslots : sz + N ≤ R.slots) (d : decode cc pc = .ok (.anewarray index, 3)) (hw : ∀ q, ws ++ [(q, .inl (cQ, N, .inr (.inr (.inr (.inr (fun _ => none))))))] = ws' q) (z : ∀ q, ZK p l e R s m args below meth c Q nL g A (ws' q) (cz + 1) (sz + N) (pc + 3) lv (.ref q :: st)) : ZK p l e R s m args below meth c Q nL g A ws cz sz pc lv (.int n :: st) :=
  fun H locs ls hP hD hS hl => va_newq F.1 F.2.1 F.2.2.2.1 (F.2.2.2.2.1 _ hcl) hover F.2.2.2.2.2.1.1 hP hD hS F.2.2.2.2.2.2 hn hN hbytes hcells hslots d (fun q cA H1 hK1 hP1 hD1 hS1 => by
    obtain ⟨-, -, -, -, -, e1⟩ := (hK1.2 3 (cA, .object C) rfl).2
    obtain ⟨-, -, -, -, -, e2⟩ := (F.2.2.2.2.2.1.1.2 t0 _ ht).2
    have e : cA = cQ := Option.some.inj (e1.symm.trans e2)
    subst e
    rw [hw q] at hP1 hD1
    exact z q H1 locs ls hP1 hD1 hS1 hl)
theorem k_putF {ci j index N q0 q : Nat} {C : String} {T : u_T} {fs : List Value} {ty : FieldType} {v : Value} {ty0 : Nat → FieldType} {ws' : va_W} (F : FK p s m args c cc nL own g aS A) (hc : cls[ci]? = some (C, T, N)) (hin : ∀ w ∈ u_ws C T N, w ∈ TB) (hty : ∀ k, k < N → parseFieldDescriptor (T k).2.2.1 = some (ty0 k)) (hnm : ∀ a, a < N → ∀ b, b < N → a ≠ b → (T a).2.1 ≠ (T b).2.1) (hj : j < N) (he : ws[q0]? = some (q, .inr (ci, fs))) (hlink : Cond.fieldLink own index own (T j).2.1 (T j).2.2.1 ∈ TB) (hfin : (T j).2.2.2 = true) (hin2 : meth.name = "<init>") (hdecl : (T j).1 = own) (hd : parseFieldDescriptor (T j).2.2.1 = some ty) (hn : narrow ty v = v) (hfit : fits ty v = true) (hlen : j < fs.length) (d : decode cc pc = .ok (.putfield index, 3)) (hw : ws.set q0 (q, .inr (ci, fs.set j v)) = ws') (z : ZK p l e R s m args below meth c Q nL g A ws' cz sz (pc + 3) lv st) : ZK p l e R s m args below meth c Q nL g A ws cz sz pc lv (v :: .ref q :: st) :=
  fun H locs ls hP hD hS hl => va_putF F.1 F.2.1 F.2.2.2.2.1 hin ty0 hty hnm F.2.2.2.1 F.2.2.2.2.2.1.1 hP hD hS q0 he hc j hj (F.2.2.2.2.1 _ hlink) (fun x hx => by rw [← hdecl]; exact hx) hfin hin2 hdecl hd hn hfit hlen d (fun H1 locs1 hP1 hD1 hS1 => by
    rw [hw] at hP1 hD1
    exact z H1 locs1 ls hP1 hD1 hS1 hl)
theorem k_put {ci j index N q0 q : Nat} {C : String} {T : u_T} {fs : List Value} {ty : FieldType} {v : Value} {ty0 : Nat → FieldType} {ws' : va_W} (F : FK p s m args c cc nL own g aS A) (hc : cls[ci]? = some (C, T, N)) (hin : ∀ w ∈ u_ws C T N, w ∈ TB) (hty : ∀ k, k < N → parseFieldDescriptor (T k).2.2.1 = some (ty0 k)) (hnm : ∀ a, a < N → ∀ b, b < N → a ≠ b → (T a).2.1 ≠ (T b).2.1) (hj : j < N) (he : ws[q0]? = some (q, .inr (ci, fs))) (hlink : Cond.fieldLink own index own (T j).2.1 (T j).2.2.1 ∈ TB) (hfin : (T j).2.2.2 = false) (hdecl : (T j).1 = own) (hd : parseFieldDescriptor (T j).2.2.1 = some ty) (hn : narrow ty v = v) (hfit : fits ty v = true) (hlen : j < fs.length) (d : decode cc pc = .ok (.putfield index, 3)) (hw : ws.set q0 (q, .inr (ci, fs.set j v)) = ws') (z : ZK p l e R s m args below meth c Q nL g A ws' cz sz (pc + 3) lv st) : ZK p l e R s m args below meth c Q nL g A ws cz sz pc lv (v :: .ref q :: st) :=
  fun H locs ls hP hD hS hl => va_put F.1 F.2.1 F.2.2.2.2.1 hin ty0 hty hnm F.2.2.2.1 F.2.2.2.2.2.1.1 hP hD hS q0 he hc j hj (F.2.2.2.2.1 _ hlink) (fun x hx => by rw [← hdecl]; exact hx) hfin hd hn hfit hlen d (fun H1 locs1 hP1 hD1 hS1 => by
    rw [hw] at hP1 hD1
    exact z H1 locs1 ls hP1 hD1 hS1 hl)
theorem k_get {ci j index N q0 q : Nat} {C : String} {T : u_T} {fs : List Value} {v : Value} (F : FK p s m args c cc nL own g aS A) (hc : cls[ci]? = some (C, T, N)) (hin : ∀ w ∈ u_ws C T N, w ∈ TB) (hj : j < N) (he : ws[q0]? = some (q, .inr (ci, fs))) (hlink : Cond.fieldLink own index own (T j).2.1 (T j).2.2.1 ∈ TB) (hdecl : (T j).1 = own) (hv : fs[j]? = some v) (d : decode cc pc = .ok (.getfield index, 3)) (z : ZK p l e R s m args below meth c Q nL g A ws cz sz (pc + 3) lv (v :: st)) : ZK p l e R s m args below meth c Q nL g A ws cz sz pc lv (.ref q :: st) :=
  fun H locs ls hP hD hS hl => va_get F.1 F.2.1 F.2.2.2.2.1 hin F.2.2.2.1 F.2.2.2.2.2.1.1 hP q0 he hc j hj (F.2.2.2.2.1 _ hlink) (fun x hx => by rw [← hdecl]; exact hx) hv d (z H locs ls hP hD hS hl)
theorem k_iast {q0 q N k : Nat} {i x : Int32} {f : Nat → Int32} {ws' : va_W} (F : FK p s m args c cc nL own g aS A) (he : ws[q0]? = some (q, .inl (g.2.1, N, .inl f))) (hi : vp_in i N) (hk : i.toNatClampNeg = k) (d : decode cc pc = .ok (.iastore, 1)) (hw : ws.set q0 (q, .inl (g.2.1, N, .inl (upd f k x))) = ws') (z : ZK p l e R s m args below meth c Q nL g A ws' cz sz (pc + 1) lv st) : ZK p l e R s m args below meth c Q nL g A ws cz sz pc lv (.int x :: .int i :: .ref q :: st) :=
  fun H locs ls hP hD hS hl => va_iast F.1 F.2.1 F.2.2.2.2.2.1.1 hP hD hS q0 0 he rfl hi d (fun H1 locs1 hP1 hD1 hS1 => by
    rw [hk, hw] at hP1 hD1
    exact z H1 locs1 ls hP1 hD1 hS1 hl)
theorem k_ast {q0 qk q v N ci t0 k : Nat} {cQ : ClassId} {r : vw_C} {vs : List Value} {i : Int32} {f : Nat → Option Nat} {ws' : va_W} (F : FK p s m args c cc nL own g aS A) (he : ws[q0]? = some (q, .inl (cQ, N, .inr (.inr (.inr (.inr f)))))) (ht : (tysG g)[t0]? = some (cQ, .object r.1)) (hv : ws[qk]? = some (v, .inr (ci, vs))) (hc : cls[ci]? = some r) (hi : vp_in i N) (hk : i.toNatClampNeg = k) (d : decode cc pc = .ok (.aastore, 1)) (hw : ws.set q0 (q, .inl (cQ, N, .inr (.inr (.inr (.inr (va_up f k (some v))))))) = ws') (z : ZK p l e R s m args below meth c Q nL g A ws' cz sz (pc + 1) lv st) : ZK p l e R s m args below meth c Q nL g A ws cz sz pc lv (.ref v :: .int i :: .ref q :: st) :=
  fun H locs ls hP hD hS hl => va_astq F.1 F.2.1 F.2.2.2.2.2.1.1 hP hD hS q0 t0 qk ci he ht hv hc hi d (fun H1 locs1 hP1 hD1 hS1 => by
    rw [hk, hw] at hP1 hD1
    exact z H1 locs1 ls hP1 hD1 hS1 hl)
theorem k_same {q0 q N : Nat} {cQ : ClassId} {f f' : Nat → Option Nat} {ws' : va_W} (he : ws[q0]? = some (q, .inl (cQ, N, .inr (.inr (.inr (.inr f)))))) (hf : ∀ i, i < N → f i = f' i) (hw : ws.set q0 (q, .inl (cQ, N, .inr (.inr (.inr (.inr f'))))) = ws') (z : ZK p l e R s m args below meth c Q nL g A ws' cz sz pc lv st) : ZK p l e R s m args below meth c Q nL g A ws cz sz pc lv st :=
  fun H locs ls hP hD hS hl => z H locs ls (by rw [← hw]; exact hP.put he (va_same_array (hP q0 _ he) hf)) (by rw [← hw]; exact hD.put he) hS hl
theorem k_ldcS {tx : String} {index q : Nat} (F : FK p s m args c cc nL own g aS A) (hZ : vk_R own index tx q s) (d : decode cc pc = .ok (.ldc index, 2)) (z : ZK p l e R s m args below meth c Q nL g A ws cz sz (pc + 2) lv (.ref q :: st)) : ZK p l e R s m args below meth c Q nL g A ws cz sz pc lv st :=
  fun H locs ls hP hD hS hl => va_ldcS F.1 F.2.1 F.2.2.2.1 hZ d (z H locs ls hP hD hS hl)
theorem k_vret {q : Nat} {e0 : va_E} {B : (Nat → Nat) → va_W} {mc ms : Nat} {n0 : Nat} (u : Nat → Nat) (F : FK p s m args c cc nL own g aS (va_A [(q, e0)] n0)) (hr : meth.sig.returnType = none) (hlk : meth.locks = false) (hc : cz ≤ mc) (hs : sz ≤ ms) (d : decode cc pc = .ok (.return_, 1)) (hw : ws = B u) : ZK p l e R s m args below meth c (MQ below (QvK g [(q, e0)] n0 B) args s mc ms (va_A [(q, e0)] n0)) nL g (va_A [(q, e0)] n0) ws cz sz pc lv [] := by
  intro H locs ls hP hD hS hl
  rw [hw] at hP hD
  refine W.widen hc hs ?_
  exact W.vret F.1 F.2.1 hr (fun t ht _ => ⟨⟨u, rfl, trivial, by rw [ht]; exact hP, hD⟩, hS.F ht⟩) hS.2.2 d hlk
theorem ck_pre {q : Nat} {e0 : va_E} {As : List Value} {wr : va_W} {H : Heap} (kc : KC g aS s) (hP : va_P g.1 cls (wr ++ [(q, e0)]) H) : PreS s H (PcK g aS (.ref q :: As) H.size [(q, e0)]) (.ref q :: As) :=
  ⟨fun _ _ _ _ h => ⟨h.1, h.2.1, h.2.2.1, h.2.2.2.1, KC.calling h.2.2.2.2⟩, fun U hU hW => ⟨rfl, by rw [hU], by
    rw [hU]
    intro k x hx
    have hk : k = 0 := by
      rcases k with _ | k
      · rfl
      · simp at hx
    subst hk
    cases hx
    exact hP wr.length _ (by simp), ⟨fun i j x y hi hj _ => by
      rcases i with _ | i <;> rcases j with _ | j <;> simp at hi hj ⊢, fun _ _ _ => trivial⟩, KC.moved hW kc⟩⟩
theorem ck_fin {q : Nat} {e0 : va_E} {wr : va_W} {H : Heap} {locs : List Loc} (F : FK p s m args c cc nL own g aS A) (hD : va_D A (wr ++ [(q, e0)])) (hS : va_S A s.heap H locs) : ∀ x, va_A [(q, e0)] H.size x → A x := va_free (wc := [(q, e0)]) hD hS F.2.2.2.2.2.2 [wr.length] (last_C wr _)
theorem k_initN {y : MethodName} {b : ByteArray} {n L mc ms nA index q : Nat} {host : String} {As : List Value} {e0 : va_E} {B : (Nat → Nat) → va_W} {ws' : (Nat → Nat) → va_W} (wr : va_W) (F : FK p s m args c cc nL own g aS A) (hM : CtK l y b n L mc ms g aS q e0 As B) (hw : ws = wr ++ [(q, e0)]) (hlink : Cond.methodLinkNest own index y host ∈ NL) (hinst : Cond.instanceMethod y ∈ TB) (hini : Cond.initialized y.cls ∈ TB) (hcode : Cond.code y b n none ∈ TB) (hy : y.name = "<init>") (hd : y.cls ≠ "java/lang/invoke/MethodHandle" ∧ y.cls ≠ "java/lang/invoke/VarHandle" ∧ (parseMethodDescriptor y.desc).map (fun d => d.parameters.length) = some nA) (hlen : As.length = nA) (hR : L + 1 ≤ R.frames ∧ 8 + (n + 11) + 34 * L ≤ R.locals) (hc : cz + mc ≤ R.cells ∧ sz + ms ≤ R.slots) (d : decode cc pc = .ok (.invokespecial index, 3)) (hst : st0 = As.reverse ++ .ref q :: rest) (hrm : (rest.map fun v => v.category).sum ≤ 8) (hw' : ∀ u, wr ++ B u = ws' u) (z : ∀ u, ZK p l e R s m args below meth c Q nL g A (ws' u) (cz + mc) (sz + ms) (pc + 3) lv rest) : ZK p l e R s m args below meth c Q nL g A ws cz sz pc lv st0 := by
  subst hw
  intro H locs ls hP hD hS hl
  have hF := ck_fin F hD hS
  exact va_callv (va_runIN (As := As) (rest := rest) (host := host) ⟨F.1, F.2.1, F.2.2.1, F.2.2.2.1, F.2.2.2.2.1⟩ (hM H.size) ⟨va_cnB nA F.2.2.2.2.1 (wsY_good hcode) rfl rfl rfl (F.2.2.2.2.2.1.2.1 _ hlink) (F.2.2.2.2.1 _ hini) hd hR, hy, F.2.2.2.2.1 _ hinst⟩ (ck_pre F.2.2.2.2.2.1 hP) rfl hlen hl.1 hst (lv_room hrm) d hc) hS (fun x _ h => hF x h) hF (fun u t H1 locs1 ht hvm hw hB hz1 hk1 hS1 => by
    obtain ⟨hP1, hD1⟩ := hB
    rw [ht] at hP1
    obtain ⟨hP2, hD2⟩ := va_joinLast hP hD hS F.2.2.2.2.2.2 hk1 hP1 hD1
    rw [hw' u] at hP2 hD2
    exact z u H1 locs1 ls hP2 hD2 hS1 hl)
theorem k_initV {y : MethodName} {b : ByteArray} {n L mc ms nA index q : Nat} {As : List Value} {e0 : va_E} {B : (Nat → Nat) → va_W} {ws' : (Nat → Nat) → va_W} (wr : va_W) (F : FK p s m args c cc nL own g aS A) (hM : CtK l y b n L mc ms g aS q e0 As B) (hw : ws = wr ++ [(q, e0)]) (hlink : Cond.methodLink own index y ∈ TB) (hinst : Cond.instanceMethod y ∈ TB) (hini : Cond.initialized y.cls ∈ TB) (hcode : Cond.code y b n none ∈ TB) (hy : y.name = "<init>") (hd : y.cls ≠ "java/lang/invoke/MethodHandle" ∧ y.cls ≠ "java/lang/invoke/VarHandle" ∧ (parseMethodDescriptor y.desc).map (fun d => d.parameters.length) = some nA) (hlen : As.length = nA) (hR : L + 1 ≤ R.frames ∧ 8 + (n + 11) + 34 * L ≤ R.locals) (hc : cz + mc ≤ R.cells ∧ sz + ms ≤ R.slots) (d : decode cc pc = .ok (.invokespecial index, 3)) (hst : st0 = As.reverse ++ .ref q :: rest) (hrm : (rest.map fun v => v.category).sum ≤ 8) (hw' : ∀ u, wr ++ B u = ws' u) (z : ∀ u, ZK p l e R s m args below meth c Q nL g A (ws' u) (cz + mc) (sz + ms) (pc + 3) lv rest) : ZK p l e R s m args below meth c Q nL g A ws cz sz pc lv st0 := by
  subst hw
  intro H locs ls hP hD hS hl
  have hF := ck_fin F hD hS
  exact va_callv (va_runI (As := As) (rest := rest) ⟨F.1, F.2.1, F.2.2.1, F.2.2.2.1, F.2.2.2.2.1⟩ (hM H.size) (cwI nA F.2.2.2.2.1 (wsY_good hcode) rfl rfl rfl (F.2.2.2.2.1 _ hini) (F.2.2.2.2.1 _ hlink) (F.2.2.2.2.1 _ hinst) hy hd hR) (ck_pre F.2.2.2.2.2.1 hP) rfl hlen hl.1 hst (lv_room hrm) d hc) hS (fun x _ h => hF x h) hF (fun u t H1 locs1 ht hvm hw hB hz1 hk1 hS1 => by
    obtain ⟨hP1, hD1⟩ := hB
    rw [ht] at hP1
    obtain ⟨hP2, hD2⟩ := va_joinLast hP hD hS F.2.2.2.2.2.2 hk1 hP1 hD1
    rw [hw' u] at hP2 hD2
    exact z u H1 locs1 ls hP2 hD2 hS1 hl)
/-- a constructor's contract out of its walk -/
theorem ct_K {y : MethodName} {b : ByteArray} {n L mc ms q : Nat} {e0 : va_E} {As : List Value} {B : (Nat → Nat) → va_W} (hy : plainName y.cls = true) (hi : y.name = "<init>") (hn : (lg_sl (.ref q :: As)).length ≤ n)
    (h : ∀ p e s m args below meth c, FK p s m args c b n y.cls g aS (va_A [(q, e0)] s.heap.size) → meth.name = "<init>" → meth.sig.returnType = none → meth.locks = false → ZK p l e (rmC L mc ms) s m args below meth c (MQ below (QvK g [(q, e0)] s.heap.size B) args s mc ms (va_A [(q, e0)] s.heap.size)) n g (va_A [(q, e0)] s.heap.size) [(q, e0)] 0 0 0 (lv_args 0 (.ref q :: As)) []) :
    CtK l y b n L mc ms g aS q e0 As B := by
  intro n0
  refine Met.ofW (cc := b) (maxL := n) (ret := none) hy rfl ?_
  intro p e s m args below meth c s1 Bd hml hv
  obtain ⟨rfl, hsz, hP, hD, hK⟩ := hv
  subst hsz
  have hts := atoms_spec (ws := wsY y b n none) Bd.pre
  have F : FK p s m (Value.ref q :: As).toArray c b n y.cls g aS (va_A [(q, e0)] s.heap.size) := ⟨Bd.exec, Bd.bytes, hml, findClass_of_methodNamed Bd.named, fun w hw => hts w (List.mem_cons_of_mem _ hw), hK, fun x hx => Or.inr hx⟩
  have h1 := h p e s m _ below meth c F ((name_of_methodNamed Bd.named Bd.method).1.trans hi) Bd.returns Bd.notSynchronized
  have hl := lv_entry (.ref q :: As) (n := n) hn
  rw [lg_entry_eq]
  exact h1 _ _ _ hP (hD.self) va_S.rf hl
end RowsK
