section WalkZ
variable {p : Program} {l : Launch} {e : Env} {R : Room} {s : State} {m : MethodId} {args : Array Value} {below : List Frame} {meth : Method} {c : Code} {Q : State → Prop} {cc : ByteArray} {nL : Nat} {own : String} {rt : Option FieldType} {g : Gd} {a : Nat → Nat} {cz sz : Nat} {σ σ1 σ' : St} {pc : Nat} {lv lv' : List (Nat × Value)} {st st0 rest : List Value}
theorem zM8_tellsHole_J68 {r : Int64} {x3 : Int32} {x6 : Int32} {y0 : Int32} {y2 : Int64} {σ : St} (F : Fx p s m args meth c cX8_tellsHole 7 RX8 (some .long) (rmL 6) 0 0 g a) {kb : Int64 → Int32 → St → Option (Int64 × St)} (hb : ∀ (w4 : Int64) (w6 : Int32) (σ : St), kb w4 w6 σ = some (r, σ') → Z p l e (rmL 6) s m args below meth c (MQ below (QlW g a r σ') args s 0 0 (Ad a)) 7 g a 0 0 σ 42 [(0, .ref (a 0)), (3, .int x3), (4, .long w4), (6, .int w6)] []) (h : M8_tellsHole_J68 kb x3 x6 y0 y2 σ = some (r, σ')) : Z p l e (rmL 6) s m args below meth c (MQ below (QlW g a r σ') args s 0 0 (Ad a)) 7 g a 0 0 σ 68 [(0, .ref (a 0)), (3, .int x3), (6, .int x6)] [.int y0, .ref (a 0), .long y2] := by
  unfold M8_tellsHole_J68 at h
  refine z_iload_n (q := 1) F dX8_tellsHole_68 rfl rfl ?_
  refine z_iload (q := 2) F dX8_tellsHole_69 rfl ?_
  refine z_iconst (v := 3) F dX8_tellsHole_71 rfl ?_
  refine z_irem F dX8_tellsHole_72 (by decide) ?_
  obtain ⟨r10, σ10, hq10, h⟩ := bd_of h
  refine cl8_221 F hq10 ⟨Nat.le_of_ble_eq_true rfl, Nat.le_of_ble_eq_true rfl⟩ dX8_tellsHole_73 (Nat.le_of_ble_eq_true rfl) ?_
  refine z_i2l F dX8_tellsHole_76 ?_
  refine z_ladd F dX8_tellsHole_77 ?_
  refine z_letJ h (fun v11 h => ?_)
  refine z_lstore (lv' := [(4, .long v11), (0, .ref (a 0)), (3, .int x3), (6, .int x6)]) F dX8_tellsHole_78 (by decide) rfl ?_
  refine z_iinc (q := 3) (v := x6 + 1) (lv' := [(6, .int (x6 + 1)), (4, .long v11), (0, .ref (a 0)), (3, .int x3)]) F dX8_tellsHole_80 rfl rfl (by decide) rfl ?_
  refine z_letL (s0 := 6) (lv := [(4, .long v11), (0, .ref (a 0)), (3, .int x3)]) h (fun v12 h => ?_)
  refine z_goto (tgt := 42) F dX8_tellsHole_83 rfl ?_
  refine z_sub (lv' := [(0, .ref (a 0)), (3, .int x3), (4, .long v11), (6, .int v12)]) [2, 3, 1, 0] rfl ?_
  exact hb _ _ _ h
theorem zM8_tellsHole_L42 {r : Int64} {x3 : Int32} (F : Fx p s m args meth c cX8_tellsHole 7 RX8 (some .long) (rmL 6) 0 0 g a) {kx : Int64 → St → Option (Int64 × St)} (hx : ∀ (w4 : Int64) (σ : St), kx w4 σ = some (r, σ') → Z p l e (rmL 6) s m args below meth c (MQ below (QlW g a r σ') args s 0 0 (Ad a)) 7 g a 0 0 σ 86 [(0, .ref (a 0)), (3, .int x3), (4, .long w4)] []) : ∀ (n : Nat) (x4 : Int64) (x6 : Int32) (σ : St), M8_tellsHole_L42 x3 kx n x4 x6 σ = some (r, σ') → Z p l e (rmL 6) s m args below meth c (MQ below (QlW g a r σ') args s 0 0 (Ad a)) 7 g a 0 0 σ 42 [(0, .ref (a 0)), (3, .int x3), (4, .long x4), (6, .int x6)] [] := by
  intro n
  induction n with
  | zero => intro x4 x6 σ h; rw [M8_tellsHole_L42] at h; cases h
  | succ n ih =>
    intro x4 x6 σ h
    rw [M8_tellsHole_L42] at h
    refine z_iload (q := 3) F dX8_tellsHole_42 rfl ?_
    refine z_bipush (v := 6) F dX8_tellsHole_44 rfl ?_
    refine z_icmp_ge (tgt := 86) F dX8_tellsHole_46 rfl (fun c7 => ?_) (fun c7 => ?_)
    · have h := ite_T c7 h
      refine z_sub (lv' := [(0, .ref (a 0)), (3, .int x3), (4, .long x4)]) [0, 1, 2] rfl ?_
      exact hx _ _ h
    · have h := ite_F c7 h
      refine z_ldc2 (v := 31) F dX8_tellsHole_49 (tbm 1273 (by decide +kernel) rfl) ?_
      refine z_lload (q := 2) F dX8_tellsHole_52 rfl ?_
      refine z_lmul F dX8_tellsHole_54 ?_
      refine z_aload_n (q := 0) F dX8_tellsHole_55 rfl rfl ?_
      refine z_iload (q := 3) F dX8_tellsHole_56 rfl ?_
      refine z_iconst (v := 3) F dX8_tellsHole_58 rfl ?_
      refine z_icmp_ge (tgt := 66) F dX8_tellsHole_59 rfl (fun c8 => ?_) (fun c8 => ?_)
      · try simp only [if_pos c8] at h
        refine z_bipush (v := 39) F dX8_tellsHole_66 rfl ?_
        refine z_sub (lv' := [(0, .ref (a 0)), (3, .int x3), (6, .int x6)]) [0, 1, 3] rfl ?_
        exact zM8_tellsHole_J68 F ih h
      · try simp only [if_neg c8] at h
        refine z_iconst (v := 5) F dX8_tellsHole_62 rfl ?_
        refine z_goto (tgt := 68) F dX8_tellsHole_63 rfl ?_
        refine z_sub (lv' := [(0, .ref (a 0)), (3, .int x3), (6, .int x6)]) [0, 1, 3] rfl ?_
        exact zM8_tellsHole_J68 F ih h
theorem zM8_tellsHole_L6 {r : Int64} {x3 : Int32} (F : Fx p s m args meth c cX8_tellsHole 7 RX8 (some .long) (rmL 6) 0 0 g a) {kx : Int64 → St → Option (Int64 × St)} (hx : ∀ (w4 : Int64) (σ : St), kx w4 σ = some (r, σ') → Z p l e (rmL 6) s m args below meth c (MQ below (QlW g a r σ') args s 0 0 (Ad a)) 7 g a 0 0 σ 39 [(0, .ref (a 0)), (3, .int x3), (4, .long w4)] []) : ∀ (n : Nat) (x4 : Int64) (x6 : Int32) (σ : St), M8_tellsHole_L6 x3 kx n x4 x6 σ = some (r, σ') → Z p l e (rmL 6) s m args below meth c (MQ below (QlW g a r σ') args s 0 0 (Ad a)) 7 g a 0 0 σ 6 [(0, .ref (a 0)), (3, .int x3), (4, .long x4), (6, .int x6)] [] := by
  intro n
  induction n with
  | zero => intro x4 x6 σ h; rw [M8_tellsHole_L6] at h; cases h
  | succ n ih =>
    intro x4 x6 σ h
    rw [M8_tellsHole_L6] at h
    refine z_iload (q := 3) F dX8_tellsHole_6 rfl ?_
    refine z_iconst (v := 4) F dX8_tellsHole_8 rfl ?_
    refine z_icmp_ge (tgt := 39) F dX8_tellsHole_9 rfl (fun c1 => ?_) (fun c1 => ?_)
    · have h := ite_T c1 h
      refine z_sub (lv' := [(0, .ref (a 0)), (3, .int x3), (4, .long x4)]) [0, 1, 2] rfl ?_
      exact hx _ _ h
    · have h := ite_F c1 h
      refine z_ldc2 (v := 31) F dX8_tellsHole_12 (tbm 1273 (by decide +kernel) rfl) ?_
      refine z_lload (q := 2) F dX8_tellsHole_15 rfl ?_
      refine z_lmul F dX8_tellsHole_17 ?_
      refine z_aload_n (q := 0) F dX8_tellsHole_18 rfl rfl ?_
      refine gf8_31 F kdc_0 dX8_tellsHole_19 ?_
      refine z_iconst (v := 4) F dX8_tellsHole_22 rfl ?_
      refine z_iload_n (q := 1) F dX8_tellsHole_23 rfl rfl ?_
      refine z_imul F dX8_tellsHole_24 ?_
      refine z_iload (q := 3) F dX8_tellsHole_25 rfl ?_
      refine z_iadd F dX8_tellsHole_27 ?_
      obtain ⟨g2, h⟩ := gd_of h
      refine z_iald F kdc_8 (inl lnc_8 g2) dX8_tellsHole_28 ?_
      refine z_i2l F dX8_tellsHole_29 ?_
      refine z_ladd F dX8_tellsHole_30 ?_
      refine z_letJ h (fun v3 h => ?_)
      refine z_lstore (lv' := [(4, .long v3), (0, .ref (a 0)), (3, .int x3), (6, .int x6)]) F dX8_tellsHole_31 (by decide) rfl ?_
      refine z_iinc (q := 3) (v := x6 + 1) (lv' := [(6, .int (x6 + 1)), (4, .long v3), (0, .ref (a 0)), (3, .int x3)]) F dX8_tellsHole_33 rfl rfl (by decide) rfl ?_
      refine z_letL (s0 := 6) (lv := [(4, .long v3), (0, .ref (a 0)), (3, .int x3)]) h (fun v4 h => ?_)
      refine z_goto (tgt := 6) F dX8_tellsHole_36 rfl ?_
      refine z_sub (lv' := [(0, .ref (a 0)), (3, .int x3), (4, .long v3), (6, .int v4)]) [2, 3, 1, 0] rfl ?_
      exact ih _ _ _ h
theorem zM8_tellsHole {r : Int64} {x1 : Int64} {x3 : Int32} {σ : St} (F : Fx p s m args meth c cX8_tellsHole 7 RX8 (some .long) (rmL 6) 0 0 g a) (h : M8_tellsHole x1 x3 σ = some (r, σ')) : Z p l e (rmL 6) s m args below meth c (MQ below (QlW g a r σ') args s 0 0 (Ad a)) 7 g a 0 0 σ 0 [(0, .ref (a 0)), (1, .long x1), (3, .int x3)] [] := by
  unfold M8_tellsHole at h
  refine z_lload_n (q := 1) F dX8_tellsHole_0 rfl rfl ?_
  refine z_lstore (lv' := [(4, .long x1), (0, .ref (a 0)), (1, .long x1), (3, .int x3)]) F dX8_tellsHole_1 (by decide) rfl ?_
  refine z_iconst (v := 0) F dX8_tellsHole_3 rfl ?_
  refine z_istore (lv' := [(6, .int 0), (4, .long x1), (0, .ref (a 0)), (1, .long x1), (3, .int x3)]) F dX8_tellsHole_4 (by decide) rfl ?_
  refine z_sub (lv' := [(0, .ref (a 0)), (3, .int x3), (4, .long x1), (6, .int 0)]) [2, 4, 1, 0] rfl ?_
  refine zM8_tellsHole_L6 F ?_ _ _ _ _ h
  intro v5 σ6 h
  refine z_iconst (v := 0) F dX8_tellsHole_39 rfl ?_
  refine z_istore (lv' := [(6, .int 0), (0, .ref (a 0)), (3, .int x3), (4, .long v5)]) F dX8_tellsHole_40 (by decide) rfl ?_
  refine z_sub (lv' := [(0, .ref (a 0)), (3, .int x3), (4, .long v5), (6, .int 0)]) [1, 2, 3, 0] rfl ?_
  refine zM8_tellsHole_L42 F ?_ _ _ _ _ h
  intro v13 σ14 h
  refine z_ldc2 (v := 31) F dX8_tellsHole_86 (tbm 1273 (by decide +kernel) rfl) ?_
  refine z_lload (q := 2) F dX8_tellsHole_89 rfl ?_
  refine z_lmul F dX8_tellsHole_91 ?_
  refine z_aload_n (q := 0) F dX8_tellsHole_92 rfl rfl ?_
  refine z_iconst (v := 5) F dX8_tellsHole_93 rfl ?_
  refine z_iload_n (q := 1) F dX8_tellsHole_94 rfl rfl ?_
  obtain ⟨r15, σ15, hq15, h⟩ := bd_of h
  refine cl8_247 F hq15 ⟨Nat.le_of_ble_eq_true rfl, Nat.le_of_ble_eq_true rfl⟩ dX8_tellsHole_95 (Nat.le_of_ble_eq_true rfl) ?_
  refine z_i2l F dX8_tellsHole_98 ?_
  refine z_ladd F dX8_tellsHole_99 ?_
  exact z_lret F h dX8_tellsHole_100
theorem ct8_tellsHole {r : Int64} {x1 : Int64} {x3 : Int32} {σ : St} (h : M8_tellsHole x1 x3 σ = some (r, σ')) : Met l yX8_tellsHole (wsY yX8_tellsHole cX8_tellsHole 7 (some .long)) (rmL 6) (PcW g a [.ref (a 0), .long x1, .int x3] σ) (QlW g a r σ') 0 0 (Ad a) :=
  ct_L (by decide) (Nat.le_of_ble_eq_true rfl) (fun p e s m args below meth c F => zM8_tellsHole F h)
theorem cl8_328 {r : Int64} {x1 : Int64} {x3 : Int32} (F : Fx p s m args meth c cc nL RX8 rt R cz sz g a) (h : M8_tellsHole x1 x3 σ = some (r, σ1)) (hR : 6 + 1 ≤ R.frames ∧ 8 + (7 + 11) + 34 * 6 ≤ R.locals) (d : decode cc pc = .ok (.invokevirtual 328, 3)) (hrm : (rest.map fun v => v.category).sum ≤ 8) (z : Z p l e R s m args below meth c Q nL g a cz sz σ1 (pc + 3) lv (.long r :: rest)) : Z p l e R s m args below meth c Q nL g a cz sz σ pc lv (.int x3 :: .long x1 :: .ref (a 0) :: rest) :=
  z_callVL (nA := 2) (As := [.long x1, .int x3]) F (ct8_tellsHole h) ⟨(tbm 1275 (by decide +kernel) rfl), (tbm 1277 (by decide +kernel) rfl), (tbs 103 (by decide +kernel) rfl), (tbm 9 (by decide +kernel) rfl), (tbm 1278 (by decide +kernel) rfl)⟩ (by decide +kernel) rfl kdc_0 (by decide) rfl rfl rfl hR d rfl hrm z
theorem zM8_goesOn_L39 {r : Int32} {x1 : Int32} {x2 : Int32} (F : Fx p s m args meth c cX8_goesOn 4 RX8 (some .boolean) (rmL 0) 0 0 g a) {kx : St → Option (Int32 × St)} (hx : ∀ (σ : St), kx σ = some (r, σ') → Z p l e (rmL 0) s m args below meth c (MQ below (QiW g a r σ') args s 0 0 (Ad a)) 4 g a 0 0 σ 62 [] []) : ∀ (n : Nat) (x3 : Int32) (σ : St), M8_goesOn_L39 x1 x2 kx n x3 σ = some (r, σ') → Z p l e (rmL 0) s m args below meth c (MQ below (QiW g a r σ') args s 0 0 (Ad a)) 4 g a 0 0 σ 39 [(0, .ref (a 0)), (1, .int x1), (2, .int x2), (3, .int x3)] [] := by
  intro n
  induction n with
  | zero => intro x3 σ h; rw [M8_goesOn_L39] at h; cases h
  | succ n ih =>
    intro x3 σ h
    rw [M8_goesOn_L39] at h
    refine z_iload_n (q := 3) F dX8_goesOn_39 rfl rfl ?_
    refine z_iload_n (q := 1) F dX8_goesOn_40 rfl rfl ?_
    refine z_icmp_ge (tgt := 62) F dX8_goesOn_41 rfl (fun c11 => ?_) (fun c11 => ?_)
    · have h := ite_T c11 h
      refine z_sub (lv' := []) [] rfl ?_
      exact hx _ h
    · have h := ite_F c11 h
      refine z_aload_n (q := 0) F dX8_goesOn_44 rfl rfl ?_
      refine gf8_73 F kdc_0 dX8_goesOn_45 ?_
      refine z_iload_n (q := 3) F dX8_goesOn_48 rfl rfl ?_
      refine z_aload_n (q := 0) F dX8_goesOn_49 rfl rfl ?_
      refine gf8_73 F kdc_0 dX8_goesOn_50 ?_
      refine z_iload_n (q := 2) F dX8_goesOn_53 rfl rfl ?_
      obtain ⟨g12, h⟩ := gd_of h
      refine z_iald F kdc_22 (inl lnc_22 g12) dX8_goesOn_54 ?_
      obtain ⟨g13, h⟩ := gd_of h
      refine z_iast F kdc_22 (inl lnc_22 g13) dX8_goesOn_55 ?_
      refine z_let h (fun σ14 h => ?_)
      refine z_iinc (q := 3) (v := x3 + 1) (lv' := [(3, .int (x3 + 1)), (0, .ref (a 0)), (1, .int x1), (2, .int x2)]) F dX8_goesOn_56 rfl rfl (by decide) rfl ?_
      refine z_letL (s0 := 3) (lv := [(0, .ref (a 0)), (1, .int x1), (2, .int x2)]) h (fun v15 h => ?_)
      refine z_goto (tgt := 39) F dX8_goesOn_59 rfl ?_
      refine z_sub (lv' := [(0, .ref (a 0)), (1, .int x1), (2, .int x2), (3, .int v15)]) [1, 2, 3, 0] rfl ?_
      exact ih _ _ h
theorem zM8_goesOn_L4 {r : Int32} {x1 : Int32} (F : Fx p s m args meth c cX8_goesOn 4 RX8 (some .boolean) (rmL 0) 0 0 g a) {kx : St → Option (Int32 × St)} (hx : ∀ (σ : St), kx σ = some (r, σ') → Z p l e (rmL 0) s m args below meth c (MQ below (QiW g a r σ') args s 0 0 (Ad a)) 4 g a 0 0 σ 70 [] []) : ∀ (n : Nat) (x2 : Int32) (σ : St), M8_goesOn_L4 x1 kx n x2 σ = some (r, σ') → Z p l e (rmL 0) s m args below meth c (MQ below (QiW g a r σ') args s 0 0 (Ad a)) 4 g a 0 0 σ 4 [(0, .ref (a 0)), (1, .int x1), (2, .int x2)] [] := by
  intro n
  induction n with
  | zero => intro x2 σ h; rw [M8_goesOn_L4] at h; cases h
  | succ n ih =>
    intro x2 σ h
    rw [M8_goesOn_L4] at h
    refine z_iload_n (q := 2) F dX8_goesOn_4 rfl rfl ?_
    refine z_if_lt (tgt := 70) F dX8_goesOn_5 rfl (fun c2 => ?_) (fun c2 => ?_)
    · have h := ite_T c2 h
      refine z_sub (lv' := []) [] rfl ?_
      exact hx _ h
    · have h := ite_F c2 h
      refine z_aload_n (q := 0) F dX8_goesOn_8 rfl rfl ?_
      refine gf8_73 F kdc_0 dX8_goesOn_9 ?_
      refine z_iload_n (q := 2) F dX8_goesOn_12 rfl rfl ?_
      obtain ⟨g3, h⟩ := gd_of h
      refine z_iald F kdc_22 (inl lnc_22 g3) dX8_goesOn_13 ?_
      refine z_aload_n (q := 0) F dX8_goesOn_14 rfl rfl ?_
      refine gf8_28 F kdc_0 dX8_goesOn_15 ?_
      refine z_iconst (v := 0) F dX8_goesOn_18 rfl ?_
      refine z_ialdC (j := 0) F kdc_7 (inl lnc_7 (by decide)) (by decide) dX8_goesOn_19 ?_
      refine z_iconst (v := 1) F dX8_goesOn_20 rfl ?_
      refine z_isub F dX8_goesOn_21 ?_
      refine z_icmp_ge (tgt := 64) F dX8_goesOn_22 rfl (fun c5 => ?_) (fun c5 => ?_)
      · have h := ite_T c5 h
        refine z_iinc (q := 2) (v := x2 + (-1)) (lv' := [(2, .int (x2 + (-1))), (0, .ref (a 0)), (1, .int x1)]) F dX8_goesOn_64 rfl rfl (by decide) rfl ?_
        refine z_letL (s0 := 2) (lv := [(0, .ref (a 0)), (1, .int x1)]) h (fun v6 h => ?_)
        refine z_goto (tgt := 4) F dX8_goesOn_67 rfl ?_
        refine z_sub (lv' := [(0, .ref (a 0)), (1, .int x1), (2, .int v6)]) [1, 2, 0] rfl ?_
        exact ih _ _ h
      · have h := ite_F c5 h
        refine z_aload_n (q := 0) F dX8_goesOn_25 rfl rfl ?_
        refine gf8_73 F kdc_0 dX8_goesOn_26 ?_
        refine z_iload_n (q := 2) F dX8_goesOn_29 rfl rfl ?_
        refine z_dup2 F dX8_goesOn_30 rfl rfl ?_
        refine z_iald F kdc_22 (inl lnc_22 g3) dX8_goesOn_31 ?_
        refine z_iconst (v := 1) F dX8_goesOn_32 rfl ?_
        refine z_iadd F dX8_goesOn_33 ?_
        refine z_iast F kdc_22 (inl lnc_22 g3) dX8_goesOn_34 ?_
        refine z_let h (fun σ9 h => ?_)
        refine z_iload_n (q := 2) F dX8_goesOn_35 rfl rfl ?_
        refine z_iconst (v := 1) F dX8_goesOn_36 rfl ?_
        refine z_iadd F dX8_goesOn_37 ?_
        refine z_letI h (fun v10 h => ?_)
        refine z_istore_n (lv' := [(3, .int v10), (0, .ref (a 0)), (1, .int x1), (2, .int x2)]) F dX8_goesOn_38 rfl (by decide) rfl ?_
        refine z_sub (lv' := [(0, .ref (a 0)), (1, .int x1), (2, .int x2), (3, .int v10)]) [1, 2, 3, 0] rfl ?_
        refine zM8_goesOn_L39 F ?_ _ _ _ h
        intro σ16 h
        refine z_iconst (v := 1) F dX8_goesOn_62 rfl ?_
        exact z_bret F (by first | exact Or.inl rfl | exact Or.inr rfl) h dX8_goesOn_63
theorem zM8_goesOn {r : Int32} {x1 : Int32} {σ : St} (F : Fx p s m args meth c cX8_goesOn 4 RX8 (some .boolean) (rmL 0) 0 0 g a) (h : M8_goesOn x1 σ = some (r, σ')) : Z p l e (rmL 0) s m args below meth c (MQ below (QiW g a r σ') args s 0 0 (Ad a)) 4 g a 0 0 σ 0 [(0, .ref (a 0)), (1, .int x1)] [] := by
  unfold M8_goesOn at h
  refine z_iload_n (q := 1) F dX8_goesOn_0 rfl rfl ?_
  refine z_iconst (v := 1) F dX8_goesOn_1 rfl ?_
  refine z_isub F dX8_goesOn_2 ?_
  refine z_letI h (fun v1 h => ?_)
  refine z_istore_n (lv' := [(2, .int v1), (0, .ref (a 0)), (1, .int x1)]) F dX8_goesOn_3 rfl (by decide) rfl ?_
  refine z_sub (lv' := [(0, .ref (a 0)), (1, .int x1), (2, .int v1)]) [1, 2, 0] rfl ?_
  refine zM8_goesOn_L4 F ?_ _ _ _ h
  intro σ17 h
  refine z_iconst (v := 0) F dX8_goesOn_70 rfl ?_
  exact z_bret F (by first | exact Or.inl rfl | exact Or.inr rfl) h dX8_goesOn_71
theorem ct8_goesOn {r : Int32} {x1 : Int32} {σ : St} (h : M8_goesOn x1 σ = some (r, σ')) : Met l yX8_goesOn (wsY yX8_goesOn cX8_goesOn 4 (some .boolean)) (rmL 0) (PcW g a [.ref (a 0), .int x1] σ) (QiW g a r σ') 0 0 (Ad a) :=
  ct_I (by decide) (Nat.le_of_ble_eq_true rfl) (fun p e s m args below meth c F => zM8_goesOn F h)
theorem cl8_267 {r : Int32} {x1 : Int32} (F : Fx p s m args meth c cc nL RX8 rt R cz sz g a) (h : M8_goesOn x1 σ = some (r, σ1)) (hR : 0 + 1 ≤ R.frames ∧ 8 + (4 + 11) + 34 * 0 ≤ R.locals) (d : decode cc pc = .ok (.invokevirtual 267, 3)) (hrm : (rest.map fun v => v.category).sum ≤ 8) (z : Z p l e R s m args below meth c Q nL g a cz sz σ1 (pc + 3) lv (.int r :: rest)) : Z p l e R s m args below meth c Q nL g a cz sz σ pc lv (.int x1 :: .ref (a 0) :: rest) :=
  z_callVI (nA := 1) (As := [.int x1]) F (ct8_goesOn h) ⟨(tbm 1182 (by decide +kernel) rfl), (tbm 1184 (by decide +kernel) rfl), (tbs 93 (by decide +kernel) rfl), (tbm 9 (by decide +kernel) rfl), (tbm 1185 (by decide +kernel) rfl)⟩ (by decide +kernel) rfl kdc_0 (by decide) rfl rfl rfl hR d rfl hrm z
theorem zM8_isServed_J51 {r : Int32} {x1 : Int32} {x4 : Int32} {y0 : Int32} {σ : St} (F : Fx p s m args meth c cX8_isServed 5 RX8 (some .boolean) (rmL 5) 0 0 g a) {kb : Int32 → Int32 → St → Option (Int32 × St)} (hb : ∀ (w3 : Int32) (w4 : Int32) (σ : St), kb w3 w4 σ = some (r, σ') → Z p l e (rmL 5) s m args below meth c (MQ below (QiW g a r σ') args s 0 0 (Ad a)) 5 g a 0 0 σ 10 [(0, .ref (a 0)), (1, .int x1), (3, .int w3), (4, .int w4)] []) (h : M8_isServed_J51 kb x1 x4 y0 σ = some (r, σ')) : Z p l e (rmL 5) s m args below meth c (MQ below (QiW g a r σ') args s 0 0 (Ad a)) 5 g a 0 0 σ 51 [(0, .ref (a 0)), (1, .int x1), (4, .int x4)] [.int y0] := by
  unfold M8_isServed_J51 at h
  refine z_istore_n (lv' := [(3, .int y0), (0, .ref (a 0)), (1, .int x1), (4, .int x4)]) F dX8_isServed_51 rfl (by decide) rfl ?_
  refine z_iinc (q := 3) (v := x4 + 1) (lv' := [(4, .int (x4 + 1)), (3, .int y0), (0, .ref (a 0)), (1, .int x1)]) F dX8_isServed_52 rfl rfl (by decide) rfl ?_
  refine z_letL (s0 := 4) (lv := [(3, .int y0), (0, .ref (a 0)), (1, .int x1)]) h (fun v5 h => ?_)
  refine z_goto (tgt := 10) F dX8_isServed_55 rfl ?_
  refine z_sub (lv' := [(0, .ref (a 0)), (1, .int x1), (3, .int y0), (4, .int v5)]) [2, 3, 1, 0] rfl ?_
  exact hb _ _ _ h
theorem zM8_isServed_J50 {r : Int32} {x1 : Int32} {x4 : Int32} {σ : St} (F : Fx p s m args meth c cX8_isServed 5 RX8 (some .boolean) (rmL 5) 0 0 g a) {kb : Int32 → Int32 → St → Option (Int32 × St)} (hb : ∀ (w3 : Int32) (w4 : Int32) (σ : St), kb w3 w4 σ = some (r, σ') → Z p l e (rmL 5) s m args below meth c (MQ below (QiW g a r σ') args s 0 0 (Ad a)) 5 g a 0 0 σ 10 [(0, .ref (a 0)), (1, .int x1), (3, .int w3), (4, .int w4)] []) (h : M8_isServed_J50 kb x1 x4 σ = some (r, σ')) : Z p l e (rmL 5) s m args below meth c (MQ below (QiW g a r σ') args s 0 0 (Ad a)) 5 g a 0 0 σ 50 [(0, .ref (a 0)), (1, .int x1), (4, .int x4)] [] := by
  unfold M8_isServed_J50 at h
  refine z_iconst (v := 0) F dX8_isServed_50 rfl ?_
  refine z_sub (lv' := [(0, .ref (a 0)), (1, .int x1), (4, .int x4)]) [0, 1, 2] rfl ?_
  exact zM8_isServed_J51 F hb h
theorem zM8_isServed_J46 {r : Int32} {x1 : Int32} {x4 : Int32} {σ : St} (F : Fx p s m args meth c cX8_isServed 5 RX8 (some .boolean) (rmL 5) 0 0 g a) {kb : Int32 → Int32 → St → Option (Int32 × St)} (hb : ∀ (w3 : Int32) (w4 : Int32) (σ : St), kb w3 w4 σ = some (r, σ') → Z p l e (rmL 5) s m args below meth c (MQ below (QiW g a r σ') args s 0 0 (Ad a)) 5 g a 0 0 σ 10 [(0, .ref (a 0)), (1, .int x1), (3, .int w3), (4, .int w4)] []) (h : M8_isServed_J46 kb x1 x4 σ = some (r, σ')) : Z p l e (rmL 5) s m args below meth c (MQ below (QiW g a r σ') args s 0 0 (Ad a)) 5 g a 0 0 σ 46 [(0, .ref (a 0)), (1, .int x1), (4, .int x4)] [] := by
  unfold M8_isServed_J46 at h
  refine z_iconst (v := 1) F dX8_isServed_46 rfl ?_
  refine z_goto (tgt := 51) F dX8_isServed_47 rfl ?_
  refine z_sub (lv' := [(0, .ref (a 0)), (1, .int x1), (4, .int x4)]) [0, 1, 2] rfl ?_
  exact zM8_isServed_J51 F hb h
theorem zM8_isServed_L10 {r : Int32} {x1 : Int32} (F : Fx p s m args meth c cX8_isServed 5 RX8 (some .boolean) (rmL 5) 0 0 g a) {kx : Int32 → St → Option (Int32 × St)} (hx : ∀ (w3 : Int32) (σ : St), kx w3 σ = some (r, σ') → Z p l e (rmL 5) s m args below meth c (MQ below (QiW g a r σ') args s 0 0 (Ad a)) 5 g a 0 0 σ 58 [(3, .int w3)] []) : ∀ (n : Nat) (x3 : Int32) (x4 : Int32) (σ : St), M8_isServed_L10 x1 kx n x3 x4 σ = some (r, σ') → Z p l e (rmL 5) s m args below meth c (MQ below (QiW g a r σ') args s 0 0 (Ad a)) 5 g a 0 0 σ 10 [(0, .ref (a 0)), (1, .int x1), (3, .int x3), (4, .int x4)] [] := by
  intro n
  induction n with
  | zero => intro x3 x4 σ h; rw [M8_isServed_L10] at h; cases h
  | succ n ih =>
    intro x3 x4 σ h
    rw [M8_isServed_L10] at h
    refine z_iload (q := 3) F dX8_isServed_10 rfl ?_
    refine z_aload_n (q := 0) F dX8_isServed_12 rfl rfl ?_
    refine gf8_28 F kdc_0 dX8_isServed_13 ?_
    refine z_iconst (v := 0) F dX8_isServed_16 rfl ?_
    refine z_ialdC (j := 0) F kdc_7 (inl lnc_7 (by decide)) (by decide) dX8_isServed_17 ?_
    refine z_icmp_ge (tgt := 58) F dX8_isServed_18 rfl (fun c3 => ?_) (fun c3 => ?_)
    · have h := ite_T c3 h
      refine z_sub (lv' := [(3, .int x3)]) [2] rfl ?_
      exact hx _ _ h
    · have h := ite_F c3 h
      refine z_iload_n (q := 2) F dX8_isServed_21 rfl rfl ?_
      refine z_if_ne (tgt := 46) F dX8_isServed_22 rfl (fun c4 => ?_) (fun c4 => ?_)
      · have h := ite_F c4 h
        refine z_sub (lv' := [(0, .ref (a 0)), (1, .int x1), (4, .int x4)]) [0, 1, 3] rfl ?_
        exact zM8_isServed_J46 F ih h
      · have h := ite_T c4 h
        refine z_aload_n (q := 0) F dX8_isServed_25 rfl rfl ?_
        refine gf8_49 F kdc_0 dX8_isServed_26 ?_
        refine z_iload (q := 3) F dX8_isServed_29 rfl ?_
        obtain ⟨g6, h⟩ := gd_of h
        refine z_iald F kdc_14 (inl lnc_14 g6) dX8_isServed_31 ?_
        refine z_iconst (v := (-1)) F dX8_isServed_32 rfl ?_
        refine z_icmp_ne (tgt := 50) F dX8_isServed_33 rfl (fun c7 => ?_) (fun c7 => ?_)
        · have h := ite_F c7 h
          refine z_sub (lv' := [(0, .ref (a 0)), (1, .int x1), (4, .int x4)]) [0, 1, 3] rfl ?_
          exact zM8_isServed_J50 F ih h
        · have h := ite_T c7 h
          refine z_aload_n (q := 0) F dX8_isServed_36 rfl rfl ?_
          refine z_iload (q := 3) F dX8_isServed_37 rfl ?_
          refine z_iload_n (q := 1) F dX8_isServed_39 rfl rfl ?_
          obtain ⟨r8, σ8, hq8, h⟩ := bd_of h
          refine cl8_244 F hq8 ⟨Nat.le_of_ble_eq_true rfl, Nat.le_of_ble_eq_true rfl⟩ dX8_isServed_40 (Nat.le_of_ble_eq_true rfl) ?_
          refine z_if_eq (tgt := 50) F dX8_isServed_43 rfl (fun c9 => ?_) (fun c9 => ?_)
          · have h := ite_T c9 h
            refine z_sub (lv' := [(0, .ref (a 0)), (1, .int x1), (4, .int x4)]) [0, 1, 3] rfl ?_
            exact zM8_isServed_J50 F ih h
          · have h := ite_F c9 h
            refine z_sub (lv' := [(0, .ref (a 0)), (1, .int x1), (4, .int x4)]) [0, 1, 3] rfl ?_
            exact zM8_isServed_J46 F ih h
theorem zM8_isServed {r : Int32} {x1 : Int32} {x2 : Int32} {σ : St} (F : Fx p s m args meth c cX8_isServed 5 RX8 (some .boolean) (rmL 5) 0 0 g a) (h : M8_isServed x1 x2 σ = some (r, σ')) : Z p l e (rmL 5) s m args below meth c (MQ below (QiW g a r σ') args s 0 0 (Ad a)) 5 g a 0 0 σ 0 [(0, .ref (a 0)), (1, .int x1), (2, .int x2)] [] := by
  unfold M8_isServed at h
  refine z_aload_n (q := 0) F dX8_isServed_0 rfl rfl ?_
  refine z_iload_n (q := 2) F dX8_isServed_1 rfl rfl ?_
  obtain ⟨r1, σ1, hq1, h⟩ := bd_of h
  refine cl8_218 F hq1 ⟨Nat.le_of_ble_eq_true rfl, Nat.le_of_ble_eq_true rfl⟩ dX8_isServed_2 (Nat.le_of_ble_eq_true rfl) ?_
  refine z_iconst (v := 0) F dX8_isServed_5 rfl ?_
  refine z_istore_n (lv' := [(3, .int 0), (0, .ref (a 0)), (1, .int x1), (2, .int x2)]) F dX8_isServed_6 rfl (by decide) rfl ?_
  refine z_iconst (v := 0) F dX8_isServed_7 rfl ?_
  refine z_istore (lv' := [(4, .int 0), (3, .int 0), (0, .ref (a 0)), (1, .int x1), (2, .int x2)]) F dX8_isServed_8 (by decide) rfl ?_
  refine z_sub (lv' := [(0, .ref (a 0)), (1, .int x1), (3, .int 0), (4, .int 0)]) [2, 3, 1, 0] rfl ?_
  refine zM8_isServed_L10 F ?_ _ _ _ _ h
  intro v10 σ11 h
  refine z_iload_n (q := 0) F dX8_isServed_58 rfl rfl ?_
  obtain ⟨g12, h⟩ := gd_of h
  exact z_bret F g12 h dX8_isServed_59
theorem ct8_isServed {r : Int32} {x1 : Int32} {x2 : Int32} {σ : St} (h : M8_isServed x1 x2 σ = some (r, σ')) : Met l yX8_isServed (wsY yX8_isServed cX8_isServed 5 (some .boolean)) (rmL 5) (PcW g a [.ref (a 0), .int x1, .int x2] σ) (QiW g a r σ') 0 0 (Ad a) :=
  ct_I (by decide) (Nat.le_of_ble_eq_true rfl) (fun p e s m args below meth c F => zM8_isServed F h)
theorem cl8_264 {r : Int32} {x1 : Int32} {x2 : Int32} (F : Fx p s m args meth c cc nL RX8 rt R cz sz g a) (h : M8_isServed x1 x2 σ = some (r, σ1)) (hR : 5 + 1 ≤ R.frames ∧ 8 + (5 + 11) + 34 * 5 ≤ R.locals) (d : decode cc pc = .ok (.invokevirtual 264, 3)) (hrm : (rest.map fun v => v.category).sum ≤ 8) (z : Z p l e R s m args below meth c Q nL g a cz sz σ1 (pc + 3) lv (.int r :: rest)) : Z p l e R s m args below meth c Q nL g a cz sz σ pc lv (.int x2 :: .int x1 :: .ref (a 0) :: rest) :=
  z_callVI (nA := 2) (As := [.int x1, .int x2]) F (ct8_isServed h) ⟨(tbm 1178 (by decide +kernel) rfl), (tbm 1180 (by decide +kernel) rfl), (tbs 92 (by decide +kernel) rfl), (tbm 9 (by decide +kernel) rfl), (tbm 1181 (by decide +kernel) rfl)⟩ (by decide +kernel) rfl kdc_0 (by decide) rfl rfl rfl hR d rfl hrm z
theorem zM8_patchesMore {r : Unit} {x1 : Int32} {x2 : Int32} {σ : St} (F : Fx p s m args meth c cX8_patchesMore 3 RX8 none (rmL 0) 0 0 g a) (h : M8_patchesMore x1 x2 σ = some (r, σ')) : Z p l e (rmL 0) s m args below meth c (MQ below (QvW g a r σ') args s 0 0 (Ad a)) 3 g a 0 0 σ 0 [(0, .ref (a 0)), (1, .int x1), (2, .int x2)] [] := by
  unfold M8_patchesMore at h
  refine z_aload_n (q := 0) F dX8_patchesMore_0 rfl rfl ?_
  refine gf8_40 F kdc_0 dX8_patchesMore_1 ?_
  refine z_iconst (v := 2) F dX8_patchesMore_4 rfl ?_
  refine z_aload_n (q := 0) F dX8_patchesMore_5 rfl rfl ?_
  refine gf8_171 F kdc_0 dX8_patchesMore_6 ?_
  refine z_imul F dX8_patchesMore_9 ?_
  refine z_iload_n (q := 1) F dX8_patchesMore_10 rfl rfl ?_
  obtain ⟨g1, h⟩ := gd_of h
  refine z_iast F kdc_11 (inl lnc_11 g1) dX8_patchesMore_11 ?_
  refine z_let h (fun σ2 h => ?_)
  refine z_aload_n (q := 0) F dX8_patchesMore_12 rfl rfl ?_
  refine gf8_40 F kdc_0 dX8_patchesMore_13 ?_
  refine z_iconst (v := 2) F dX8_patchesMore_16 rfl ?_
  refine z_aload_n (q := 0) F dX8_patchesMore_17 rfl rfl ?_
  refine gf8_171 F kdc_0 dX8_patchesMore_18 ?_
  refine z_imul F dX8_patchesMore_21 ?_
  refine z_iconst (v := 1) F dX8_patchesMore_22 rfl ?_
  refine z_iadd F dX8_patchesMore_23 ?_
  refine z_iload_n (q := 2) F dX8_patchesMore_24 rfl rfl ?_
  obtain ⟨g3, h⟩ := gd_of h
  refine z_iast F kdc_11 (inl lnc_11 g3) dX8_patchesMore_25 ?_
  refine z_let h (fun σ4 h => ?_)
  refine z_aload_n (q := 0) F dX8_patchesMore_26 rfl rfl ?_
  refine z_dup F dX8_patchesMore_27 rfl ?_
  refine gf8_171 F kdc_0 dX8_patchesMore_28 ?_
  refine z_iconst (v := 1) F dX8_patchesMore_31 rfl ?_
  refine z_iadd F dX8_patchesMore_32 ?_
  refine pf8_171 F kdc_0 dX8_patchesMore_33 ?_
  refine z_let h (fun σ5 h => ?_)
  exact z_vret F h dX8_patchesMore_36
theorem ct8_patchesMore {r : Unit} {x1 : Int32} {x2 : Int32} {σ : St} (h : M8_patchesMore x1 x2 σ = some (r, σ')) : Met l yX8_patchesMore (wsY yX8_patchesMore cX8_patchesMore 3 none) (rmL 0) (PcW g a [.ref (a 0), .int x1, .int x2] σ) (QvW g a r σ') 0 0 (Ad a) :=
  ct_V (by decide) (Nat.le_of_ble_eq_true rfl) (fun p e s m args below meth c F => zM8_patchesMore F h)
theorem cl8_174 {r : Unit} {x1 : Int32} {x2 : Int32} (F : Fx p s m args meth c cc nL RX8 rt R cz sz g a) (h : M8_patchesMore x1 x2 σ = some (r, σ1)) (hR : 0 + 1 ≤ R.frames ∧ 8 + (3 + 11) + 34 * 0 ≤ R.locals) (d : decode cc pc = .ok (.invokevirtual 174, 3)) (hrm : (rest.map fun v => v.category).sum ≤ 8) (z : Z p l e R s m args below meth c Q nL g a cz sz σ1 (pc + 3) lv (rest)) : Z p l e R s m args below meth c Q nL g a cz sz σ pc lv (.int x2 :: .int x1 :: .ref (a 0) :: rest) :=
  z_callVV (nA := 2) (As := [.int x1, .int x2]) F (ct8_patchesMore h) ⟨(tbm 1030 (by decide +kernel) rfl), (tbm 1032 (by decide +kernel) rfl), (tbs 69 (by decide +kernel) rfl), (tbm 9 (by decide +kernel) rfl), (tbm 1033 (by decide +kernel) rfl)⟩ (by decide +kernel) rfl kdc_0 (by decide) rfl rfl rfl hR d rfl hrm z
theorem zM8_mendOf_L67 {r : Int32} {x1 : Int32} {x2 : Int32} {x3 : Int32} {x4 : Int32} {x5 : Int32} (F : Fx p s m args meth c cX8_mendOf 8 RX8 (some .int) (rmL 6) 0 0 g a) {kx : St → Option (Int32 × St)} (hx : ∀ (σ : St), kx σ = some (r, σ') → Z p l e (rmL 6) s m args below meth c (MQ below (QiW g a r σ') args s 0 0 (Ad a)) 8 g a 0 0 σ 92 [(0, .ref (a 0)), (1, .int x1), (2, .int x2), (3, .int x3), (4, .int x4), (5, .int x5)] []) : ∀ (n : Nat) (x7 : Int32) (σ : St), M8_mendOf_L67 x1 x2 x3 x4 x5 kx n x7 σ = some (r, σ') → Z p l e (rmL 6) s m args below meth c (MQ below (QiW g a r σ') args s 0 0 (Ad a)) 8 g a 0 0 σ 67 [(0, .ref (a 0)), (1, .int x1), (2, .int x2), (3, .int x3), (4, .int x4), (5, .int x5), (7, .int x7)] [] := by
  intro n
  induction n with
  | zero => intro x7 σ h; rw [M8_mendOf_L67] at h; cases h
  | succ n ih =>
    intro x7 σ h
    rw [M8_mendOf_L67] at h
    refine z_iload (q := 6) F dX8_mendOf_67 rfl ?_
    refine z_iload (q := 5) F dX8_mendOf_69 rfl ?_
    refine z_icmp_ge (tgt := 92) F dX8_mendOf_71 rfl (fun c10 => ?_) (fun c10 => ?_)
    · have h := ite_T c10 h
      refine z_sub (lv' := [(0, .ref (a 0)), (1, .int x1), (2, .int x2), (3, .int x3), (4, .int x4), (5, .int x5)]) [0, 1, 2, 3, 4, 5] rfl ?_
      exact hx _ h
    · have h := ite_F c10 h
      refine z_aload_n (q := 0) F dX8_mendOf_74 rfl rfl ?_
      refine z_iload_n (q := 2) F dX8_mendOf_75 rfl rfl ?_
      refine z_aload_n (q := 0) F dX8_mendOf_76 rfl rfl ?_
      refine gf8_73 F kdc_0 dX8_mendOf_77 ?_
      refine z_iload (q := 6) F dX8_mendOf_80 rfl ?_
      obtain ⟨g11, h⟩ := gd_of h
      refine z_iald F kdc_22 (inl lnc_22 g11) dX8_mendOf_82 ?_
      obtain ⟨r12, σ12, hq12, h⟩ := bd_of h
      refine cl8_174 F hq12 ⟨Nat.le_of_ble_eq_true rfl, Nat.le_of_ble_eq_true rfl⟩ dX8_mendOf_83 (Nat.le_of_ble_eq_true rfl) ?_
      refine z_iinc (q := 6) (v := x7 + 1) (lv' := [(7, .int (x7 + 1)), (0, .ref (a 0)), (1, .int x1), (2, .int x2), (3, .int x3), (4, .int x4), (5, .int x5)]) F dX8_mendOf_86 rfl rfl (by decide) rfl ?_
      refine z_letL (s0 := 7) (lv := [(0, .ref (a 0)), (1, .int x1), (2, .int x2), (3, .int x3), (4, .int x4), (5, .int x5)]) h (fun v13 h => ?_)
      refine z_goto (tgt := 67) F dX8_mendOf_89 rfl ?_
      refine z_sub (lv' := [(0, .ref (a 0)), (1, .int x1), (2, .int x2), (3, .int x3), (4, .int x4), (5, .int x5), (7, .int v13)]) [1, 2, 3, 4, 5, 6, 0] rfl ?_
      exact ih _ _ h
theorem zM8_mendOf_L59 {r : Int32} {x1 : Int32} {x2 : Int32} {x3 : Int32} {x4 : Int32} {x5 : Int32} (F : Fx p s m args meth c cX8_mendOf 8 RX8 (some .int) (rmL 6) 0 0 g a) {kx : St → Option (Int32 × St)} (hx : ∀ (σ : St), kx σ = some (r, σ') → Z p l e (rmL 6) s m args below meth c (MQ below (QiW g a r σ') args s 0 0 (Ad a)) 8 g a 0 0 σ 149 [(0, .ref (a 0)), (1, .int x1), (2, .int x2), (3, .int x3), (4, .int x4), (5, .int x5)] []) : ∀ (n : Nat) (x6 : Int32) (σ : St), M8_mendOf_L59 x1 x2 x3 x4 x5 kx n x6 σ = some (r, σ') → Z p l e (rmL 6) s m args below meth c (MQ below (QiW g a r σ') args s 0 0 (Ad a)) 8 g a 0 0 σ 59 [(0, .ref (a 0)), (1, .int x1), (2, .int x2), (3, .int x3), (4, .int x4), (5, .int x5), (6, .int x6)] [] := by
  intro n
  induction n with
  | zero => intro x6 σ h; rw [M8_mendOf_L59] at h; cases h
  | succ n ih =>
    intro x6 σ h
    rw [M8_mendOf_L59] at h
    refine z_iload (q := 6) F dX8_mendOf_59 rfl ?_
    refine z_if_eq (tgt := 149) F dX8_mendOf_61 rfl (fun c9 => ?_) (fun c9 => ?_)
    · have h := ite_T c9 h
      refine z_sub (lv' := [(0, .ref (a 0)), (1, .int x1), (2, .int x2), (3, .int x3), (4, .int x4), (5, .int x5)]) [0, 1, 2, 3, 4, 5] rfl ?_
      exact hx _ h
    · have h := ite_F c9 h
      refine z_iconst (v := 0) F dX8_mendOf_64 rfl ?_
      refine z_istore (lv' := [(7, .int 0), (0, .ref (a 0)), (1, .int x1), (2, .int x2), (3, .int x3), (4, .int x4), (5, .int x5), (6, .int x6)]) F dX8_mendOf_65 (by decide) rfl ?_
      refine z_sub (lv' := [(0, .ref (a 0)), (1, .int x1), (2, .int x2), (3, .int x3), (4, .int x4), (5, .int x5), (7, .int 0)]) [1, 2, 3, 4, 5, 6, 0] rfl ?_
      refine zM8_mendOf_L67 F ?_ _ _ _ h
      intro σ14 h
      refine z_aload_n (q := 0) F dX8_mendOf_92 rfl rfl ?_
      refine z_iload_n (q := 1) F dX8_mendOf_93 rfl rfl ?_
      refine z_iload_n (q := 2) F dX8_mendOf_94 rfl rfl ?_
      obtain ⟨r15, σ15, hq15, h⟩ := bd_of h
      refine cl8_264 F hq15 ⟨Nat.le_of_ble_eq_true rfl, Nat.le_of_ble_eq_true rfl⟩ dX8_mendOf_95 (Nat.le_of_ble_eq_true rfl) ?_
      refine z_istore (lv' := [(7, .int r15), (0, .ref (a 0)), (1, .int x1), (2, .int x2), (3, .int x3), (4, .int x4), (5, .int x5)]) F dX8_mendOf_98 (by decide) rfl ?_
      refine z_aload_n (q := 1) F dX8_mendOf_100 rfl rfl ?_
      refine z_iload (q := 5) F dX8_mendOf_101 rfl ?_
      refine pf8_171 F kdc_0 dX8_mendOf_103 ?_
      refine z_let h (fun σ16 h => ?_)
      refine z_iload (q := 0) F dX8_mendOf_106 rfl ?_
      refine z_if_eq (tgt := 138) F dX8_mendOf_108 rfl (fun c17 => ?_) (fun c17 => ?_)
      · have h := ite_T c17 h
        refine z_aload_n (q := 1) F dX8_mendOf_138 rfl rfl ?_
        refine z_iload (q := 6) F dX8_mendOf_139 rfl ?_
        obtain ⟨r18, σ18, hq18, h⟩ := bd_of h
        refine cl8_267 F hq18 ⟨Nat.le_of_ble_eq_true rfl, Nat.le_of_ble_eq_true rfl⟩ dX8_mendOf_141 (Nat.le_of_ble_eq_true rfl) ?_
        refine z_istore (lv' := [(6, .int r18), (7, .int r15), (0, .ref (a 0)), (1, .int x1), (2, .int x2), (3, .int x3), (4, .int x4), (5, .int x5)]) F dX8_mendOf_144 (by decide) rfl ?_
        refine z_goto (tgt := 59) F dX8_mendOf_146 rfl ?_
        refine z_sub (lv' := [(0, .ref (a 0)), (1, .int x1), (2, .int x2), (3, .int x3), (4, .int x4), (5, .int x5), (6, .int r18)]) [2, 3, 4, 5, 6, 7, 0] rfl ?_
        exact ih _ _ h
      · have h := ite_F c17 h
        refine z_iload_n (q := 4) F dX8_mendOf_111 rfl rfl ?_
        refine z_iconst (v := (-1)) F dX8_mendOf_112 rfl ?_
        refine z_icmp_ne (tgt := 121) F dX8_mendOf_113 rfl (fun c19 => ?_) (fun c19 => ?_)
        · have h := ite_F c19 h
          refine z_iload_n (q := 4) F dX8_mendOf_121 rfl rfl ?_
          refine z_iload (q := 6) F dX8_mendOf_122 rfl ?_
          refine z_icmp_ge (tgt := 136) F dX8_mendOf_124 rfl (fun c20 => ?_) (fun c20 => ?_)
          · have h := ite_T c20 h
            refine z_iconst (v := (-1)) F dX8_mendOf_136 rfl ?_
            exact z_iret F h dX8_mendOf_137
          · have h := ite_F c20 h
            refine z_aload_n (q := 1) F dX8_mendOf_127 rfl rfl ?_
            refine gf8_73 F kdc_0 dX8_mendOf_128 ?_
            refine z_iload_n (q := 4) F dX8_mendOf_131 rfl rfl ?_
            obtain ⟨g21, h⟩ := gd_of h
            refine z_iald F kdc_22 (inl lnc_22 g21) dX8_mendOf_132 ?_
            refine z_goto (tgt := 137) F dX8_mendOf_133 rfl ?_
            exact z_iret F h dX8_mendOf_137
        · have h := ite_T c19 h
          refine z_iload (q := 6) F dX8_mendOf_116 rfl ?_
          refine z_goto (tgt := 137) F dX8_mendOf_118 rfl ?_
          exact z_iret F h dX8_mendOf_137
theorem zM8_mendOf_L39 {r : Int32} {x1 : Int32} {x2 : Int32} {x3 : Int32} {x4 : Int32} {x5 : Int32} {x6 : Int32} (F : Fx p s m args meth c cX8_mendOf 8 RX8 (some .int) (rmL 6) 0 0 g a) {kx : St → Option (Int32 × St)} (hx : ∀ (σ : St), kx σ = some (r, σ') → Z p l e (rmL 6) s m args below meth c (MQ below (QiW g a r σ') args s 0 0 (Ad a)) 8 g a 0 0 σ 59 [(0, .ref (a 0)), (1, .int x1), (2, .int x2), (3, .int x3), (4, .int x4), (5, .int x5), (6, .int x6)] []) : ∀ (n : Nat) (x7 : Int32) (σ : St), M8_mendOf_L39 x1 x2 x3 x4 x5 x6 kx n x7 σ = some (r, σ') → Z p l e (rmL 6) s m args below meth c (MQ below (QiW g a r σ') args s 0 0 (Ad a)) 8 g a 0 0 σ 39 [(0, .ref (a 0)), (1, .int x1), (2, .int x2), (3, .int x3), (4, .int x4), (5, .int x5), (6, .int x6), (7, .int x7)] [] := by
  intro n
  induction n with
  | zero => intro x7 σ h; rw [M8_mendOf_L39] at h; cases h
  | succ n ih =>
    intro x7 σ h
    rw [M8_mendOf_L39] at h
    refine z_iload (q := 7) F dX8_mendOf_39 rfl ?_
    refine z_iconst (v := 3) F dX8_mendOf_41 rfl ?_
    refine z_icmp_ge (tgt := 59) F dX8_mendOf_42 rfl (fun c4 => ?_) (fun c4 => ?_)
    · have h := ite_T c4 h
      refine z_sub (lv' := [(0, .ref (a 0)), (1, .int x1), (2, .int x2), (3, .int x3), (4, .int x4), (5, .int x5), (6, .int x6)]) [0, 1, 2, 3, 4, 5, 6] rfl ?_
      exact hx _ h
    · have h := ite_F c4 h
      refine z_aload_n (q := 0) F dX8_mendOf_45 rfl rfl ?_
      refine gf8_73 F kdc_0 dX8_mendOf_46 ?_
      refine z_iload (q := 7) F dX8_mendOf_49 rfl ?_
      refine z_iconst (v := 0) F dX8_mendOf_51 rfl ?_
      obtain ⟨g5, h⟩ := gd_of h
      refine z_iast F kdc_22 (inl lnc_22 g5) dX8_mendOf_52 ?_
      refine z_let h (fun σ6 h => ?_)
      refine z_iinc (q := 7) (v := x7 + 1) (lv' := [(7, .int (x7 + 1)), (0, .ref (a 0)), (1, .int x1), (2, .int x2), (3, .int x3), (4, .int x4), (5, .int x5), (6, .int x6)]) F dX8_mendOf_53 rfl rfl (by decide) rfl ?_
      refine z_letL (s0 := 7) (lv := [(0, .ref (a 0)), (1, .int x1), (2, .int x2), (3, .int x3), (4, .int x4), (5, .int x5), (6, .int x6)]) h (fun v7 h => ?_)
      refine z_goto (tgt := 39) F dX8_mendOf_56 rfl ?_
      refine z_sub (lv' := [(0, .ref (a 0)), (1, .int x1), (2, .int x2), (3, .int x3), (4, .int x4), (5, .int x5), (6, .int x6), (7, .int v7)]) [1, 2, 3, 4, 5, 6, 7, 0] rfl ?_
      exact ih _ _ h
theorem zM8_mendOf_J34 {r : Int32} {x1 : Int32} {x2 : Int32} {x3 : Int32} {x4 : Int32} {x5 : Int32} {y0 : Int32} {σ : St} (F : Fx p s m args meth c cX8_mendOf 8 RX8 (some .int) (rmL 6) 0 0 g a) {kb : Int32 → St → Option (Int32 × St)} (hb : ∀ (w5 : Int32) (σ : St), kb w5 σ = some (r, σ') → Z p l e (rmL 6) s m args below meth c (MQ below (QiW g a r σ') args s 0 0 (Ad a)) 8 g a 0 0 σ 9 [(0, .ref (a 0)), (1, .int x1), (2, .int x2), (3, .int x3), (4, .int x4), (5, .int w5)] []) (h : M8_mendOf_J34 kb x1 x2 x3 x4 x5 y0 σ = some (r, σ')) : Z p l e (rmL 6) s m args below meth c (MQ below (QiW g a r σ') args s 0 0 (Ad a)) 8 g a 0 0 σ 34 [(0, .ref (a 0)), (1, .int x1), (2, .int x2), (3, .int x3), (4, .int x4), (5, .int x5)] [.int y0] := by
  unfold M8_mendOf_J34 at h
  refine z_istore (lv' := [(6, .int y0), (0, .ref (a 0)), (1, .int x1), (2, .int x2), (3, .int x3), (4, .int x4), (5, .int x5)]) F dX8_mendOf_34 (by decide) rfl ?_
  refine z_iconst (v := 0) F dX8_mendOf_36 rfl ?_
  refine z_istore (lv' := [(7, .int 0), (6, .int y0), (0, .ref (a 0)), (1, .int x1), (2, .int x2), (3, .int x3), (4, .int x4), (5, .int x5)]) F dX8_mendOf_37 (by decide) rfl ?_
  refine z_sub (lv' := [(0, .ref (a 0)), (1, .int x1), (2, .int x2), (3, .int x3), (4, .int x4), (5, .int x5), (6, .int y0), (7, .int 0)]) [2, 3, 4, 5, 6, 7, 1, 0] rfl ?_
  refine zM8_mendOf_L39 F ?_ _ _ _ h
  intro σ8 h
  refine z_sub (lv' := [(0, .ref (a 0)), (1, .int x1), (2, .int x2), (3, .int x3), (4, .int x4), (5, .int x5), (6, .int y0)]) [0, 1, 2, 3, 4, 5, 6] rfl ?_
  refine zM8_mendOf_L59 F ?_ _ _ _ h
  intro σ22 h
  refine z_iinc (q := 5) (v := x5 + 1) (lv' := [(5, .int (x5 + 1)), (0, .ref (a 0)), (1, .int x1), (2, .int x2), (3, .int x3), (4, .int x4)]) F dX8_mendOf_149 rfl rfl (by decide) rfl ?_
  refine z_letL (s0 := 5) (lv := [(0, .ref (a 0)), (1, .int x1), (2, .int x2), (3, .int x3), (4, .int x4)]) h (fun v23 h => ?_)
  refine z_goto (tgt := 9) F dX8_mendOf_152 rfl ?_
  refine z_sub (lv' := [(0, .ref (a 0)), (1, .int x1), (2, .int x2), (3, .int x3), (4, .int x4), (5, .int v23)]) [1, 2, 3, 4, 5, 0] rfl ?_
  exact hb _ _ h
theorem zM8_mendOf_J29 {r : Int32} {x1 : Int32} {x2 : Int32} {x3 : Int32} {x4 : Int32} {x5 : Int32} {σ : St} (F : Fx p s m args meth c cX8_mendOf 8 RX8 (some .int) (rmL 6) 0 0 g a) {kb : Int32 → St → Option (Int32 × St)} (hb : ∀ (w5 : Int32) (σ : St), kb w5 σ = some (r, σ') → Z p l e (rmL 6) s m args below meth c (MQ below (QiW g a r σ') args s 0 0 (Ad a)) 8 g a 0 0 σ 9 [(0, .ref (a 0)), (1, .int x1), (2, .int x2), (3, .int x3), (4, .int x4), (5, .int w5)] []) (h : M8_mendOf_J29 kb x1 x2 x3 x4 x5 σ = some (r, σ')) : Z p l e (rmL 6) s m args below meth c (MQ below (QiW g a r σ') args s 0 0 (Ad a)) 8 g a 0 0 σ 29 [(0, .ref (a 0)), (1, .int x1), (2, .int x2), (3, .int x3), (4, .int x4), (5, .int x5)] [] := by
  unfold M8_mendOf_J29 at h
  refine z_iconst (v := 1) F dX8_mendOf_29 rfl ?_
  refine z_goto (tgt := 34) F dX8_mendOf_30 rfl ?_
  refine z_sub (lv' := [(0, .ref (a 0)), (1, .int x1), (2, .int x2), (3, .int x3), (4, .int x4), (5, .int x5)]) [0, 1, 2, 3, 4, 5] rfl ?_
  exact zM8_mendOf_J34 F hb h
theorem zM8_mendOf_L9 {r : Int32} {x1 : Int32} {x2 : Int32} {x3 : Int32} {x4 : Int32} (F : Fx p s m args meth c cX8_mendOf 8 RX8 (some .int) (rmL 6) 0 0 g a) {kx : St → Option (Int32 × St)} (hx : ∀ (σ : St), kx σ = some (r, σ') → Z p l e (rmL 6) s m args below meth c (MQ below (QiW g a r σ') args s 0 0 (Ad a)) 8 g a 0 0 σ 155 [] []) : ∀ (n : Nat) (x5 : Int32) (σ : St), M8_mendOf_L9 x1 x2 x3 x4 kx n x5 σ = some (r, σ') → Z p l e (rmL 6) s m args below meth c (MQ below (QiW g a r σ') args s 0 0 (Ad a)) 8 g a 0 0 σ 9 [(0, .ref (a 0)), (1, .int x1), (2, .int x2), (3, .int x3), (4, .int x4), (5, .int x5)] [] := by
  intro n
  induction n with
  | zero => intro x5 σ h; rw [M8_mendOf_L9] at h; cases h
  | succ n ih =>
    intro x5 σ h
    rw [M8_mendOf_L9] at h
    refine z_iload (q := 5) F dX8_mendOf_9 rfl ?_
    refine z_iconst (v := 4) F dX8_mendOf_11 rfl ?_
    refine z_icmp_ge (tgt := 155) F dX8_mendOf_12 rfl (fun c2 => ?_) (fun c2 => ?_)
    · have h := ite_T c2 h
      refine z_sub (lv' := []) [] rfl ?_
      exact hx _ h
    · have h := ite_F c2 h
      refine z_iload (q := 5) F dX8_mendOf_15 rfl ?_
      refine z_if_eq (tgt := 29) F dX8_mendOf_17 rfl (fun c3 => ?_) (fun c3 => ?_)
      · have h := ite_T c3 h
        refine z_sub (lv' := [(0, .ref (a 0)), (1, .int x1), (2, .int x2), (3, .int x3), (4, .int x4), (5, .int x5)]) [0, 1, 2, 3, 4, 5] rfl ?_
        exact zM8_mendOf_J29 F ih h
      · have h := ite_F c3 h
        refine z_aload_n (q := 0) F dX8_mendOf_20 rfl rfl ?_
        refine gf8_28 F kdc_0 dX8_mendOf_21 ?_
        refine z_iconst (v := 0) F dX8_mendOf_24 rfl ?_
        refine z_ialdC (j := 0) F kdc_7 (inl lnc_7 (by decide)) (by decide) dX8_mendOf_25 ?_
        refine z_if_le (tgt := 33) F dX8_mendOf_26 rfl (fun c25 => ?_) (fun c25 => ?_)
        · have h := ite_T c25 h
          refine z_iconst (v := 0) F dX8_mendOf_33 rfl ?_
          refine z_sub (lv' := [(0, .ref (a 0)), (1, .int x1), (2, .int x2), (3, .int x3), (4, .int x4), (5, .int x5)]) [0, 1, 2, 3, 4, 5] rfl ?_
          exact zM8_mendOf_J34 F ih h
        · have h := ite_F c25 h
          refine z_sub (lv' := [(0, .ref (a 0)), (1, .int x1), (2, .int x2), (3, .int x3), (4, .int x4), (5, .int x5)]) [0, 1, 2, 3, 4, 5] rfl ?_
          exact zM8_mendOf_J29 F ih h
theorem zM8_mendOf {r : Int32} {x1 : Int32} {x2 : Int32} {x3 : Int32} {σ : St} (F : Fx p s m args meth c cX8_mendOf 8 RX8 (some .int) (rmL 6) 0 0 g a) (h : M8_mendOf x1 x2 x3 σ = some (r, σ')) : Z p l e (rmL 6) s m args below meth c (MQ below (QiW g a r σ') args s 0 0 (Ad a)) 8 g a 0 0 σ 0 [(0, .ref (a 0)), (1, .int x1), (2, .int x2), (3, .int x3)] [] := by
  unfold M8_mendOf at h
  refine z_aload_n (q := 0) F dX8_mendOf_0 rfl rfl ?_
  refine gf8_171 F kdc_0 dX8_mendOf_1 ?_
  refine z_letI h (fun v1 h => ?_)
  refine z_istore (lv' := [(4, .int v1), (0, .ref (a 0)), (1, .int x1), (2, .int x2), (3, .int x3)]) F dX8_mendOf_4 (by decide) rfl ?_
  refine z_iconst (v := 0) F dX8_mendOf_6 rfl ?_
  refine z_istore (lv' := [(5, .int 0), (4, .int v1), (0, .ref (a 0)), (1, .int x1), (2, .int x2), (3, .int x3)]) F dX8_mendOf_7 (by decide) rfl ?_
  refine z_sub (lv' := [(0, .ref (a 0)), (1, .int x1), (2, .int x2), (3, .int x3), (4, .int v1), (5, .int 0)]) [2, 3, 4, 5, 1, 0] rfl ?_
  refine zM8_mendOf_L9 F ?_ _ _ _ h
  intro σ26 h
  refine z_iconst (v := (-1)) F dX8_mendOf_155 rfl ?_
  exact z_iret F h dX8_mendOf_156
theorem ct8_mendOf {r : Int32} {x1 : Int32} {x2 : Int32} {x3 : Int32} {σ : St} (h : M8_mendOf x1 x2 x3 σ = some (r, σ')) : Met l yX8_mendOf (wsY yX8_mendOf cX8_mendOf 8 (some .int)) (rmL 6) (PcW g a [.ref (a 0), .int x1, .int x2, .int x3] σ) (QiW g a r σ') 0 0 (Ad a) :=
  ct_I (by decide) (Nat.le_of_ble_eq_true rfl) (fun p e s m args below meth c F => zM8_mendOf F h)
theorem cl8_270 {r : Int32} {x1 : Int32} {x2 : Int32} {x3 : Int32} (F : Fx p s m args meth c cc nL RX8 rt R cz sz g a) (h : M8_mendOf x1 x2 x3 σ = some (r, σ1)) (hR : 6 + 1 ≤ R.frames ∧ 8 + (8 + 11) + 34 * 6 ≤ R.locals) (d : decode cc pc = .ok (.invokevirtual 270, 3)) (hrm : (rest.map fun v => v.category).sum ≤ 8) (z : Z p l e R s m args below meth c Q nL g a cz sz σ1 (pc + 3) lv (.int r :: rest)) : Z p l e R s m args below meth c Q nL g a cz sz σ pc lv (.int x3 :: .int x2 :: .int x1 :: .ref (a 0) :: rest) :=
  z_callVI (nA := 3) (As := [.int x1, .int x2, .int x3]) F (ct8_mendOf h) ⟨(tbm 1174 (by decide +kernel) rfl), (tbm 1176 (by decide +kernel) rfl), (tbs 91 (by decide +kernel) rfl), (tbm 9 (by decide +kernel) rfl), (tbm 1177 (by decide +kernel) rfl)⟩ (by decide +kernel) rfl kdc_0 (by decide) rfl rfl rfl hR d rfl hrm z
theorem zM8_part_L6 {r : Int64} {x0 : Int64} {x2 : Int64} {x4 : Int32} (F : Fx p s m args meth c cX8_part 11 RX8 (some .long) (rmL 0) 0 0 g a) {kx : Int64 → St → Option (Int64 × St)} (hx : ∀ (w5 : Int64) (σ : St), kx w5 σ = some (r, σ') → Z p l e (rmL 0) s m args below meth c (MQ below (QlW g a r σ') args s 0 0 (Ad a)) 11 g a 0 0 σ 31 [(0, .long x0), (2, .long x2), (4, .int x4), (5, .long w5)] []) : ∀ (n : Nat) (x5 : Int64) (x7 : Int64) (σ : St), M8_part_L6 x0 x2 x4 kx n x5 x7 σ = some (r, σ') → Z p l e (rmL 0) s m args below meth c (MQ below (QlW g a r σ') args s 0 0 (Ad a)) 11 g a 0 0 σ 6 [(0, .long x0), (2, .long x2), (4, .int x4), (5, .long x5), (7, .long x7)] [] := by
  intro n
  induction n with
  | zero => intro x5 x7 σ h; rw [M8_part_L6] at h; cases h
  | succ n ih =>
    intro x5 x7 σ h
    rw [M8_part_L6] at h
    refine z_lload (q := 4) F dX8_part_6 rfl ?_
    refine z_lconst (v := 0) F dX8_part_8 rfl ?_
    refine z_lcmp F dX8_part_9 ?_
    refine z_if_eq (tgt := 31) F dX8_part_10 rfl (fun c1 => ?_) (fun c1 => ?_)
    · have h := ite_T c1 h
      refine z_sub (lv' := [(0, .long x0), (2, .long x2), (4, .int x4), (5, .long x5)]) [0, 1, 2, 3] rfl ?_
      exact hx _ _ h
    · have h := ite_F c1 h
      refine z_lload (q := 3) F dX8_part_13 rfl ?_
      refine z_lload (q := 4) F dX8_part_15 rfl ?_
      obtain ⟨g2, h⟩ := gd_of h
      refine z_lrem F dX8_part_17 g2 ?_
      refine z_letJ h (fun v3 h => ?_)
      refine z_lstore (lv' := [(9, .long v3), (0, .long x0), (2, .long x2), (4, .int x4), (5, .long x5), (7, .long x7)]) F dX8_part_18 (by decide) rfl ?_
      refine z_lload (q := 5) F dX8_part_20 rfl ?_
      refine z_lstore (lv' := [(5, .long x7), (9, .long v3), (0, .long x0), (2, .long x2), (4, .int x4), (7, .long x7)]) F dX8_part_22 (by decide) rfl ?_
      refine z_lload (q := 1) F dX8_part_24 rfl ?_
      refine z_lstore (lv' := [(7, .long v3), (5, .long x7), (9, .long v3), (0, .long x0), (2, .long x2), (4, .int x4)]) F dX8_part_26 (by decide) rfl ?_
      refine z_goto (tgt := 6) F dX8_part_28 rfl ?_
      refine z_sub (lv' := [(0, .long x0), (2, .long x2), (4, .int x4), (5, .long x7), (7, .long v3)]) [3, 4, 5, 1, 0] rfl ?_
      exact ih _ _ _ h
theorem zM8_part {r : Int64} {x0 : Int64} {x2 : Int64} {x4 : Int32} {σ : St} (F : Fx p s m args meth c cX8_part 11 RX8 (some .long) (rmL 0) 0 0 g a) (h : M8_part x0 x2 x4 σ = some (r, σ')) : Z p l e (rmL 0) s m args below meth c (MQ below (QlW g a r σ') args s 0 0 (Ad a)) 11 g a 0 0 σ 0 [(0, .long x0), (2, .long x2), (4, .int x4)] [] := by
  unfold M8_part at h
  refine z_lload_n (q := 0) F dX8_part_0 rfl rfl ?_
  refine z_lstore (lv' := [(5, .long x0), (0, .long x0), (2, .long x2), (4, .int x4)]) F dX8_part_1 (by decide) rfl ?_
  refine z_lload_n (q := 2) F dX8_part_3 rfl rfl ?_
  refine z_lstore (lv' := [(7, .long x2), (5, .long x0), (0, .long x0), (2, .long x2), (4, .int x4)]) F dX8_part_4 (by decide) rfl ?_
  refine z_sub (lv' := [(0, .long x0), (2, .long x2), (4, .int x4), (5, .long x0), (7, .long x2)]) [2, 3, 4, 1, 0] rfl ?_
  refine zM8_part_L6 F ?_ _ _ _ _ h
  intro v4 σ5 h
  refine z_iload (q := 2) F dX8_part_31 rfl ?_
  refine z_if_ne (tgt := 40) F dX8_part_33 rfl (fun c6 => ?_) (fun c6 => ?_)
  · have h := ite_F c6 h
    refine z_lload_n (q := 1) F dX8_part_40 rfl rfl ?_
    refine z_lload (q := 3) F dX8_part_41 rfl ?_
    obtain ⟨g7, h⟩ := gd_of h
    refine z_ldiv F dX8_part_43 g7 ?_
    exact z_lret F h dX8_part_44
  · have h := ite_T c6 h
    refine z_lload_n (q := 0) F dX8_part_36 rfl rfl ?_
    refine z_goto (tgt := 41) F dX8_part_37 rfl ?_
    refine z_lload (q := 3) F dX8_part_41 rfl ?_
    obtain ⟨g8, h⟩ := gd_of h
    refine z_ldiv F dX8_part_43 g8 ?_
    exact z_lret F h dX8_part_44
theorem ct8_part {r : Int64} {x0 : Int64} {x2 : Int64} {x4 : Int32} {σ : St} (h : M8_part x0 x2 x4 σ = some (r, σ')) : Met l yX8_part (wsY yX8_part cX8_part 11 (some .long)) (rmL 0) (PcW g a [.long x0, .long x2, .int x4] σ) (QlW g a r σ') 0 0 (Ad a) :=
  ct_L (by decide) (Nat.le_of_ble_eq_true rfl) (fun p e s m args below meth c F => zM8_part F h)
theorem cl8_294 {r : Int64} {x0 : Int64} {x2 : Int64} {x4 : Int32} (F : Fx p s m args meth c cc nL RX8 rt R cz sz g a) (h : M8_part x0 x2 x4 σ = some (r, σ1)) (hR : 0 + 1 ≤ R.frames ∧ 8 + (11 + 11) + 34 * 0 ≤ R.locals) (d : decode cc pc = .ok (.invokestatic 294, 3)) (hrm : (rest.map fun v => v.category).sum ≤ 8) (z : Z p l e R s m args below meth c Q nL g a cz sz σ1 (pc + 3) lv (.long r :: rest)) : Z p l e R s m args below meth c Q nL g a cz sz σ pc lv (.int x4 :: .long x2 :: .long x0 :: rest) :=
  z_callSL (nA := 3) (As := [.long x0, .long x2, .int x4]) F (ct8_part h) ⟨(tbm 1235 (by decide +kernel) rfl), (tbm 1236 (by decide +kernel) rfl), (tbm 9 (by decide +kernel) rfl), (tbm 1237 (by decide +kernel) rfl)⟩ (by decide +kernel) rfl hR d rfl hrm z
theorem zM8_mothsOf_J113 {r : Int64} {x1 : Int32} {x3 : Int32} {x4 : Int32} {x5 : Int64} {x7 : Int64} {x9 : Int32} {σ : St} (F : Fx p s m args meth c cX8_mothsOf 11 RX8 (some .long) (rmL 5) 0 0 g a) {kb : Int64 → Int64 → Int32 → St → Option (Int64 × St)} (hb : ∀ (w5 : Int64) (w7 : Int64) (w9 : Int32) (σ : St), kb w5 w7 w9 σ = some (r, σ') → Z p l e (rmL 5) s m args below meth c (MQ below (QlW g a r σ') args s 0 0 (Ad a)) 11 g a 0 0 σ 14 [(0, .ref (a 0)), (1, .int x1), (3, .int x3), (4, .int x4), (5, .long w5), (7, .long w7), (9, .int w9)] []) (h : M8_mothsOf_J113 kb x1 x3 x4 x5 x7 x9 σ = some (r, σ')) : Z p l e (rmL 5) s m args below meth c (MQ below (QlW g a r σ') args s 0 0 (Ad a)) 11 g a 0 0 σ 113 [(0, .ref (a 0)), (1, .int x1), (3, .int x3), (4, .int x4), (5, .long x5), (7, .long x7), (9, .int x9)] [] := by
  unfold M8_mothsOf_J113 at h
  refine z_iinc (q := 6) (v := x9 + 1) (lv' := [(9, .int (x9 + 1)), (0, .ref (a 0)), (1, .int x1), (3, .int x3), (4, .int x4), (5, .long x5), (7, .long x7)]) F dX8_mothsOf_113 rfl rfl (by decide) rfl ?_
  refine z_letL (s0 := 9) (lv := [(0, .ref (a 0)), (1, .int x1), (3, .int x3), (4, .int x4), (5, .long x5), (7, .long x7)]) h (fun v6 h => ?_)
  refine z_goto (tgt := 14) F dX8_mothsOf_116 rfl ?_
  refine z_sub (lv' := [(0, .ref (a 0)), (1, .int x1), (3, .int x3), (4, .int x4), (5, .long x5), (7, .long x7), (9, .int v6)]) [1, 2, 3, 4, 5, 6, 0] rfl ?_
  exact hb _ _ _ _ h
theorem zM8_mothsOf_J94 {r : Int64} {x1 : Int32} {x3 : Int32} {x4 : Int32} {x5 : Int64} {x7 : Int64} {x9 : Int32} {y0 : Int32} {y1 : Int32} {σ : St} (F : Fx p s m args meth c cX8_mothsOf 11 RX8 (some .long) (rmL 5) 0 0 g a) {kb : Int64 → Int64 → Int32 → St → Option (Int64 × St)} (hb : ∀ (w5 : Int64) (w7 : Int64) (w9 : Int32) (σ : St), kb w5 w7 w9 σ = some (r, σ') → Z p l e (rmL 5) s m args below meth c (MQ below (QlW g a r σ') args s 0 0 (Ad a)) 11 g a 0 0 σ 14 [(0, .ref (a 0)), (1, .int x1), (3, .int x3), (4, .int x4), (5, .long w5), (7, .long w7), (9, .int w9)] []) (h : M8_mothsOf_J94 kb x1 x3 x4 x5 x7 x9 y0 y1 σ = some (r, σ')) : Z p l e (rmL 5) s m args below meth c (MQ below (QlW g a r σ') args s 0 0 (Ad a)) 11 g a 0 0 σ 94 [(0, .ref (a 0)), (1, .int x1), (3, .int x3), (4, .int x4), (5, .long x5), (7, .long x7), (9, .int x9)] [.int y0, .int y1] := by
  unfold M8_mothsOf_J94 at h
  refine z_iadd F dX8_mothsOf_94 ?_
  refine z_letI h (fun v14 h => ?_)
  refine z_istore (lv' := [(10, .int v14), (0, .ref (a 0)), (1, .int x1), (3, .int x3), (4, .int x4), (5, .long x5), (7, .long x7), (9, .int x9)]) F dX8_mothsOf_95 (by decide) rfl ?_
  refine z_lload (q := 5) F dX8_mothsOf_97 rfl ?_
  refine z_iload (q := 0) F dX8_mothsOf_99 rfl ?_
  refine z_i2l F dX8_mothsOf_101 ?_
  refine z_lmul F dX8_mothsOf_102 ?_
  refine z_letJ h (fun v15 h => ?_)
  refine z_lstore (lv' := [(5, .long v15), (10, .int v14), (0, .ref (a 0)), (1, .int x1), (3, .int x3), (4, .int x4), (7, .long x7), (9, .int x9)]) F dX8_mothsOf_103 (by decide) rfl ?_
  refine z_lload (q := 6) F dX8_mothsOf_105 rfl ?_
  refine z_ldc2 (v := 16) F dX8_mothsOf_107 (tbm 1230 (by decide +kernel) rfl) ?_
  refine z_lmul F dX8_mothsOf_110 ?_
  refine z_letJ h (fun v16 h => ?_)
  refine z_lstore (lv' := [(7, .long v16), (5, .long v15), (10, .int v14), (0, .ref (a 0)), (1, .int x1), (3, .int x3), (4, .int x4), (9, .int x9)]) F dX8_mothsOf_111 (by decide) rfl ?_
  refine z_sub (lv' := [(0, .ref (a 0)), (1, .int x1), (3, .int x3), (4, .int x4), (5, .long v15), (7, .long v16), (9, .int x9)]) [3, 4, 5, 6, 1, 0, 7] rfl ?_
  exact zM8_mothsOf_J113 F hb h
theorem zM8_mothsOf_J61 {r : Int64} {x1 : Int32} {x3 : Int32} {x4 : Int32} {x5 : Int64} {x7 : Int64} {x9 : Int32} {y0 : Int32} {σ : St} (F : Fx p s m args meth c cX8_mothsOf 11 RX8 (some .long) (rmL 5) 0 0 g a) {kb : Int64 → Int64 → Int32 → St → Option (Int64 × St)} (hb : ∀ (w5 : Int64) (w7 : Int64) (w9 : Int32) (σ : St), kb w5 w7 w9 σ = some (r, σ') → Z p l e (rmL 5) s m args below meth c (MQ below (QlW g a r σ') args s 0 0 (Ad a)) 11 g a 0 0 σ 14 [(0, .ref (a 0)), (1, .int x1), (3, .int x3), (4, .int x4), (5, .long w5), (7, .long w7), (9, .int w9)] []) (h : M8_mothsOf_J61 kb x1 x3 x4 x5 x7 x9 y0 σ = some (r, σ')) : Z p l e (rmL 5) s m args below meth c (MQ below (QlW g a r σ') args s 0 0 (Ad a)) 11 g a 0 0 σ 61 [(0, .ref (a 0)), (1, .int x1), (3, .int x3), (4, .int x4), (5, .long x5), (7, .long x7), (9, .int x9)] [.int y0] := by
  unfold M8_mothsOf_J61 at h
  refine z_istore (lv' := [(10, .int y0), (0, .ref (a 0)), (1, .int x1), (3, .int x3), (4, .int x4), (5, .long x5), (7, .long x7), (9, .int x9)]) F dX8_mothsOf_61 (by decide) rfl ?_
  refine z_iload (q := 0) F dX8_mothsOf_63 rfl ?_
  refine z_aload_n (q := 1) F dX8_mothsOf_65 rfl rfl ?_
  refine z_iload (q := 7) F dX8_mothsOf_66 rfl ?_
  refine z_iload_n (q := 3) F dX8_mothsOf_68 rfl rfl ?_
  refine z_aload_n (q := 1) F dX8_mothsOf_69 rfl rfl ?_
  refine gf8_43 F kdc_0 dX8_mothsOf_70 ?_
  refine z_iload (q := 7) F dX8_mothsOf_73 rfl ?_
  obtain ⟨g10, h⟩ := gd_of h
  refine z_iald F kdc_12 (inl lnc_12 g10) dX8_mothsOf_75 ?_
  refine z_iconst (v := 1) F dX8_mothsOf_76 rfl ?_
  refine z_iadd F dX8_mothsOf_77 ?_
  refine z_bipush (v := 9) F dX8_mothsOf_78 rfl ?_
  obtain ⟨r11, σ11, hq11, h⟩ := bd_of h
  refine cl8_189 F hq11 ⟨Nat.le_of_ble_eq_true rfl, Nat.le_of_ble_eq_true rfl⟩ dX8_mothsOf_80 (Nat.le_of_ble_eq_true rfl) ?_
  obtain ⟨r12, σ12, hq12, h⟩ := bd_of h
  refine cl8_240 F hq12 ⟨Nat.le_of_ble_eq_true rfl, Nat.le_of_ble_eq_true rfl⟩ dX8_mothsOf_83 (Nat.le_of_ble_eq_true rfl) ?_
  refine z_if_eq (tgt := 93) F dX8_mothsOf_86 rfl (fun c13 => ?_) (fun c13 => ?_)
  · try simp only [if_pos c13] at h
    refine z_iload_n (q := 2) F dX8_mothsOf_93 rfl rfl ?_
    refine z_sub (lv' := [(0, .ref (a 0)), (1, .int x1), (3, .int x3), (4, .int x4), (5, .long x5), (7, .long x7), (9, .int x9)]) [1, 2, 3, 4, 5, 6, 7] rfl ?_
    exact zM8_mothsOf_J94 F hb h
  · try simp only [if_neg c13] at h
    refine z_iconst (v := 0) F dX8_mothsOf_89 rfl ?_
    refine z_goto (tgt := 94) F dX8_mothsOf_90 rfl ?_
    refine z_sub (lv' := [(0, .ref (a 0)), (1, .int x1), (3, .int x3), (4, .int x4), (5, .long x5), (7, .long x7), (9, .int x9)]) [1, 2, 3, 4, 5, 6, 7] rfl ?_
    exact zM8_mothsOf_J94 F hb h
theorem zM8_mothsOf_L14 {r : Int64} {x1 : Int32} {x3 : Int32} {x4 : Int32} (F : Fx p s m args meth c cX8_mothsOf 11 RX8 (some .long) (rmL 5) 0 0 g a) {kx : Int64 → Int64 → St → Option (Int64 × St)} (hx : ∀ (w5 : Int64) (w7 : Int64) (σ : St), kx w5 w7 σ = some (r, σ') → Z p l e (rmL 5) s m args below meth c (MQ below (QlW g a r σ') args s 0 0 (Ad a)) 11 g a 0 0 σ 119 [(4, .int x4), (5, .long w5), (7, .long w7)] []) : ∀ (n : Nat) (x5 : Int64) (x7 : Int64) (x9 : Int32) (σ : St), M8_mothsOf_L14 x1 x3 x4 kx n x5 x7 x9 σ = some (r, σ') → Z p l e (rmL 5) s m args below meth c (MQ below (QlW g a r σ') args s 0 0 (Ad a)) 11 g a 0 0 σ 14 [(0, .ref (a 0)), (1, .int x1), (3, .int x3), (4, .int x4), (5, .long x5), (7, .long x7), (9, .int x9)] [] := by
  intro n
  induction n with
  | zero => intro x5 x7 x9 σ h; rw [M8_mothsOf_L14] at h; cases h
  | succ n ih =>
    intro x5 x7 x9 σ h
    rw [M8_mothsOf_L14] at h
    refine z_iload (q := 6) F dX8_mothsOf_14 rfl ?_
    refine z_aload_n (q := 0) F dX8_mothsOf_16 rfl rfl ?_
    refine gf8_28 F kdc_0 dX8_mothsOf_17 ?_
    refine z_iconst (v := 0) F dX8_mothsOf_20 rfl ?_
    refine z_ialdC (j := 0) F kdc_7 (inl lnc_7 (by decide)) (by decide) dX8_mothsOf_21 ?_
    refine z_icmp_ge (tgt := 119) F dX8_mothsOf_22 rfl (fun c3 => ?_) (fun c3 => ?_)
    · have h := ite_T c3 h
      refine z_sub (lv' := [(4, .int x4), (5, .long x5), (7, .long x7)]) [3, 4, 5] rfl ?_
      exact hx _ _ _ h
    · have h := ite_F c3 h
      refine z_aload_n (q := 0) F dX8_mothsOf_25 rfl rfl ?_
      refine gf8_49 F kdc_0 dX8_mothsOf_26 ?_
      refine z_iload (q := 6) F dX8_mothsOf_29 rfl ?_
      obtain ⟨g4, h⟩ := gd_of h
      refine z_iald F kdc_14 (inl lnc_14 g4) dX8_mothsOf_31 ?_
      refine z_iconst (v := (-1)) F dX8_mothsOf_32 rfl ?_
      refine z_icmp_ne (tgt := 113) F dX8_mothsOf_33 rfl (fun c5 => ?_) (fun c5 => ?_)
      · have h := ite_F c5 h
        refine z_sub (lv' := [(0, .ref (a 0)), (1, .int x1), (3, .int x3), (4, .int x4), (5, .long x5), (7, .long x7), (9, .int x9)]) [0, 1, 2, 3, 4, 5, 6] rfl ?_
        exact zM8_mothsOf_J113 F ih h
      · have h := ite_T c5 h
        refine z_aload_n (q := 0) F dX8_mothsOf_36 rfl rfl ?_
        refine z_iload (q := 6) F dX8_mothsOf_37 rfl ?_
        refine z_iload_n (q := 2) F dX8_mothsOf_39 rfl rfl ?_
        refine z_aload_n (q := 0) F dX8_mothsOf_40 rfl rfl ?_
        refine gf8_43 F kdc_0 dX8_mothsOf_41 ?_
        refine z_iload (q := 6) F dX8_mothsOf_44 rfl ?_
        refine z_iald F kdc_12 (inl lnc_12 g4) dX8_mothsOf_46 ?_
        obtain ⟨r8, σ8, hq8, h⟩ := bd_of h
        refine cl8_240 F hq8 ⟨Nat.le_of_ble_eq_true rfl, Nat.le_of_ble_eq_true rfl⟩ dX8_mothsOf_47 (Nat.le_of_ble_eq_true rfl) ?_
        refine z_if_eq (tgt := 57) F dX8_mothsOf_50 rfl (fun c9 => ?_) (fun c9 => ?_)
        · try simp only [if_pos c9] at h
          refine z_bipush (v := 16) F dX8_mothsOf_57 rfl ?_
          refine z_iload_n (q := 1) F dX8_mothsOf_59 rfl rfl ?_
          refine z_isub F dX8_mothsOf_60 ?_
          refine z_sub (lv' := [(0, .ref (a 0)), (1, .int x1), (3, .int x3), (4, .int x4), (5, .long x5), (7, .long x7), (9, .int x9)]) [0, 1, 2, 3, 4, 5, 6] rfl ?_
          exact zM8_mothsOf_J61 F ih h
        · try simp only [if_neg c9] at h
          refine z_iconst (v := 0) F dX8_mothsOf_53 rfl ?_
          refine z_goto (tgt := 61) F dX8_mothsOf_54 rfl ?_
          refine z_sub (lv' := [(0, .ref (a 0)), (1, .int x1), (3, .int x3), (4, .int x4), (5, .long x5), (7, .long x7), (9, .int x9)]) [0, 1, 2, 3, 4, 5, 6] rfl ?_
          exact zM8_mothsOf_J61 F ih h
theorem zM8_mothsOf {r : Int64} {x1 : Int32} {x2 : Int32} {x3 : Int32} {x4 : Int32} {σ : St} (F : Fx p s m args meth c cX8_mothsOf 11 RX8 (some .long) (rmL 5) 0 0 g a) (h : M8_mothsOf x1 x2 x3 x4 σ = some (r, σ')) : Z p l e (rmL 5) s m args below meth c (MQ below (QlW g a r σ') args s 0 0 (Ad a)) 11 g a 0 0 σ 0 [(0, .ref (a 0)), (1, .int x1), (2, .int x2), (3, .int x3), (4, .int x4)] [] := by
  unfold M8_mothsOf at h
  refine z_aload_n (q := 0) F dX8_mothsOf_0 rfl rfl ?_
  refine z_iload_n (q := 2) F dX8_mothsOf_1 rfl rfl ?_
  obtain ⟨r1, σ1, hq1, h⟩ := bd_of h
  refine cl8_218 F hq1 ⟨Nat.le_of_ble_eq_true rfl, Nat.le_of_ble_eq_true rfl⟩ dX8_mothsOf_2 (Nat.le_of_ble_eq_true rfl) ?_
  refine z_lconst (v := 1) F dX8_mothsOf_5 rfl ?_
  refine z_lstore (lv' := [(5, .long 1), (0, .ref (a 0)), (1, .int x1), (2, .int x2), (3, .int x3), (4, .int x4)]) F dX8_mothsOf_6 (by decide) rfl ?_
  refine z_lconst (v := 1) F dX8_mothsOf_8 rfl ?_
  refine z_lstore (lv' := [(7, .long 1), (5, .long 1), (0, .ref (a 0)), (1, .int x1), (2, .int x2), (3, .int x3), (4, .int x4)]) F dX8_mothsOf_9 (by decide) rfl ?_
  refine z_iconst (v := 0) F dX8_mothsOf_11 rfl ?_
  refine z_istore (lv' := [(9, .int 0), (7, .long 1), (5, .long 1), (0, .ref (a 0)), (1, .int x1), (2, .int x2), (3, .int x3), (4, .int x4)]) F dX8_mothsOf_12 (by decide) rfl ?_
  refine z_sub (lv' := [(0, .ref (a 0)), (1, .int x1), (3, .int x3), (4, .int x4), (5, .long 1), (7, .long 1), (9, .int 0)]) [3, 4, 6, 7, 2, 1, 0] rfl ?_
  refine zM8_mothsOf_L14 F ?_ _ _ _ _ _ h
  intro v17 v18 σ19 h
  refine z_lload (q := 2) F dX8_mothsOf_119 rfl ?_
  refine z_lload (q := 1) F dX8_mothsOf_121 rfl ?_
  refine z_lsub F dX8_mothsOf_123 ?_
  refine z_lload (q := 2) F dX8_mothsOf_124 rfl ?_
  refine z_iload (q := 0) F dX8_mothsOf_126 rfl ?_
  obtain ⟨r20, σ20, hq20, h⟩ := bd_of h
  refine cl8_294 F hq20 ⟨Nat.le_of_ble_eq_true rfl, Nat.le_of_ble_eq_true rfl⟩ dX8_mothsOf_128 (Nat.le_of_ble_eq_true rfl) ?_
  exact z_lret F h dX8_mothsOf_131
theorem ct8_mothsOf {r : Int64} {x1 : Int32} {x2 : Int32} {x3 : Int32} {x4 : Int32} {σ : St} (h : M8_mothsOf x1 x2 x3 x4 σ = some (r, σ')) : Met l yX8_mothsOf (wsY yX8_mothsOf cX8_mothsOf 11 (some .long)) (rmL 5) (PcW g a [.ref (a 0), .int x1, .int x2, .int x3, .int x4] σ) (QlW g a r σ') 0 0 (Ad a) :=
  ct_L (by decide) (Nat.le_of_ble_eq_true rfl) (fun p e s m args below meth c F => zM8_mothsOf F h)
theorem cl8_298 {r : Int64} {x1 : Int32} {x2 : Int32} {x3 : Int32} {x4 : Int32} (F : Fx p s m args meth c cc nL RX8 rt R cz sz g a) (h : M8_mothsOf x1 x2 x3 x4 σ = some (r, σ1)) (hR : 5 + 1 ≤ R.frames ∧ 8 + (11 + 11) + 34 * 5 ≤ R.locals) (d : decode cc pc = .ok (.invokevirtual 298, 3)) (hrm : (rest.map fun v => v.category).sum ≤ 8) (z : Z p l e R s m args below meth c Q nL g a cz sz σ1 (pc + 3) lv (.long r :: rest)) : Z p l e R s m args below meth c Q nL g a cz sz σ pc lv (.int x4 :: .int x3 :: .int x2 :: .int x1 :: .ref (a 0) :: rest) :=
  z_callVL (nA := 4) (As := [.int x1, .int x2, .int x3, .int x4]) F (ct8_mothsOf h) ⟨(tbm 1231 (by decide +kernel) rfl), (tbm 1233 (by decide +kernel) rfl), (tbs 99 (by decide +kernel) rfl), (tbm 9 (by decide +kernel) rfl), (tbm 1234 (by decide +kernel) rfl)⟩ (by decide +kernel) rfl kdc_0 (by decide) rfl rfl rfl hR d rfl hrm z
theorem zM8_tellsWork_L6 {r : Int64} {x3 : Int32} (F : Fx p s m args meth c cX8_tellsWork 7 RX8 (some .long) (rmL 7) 0 0 g a) {kx : Int64 → St → Option (Int64 × St)} (hx : ∀ (w4 : Int64) (σ : St), kx w4 σ = some (r, σ') → Z p l e (rmL 7) s m args below meth c (MQ below (QlW g a r σ') args s 0 0 (Ad a)) 7 g a 0 0 σ 42 [(0, .ref (a 0)), (3, .int x3), (4, .long w4)] []) : ∀ (n : Nat) (x4 : Int64) (x6 : Int32) (σ : St), M8_tellsWork_L6 x3 kx n x4 x6 σ = some (r, σ') → Z p l e (rmL 7) s m args below meth c (MQ below (QlW g a r σ') args s 0 0 (Ad a)) 7 g a 0 0 σ 6 [(0, .ref (a 0)), (3, .int x3), (4, .long x4), (6, .int x6)] [] := by
  intro n
  induction n with
  | zero => intro x4 x6 σ h; rw [M8_tellsWork_L6] at h; cases h
  | succ n ih =>
    intro x4 x6 σ h
    rw [M8_tellsWork_L6] at h
    refine z_iload (q := 3) F dX8_tellsWork_6 rfl ?_
    refine z_iconst (v := 4) F dX8_tellsWork_8 rfl ?_
    refine z_icmp_ge (tgt := 42) F dX8_tellsWork_9 rfl (fun c1 => ?_) (fun c1 => ?_)
    · have h := ite_T c1 h
      refine z_sub (lv' := [(0, .ref (a 0)), (3, .int x3), (4, .long x4)]) [0, 1, 2] rfl ?_
      exact hx _ _ h
    · have h := ite_F c1 h
      refine z_ldc2 (v := 31) F dX8_tellsWork_12 (tbm 1273 (by decide +kernel) rfl) ?_
      refine z_lload (q := 2) F dX8_tellsWork_15 rfl ?_
      refine z_lmul F dX8_tellsWork_17 ?_
      refine z_aload_n (q := 0) F dX8_tellsWork_18 rfl rfl ?_
      refine gf8_31 F kdc_0 dX8_tellsWork_19 ?_
      refine z_bipush (v := 32) F dX8_tellsWork_22 rfl ?_
      refine z_iconst (v := 4) F dX8_tellsWork_24 rfl ?_
      refine z_iload_n (q := 1) F dX8_tellsWork_25 rfl rfl ?_
      refine z_imul F dX8_tellsWork_26 ?_
      refine z_iadd F dX8_tellsWork_27 ?_
      refine z_iload (q := 3) F dX8_tellsWork_28 rfl ?_
      refine z_iadd F dX8_tellsWork_30 ?_
      obtain ⟨g2, h⟩ := gd_of h
      refine z_iald F kdc_8 (inl lnc_8 g2) dX8_tellsWork_31 ?_
      refine z_i2l F dX8_tellsWork_32 ?_
      refine z_ladd F dX8_tellsWork_33 ?_
      refine z_letJ h (fun v3 h => ?_)
      refine z_lstore (lv' := [(4, .long v3), (0, .ref (a 0)), (3, .int x3), (6, .int x6)]) F dX8_tellsWork_34 (by decide) rfl ?_
      refine z_iinc (q := 3) (v := x6 + 1) (lv' := [(6, .int (x6 + 1)), (4, .long v3), (0, .ref (a 0)), (3, .int x3)]) F dX8_tellsWork_36 rfl rfl (by decide) rfl ?_
      refine z_letL (s0 := 6) (lv := [(4, .long v3), (0, .ref (a 0)), (3, .int x3)]) h (fun v4 h => ?_)
      refine z_goto (tgt := 6) F dX8_tellsWork_39 rfl ?_
      refine z_sub (lv' := [(0, .ref (a 0)), (3, .int x3), (4, .long v3), (6, .int v4)]) [2, 3, 1, 0] rfl ?_
      exact ih _ _ _ h
theorem zM8_tellsWork {r : Int64} {x1 : Int64} {x3 : Int32} {σ : St} (F : Fx p s m args meth c cX8_tellsWork 7 RX8 (some .long) (rmL 7) 0 0 g a) (h : M8_tellsWork x1 x3 σ = some (r, σ')) : Z p l e (rmL 7) s m args below meth c (MQ below (QlW g a r σ') args s 0 0 (Ad a)) 7 g a 0 0 σ 0 [(0, .ref (a 0)), (1, .long x1), (3, .int x3)] [] := by
  unfold M8_tellsWork at h
  refine z_lload_n (q := 1) F dX8_tellsWork_0 rfl rfl ?_
  refine z_lstore (lv' := [(4, .long x1), (0, .ref (a 0)), (1, .long x1), (3, .int x3)]) F dX8_tellsWork_1 (by decide) rfl ?_
  refine z_iconst (v := 0) F dX8_tellsWork_3 rfl ?_
  refine z_istore (lv' := [(6, .int 0), (4, .long x1), (0, .ref (a 0)), (1, .long x1), (3, .int x3)]) F dX8_tellsWork_4 (by decide) rfl ?_
  refine z_sub (lv' := [(0, .ref (a 0)), (3, .int x3), (4, .long x1), (6, .int 0)]) [2, 4, 1, 0] rfl ?_
  refine zM8_tellsWork_L6 F ?_ _ _ _ _ h
  intro v5 σ6 h
  refine z_ldc2 (v := 31) F dX8_tellsWork_42 (tbm 1273 (by decide +kernel) rfl) ?_
  refine z_lload (q := 2) F dX8_tellsWork_45 rfl ?_
  refine z_lmul F dX8_tellsWork_47 ?_
  refine z_aload_n (q := 0) F dX8_tellsWork_48 rfl rfl ?_
  refine z_iload_n (q := 1) F dX8_tellsWork_49 rfl rfl ?_
  refine z_iconst (v := 3) F dX8_tellsWork_50 rfl ?_
  refine z_iconst (v := (-1)) F dX8_tellsWork_51 rfl ?_
  obtain ⟨r7, σ7, hq7, h⟩ := bd_of h
  refine cl8_270 F hq7 ⟨Nat.le_of_ble_eq_true rfl, Nat.le_of_ble_eq_true rfl⟩ dX8_tellsWork_52 (Nat.le_of_ble_eq_true rfl) ?_
  refine z_i2l F dX8_tellsWork_55 ?_
  refine z_ladd F dX8_tellsWork_56 ?_
  refine z_letJ h (fun v8 h => ?_)
  refine z_lstore (lv' := [(4, .long v8), (0, .ref (a 0)), (3, .int x3)]) F dX8_tellsWork_57 (by decide) rfl ?_
  refine z_ldc2 (v := 31) F dX8_tellsWork_59 (tbm 1273 (by decide +kernel) rfl) ?_
  refine z_lload (q := 0) F dX8_tellsWork_62 rfl ?_
  refine z_lmul F dX8_tellsWork_64 ?_
  refine z_aload_n (q := 1) F dX8_tellsWork_65 rfl rfl ?_
  refine z_iload_n (q := 2) F dX8_tellsWork_66 rfl rfl ?_
  refine z_iconst (v := 3) F dX8_tellsWork_67 rfl ?_
  refine z_iconst (v := 0) F dX8_tellsWork_68 rfl ?_
  obtain ⟨r9, σ9, hq9, h⟩ := bd_of h
  refine cl8_270 F hq9 ⟨Nat.le_of_ble_eq_true rfl, Nat.le_of_ble_eq_true rfl⟩ dX8_tellsWork_69 (Nat.le_of_ble_eq_true rfl) ?_
  refine z_i2l F dX8_tellsWork_72 ?_
  refine z_ladd F dX8_tellsWork_73 ?_
  refine z_letJ h (fun v10 h => ?_)
  refine z_lstore (lv' := [(4, .long v10), (0, .ref (a 0)), (3, .int x3)]) F dX8_tellsWork_74 (by decide) rfl ?_
  refine z_ldc2 (v := 31) F dX8_tellsWork_76 (tbm 1273 (by decide +kernel) rfl) ?_
  refine z_lload (q := 0) F dX8_tellsWork_79 rfl ?_
  refine z_lmul F dX8_tellsWork_81 ?_
  refine z_aload_n (q := 1) F dX8_tellsWork_82 rfl rfl ?_
  refine z_iconst (v := 5) F dX8_tellsWork_83 rfl ?_
  refine z_bipush (v := 9) F dX8_tellsWork_84 rfl ?_
  refine z_iload_n (q := 2) F dX8_tellsWork_86 rfl rfl ?_
  refine z_iconst (v := 0) F dX8_tellsWork_87 rfl ?_
  obtain ⟨r11, σ11, hq11, h⟩ := bd_of h
  refine cl8_298 F hq11 ⟨Nat.le_of_ble_eq_true rfl, Nat.le_of_ble_eq_true rfl⟩ dX8_tellsWork_88 (Nat.le_of_ble_eq_true rfl) ?_
  refine z_ladd F dX8_tellsWork_91 ?_
  refine z_letJ h (fun v12 h => ?_)
  refine z_lstore (lv' := [(4, .long v12), (0, .ref (a 0)), (3, .int x3)]) F dX8_tellsWork_92 (by decide) rfl ?_
  refine z_ldc2 (v := 31) F dX8_tellsWork_94 (tbm 1273 (by decide +kernel) rfl) ?_
  refine z_lload (q := 0) F dX8_tellsWork_97 rfl ?_
  refine z_lmul F dX8_tellsWork_99 ?_
  refine z_aload_n (q := 1) F dX8_tellsWork_100 rfl rfl ?_
  refine z_iconst (v := 5) F dX8_tellsWork_101 rfl ?_
  refine z_bipush (v := 9) F dX8_tellsWork_102 rfl ?_
  refine z_iload_n (q := 2) F dX8_tellsWork_104 rfl rfl ?_
  refine z_iconst (v := 1) F dX8_tellsWork_105 rfl ?_
  obtain ⟨r13, σ13, hq13, h⟩ := bd_of h
  refine cl8_298 F hq13 ⟨Nat.le_of_ble_eq_true rfl, Nat.le_of_ble_eq_true rfl⟩ dX8_tellsWork_106 (Nat.le_of_ble_eq_true rfl) ?_
  refine z_ladd F dX8_tellsWork_109 ?_
  exact z_lret F h dX8_tellsWork_110
theorem ct8_tellsWork {r : Int64} {x1 : Int64} {x3 : Int32} {σ : St} (h : M8_tellsWork x1 x3 σ = some (r, σ')) : Met l yX8_tellsWork (wsY yX8_tellsWork cX8_tellsWork 7 (some .long)) (rmL 7) (PcW g a [.ref (a 0), .long x1, .int x3] σ) (QlW g a r σ') 0 0 (Ad a) :=
  ct_L (by decide) (Nat.le_of_ble_eq_true rfl) (fun p e s m args below meth c F => zM8_tellsWork F h)
theorem cl8_332 {r : Int64} {x1 : Int64} {x3 : Int32} (F : Fx p s m args meth c cc nL RX8 rt R cz sz g a) (h : M8_tellsWork x1 x3 σ = some (r, σ1)) (hR : 7 + 1 ≤ R.frames ∧ 8 + (7 + 11) + 34 * 7 ≤ R.locals) (d : decode cc pc = .ok (.invokevirtual 332, 3)) (hrm : (rest.map fun v => v.category).sum ≤ 8) (z : Z p l e R s m args below meth c Q nL g a cz sz σ1 (pc + 3) lv (.long r :: rest)) : Z p l e R s m args below meth c Q nL g a cz sz σ pc lv (.int x3 :: .long x1 :: .ref (a 0) :: rest) :=
  z_callVL (nA := 2) (As := [.long x1, .int x3]) F (ct8_tellsWork h) ⟨(tbm 1279 (by decide +kernel) rfl), (tbm 1281 (by decide +kernel) rfl), (tbs 104 (by decide +kernel) rfl), (tbm 9 (by decide +kernel) rfl), (tbm 1282 (by decide +kernel) rfl)⟩ (by decide +kernel) rfl kdc_0 (by decide) rfl rfl rfl hR d rfl hrm z
theorem zM8_digest_L173 {r : Int64} (F : Fx p s m args meth c cX8_digest 5 RX8 (some .long) (rmL 9) 0 0 g a) {kx : Int64 → St → Option (Int64 × St)} (hx : ∀ (w1 : Int64) (σ : St), kx w1 σ = some (r, σ') → Z p l e (rmL 9) s m args below meth c (MQ below (QlW g a r σ') args s 0 0 (Ad a)) 5 g a 0 0 σ 198 [(0, .ref (a 0)), (1, .long w1)] []) : ∀ (n : Nat) (x1 : Int64) (x3 : Int32) (σ : St), M8_digest_L173 kx n x1 x3 σ = some (r, σ') → Z p l e (rmL 9) s m args below meth c (MQ below (QlW g a r σ') args s 0 0 (Ad a)) 5 g a 0 0 σ 173 [(0, .ref (a 0)), (1, .long x1), (3, .int x3)] [] := by
  intro n
  induction n with
  | zero => intro x1 x3 σ h; rw [M8_digest_L173] at h; cases h
  | succ n ih =>
    intro x1 x3 σ h
    rw [M8_digest_L173] at h
    refine z_iload_n (q := 2) F dX8_digest_173 rfl rfl ?_
    refine z_bipush (v := 6) F dX8_digest_174 rfl ?_
    refine z_icmp_ge (tgt := 198) F dX8_digest_176 rfl (fun c36 => ?_) (fun c36 => ?_)
    · have h := ite_T c36 h
      refine z_sub (lv' := [(0, .ref (a 0)), (1, .long x1)]) [0, 1] rfl ?_
      exact hx _ _ h
    · have h := ite_F c36 h
      refine z_ldc2 (v := 31) F dX8_digest_179 (tbm 1273 (by decide +kernel) rfl) ?_
      refine z_lload_n (q := 1) F dX8_digest_182 rfl rfl ?_
      refine z_lmul F dX8_digest_183 ?_
      refine z_aload_n (q := 0) F dX8_digest_184 rfl rfl ?_
      refine z_iload_n (q := 2) F dX8_digest_185 rfl rfl ?_
      obtain ⟨r37, σ37, hq37, h⟩ := bd_of h
      refine cl8_234 F hq37 ⟨Nat.le_of_ble_eq_true rfl, Nat.le_of_ble_eq_true rfl⟩ dX8_digest_186 (Nat.le_of_ble_eq_true rfl) ?_
      refine z_i2l F dX8_digest_189 ?_
      refine z_ladd F dX8_digest_190 ?_
      refine z_letJ h (fun v38 h => ?_)
      refine z_lstore_n (lv' := [(1, .long v38), (0, .ref (a 0)), (3, .int x3)]) F dX8_digest_191 rfl (by decide) rfl ?_
      refine z_iinc (q := 2) (v := x3 + 1) (lv' := [(3, .int (x3 + 1)), (1, .long v38), (0, .ref (a 0))]) F dX8_digest_192 rfl rfl (by decide) rfl ?_
      refine z_letL (s0 := 3) (lv := [(1, .long v38), (0, .ref (a 0))]) h (fun v39 h => ?_)
      refine z_goto (tgt := 173) F dX8_digest_195 rfl ?_
      refine z_sub (lv' := [(0, .ref (a 0)), (1, .long v38), (3, .int v39)]) [2, 1, 0] rfl ?_
      exact ih _ _ _ h
theorem zM8_digest_L120 {r : Int64} {x3 : Int32} (F : Fx p s m args meth c cX8_digest 5 RX8 (some .long) (rmL 9) 0 0 g a) {kx : Int64 → St → Option (Int64 × St)} (hx : ∀ (w1 : Int64) (σ : St), kx w1 σ = some (r, σ') → Z p l e (rmL 9) s m args below meth c (MQ below (QlW g a r σ') args s 0 0 (Ad a)) 5 g a 0 0 σ 147 [(0, .ref (a 0)), (1, .long w1), (3, .int x3)] []) : ∀ (n : Nat) (x1 : Int64) (x4 : Int32) (σ : St), M8_digest_L120 x3 kx n x1 x4 σ = some (r, σ') → Z p l e (rmL 9) s m args below meth c (MQ below (QlW g a r σ') args s 0 0 (Ad a)) 5 g a 0 0 σ 120 [(0, .ref (a 0)), (1, .long x1), (3, .int x3), (4, .int x4)] [] := by
  intro n
  induction n with
  | zero => intro x1 x4 σ h; rw [M8_digest_L120] at h; cases h
  | succ n ih =>
    intro x1 x4 σ h
    rw [M8_digest_L120] at h
    refine z_iload (q := 3) F dX8_digest_120 rfl ?_
    refine z_iconst (v := 3) F dX8_digest_122 rfl ?_
    refine z_icmp_ge (tgt := 147) F dX8_digest_123 rfl (fun c24 => ?_) (fun c24 => ?_)
    · have h := ite_T c24 h
      refine z_sub (lv' := [(0, .ref (a 0)), (1, .long x1), (3, .int x3)]) [0, 1, 2] rfl ?_
      exact hx _ _ h
    · have h := ite_F c24 h
      refine z_ldc2 (v := 31) F dX8_digest_126 (tbm 1273 (by decide +kernel) rfl) ?_
      refine z_lload_n (q := 1) F dX8_digest_129 rfl rfl ?_
      refine z_lmul F dX8_digest_130 ?_
      refine z_aload_n (q := 0) F dX8_digest_131 rfl rfl ?_
      refine z_iload_n (q := 2) F dX8_digest_132 rfl rfl ?_
      refine z_iload (q := 3) F dX8_digest_133 rfl ?_
      obtain ⟨r25, σ25, hq25, h⟩ := bd_of h
      refine cl8_231 F hq25 ⟨Nat.le_of_ble_eq_true rfl, Nat.le_of_ble_eq_true rfl⟩ dX8_digest_135 (Nat.le_of_ble_eq_true rfl) ?_
      refine z_i2l F dX8_digest_138 ?_
      refine z_ladd F dX8_digest_139 ?_
      refine z_letJ h (fun v26 h => ?_)
      refine z_lstore_n (lv' := [(1, .long v26), (0, .ref (a 0)), (3, .int x3), (4, .int x4)]) F dX8_digest_140 rfl (by decide) rfl ?_
      refine z_iinc (q := 3) (v := x4 + 1) (lv' := [(4, .int (x4 + 1)), (1, .long v26), (0, .ref (a 0)), (3, .int x3)]) F dX8_digest_141 rfl rfl (by decide) rfl ?_
      refine z_letL (s0 := 4) (lv := [(1, .long v26), (0, .ref (a 0)), (3, .int x3)]) h (fun v27 h => ?_)
      refine z_goto (tgt := 120) F dX8_digest_144 rfl ?_
      refine z_sub (lv' := [(0, .ref (a 0)), (1, .long v26), (3, .int x3), (4, .int v27)]) [2, 1, 3, 0] rfl ?_
      exact ih _ _ _ h
theorem zM8_digest_L109 {r : Int64} (F : Fx p s m args meth c cX8_digest 5 RX8 (some .long) (rmL 9) 0 0 g a) {kx : Int64 → St → Option (Int64 × St)} (hx : ∀ (w1 : Int64) (σ : St), kx w1 σ = some (r, σ') → Z p l e (rmL 9) s m args below meth c (MQ below (QlW g a r σ') args s 0 0 (Ad a)) 5 g a 0 0 σ 153 [(0, .ref (a 0)), (1, .long w1)] []) : ∀ (n : Nat) (x1 : Int64) (x3 : Int32) (σ : St), M8_digest_L109 kx n x1 x3 σ = some (r, σ') → Z p l e (rmL 9) s m args below meth c (MQ below (QlW g a r σ') args s 0 0 (Ad a)) 5 g a 0 0 σ 109 [(0, .ref (a 0)), (1, .long x1), (3, .int x3)] [] := by
  intro n
  induction n with
  | zero => intro x1 x3 σ h; rw [M8_digest_L109] at h; cases h
  | succ n ih =>
    intro x1 x3 σ h
    rw [M8_digest_L109] at h
    refine z_iload_n (q := 2) F dX8_digest_109 rfl rfl ?_
    refine z_aload_n (q := 0) F dX8_digest_110 rfl rfl ?_
    refine gf8_151 F kdc_0 dX8_digest_111 ?_
    refine z_icmp_ge (tgt := 153) F dX8_digest_114 rfl (fun c23 => ?_) (fun c23 => ?_)
    · have h := ite_T c23 h
      refine z_sub (lv' := [(0, .ref (a 0)), (1, .long x1)]) [0, 1] rfl ?_
      exact hx _ _ h
    · have h := ite_F c23 h
      refine z_iconst (v := 0) F dX8_digest_117 rfl ?_
      refine z_istore (lv' := [(4, .int 0), (0, .ref (a 0)), (1, .long x1), (3, .int x3)]) F dX8_digest_118 (by decide) rfl ?_
      refine z_sub (lv' := [(0, .ref (a 0)), (1, .long x1), (3, .int x3), (4, .int 0)]) [1, 2, 3, 0] rfl ?_
      refine zM8_digest_L120 F ?_ _ _ _ _ h
      intro v28 σ29 h
      refine z_iinc (q := 2) (v := x3 + 1) (lv' := [(3, .int (x3 + 1)), (0, .ref (a 0)), (1, .long v28)]) F dX8_digest_147 rfl rfl (by decide) rfl ?_
      refine z_letL (s0 := 3) (lv := [(0, .ref (a 0)), (1, .long v28)]) h (fun v30 h => ?_)
      refine z_goto (tgt := 109) F dX8_digest_150 rfl ?_
      refine z_sub (lv' := [(0, .ref (a 0)), (1, .long v28), (3, .int v30)]) [1, 2, 0] rfl ?_
      exact ih _ _ _ h
theorem zM8_digest_L84 {r : Int64} (F : Fx p s m args meth c cX8_digest 5 RX8 (some .long) (rmL 9) 0 0 g a) {kx : Int64 → St → Option (Int64 × St)} (hx : ∀ (w1 : Int64) (σ : St), kx w1 σ = some (r, σ') → Z p l e (rmL 9) s m args below meth c (MQ below (QlW g a r σ') args s 0 0 (Ad a)) 5 g a 0 0 σ 107 [(0, .ref (a 0)), (1, .long w1)] []) : ∀ (n : Nat) (x1 : Int64) (x3 : Int32) (σ : St), M8_digest_L84 kx n x1 x3 σ = some (r, σ') → Z p l e (rmL 9) s m args below meth c (MQ below (QlW g a r σ') args s 0 0 (Ad a)) 5 g a 0 0 σ 84 [(0, .ref (a 0)), (1, .long x1), (3, .int x3)] [] := by
  intro n
  induction n with
  | zero => intro x1 x3 σ h; rw [M8_digest_L84] at h; cases h
  | succ n ih =>
    intro x1 x3 σ h
    rw [M8_digest_L84] at h
    refine z_iload_n (q := 2) F dX8_digest_84 rfl rfl ?_
    refine z_aload_n (q := 0) F dX8_digest_85 rfl rfl ?_
    refine gf8_28 F kdc_0 dX8_digest_86 ?_
    refine z_iconst (v := 1) F dX8_digest_89 rfl ?_
    refine z_ialdC (j := 1) F kdc_7 (inl lnc_7 (by decide)) (by decide) dX8_digest_90 ?_
    refine z_icmp_ge (tgt := 107) F dX8_digest_91 rfl (fun c18 => ?_) (fun c18 => ?_)
    · have h := ite_T c18 h
      refine z_sub (lv' := [(0, .ref (a 0)), (1, .long x1)]) [0, 1] rfl ?_
      exact hx _ _ h
    · have h := ite_F c18 h
      refine z_aload_n (q := 0) F dX8_digest_94 rfl rfl ?_
      refine z_lload_n (q := 1) F dX8_digest_95 rfl rfl ?_
      refine z_iload_n (q := 2) F dX8_digest_96 rfl rfl ?_
      obtain ⟨r19, σ19, hq19, h⟩ := bd_of h
      refine cl8_332 F hq19 ⟨Nat.le_of_ble_eq_true rfl, Nat.le_of_ble_eq_true rfl⟩ dX8_digest_97 (Nat.le_of_ble_eq_true rfl) ?_
      refine z_lstore_n (lv' := [(1, .long r19), (0, .ref (a 0)), (3, .int x3)]) F dX8_digest_100 rfl (by decide) rfl ?_
      refine z_iinc (q := 2) (v := x3 + 1) (lv' := [(3, .int (x3 + 1)), (1, .long r19), (0, .ref (a 0))]) F dX8_digest_101 rfl rfl (by decide) rfl ?_
      refine z_letL (s0 := 3) (lv := [(1, .long r19), (0, .ref (a 0))]) h (fun v20 h => ?_)
      refine z_goto (tgt := 84) F dX8_digest_104 rfl ?_
      refine z_sub (lv' := [(0, .ref (a 0)), (1, .long r19), (3, .int v20)]) [2, 1, 0] rfl ?_
      exact ih _ _ _ h
theorem zM8_digest_L59 {r : Int64} (F : Fx p s m args meth c cX8_digest 5 RX8 (some .long) (rmL 9) 0 0 g a) {kx : Int64 → St → Option (Int64 × St)} (hx : ∀ (w1 : Int64) (σ : St), kx w1 σ = some (r, σ') → Z p l e (rmL 9) s m args below meth c (MQ below (QlW g a r σ') args s 0 0 (Ad a)) 5 g a 0 0 σ 82 [(0, .ref (a 0)), (1, .long w1)] []) : ∀ (n : Nat) (x1 : Int64) (x3 : Int32) (σ : St), M8_digest_L59 kx n x1 x3 σ = some (r, σ') → Z p l e (rmL 9) s m args below meth c (MQ below (QlW g a r σ') args s 0 0 (Ad a)) 5 g a 0 0 σ 59 [(0, .ref (a 0)), (1, .long x1), (3, .int x3)] [] := by
  intro n
  induction n with
  | zero => intro x1 x3 σ h; rw [M8_digest_L59] at h; cases h
  | succ n ih =>
    intro x1 x3 σ h
    rw [M8_digest_L59] at h
    refine z_iload_n (q := 2) F dX8_digest_59 rfl rfl ?_
    refine z_aload_n (q := 0) F dX8_digest_60 rfl rfl ?_
    refine gf8_28 F kdc_0 dX8_digest_61 ?_
    refine z_iconst (v := 0) F dX8_digest_64 rfl ?_
    refine z_ialdC (j := 0) F kdc_7 (inl lnc_7 (by decide)) (by decide) dX8_digest_65 ?_
    refine z_icmp_ge (tgt := 82) F dX8_digest_66 rfl (fun c12 => ?_) (fun c12 => ?_)
    · have h := ite_T c12 h
      refine z_sub (lv' := [(0, .ref (a 0)), (1, .long x1)]) [0, 1] rfl ?_
      exact hx _ _ h
    · have h := ite_F c12 h
      refine z_aload_n (q := 0) F dX8_digest_69 rfl rfl ?_
      refine z_lload_n (q := 1) F dX8_digest_70 rfl rfl ?_
      refine z_iload_n (q := 2) F dX8_digest_71 rfl rfl ?_
      obtain ⟨r13, σ13, hq13, h⟩ := bd_of h
      refine cl8_328 F hq13 ⟨Nat.le_of_ble_eq_true rfl, Nat.le_of_ble_eq_true rfl⟩ dX8_digest_72 (Nat.le_of_ble_eq_true rfl) ?_
      refine z_lstore_n (lv' := [(1, .long r13), (0, .ref (a 0)), (3, .int x3)]) F dX8_digest_75 rfl (by decide) rfl ?_
      refine z_iinc (q := 2) (v := x3 + 1) (lv' := [(3, .int (x3 + 1)), (1, .long r13), (0, .ref (a 0))]) F dX8_digest_76 rfl rfl (by decide) rfl ?_
      refine z_letL (s0 := 3) (lv := [(1, .long r13), (0, .ref (a 0))]) h (fun v14 h => ?_)
      refine z_goto (tgt := 59) F dX8_digest_79 rfl ?_
      refine z_sub (lv' := [(0, .ref (a 0)), (1, .long r13), (3, .int v14)]) [2, 1, 0] rfl ?_
      exact ih _ _ _ h
theorem zM8_digest_L6 {r : Int64} (F : Fx p s m args meth c cX8_digest 5 RX8 (some .long) (rmL 9) 0 0 g a) {kx : Int64 → St → Option (Int64 × St)} (hx : ∀ (w1 : Int64) (σ : St), kx w1 σ = some (r, σ') → Z p l e (rmL 9) s m args below meth c (MQ below (QlW g a r σ') args s 0 0 (Ad a)) 5 g a 0 0 σ 31 [(0, .ref (a 0)), (1, .long w1)] []) : ∀ (n : Nat) (x1 : Int64) (x3 : Int32) (σ : St), M8_digest_L6 kx n x1 x3 σ = some (r, σ') → Z p l e (rmL 9) s m args below meth c (MQ below (QlW g a r σ') args s 0 0 (Ad a)) 5 g a 0 0 σ 6 [(0, .ref (a 0)), (1, .long x1), (3, .int x3)] [] := by
  intro n
  induction n with
  | zero => intro x1 x3 σ h; rw [M8_digest_L6] at h; cases h
  | succ n ih =>
    intro x1 x3 σ h
    rw [M8_digest_L6] at h
    refine z_iload_n (q := 2) F dX8_digest_6 rfl rfl ?_
    refine z_bipush (v := 8) F dX8_digest_7 rfl ?_
    refine z_icmp_ge (tgt := 31) F dX8_digest_9 rfl (fun c1 => ?_) (fun c1 => ?_)
    · have h := ite_T c1 h
      refine z_sub (lv' := [(0, .ref (a 0)), (1, .long x1)]) [0, 1] rfl ?_
      exact hx _ _ h
    · have h := ite_F c1 h
      refine z_ldc2 (v := 31) F dX8_digest_12 (tbm 1273 (by decide +kernel) rfl) ?_
      refine z_lload_n (q := 1) F dX8_digest_15 rfl rfl ?_
      refine z_lmul F dX8_digest_16 ?_
      refine z_aload_n (q := 0) F dX8_digest_17 rfl rfl ?_
      refine z_iload_n (q := 2) F dX8_digest_18 rfl rfl ?_
      obtain ⟨r2, σ2, hq2, h⟩ := bd_of h
      refine cl8_325 F hq2 ⟨Nat.le_of_ble_eq_true rfl, Nat.le_of_ble_eq_true rfl⟩ dX8_digest_19 (Nat.le_of_ble_eq_true rfl) ?_
      refine z_i2l F dX8_digest_22 ?_
      refine z_ladd F dX8_digest_23 ?_
      refine z_letJ h (fun v3 h => ?_)
      refine z_lstore_n (lv' := [(1, .long v3), (0, .ref (a 0)), (3, .int x3)]) F dX8_digest_24 rfl (by decide) rfl ?_
      refine z_iinc (q := 2) (v := x3 + 1) (lv' := [(3, .int (x3 + 1)), (1, .long v3), (0, .ref (a 0))]) F dX8_digest_25 rfl rfl (by decide) rfl ?_
      refine z_letL (s0 := 3) (lv := [(1, .long v3), (0, .ref (a 0))]) h (fun v4 h => ?_)
      refine z_goto (tgt := 6) F dX8_digest_28 rfl ?_
      refine z_sub (lv' := [(0, .ref (a 0)), (1, .long v3), (3, .int v4)]) [2, 1, 0] rfl ?_
      exact ih _ _ _ h
theorem zM8_digest {r : Int64} {σ : St} (F : Fx p s m args meth c cX8_digest 5 RX8 (some .long) (rmL 9) 0 0 g a) (h : M8_digest σ = some (r, σ')) : Z p l e (rmL 9) s m args below meth c (MQ below (QlW g a r σ') args s 0 0 (Ad a)) 5 g a 0 0 σ 0 [(0, .ref (a 0))] [] := by
  unfold M8_digest at h
  refine z_ldc2 (v := 17) F dX8_digest_0 (tbm 1272 (by decide +kernel) rfl) ?_
  refine z_lstore_n (lv' := [(1, .long 17), (0, .ref (a 0))]) F dX8_digest_3 rfl (by decide) rfl ?_
  refine z_iconst (v := 0) F dX8_digest_4 rfl ?_
  refine z_istore_n (lv' := [(3, .int 0), (1, .long 17), (0, .ref (a 0))]) F dX8_digest_5 rfl (by decide) rfl ?_
  refine z_sub (lv' := [(0, .ref (a 0)), (1, .long 17), (3, .int 0)]) [2, 1, 0] rfl ?_
  refine zM8_digest_L6 F ?_ _ _ _ _ h
  intro v5 σ6 h
  refine z_ldc2 (v := 31) F dX8_digest_31 (tbm 1273 (by decide +kernel) rfl) ?_
  refine z_lload_n (q := 1) F dX8_digest_34 rfl rfl ?_
  refine z_lmul F dX8_digest_35 ?_
  refine z_aload_n (q := 0) F dX8_digest_36 rfl rfl ?_
  refine z_iconst (v := 0) F dX8_digest_37 rfl ?_
  obtain ⟨r7, σ7, hq7, h⟩ := bd_of h
  refine cl8_135 F hq7 ⟨Nat.le_of_ble_eq_true rfl, Nat.le_of_ble_eq_true rfl⟩ dX8_digest_38 (Nat.le_of_ble_eq_true rfl) ?_
  refine z_i2l F dX8_digest_41 ?_
  refine z_ladd F dX8_digest_42 ?_
  refine z_letJ h (fun v8 h => ?_)
  refine z_lstore_n (lv' := [(1, .long v8), (0, .ref (a 0))]) F dX8_digest_43 rfl (by decide) rfl ?_
  refine z_ldc2 (v := 31) F dX8_digest_44 (tbm 1273 (by decide +kernel) rfl) ?_
  refine z_lload_n (q := 0) F dX8_digest_47 rfl rfl ?_
  refine z_lmul F dX8_digest_48 ?_
  refine z_aload_n (q := 1) F dX8_digest_49 rfl rfl ?_
  refine z_iconst (v := 1) F dX8_digest_50 rfl ?_
  obtain ⟨r9, σ9, hq9, h⟩ := bd_of h
  refine cl8_135 F hq9 ⟨Nat.le_of_ble_eq_true rfl, Nat.le_of_ble_eq_true rfl⟩ dX8_digest_51 (Nat.le_of_ble_eq_true rfl) ?_
  refine z_i2l F dX8_digest_54 ?_
  refine z_ladd F dX8_digest_55 ?_
  refine z_letJ h (fun v10 h => ?_)
  refine z_lstore_n (lv' := [(1, .long v10), (0, .ref (a 0))]) F dX8_digest_56 rfl (by decide) rfl ?_
  refine z_iconst (v := 0) F dX8_digest_57 rfl ?_
  refine z_istore_n (lv' := [(3, .int 0), (1, .long v10), (0, .ref (a 0))]) F dX8_digest_58 rfl (by decide) rfl ?_
  refine z_sub (lv' := [(0, .ref (a 0)), (1, .long v10), (3, .int 0)]) [2, 1, 0] rfl ?_
  refine zM8_digest_L59 F ?_ _ _ _ _ h
  intro v15 σ16 h
  refine z_iconst (v := 0) F dX8_digest_82 rfl ?_
  refine z_istore_n (lv' := [(3, .int 0), (0, .ref (a 0)), (1, .long v15)]) F dX8_digest_83 rfl (by decide) rfl ?_
  refine z_sub (lv' := [(0, .ref (a 0)), (1, .long v15), (3, .int 0)]) [1, 2, 0] rfl ?_
  refine zM8_digest_L84 F ?_ _ _ _ _ h
  intro v21 σ22 h
  refine z_iconst (v := 0) F dX8_digest_107 rfl ?_
  refine z_istore_n (lv' := [(3, .int 0), (0, .ref (a 0)), (1, .long v21)]) F dX8_digest_108 rfl (by decide) rfl ?_
  refine z_sub (lv' := [(0, .ref (a 0)), (1, .long v21), (3, .int 0)]) [1, 2, 0] rfl ?_
  refine zM8_digest_L109 F ?_ _ _ _ _ h
  intro v31 σ32 h
  refine z_aload_n (q := 0) F dX8_digest_153 rfl rfl ?_
  refine z_aload_n (q := 0) F dX8_digest_154 rfl rfl ?_
  refine z_aload_n (q := 0) F dX8_digest_155 rfl rfl ?_
  refine z_lload_n (q := 1) F dX8_digest_156 rfl rfl ?_
  refine z_iconst (v := 0) F dX8_digest_157 rfl ?_
  obtain ⟨r33, σ33, hq33, h⟩ := bd_of h
  refine cl8_335 F hq33 ⟨Nat.le_of_ble_eq_true rfl, Nat.le_of_ble_eq_true rfl⟩ dX8_digest_158 (Nat.le_of_ble_eq_true rfl) ?_
  refine z_iconst (v := 5) F dX8_digest_161 rfl ?_
  obtain ⟨r34, σ34, hq34, h⟩ := bd_of h
  refine cl8_335 F hq34 ⟨Nat.le_of_ble_eq_true rfl, Nat.le_of_ble_eq_true rfl⟩ dX8_digest_162 (Nat.le_of_ble_eq_true rfl) ?_
  refine z_bipush (v := 39) F dX8_digest_165 rfl ?_
  obtain ⟨r35, σ35, hq35, h⟩ := bd_of h
  refine cl8_335 F hq35 ⟨Nat.le_of_ble_eq_true rfl, Nat.le_of_ble_eq_true rfl⟩ dX8_digest_167 (Nat.le_of_ble_eq_true rfl) ?_
  refine z_lstore_n (lv' := [(1, .long r35), (0, .ref (a 0))]) F dX8_digest_170 rfl (by decide) rfl ?_
  refine z_iconst (v := 0) F dX8_digest_171 rfl ?_
  refine z_istore_n (lv' := [(3, .int 0), (1, .long r35), (0, .ref (a 0))]) F dX8_digest_172 rfl (by decide) rfl ?_
  refine z_sub (lv' := [(0, .ref (a 0)), (1, .long r35), (3, .int 0)]) [2, 1, 0] rfl ?_
  refine zM8_digest_L173 F ?_ _ _ _ _ h
  intro v40 σ41 h
  refine z_ldc2 (v := 31) F dX8_digest_198 (tbm 1273 (by decide +kernel) rfl) ?_
  refine z_lload_n (q := 1) F dX8_digest_201 rfl rfl ?_
  refine z_lmul F dX8_digest_202 ?_
  refine z_aload_n (q := 0) F dX8_digest_203 rfl rfl ?_
  obtain ⟨r42, σ42, hq42, h⟩ := bd_of h
  refine cl8_237 F hq42 ⟨Nat.le_of_ble_eq_true rfl, Nat.le_of_ble_eq_true rfl⟩ dX8_digest_204 (Nat.le_of_ble_eq_true rfl) ?_
  refine z_i2l F dX8_digest_207 ?_
  refine z_ladd F dX8_digest_208 ?_
  refine z_letJ h (fun v43 h => ?_)
  refine z_lstore_n (lv' := [(1, .long v43), (0, .ref (a 0))]) F dX8_digest_209 rfl (by decide) rfl ?_
  refine z_ldc2 (v := 31) F dX8_digest_210 (tbm 1273 (by decide +kernel) rfl) ?_
  refine z_lload_n (q := 0) F dX8_digest_213 rfl rfl ?_
  refine z_lmul F dX8_digest_214 ?_
  refine z_aload_n (q := 1) F dX8_digest_215 rfl rfl ?_
  refine z_iconst (v := 0) F dX8_digest_216 rfl ?_
  obtain ⟨r44, σ44, hq44, h⟩ := bd_of h
  refine cl8_286 F hq44 ⟨Nat.le_of_ble_eq_true rfl, Nat.le_of_ble_eq_true rfl⟩ dX8_digest_217 (Nat.le_of_ble_eq_true rfl) ?_
  refine z_i2l F dX8_digest_220 ?_
  refine z_ladd F dX8_digest_221 ?_
  refine z_letJ h (fun v45 h => ?_)
  refine z_lstore_n (lv' := [(1, .long v45), (0, .ref (a 0))]) F dX8_digest_222 rfl (by decide) rfl ?_
  refine z_ldc2 (v := 31) F dX8_digest_223 (tbm 1273 (by decide +kernel) rfl) ?_
  refine z_lload_n (q := 0) F dX8_digest_226 rfl rfl ?_
  refine z_lmul F dX8_digest_227 ?_
  refine z_aload_n (q := 1) F dX8_digest_228 rfl rfl ?_
  refine z_iconst (v := 1) F dX8_digest_229 rfl ?_
  obtain ⟨r46, σ46, hq46, h⟩ := bd_of h
  refine cl8_286 F hq46 ⟨Nat.le_of_ble_eq_true rfl, Nat.le_of_ble_eq_true rfl⟩ dX8_digest_230 (Nat.le_of_ble_eq_true rfl) ?_
  refine z_i2l F dX8_digest_233 ?_
  refine z_ladd F dX8_digest_234 ?_
  refine z_letJ h (fun v47 h => ?_)
  refine z_lstore_n (lv' := [(1, .long v47), (0, .ref (a 0))]) F dX8_digest_235 rfl (by decide) rfl ?_
  refine z_ldc2 (v := 31) F dX8_digest_236 (tbm 1273 (by decide +kernel) rfl) ?_
  refine z_lload_n (q := 0) F dX8_digest_239 rfl rfl ?_
  refine z_lmul F dX8_digest_240 ?_
  refine z_aload_n (q := 1) F dX8_digest_241 rfl rfl ?_
  refine z_bipush (v := 7) F dX8_digest_242 rfl ?_
  refine z_bipush (v := 20) F dX8_digest_244 rfl ?_
  refine z_iconst (v := 0) F dX8_digest_246 rfl ?_
  obtain ⟨r48, σ48, hq48, h⟩ := bd_of h
  refine cl8_315 F hq48 ⟨Nat.le_of_ble_eq_true rfl, Nat.le_of_ble_eq_true rfl⟩ dX8_digest_247 (Nat.le_of_ble_eq_true rfl) ?_
  refine z_i2l F dX8_digest_250 ?_
  refine z_ladd F dX8_digest_251 ?_
  refine z_letJ h (fun v49 h => ?_)
  refine z_lstore_n (lv' := [(1, .long v49), (0, .ref (a 0))]) F dX8_digest_252 rfl (by decide) rfl ?_
  refine z_ldc2 (v := 31) F dX8_digest_253 (tbm 1273 (by decide +kernel) rfl) ?_
  refine z_lload_n (q := 0) F dX8_digest_256 rfl rfl ?_
  refine z_lmul F dX8_digest_257 ?_
  refine z_aload_n (q := 1) F dX8_digest_258 rfl rfl ?_
  refine z_bipush (v := 7) F dX8_digest_259 rfl ?_
  refine z_bipush (v := 20) F dX8_digest_261 rfl ?_
  refine z_iconst (v := 1) F dX8_digest_263 rfl ?_
  obtain ⟨r50, σ50, hq50, h⟩ := bd_of h
  refine cl8_315 F hq50 ⟨Nat.le_of_ble_eq_true rfl, Nat.le_of_ble_eq_true rfl⟩ dX8_digest_264 (Nat.le_of_ble_eq_true rfl) ?_
  refine z_i2l F dX8_digest_267 ?_
  refine z_ladd F dX8_digest_268 ?_
  exact z_lret F h dX8_digest_269
theorem ct8_digest {r : Int64} {σ : St} (h : M8_digest σ = some (r, σ')) : Met l yX8_digest (wsY yX8_digest cX8_digest 5 (some .long)) (rmL 9) (PcW g a [.ref (a 0)] σ) (QlW g a r σ') 0 0 (Ad a) :=
  ct_L (by decide) (Nat.le_of_ble_eq_true rfl) (fun p e s m args below meth c F => zM8_digest F h)

end WalkZ
