section WalkZ
variable {p : Program} {l : Launch} {e : Env} {R : Room} {s : State} {m : MethodId} {args : Array Value} {below : List Frame} {meth : Method} {c : Code} {Q : State → Prop} {cc : ByteArray} {nL : Nat} {own : String} {rt : Option FieldType} {g : Gd} {a : Nat → Nat} {cz sz : Nat} {σ σ1 σ' : St} {pc : Nat} {lv lv' : List (Nat × Value)} {st st0 rest : List Value}
theorem zM8_in {r : Int32} {x0 : Int64} {x2 : Int64} {x4 : Int64} {σ : St} (F : Fx p s m args meth c cX8_in 6 RX8 (some .boolean) (rmL 0) 0 0 g a) (h : M8_in x0 x2 x4 σ = some (r, σ')) : Z p l e (rmL 0) s m args below meth c (MQ below (QiW g a r σ') args s 0 0 (Ad a)) 6 g a 0 0 σ 0 [(0, .long x0), (2, .long x2), (4, .long x4)] [] := by
  unfold M8_in at h
  refine z_lload_n (q := 0) F dX8_in_0 rfl rfl ?_
  refine z_lload_n (q := 1) F dX8_in_1 rfl rfl ?_
  refine z_lcmp F dX8_in_2 ?_
  refine z_if_lt (tgt := 17) F dX8_in_3 rfl (fun c1 => ?_) (fun c1 => ?_)
  · try simp only [if_pos c1] at h
    refine z_iconst (v := 0) F dX8_in_17 rfl ?_
    exact z_bret F (by first | exact Or.inl rfl | exact Or.inr rfl) h dX8_in_18
  · try simp only [if_neg c1] at h
    refine z_lload_n (q := 0) F dX8_in_6 rfl rfl ?_
    refine z_lload (q := 2) F dX8_in_7 rfl ?_
    refine z_lcmp F dX8_in_9 ?_
    refine z_if_gt (tgt := 17) F dX8_in_10 rfl (fun c2 => ?_) (fun c2 => ?_)
    · try simp only [if_pos c2] at h
      refine z_iconst (v := 0) F dX8_in_17 rfl ?_
      exact z_bret F (by first | exact Or.inl rfl | exact Or.inr rfl) h dX8_in_18
    · try simp only [if_neg c2] at h
      refine z_iconst (v := 1) F dX8_in_13 rfl ?_
      refine z_goto (tgt := 18) F dX8_in_14 rfl ?_
      exact z_bret F (by first | exact Or.inl rfl | exact Or.inr rfl) h dX8_in_18
theorem ct8_in {r : Int32} {x0 : Int64} {x2 : Int64} {x4 : Int64} {σ : St} (h : M8_in x0 x2 x4 σ = some (r, σ')) : Met l yX8_in (wsY yX8_in cX8_in 6 (some .boolean)) (rmL 0) (PcW g a [.long x0, .long x2, .long x4] σ) (QiW g a r σ') 0 0 (Ad a) :=
  ct_I (by decide) (Nat.le_of_ble_eq_true rfl) (fun p e s m args below meth c F => zM8_in F h)
theorem cl8_94 {r : Int32} {x0 : Int64} {x2 : Int64} {x4 : Int64} (F : Fx p s m args meth c cc nL RX8 rt R cz sz g a) (h : M8_in x0 x2 x4 σ = some (r, σ1)) (hR : 0 + 1 ≤ R.frames ∧ 8 + (6 + 11) + 34 * 0 ≤ R.locals) (d : decode cc pc = .ok (.invokestatic 94, 3)) (hrm : (rest.map fun v => v.category).sum ≤ 8) (z : Z p l e R s m args below meth c Q nL g a cz sz σ1 (pc + 3) lv (.int r :: rest)) : Z p l e R s m args below meth c Q nL g a cz sz σ pc lv (.long x4 :: .long x2 :: .long x0 :: rest) :=
  z_callSI (nA := 3) (As := [.long x0, .long x2, .long x4]) F (ct8_in h) ⟨(tbm 921 (by decide +kernel) rfl), (tbm 922 (by decide +kernel) rfl), (tbm 9 (by decide +kernel) rfl), (tbm 923 (by decide +kernel) rfl)⟩ (by decide +kernel) rfl hR d rfl hrm z
theorem zM8_back_J83 {r : Int32} {x1 : Int32} {x2 : Int32} {y0 : Int32} {y1 : Int32} {σ : St} (F : Fx p s m args meth c cX8_back 3 RX8 (some .int) (rmL 1) 0 0 g a) (h : M8_back_J83 x1 x2 y0 y1 σ = some (r, σ')) : Z p l e (rmL 1) s m args below meth c (MQ below (QiW g a r σ') args s 0 0 (Ad a)) 3 g a 0 0 σ 83 [(0, .ref (a 0)), (1, .int x1), (2, .int x2)] [.int y0, .int y1, .ref (a 0)] := by
  unfold M8_back_J83 at h
  refine z_isub F dX8_back_83 ?_
  refine pf8_168 F kdc_0 dX8_back_84 ?_
  refine z_let h (fun σ9 h => ?_)
  refine z_aload_n (q := 0) F dX8_back_87 rfl rfl ?_
  refine z_dup F dX8_back_88 rfl ?_
  refine gf8_171 F kdc_0 dX8_back_89 ?_
  refine z_iload_n (q := 1) F dX8_back_92 rfl rfl ?_
  refine z_iconst (v := 2) F dX8_back_93 rfl ?_
  refine z_icmp_ne (tgt := 101) F dX8_back_94 rfl (fun c10 => ?_) (fun c10 => ?_)
  · have h := ite_F c10 h
    refine z_iconst (v := 0) F dX8_back_101 rfl ?_
    refine z_isub F dX8_back_102 ?_
    refine pf8_171 F kdc_0 dX8_back_103 ?_
    refine z_let h (fun σ11 h => ?_)
    refine z_iload_n (q := 2) F dX8_back_106 rfl rfl ?_
    refine z_iconst (v := 1) F dX8_back_107 rfl ?_
    refine z_isub F dX8_back_108 ?_
    exact z_iret F h dX8_back_109
  · have h := ite_T c10 h
    refine z_iconst (v := 1) F dX8_back_97 rfl ?_
    refine z_goto (tgt := 102) F dX8_back_98 rfl ?_
    refine z_isub F dX8_back_102 ?_
    refine pf8_171 F kdc_0 dX8_back_103 ?_
    refine z_let h (fun σ12 h => ?_)
    refine z_iload_n (q := 2) F dX8_back_106 rfl rfl ?_
    refine z_iconst (v := 1) F dX8_back_107 rfl ?_
    refine z_isub F dX8_back_108 ?_
    exact z_iret F h dX8_back_109
theorem zM8_back_J64 {r : Int32} {x1 : Int32} {x2 : Int32} {y0 : Int32} {y1 : Int32} {σ : St} (F : Fx p s m args meth c cX8_back 3 RX8 (some .int) (rmL 1) 0 0 g a) (h : M8_back_J64 x1 x2 y0 y1 σ = some (r, σ')) : Z p l e (rmL 1) s m args below meth c (MQ below (QiW g a r σ') args s 0 0 (Ad a)) 3 g a 0 0 σ 64 [(0, .ref (a 0)), (1, .int x1), (2, .int x2)] [.int y0, .int y1, .ref (a 0)] := by
  unfold M8_back_J64 at h
  refine z_isub F dX8_back_64 ?_
  refine pf8_151 F kdc_0 dX8_back_65 ?_
  refine z_let h (fun σ7 h => ?_)
  refine z_aload_n (q := 0) F dX8_back_68 rfl rfl ?_
  refine z_dup F dX8_back_69 rfl ?_
  refine gf8_168 F kdc_0 dX8_back_70 ?_
  refine z_iload_n (q := 1) F dX8_back_73 rfl rfl ?_
  refine z_iconst (v := 1) F dX8_back_74 rfl ?_
  refine z_icmp_ne (tgt := 82) F dX8_back_75 rfl (fun c8 => ?_) (fun c8 => ?_)
  · try simp only [if_neg c8] at h
    refine z_iconst (v := 0) F dX8_back_82 rfl ?_
    refine z_sub (lv' := [(0, .ref (a 0)), (1, .int x1), (2, .int x2)]) [0, 1, 2] rfl ?_
    exact zM8_back_J83 F h
  · try simp only [if_pos c8] at h
    refine z_iconst (v := 1) F dX8_back_78 rfl ?_
    refine z_goto (tgt := 83) F dX8_back_79 rfl ?_
    refine z_sub (lv' := [(0, .ref (a 0)), (1, .int x1), (2, .int x2)]) [0, 1, 2] rfl ?_
    exact zM8_back_J83 F h
theorem zM8_back_J42 {r : Int32} {x1 : Int32} {y0 : Int32} {σ : St} (F : Fx p s m args meth c cX8_back 3 RX8 (some .int) (rmL 1) 0 0 g a) (h : M8_back_J42 x1 y0 σ = some (r, σ')) : Z p l e (rmL 1) s m args below meth c (MQ below (QiW g a r σ') args s 0 0 (Ad a)) 3 g a 0 0 σ 42 [(0, .ref (a 0)), (1, .int x1)] [.int y0] := by
  unfold M8_back_J42 at h
  refine z_istore_n (lv' := [(2, .int y0), (0, .ref (a 0)), (1, .int x1)]) F dX8_back_42 rfl (by decide) rfl ?_
  refine z_iload_n (q := 0) F dX8_back_43 rfl rfl ?_
  refine z_if_ne (tgt := 50) F dX8_back_44 rfl (fun c5 => ?_) (fun c5 => ?_)
  · have h := ite_F c5 h
    refine z_aload_n (q := 1) F dX8_back_50 rfl rfl ?_
    refine z_dup F dX8_back_51 rfl ?_
    refine gf8_151 F kdc_0 dX8_back_52 ?_
    refine z_iload_n (q := 2) F dX8_back_55 rfl rfl ?_
    refine z_if_ne (tgt := 63) F dX8_back_56 rfl (fun c6 => ?_) (fun c6 => ?_)
    · try simp only [if_neg c6] at h
      refine z_iconst (v := 0) F dX8_back_63 rfl ?_
      refine z_sub (lv' := [(0, .ref (a 0)), (1, .int x1), (2, .int y0)]) [1, 2, 0] rfl ?_
      exact zM8_back_J64 F h
    · try simp only [if_pos c6] at h
      refine z_iconst (v := 1) F dX8_back_59 rfl ?_
      refine z_goto (tgt := 64) F dX8_back_60 rfl ?_
      refine z_sub (lv' := [(0, .ref (a 0)), (1, .int x1), (2, .int y0)]) [1, 2, 0] rfl ?_
      exact zM8_back_J64 F h
  · have h := ite_T c5 h
    refine z_bipush (v := (-3)) F dX8_back_47 rfl ?_
    exact z_iret F h dX8_back_49
theorem zM8_back {r : Int32} {x1 : Int32} {σ : St} (F : Fx p s m args meth c cX8_back 3 RX8 (some .int) (rmL 1) 0 0 g a) (h : M8_back x1 σ = some (r, σ')) : Z p l e (rmL 1) s m args below meth c (MQ below (QiW g a r σ') args s 0 0 (Ad a)) 3 g a 0 0 σ 0 [(0, .ref (a 0)), (1, .int x1)] [] := by
  unfold M8_back at h
  refine z_iload_n (q := 1) F dX8_back_0 rfl rfl ?_
  refine z_i2l F dX8_back_1 ?_
  refine z_lconst (v := 0) F dX8_back_2 rfl ?_
  refine z_ldc2 (v := 2) F dX8_back_3 (tbm 924 (by decide +kernel) rfl) ?_
  obtain ⟨r1, σ1, hq1, h⟩ := bd_of h
  refine cl8_94 F hq1 ⟨Nat.le_of_ble_eq_true rfl, Nat.le_of_ble_eq_true rfl⟩ dX8_back_6 (Nat.le_of_ble_eq_true rfl) ?_
  refine z_if_ne (tgt := 15) F dX8_back_9 rfl (fun c2 => ?_) (fun c2 => ?_)
  · have h := ite_F c2 h
    refine z_iload_n (q := 1) F dX8_back_15 rfl rfl ?_
    refine z_if_ne (tgt := 26) F dX8_back_16 rfl (fun c3 => ?_) (fun c3 => ?_)
    · try simp only [if_neg c3] at h
      refine z_iload_n (q := 1) F dX8_back_26 rfl rfl ?_
      refine z_iconst (v := 1) F dX8_back_27 rfl ?_
      refine z_icmp_ne (tgt := 38) F dX8_back_28 rfl (fun c4 => ?_) (fun c4 => ?_)
      · try simp only [if_neg c4] at h
        refine z_aload_n (q := 0) F dX8_back_38 rfl rfl ?_
        refine gf8_171 F kdc_0 dX8_back_39 ?_
        refine z_sub (lv' := [(0, .ref (a 0)), (1, .int x1)]) [0, 1] rfl ?_
        exact zM8_back_J42 F h
      · try simp only [if_pos c4] at h
        refine z_aload_n (q := 0) F dX8_back_31 rfl rfl ?_
        refine gf8_168 F kdc_0 dX8_back_32 ?_
        refine z_goto (tgt := 42) F dX8_back_35 rfl ?_
        refine z_sub (lv' := [(0, .ref (a 0)), (1, .int x1)]) [0, 1] rfl ?_
        exact zM8_back_J42 F h
    · try simp only [if_pos c3] at h
      refine z_aload_n (q := 0) F dX8_back_19 rfl rfl ?_
      refine gf8_151 F kdc_0 dX8_back_20 ?_
      refine z_goto (tgt := 42) F dX8_back_23 rfl ?_
      refine z_sub (lv' := [(0, .ref (a 0)), (1, .int x1)]) [0, 1] rfl ?_
      exact zM8_back_J42 F h
  · have h := ite_T c2 h
    refine z_bipush (v := (-2)) F dX8_back_12 rfl ?_
    exact z_iret F h dX8_back_14
theorem ct8_back {r : Int32} {x1 : Int32} {σ : St} (h : M8_back x1 σ = some (r, σ')) : Met l yX8_back (wsY yX8_back cX8_back 3 (some .int)) (rmL 1) (PcW g a [.ref (a 0), .int x1] σ) (QiW g a r σ') 0 0 (Ad a) :=
  ct_I (by decide) (Nat.le_of_ble_eq_true rfl) (fun p e s m args below meth c F => zM8_back F h)

theorem zM8_begins_L71 {r : Unit} (F : Fx p s m args meth c cX8_begins 2 RX8 none (rmL 0) 0 0 g a) {kx : St → Option (Unit × St)} (hx : ∀ (σ : St), kx σ = some (r, σ') → Z p l e (rmL 0) s m args below meth c (MQ below (QvW g a r σ') args s 0 0 (Ad a)) 2 g a 0 0 σ 106 [] []) : ∀ (n : Nat) (x1 : Int32) (σ : St), M8_begins_L71 kx n x1 σ = some (r, σ') → Z p l e (rmL 0) s m args below meth c (MQ below (QvW g a r σ') args s 0 0 (Ad a)) 2 g a 0 0 σ 71 [(0, .ref (a 0)), (1, .int x1)] [] := by
  intro n
  induction n with
  | zero => intro x1 σ h; rw [M8_begins_L71] at h; cases h
  | succ n ih =>
    intro x1 σ h
    rw [M8_begins_L71] at h
    refine z_iload_n (q := 1) F dX8_begins_71 rfl rfl ?_
    refine z_aload_n (q := 0) F dX8_begins_72 rfl rfl ?_
    refine gf8_151 F kdc_0 dX8_begins_73 ?_
    refine z_icmp_ge (tgt := 106) F dX8_begins_76 rfl (fun c16 => ?_) (fun c16 => ?_)
    · have h := ite_T c16 h
      refine z_sub (lv' := []) [] rfl ?_
      exact hx _ h
    · have h := ite_F c16 h
      refine z_aload_n (q := 0) F dX8_begins_79 rfl rfl ?_
      refine gf8_58 F kdc_0 dX8_begins_80 ?_
      refine z_iload_n (q := 1) F dX8_begins_83 rfl rfl ?_
      refine z_iconst (v := 0) F dX8_begins_84 rfl ?_
      obtain ⟨g17, h⟩ := gd_of h
      refine z_iast F kdc_17 (inl lnc_17 g17) dX8_begins_85 ?_
      refine z_let h (fun σ18 h => ?_)
      refine z_aload_n (q := 0) F dX8_begins_86 rfl rfl ?_
      refine gf8_61 F kdc_0 dX8_begins_87 ?_
      refine z_iload_n (q := 1) F dX8_begins_90 rfl rfl ?_
      refine z_iconst (v := (-1)) F dX8_begins_91 rfl ?_
      refine z_iast F kdc_18 (inl lnc_18 g17) dX8_begins_92 ?_
      refine z_let h (fun σ20 h => ?_)
      refine z_aload_n (q := 0) F dX8_begins_93 rfl rfl ?_
      refine gf8_67 F kdc_0 dX8_begins_94 ?_
      refine z_iload_n (q := 1) F dX8_begins_97 rfl rfl ?_
      refine z_iconst (v := (-1)) F dX8_begins_98 rfl ?_
      refine z_iast F kdc_20 (inl lnc_20 g17) dX8_begins_99 ?_
      refine z_let h (fun σ22 h => ?_)
      refine z_iinc (q := 1) (v := x1 + 1) (lv' := [(1, .int (x1 + 1)), (0, .ref (a 0))]) F dX8_begins_100 rfl rfl (by decide) rfl ?_
      refine z_letL (s0 := 1) (lv := [(0, .ref (a 0))]) h (fun v23 h => ?_)
      refine z_goto (tgt := 71) F dX8_begins_103 rfl ?_
      refine z_sub (lv' := [(0, .ref (a 0)), (1, .int v23)]) [1, 0] rfl ?_
      exact ih _ _ h
theorem zM8_begins_L2 {r : Unit} (F : Fx p s m args meth c cX8_begins 2 RX8 none (rmL 0) 0 0 g a) {kx : St → Option (Unit × St)} (hx : ∀ (σ : St), kx σ = some (r, σ') → Z p l e (rmL 0) s m args below meth c (MQ below (QvW g a r σ') args s 0 0 (Ad a)) 2 g a 0 0 σ 64 [(0, .ref (a 0))] []) : ∀ (n : Nat) (x1 : Int32) (σ : St), M8_begins_L2 kx n x1 σ = some (r, σ') → Z p l e (rmL 0) s m args below meth c (MQ below (QvW g a r σ') args s 0 0 (Ad a)) 2 g a 0 0 σ 2 [(0, .ref (a 0)), (1, .int x1)] [] := by
  intro n
  induction n with
  | zero => intro x1 σ h; rw [M8_begins_L2] at h; cases h
  | succ n ih =>
    intro x1 σ h
    rw [M8_begins_L2] at h
    refine z_iload_n (q := 1) F dX8_begins_2 rfl rfl ?_
    refine z_aload_n (q := 0) F dX8_begins_3 rfl rfl ?_
    refine gf8_28 F kdc_0 dX8_begins_4 ?_
    refine z_iconst (v := 0) F dX8_begins_7 rfl ?_
    refine z_ialdC (j := 0) F kdc_7 (inl lnc_7 (by decide)) (by decide) dX8_begins_8 ?_
    refine z_icmp_ge (tgt := 64) F dX8_begins_9 rfl (fun c2 => ?_) (fun c2 => ?_)
    · have h := ite_T c2 h
      refine z_sub (lv' := [(0, .ref (a 0))]) [0] rfl ?_
      exact hx _ h
    · have h := ite_F c2 h
      refine z_aload_n (q := 0) F dX8_begins_12 rfl rfl ?_
      refine gf8_43 F kdc_0 dX8_begins_13 ?_
      refine z_iload_n (q := 1) F dX8_begins_16 rfl rfl ?_
      refine z_aload_n (q := 0) F dX8_begins_17 rfl rfl ?_
      refine gf8_31 F kdc_0 dX8_begins_18 ?_
      refine z_iconst (v := 4) F dX8_begins_21 rfl ?_
      refine z_iload_n (q := 1) F dX8_begins_22 rfl rfl ?_
      refine z_imul F dX8_begins_23 ?_
      refine z_iconst (v := 1) F dX8_begins_24 rfl ?_
      refine z_iadd F dX8_begins_25 ?_
      obtain ⟨g3, h⟩ := gd_of h
      refine z_iald F kdc_8 (inl lnc_8 g3) dX8_begins_26 ?_
      obtain ⟨g4, h⟩ := gd_of h
      refine z_iast F kdc_12 (inl lnc_12 g4) dX8_begins_27 ?_
      refine z_let h (fun σ5 h => ?_)
      refine z_aload_n (q := 0) F dX8_begins_28 rfl rfl ?_
      refine gf8_46 F kdc_0 dX8_begins_29 ?_
      refine z_iload_n (q := 1) F dX8_begins_32 rfl rfl ?_
      refine z_aload_n (q := 0) F dX8_begins_33 rfl rfl ?_
      refine gf8_31 F kdc_0 dX8_begins_34 ?_
      refine z_iconst (v := 4) F dX8_begins_37 rfl ?_
      refine z_iload_n (q := 1) F dX8_begins_38 rfl rfl ?_
      refine z_imul F dX8_begins_39 ?_
      refine z_iconst (v := 2) F dX8_begins_40 rfl ?_
      refine z_iadd F dX8_begins_41 ?_
      obtain ⟨g6, h⟩ := gd_of h
      refine z_iald F kdc_8 (inl lnc_8 g6) dX8_begins_42 ?_
      refine z_iast F kdc_13 (inl lnc_13 g4) dX8_begins_43 ?_
      refine z_let h (fun σ8 h => ?_)
      refine z_aload_n (q := 0) F dX8_begins_44 rfl rfl ?_
      refine gf8_49 F kdc_0 dX8_begins_45 ?_
      refine z_iload_n (q := 1) F dX8_begins_48 rfl rfl ?_
      refine z_iconst (v := (-1)) F dX8_begins_49 rfl ?_
      refine z_iast F kdc_14 (inl lnc_14 g4) dX8_begins_50 ?_
      refine z_let h (fun σ10 h => ?_)
      refine z_aload_n (q := 0) F dX8_begins_51 rfl rfl ?_
      refine gf8_55 F kdc_0 dX8_begins_52 ?_
      refine z_iload_n (q := 1) F dX8_begins_55 rfl rfl ?_
      refine z_iconst (v := 0) F dX8_begins_56 rfl ?_
      refine z_iast F kdc_16 (inl lnc_16 g4) dX8_begins_57 ?_
      refine z_let h (fun σ12 h => ?_)
      refine z_iinc (q := 1) (v := x1 + 1) (lv' := [(1, .int (x1 + 1)), (0, .ref (a 0))]) F dX8_begins_58 rfl rfl (by decide) rfl ?_
      refine z_letL (s0 := 1) (lv := [(0, .ref (a 0))]) h (fun v13 h => ?_)
      refine z_goto (tgt := 2) F dX8_begins_61 rfl ?_
      refine z_sub (lv' := [(0, .ref (a 0)), (1, .int v13)]) [1, 0] rfl ?_
      exact ih _ _ h
theorem zM8_begins {r : Unit} {σ : St} (F : Fx p s m args meth c cX8_begins 2 RX8 none (rmL 0) 0 0 g a) (h : M8_begins σ = some (r, σ')) : Z p l e (rmL 0) s m args below meth c (MQ below (QvW g a r σ') args s 0 0 (Ad a)) 2 g a 0 0 σ 0 [(0, .ref (a 0))] [] := by
  unfold M8_begins at h
  refine z_iconst (v := 0) F dX8_begins_0 rfl ?_
  refine z_istore_n (lv' := [(1, .int 0), (0, .ref (a 0))]) F dX8_begins_1 rfl (by decide) rfl ?_
  refine z_sub (lv' := [(0, .ref (a 0)), (1, .int 0)]) [1, 0] rfl ?_
  refine zM8_begins_L2 F ?_ _ _ _ h
  intro σ14 h
  refine z_aload_n (q := 0) F dX8_begins_64 rfl rfl ?_
  refine z_iconst (v := 0) F dX8_begins_65 rfl ?_
  refine pf8_183 F kdc_0 dX8_begins_66 ?_
  refine z_let h (fun σ15 h => ?_)
  refine z_iconst (v := 0) F dX8_begins_69 rfl ?_
  refine z_istore_n (lv' := [(1, .int 0), (0, .ref (a 0))]) F dX8_begins_70 rfl (by decide) rfl ?_
  refine z_sub (lv' := [(0, .ref (a 0)), (1, .int 0)]) [1, 0] rfl ?_
  refine zM8_begins_L71 F ?_ _ _ _ h
  intro σ24 h
  exact z_vret F h dX8_begins_106
theorem ct8_begins {r : Unit} {σ : St} (h : M8_begins σ = some (r, σ')) : Met l yX8_begins (wsY yX8_begins cX8_begins 2 none) (rmL 0) (PcW g a [.ref (a 0)] σ) (QvW g a r σ') 0 0 (Ad a) :=
  ct_V (by decide) (Nat.le_of_ble_eq_true rfl) (fun p e s m args below meth c F => zM8_begins F h)
theorem cl8_212 {r : Unit} (F : Fx p s m args meth c cc nL RX8 rt R cz sz g a) (h : M8_begins σ = some (r, σ1)) (hR : 0 + 1 ≤ R.frames ∧ 8 + (2 + 11) + 34 * 0 ≤ R.locals) (d : decode cc pc = .ok (.invokevirtual 212, 3)) (hrm : (rest.map fun v => v.category).sum ≤ 8) (z : Z p l e R s m args below meth c Q nL g a cz sz σ1 (pc + 3) lv (rest)) : Z p l e R s m args below meth c Q nL g a cz sz σ pc lv (.ref (a 0) :: rest) :=
  z_callVV (nA := 0) (As := []) F (ct8_begins h) ⟨(tbm 1060 (by decide +kernel) rfl), (tbm 1062 (by decide +kernel) rfl), (tbs 72 (by decide +kernel) rfl), (tbm 9 (by decide +kernel) rfl), (tbm 1063 (by decide +kernel) rfl)⟩ (by decide +kernel) rfl kdc_0 (by decide) rfl rfl rfl hR d rfl hrm z
theorem zM8_isIn {r : Int32} {x0 : Int32} {x1 : Int32} {σ : St} (F : Fx p s m args meth c cX8_isIn 2 RX8 (some .boolean) (rmL 0) 0 0 g a) (h : M8_isIn x0 x1 σ = some (r, σ')) : Z p l e (rmL 0) s m args below meth c (MQ below (QiW g a r σ') args s 0 0 (Ad a)) 2 g a 0 0 σ 0 [(0, .int x0), (1, .int x1)] [] := by
  unfold M8_isIn at h
  refine z_iload_n (q := 0) F dX8_isIn_0 rfl rfl ?_
  refine z_iload_n (q := 1) F dX8_isIn_1 rfl rfl ?_
  refine z_ishr F dX8_isIn_2 ?_
  refine z_iconst (v := 1) F dX8_isIn_3 rfl ?_
  refine z_iand F dX8_isIn_4 ?_
  refine z_iconst (v := 1) F dX8_isIn_5 rfl ?_
  refine z_icmp_ne (tgt := 13) F dX8_isIn_6 rfl (fun c1 => ?_) (fun c1 => ?_)
  · try simp only [if_neg c1] at h
    refine z_iconst (v := 0) F dX8_isIn_13 rfl ?_
    exact z_bret F (by first | exact Or.inl rfl | exact Or.inr rfl) h dX8_isIn_14
  · try simp only [if_pos c1] at h
    refine z_iconst (v := 1) F dX8_isIn_9 rfl ?_
    refine z_goto (tgt := 14) F dX8_isIn_10 rfl ?_
    exact z_bret F (by first | exact Or.inl rfl | exact Or.inr rfl) h dX8_isIn_14
theorem ct8_isIn {r : Int32} {x0 : Int32} {x1 : Int32} {σ : St} (h : M8_isIn x0 x1 σ = some (r, σ')) : Met l yX8_isIn (wsY yX8_isIn cX8_isIn 2 (some .boolean)) (rmL 0) (PcW g a [.int x0, .int x1] σ) (QiW g a r σ') 0 0 (Ad a) :=
  ct_I (by decide) (Nat.le_of_ble_eq_true rfl) (fun p e s m args below meth c F => zM8_isIn F h)
theorem cl8_192 {r : Int32} {x0 : Int32} {x1 : Int32} (F : Fx p s m args meth c cc nL RX8 rt R cz sz g a) (h : M8_isIn x0 x1 σ = some (r, σ1)) (hR : 0 + 1 ≤ R.frames ∧ 8 + (2 + 11) + 34 * 0 ≤ R.locals) (d : decode cc pc = .ok (.invokestatic 192, 3)) (hrm : (rest.map fun v => v.category).sum ≤ 8) (z : Z p l e R s m args below meth c Q nL g a cz sz σ1 (pc + 3) lv (.int r :: rest)) : Z p l e R s m args below meth c Q nL g a cz sz σ pc lv (.int x1 :: .int x0 :: rest) :=
  z_callSI (nA := 2) (As := [.int x0, .int x1]) F (ct8_isIn h) ⟨(tbm 1094 (by decide +kernel) rfl), (tbm 1095 (by decide +kernel) rfl), (tbm 9 (by decide +kernel) rfl), (tbm 1096 (by decide +kernel) rfl)⟩ (by decide +kernel) rfl hR d rfl hrm z
theorem zM8_comesBack_J54 {r : Unit} {x1 : Int32} {y0 : Int32} {y1 : Int32} {y2 : Nat} {σ : St} (F : Fx p s m args meth c cX8_comesBack 4 RX8 none (rmL 1) 0 0 g a) (ky2 : kd y2 = 9) (h : M8_comesBack_J54 x1 y0 y1 y2 σ = some (r, σ')) : Z p l e (rmL 1) s m args below meth c (MQ below (QvW g a r σ') args s 0 0 (Ad a)) 4 g a 0 0 σ 54 [(0, .ref (a 0)), (1, .int x1)] [.int y0, .int y1, .ref (a y2)] := by
  unfold M8_comesBack_J54 at h
  obtain ⟨g11, h⟩ := gd_of h
  refine z_iast F ky2 (inl rfl g11) dX8_comesBack_54 ?_
  refine z_let h (fun σ12 h => ?_)
  refine z_aload_n (q := 0) F dX8_comesBack_55 rfl rfl ?_
  refine z_dup F dX8_comesBack_56 rfl ?_
  refine gf8_183 F kdc_0 dX8_comesBack_57 ?_
  refine z_iconst (v := 1) F dX8_comesBack_60 rfl ?_
  refine z_iload_n (q := 1) F dX8_comesBack_61 rfl rfl ?_
  refine z_ishl F dX8_comesBack_62 ?_
  refine z_iconst (v := (-1)) F dX8_comesBack_63 rfl ?_
  refine z_ixor F dX8_comesBack_64 ?_
  refine z_iand F dX8_comesBack_65 ?_
  refine pf8_183 F kdc_0 dX8_comesBack_66 ?_
  refine z_let h (fun σ13 h => ?_)
  exact z_vret F h dX8_comesBack_69
theorem zM8_comesBack {r : Unit} {x1 : Int32} {x2 : Int32} {σ : St} (F : Fx p s m args meth c cX8_comesBack 4 RX8 none (rmL 1) 0 0 g a) (h : M8_comesBack x1 x2 σ = some (r, σ')) : Z p l e (rmL 1) s m args below meth c (MQ below (QvW g a r σ') args s 0 0 (Ad a)) 4 g a 0 0 σ 0 [(0, .ref (a 0)), (1, .int x1), (2, .int x2)] [] := by
  unfold M8_comesBack at h
  refine z_aload_n (q := 0) F dX8_comesBack_0 rfl rfl ?_
  refine gf8_49 F kdc_0 dX8_comesBack_1 ?_
  refine z_iload_n (q := 1) F dX8_comesBack_4 rfl rfl ?_
  obtain ⟨g1, h⟩ := gd_of h
  refine z_iald F kdc_14 (inl lnc_14 g1) dX8_comesBack_5 ?_
  refine z_letI h (fun v2 h => ?_)
  refine z_istore_n (lv' := [(3, .int v2), (0, .ref (a 0)), (1, .int x1), (2, .int x2)]) F dX8_comesBack_6 rfl (by decide) rfl ?_
  refine z_aload_n (q := 1) F dX8_comesBack_7 rfl rfl ?_
  refine gf8_49 F kdc_0 dX8_comesBack_8 ?_
  refine z_iload_n (q := 2) F dX8_comesBack_11 rfl rfl ?_
  refine z_iconst (v := (-1)) F dX8_comesBack_12 rfl ?_
  refine z_iast F kdc_14 (inl lnc_14 g1) dX8_comesBack_13 ?_
  refine z_let h (fun σ4 h => ?_)
  refine z_aload_n (q := 1) F dX8_comesBack_14 rfl rfl ?_
  refine gf8_67 F kdc_0 dX8_comesBack_15 ?_
  refine z_iload_n (q := 0) F dX8_comesBack_18 rfl rfl ?_
  refine z_aload_n (q := 1) F dX8_comesBack_19 rfl rfl ?_
  refine gf8_43 F kdc_0 dX8_comesBack_20 ?_
  refine z_iload_n (q := 2) F dX8_comesBack_23 rfl rfl ?_
  refine z_iald F kdc_12 (inl lnc_12 g1) dX8_comesBack_24 ?_
  refine z_aload_n (q := 1) F dX8_comesBack_25 rfl rfl ?_
  refine gf8_46 F kdc_0 dX8_comesBack_26 ?_
  refine z_iload_n (q := 2) F dX8_comesBack_29 rfl rfl ?_
  refine z_iald F kdc_13 (inl lnc_13 g1) dX8_comesBack_30 ?_
  refine z_imul F dX8_comesBack_31 ?_
  obtain ⟨g7, h⟩ := gd_of h
  refine z_iast F kdc_20 (inl lnc_20 g7) dX8_comesBack_32 ?_
  refine z_let h (fun σ8 h => ?_)
  refine z_aload_n (q := 1) F dX8_comesBack_33 rfl rfl ?_
  refine gf8_61 F kdc_0 dX8_comesBack_34 ?_
  refine z_iload_n (q := 0) F dX8_comesBack_37 rfl rfl ?_
  refine z_aload_n (q := 1) F dX8_comesBack_38 rfl rfl ?_
  refine gf8_183 F kdc_0 dX8_comesBack_39 ?_
  refine z_iload_n (q := 2) F dX8_comesBack_42 rfl rfl ?_
  obtain ⟨r9, σ9, hq9, h⟩ := bd_of h
  refine cl8_192 F hq9 ⟨Nat.le_of_ble_eq_true rfl, Nat.le_of_ble_eq_true rfl⟩ dX8_comesBack_43 (Nat.le_of_ble_eq_true rfl) ?_
  refine z_if_eq (tgt := 53) F dX8_comesBack_46 rfl (fun c10 => ?_) (fun c10 => ?_)
  · try simp only [if_pos c10] at h
    refine z_iconst (v := (-1)) F dX8_comesBack_53 rfl ?_
    refine z_sub (lv' := [(0, .ref (a 0)), (1, .int x1)]) [1, 2] rfl ?_
    exact zM8_comesBack_J54 F kdc_18 h
  · try simp only [if_neg c10] at h
    refine z_iload_n (q := 3) F dX8_comesBack_49 rfl rfl ?_
    refine z_goto (tgt := 54) F dX8_comesBack_50 rfl ?_
    refine z_sub (lv' := [(0, .ref (a 0)), (1, .int x1)]) [1, 2] rfl ?_
    exact zM8_comesBack_J54 F kdc_18 h
theorem ct8_comesBack {r : Unit} {x1 : Int32} {x2 : Int32} {σ : St} (h : M8_comesBack x1 x2 σ = some (r, σ')) : Met l yX8_comesBack (wsY yX8_comesBack cX8_comesBack 4 none) (rmL 1) (PcW g a [.ref (a 0), .int x1, .int x2] σ) (QvW g a r σ') 0 0 (Ad a) :=
  ct_V (by decide) (Nat.le_of_ble_eq_true rfl) (fun p e s m args below meth c F => zM8_comesBack F h)
theorem cl8_209 {r : Unit} {x1 : Int32} {x2 : Int32} (F : Fx p s m args meth c cc nL RX8 rt R cz sz g a) (h : M8_comesBack x1 x2 σ = some (r, σ1)) (hR : 1 + 1 ≤ R.frames ∧ 8 + (4 + 11) + 34 * 1 ≤ R.locals) (d : decode cc pc = .ok (.invokevirtual 209, 3)) (hrm : (rest.map fun v => v.category).sum ≤ 8) (z : Z p l e R s m args below meth c Q nL g a cz sz σ1 (pc + 3) lv (rest)) : Z p l e R s m args below meth c Q nL g a cz sz σ pc lv (.int x2 :: .int x1 :: .ref (a 0) :: rest) :=
  z_callVV (nA := 2) (As := [.int x1, .int x2]) F (ct8_comesBack h) ⟨(tbm 1090 (by decide +kernel) rfl), (tbm 1092 (by decide +kernel) rfl), (tbs 78 (by decide +kernel) rfl), (tbm 9 (by decide +kernel) rfl), (tbm 1093 (by decide +kernel) rfl)⟩ (by decide +kernel) rfl kdc_0 (by decide) rfl rfl rfl hR d rfl hrm z
theorem zM8_isHole {r : Int32} {x1 : Int32} {σ : St} (F : Fx p s m args meth c cX8_isHole 2 RX8 (some .boolean) (rmL 1) 0 0 g a) (h : M8_isHole x1 σ = some (r, σ')) : Z p l e (rmL 1) s m args below meth c (MQ below (QiW g a r σ') args s 0 0 (Ad a)) 2 g a 0 0 σ 0 [(0, .ref (a 0)), (1, .int x1)] [] := by
  unfold M8_isHole at h
  refine z_iload_n (q := 1) F dX8_isHole_0 rfl rfl ?_
  refine z_i2l F dX8_isHole_1 ?_
  refine z_lconst (v := 0) F dX8_isHole_2 rfl ?_
  refine z_aload_n (q := 0) F dX8_isHole_3 rfl rfl ?_
  refine gf8_28 F kdc_0 dX8_isHole_4 ?_
  refine z_iconst (v := 0) F dX8_isHole_7 rfl ?_
  refine z_ialdC (j := 0) F kdc_7 (inl lnc_7 (by decide)) (by decide) dX8_isHole_8 ?_
  refine z_iconst (v := 1) F dX8_isHole_9 rfl ?_
  refine z_isub F dX8_isHole_10 ?_
  refine z_i2l F dX8_isHole_11 ?_
  obtain ⟨r2, σ2, hq2, h⟩ := bd_of h
  refine cl8_94 F hq2 ⟨Nat.le_of_ble_eq_true rfl, Nat.le_of_ble_eq_true rfl⟩ dX8_isHole_12 (Nat.le_of_ble_eq_true rfl) ?_
  obtain ⟨g3, h⟩ := gd_of h
  exact z_bret F g3 h dX8_isHole_15
theorem ct8_isHole {r : Int32} {x1 : Int32} {σ : St} (h : M8_isHole x1 σ = some (r, σ')) : Met l yX8_isHole (wsY yX8_isHole cX8_isHole 2 (some .boolean)) (rmL 1) (PcW g a [.ref (a 0), .int x1] σ) (QiW g a r σ') 0 0 (Ad a) :=
  ct_I (by decide) (Nat.le_of_ble_eq_true rfl) (fun p e s m args below meth c F => zM8_isHole F h)
theorem cl8_145 {r : Int32} {x1 : Int32} (F : Fx p s m args meth c cc nL RX8 rt R cz sz g a) (h : M8_isHole x1 σ = some (r, σ1)) (hR : 1 + 1 ≤ R.frames ∧ 8 + (2 + 11) + 34 * 1 ≤ R.locals) (d : decode cc pc = .ok (.invokevirtual 145, 3)) (hrm : (rest.map fun v => v.category).sum ≤ 8) (z : Z p l e R s m args below meth c Q nL g a cz sz σ1 (pc + 3) lv (.int r :: rest)) : Z p l e R s m args below meth c Q nL g a cz sz σ pc lv (.int x1 :: .ref (a 0) :: rest) :=
  z_callVI (nA := 1) (As := [.int x1]) F (ct8_isHole h) ⟨(tbm 992 (by decide +kernel) rfl), (tbm 994 (by decide +kernel) rfl), (tbs 66 (by decide +kernel) rfl), (tbm 9 (by decide +kernel) rfl), (tbm 995 (by decide +kernel) rfl)⟩ (by decide +kernel) rfl kdc_0 (by decide) rfl rfl rfl hR d rfl hrm z
theorem zM8_fillsOn_J63 {r : Unit} {x1 : Int32} {x2 : Int32} {y0 : Int32} {y1 : Int32} {σ : St} (F : Fx p s m args meth c cX8_fillsOn 4 RX8 none (rmL 2) 0 0 g a) {kb : Int32 → St → Option (Unit × St)} (hb : ∀ (w2 : Int32) (σ : St), kb w2 σ = some (r, σ') → Z p l e (rmL 2) s m args below meth c (MQ below (QvW g a r σ') args s 0 0 (Ad a)) 4 g a 0 0 σ 2 [(0, .ref (a 0)), (1, .int x1), (2, .int w2)] []) (h : M8_fillsOn_J63 kb x1 x2 y0 y1 σ = some (r, σ')) : Z p l e (rmL 2) s m args below meth c (MQ below (QvW g a r σ') args s 0 0 (Ad a)) 4 g a 0 0 σ 63 [(0, .ref (a 0)), (1, .int x1), (2, .int x2)] [.int y0, .int y1, .ref (a 0)] := by
  unfold M8_fillsOn_J63 at h
  refine z_ior F dX8_fillsOn_63 ?_
  refine pf8_183 F kdc_0 dX8_fillsOn_64 ?_
  refine z_let h (fun σ6 h => ?_)
  refine z_iinc (q := 2) (v := x2 + 1) (lv' := [(2, .int (x2 + 1)), (0, .ref (a 0)), (1, .int x1)]) F dX8_fillsOn_67 rfl rfl (by decide) rfl ?_
  refine z_letL (s0 := 2) (lv := [(0, .ref (a 0)), (1, .int x1)]) h (fun v7 h => ?_)
  refine z_goto (tgt := 2) F dX8_fillsOn_70 rfl ?_
  refine z_sub (lv' := [(0, .ref (a 0)), (1, .int x1), (2, .int v7)]) [1, 2, 0] rfl ?_
  exact hb _ _ h
theorem zM8_fillsOn_J62 {r : Unit} {x1 : Int32} {x2 : Int32} {y0 : Int32} {σ : St} (F : Fx p s m args meth c cX8_fillsOn 4 RX8 none (rmL 2) 0 0 g a) {kb : Int32 → St → Option (Unit × St)} (hb : ∀ (w2 : Int32) (σ : St), kb w2 σ = some (r, σ') → Z p l e (rmL 2) s m args below meth c (MQ below (QvW g a r σ') args s 0 0 (Ad a)) 4 g a 0 0 σ 2 [(0, .ref (a 0)), (1, .int x1), (2, .int w2)] []) (h : M8_fillsOn_J62 kb x1 x2 y0 σ = some (r, σ')) : Z p l e (rmL 2) s m args below meth c (MQ below (QvW g a r σ') args s 0 0 (Ad a)) 4 g a 0 0 σ 62 [(0, .ref (a 0)), (1, .int x1), (2, .int x2)] [.int y0, .ref (a 0)] := by
  unfold M8_fillsOn_J62 at h
  refine z_iconst (v := 0) F dX8_fillsOn_62 rfl ?_
  refine z_sub (lv' := [(0, .ref (a 0)), (1, .int x1), (2, .int x2)]) [0, 1, 2] rfl ?_
  exact zM8_fillsOn_J63 F hb h
theorem zM8_fillsOn_L2 {r : Unit} {x1 : Int32} (F : Fx p s m args meth c cX8_fillsOn 4 RX8 none (rmL 2) 0 0 g a) {kx : St → Option (Unit × St)} (hx : ∀ (σ : St), kx σ = some (r, σ') → Z p l e (rmL 2) s m args below meth c (MQ below (QvW g a r σ') args s 0 0 (Ad a)) 4 g a 0 0 σ 73 [] []) : ∀ (n : Nat) (x2 : Int32) (σ : St), M8_fillsOn_L2 x1 kx n x2 σ = some (r, σ') → Z p l e (rmL 2) s m args below meth c (MQ below (QvW g a r σ') args s 0 0 (Ad a)) 4 g a 0 0 σ 2 [(0, .ref (a 0)), (1, .int x1), (2, .int x2)] [] := by
  intro n
  induction n with
  | zero => intro x2 σ h; rw [M8_fillsOn_L2] at h; cases h
  | succ n ih =>
    intro x2 σ h
    rw [M8_fillsOn_L2] at h
    refine z_iload_n (q := 2) F dX8_fillsOn_2 rfl rfl ?_
    refine z_aload_n (q := 0) F dX8_fillsOn_3 rfl rfl ?_
    refine gf8_168 F kdc_0 dX8_fillsOn_4 ?_
    refine z_icmp_ge (tgt := 73) F dX8_fillsOn_7 rfl (fun c1 => ?_) (fun c1 => ?_)
    · have h := ite_T c1 h
      refine z_sub (lv' := []) [] rfl ?_
      exact hx _ h
    · have h := ite_F c1 h
      refine z_aload_n (q := 0) F dX8_fillsOn_10 rfl rfl ?_
      refine gf8_37 F kdc_0 dX8_fillsOn_11 ?_
      refine z_iconst (v := 2) F dX8_fillsOn_14 rfl ?_
      refine z_iload_n (q := 2) F dX8_fillsOn_15 rfl rfl ?_
      refine z_imul F dX8_fillsOn_16 ?_
      refine z_iconst (v := 1) F dX8_fillsOn_17 rfl ?_
      refine z_iadd F dX8_fillsOn_18 ?_
      obtain ⟨g2, h⟩ := gd_of h
      refine z_iald F kdc_10 (inl lnc_10 g2) dX8_fillsOn_19 ?_
      refine z_letI h (fun v3 h => ?_)
      refine z_istore_n (lv' := [(3, .int v3), (0, .ref (a 0)), (1, .int x1), (2, .int x2)]) F dX8_fillsOn_20 rfl (by decide) rfl ?_
      refine z_aload_n (q := 1) F dX8_fillsOn_21 rfl rfl ?_
      refine z_dup F dX8_fillsOn_22 rfl ?_
      refine gf8_183 F kdc_0 dX8_fillsOn_23 ?_
      refine z_aload_n (q := 1) F dX8_fillsOn_26 rfl rfl ?_
      refine gf8_37 F kdc_0 dX8_fillsOn_27 ?_
      refine z_iconst (v := 2) F dX8_fillsOn_30 rfl ?_
      refine z_iload_n (q := 3) F dX8_fillsOn_31 rfl rfl ?_
      refine z_imul F dX8_fillsOn_32 ?_
      obtain ⟨g4, h⟩ := gd_of h
      refine z_iald F kdc_10 (inl lnc_10 g4) dX8_fillsOn_33 ?_
      refine z_iload_n (q := 2) F dX8_fillsOn_34 rfl rfl ?_
      refine z_icmp_ne (tgt := 62) F dX8_fillsOn_35 rfl (fun c5 => ?_) (fun c5 => ?_)
      · have h := ite_F c5 h
        refine z_sub (lv' := [(0, .ref (a 0)), (1, .int x1), (2, .int x2)]) [1, 2, 3] rfl ?_
        exact zM8_fillsOn_J62 F ih h
      · have h := ite_T c5 h
        refine z_aload_n (q := 1) F dX8_fillsOn_38 rfl rfl ?_
        refine z_iload_n (q := 0) F dX8_fillsOn_39 rfl rfl ?_
        obtain ⟨r8, σ8, hq8, h⟩ := bd_of h
        refine cl8_145 F hq8 ⟨Nat.le_of_ble_eq_true rfl, Nat.le_of_ble_eq_true rfl⟩ dX8_fillsOn_40 (Nat.le_of_ble_eq_true rfl) ?_
        refine z_if_eq (tgt := 62) F dX8_fillsOn_43 rfl (fun c9 => ?_) (fun c9 => ?_)
        · have h := ite_T c9 h
          refine z_sub (lv' := [(0, .ref (a 0)), (1, .int x1), (2, .int x2)]) [1, 2, 3] rfl ?_
          exact zM8_fillsOn_J62 F ih h
        · have h := ite_F c9 h
          refine z_aload_n (q := 1) F dX8_fillsOn_46 rfl rfl ?_
          refine gf8_49 F kdc_0 dX8_fillsOn_47 ?_
          refine z_iload_n (q := 0) F dX8_fillsOn_50 rfl rfl ?_
          obtain ⟨g10, h⟩ := gd_of h
          refine z_iald F kdc_14 (inl lnc_14 g10) dX8_fillsOn_51 ?_
          refine z_iconst (v := (-1)) F dX8_fillsOn_52 rfl ?_
          refine z_icmp_eq (tgt := 62) F dX8_fillsOn_53 rfl (fun c11 => ?_) (fun c11 => ?_)
          · have h := ite_T c11 h
            refine z_sub (lv' := [(0, .ref (a 0)), (1, .int x1), (2, .int x2)]) [1, 2, 3] rfl ?_
            exact zM8_fillsOn_J62 F ih h
          · have h := ite_F c11 h
            refine z_iconst (v := 1) F dX8_fillsOn_56 rfl ?_
            refine z_iload_n (q := 0) F dX8_fillsOn_57 rfl rfl ?_
            refine z_ishl F dX8_fillsOn_58 ?_
            refine z_goto (tgt := 63) F dX8_fillsOn_59 rfl ?_
            refine z_sub (lv' := [(0, .ref (a 0)), (1, .int x1), (2, .int x2)]) [1, 2, 3] rfl ?_
            exact zM8_fillsOn_J63 F ih h
theorem zM8_fillsOn {r : Unit} {x1 : Int32} {σ : St} (F : Fx p s m args meth c cX8_fillsOn 4 RX8 none (rmL 2) 0 0 g a) (h : M8_fillsOn x1 σ = some (r, σ')) : Z p l e (rmL 2) s m args below meth c (MQ below (QvW g a r σ') args s 0 0 (Ad a)) 4 g a 0 0 σ 0 [(0, .ref (a 0)), (1, .int x1)] [] := by
  unfold M8_fillsOn at h
  refine z_iconst (v := 0) F dX8_fillsOn_0 rfl ?_
  refine z_istore_n (lv' := [(2, .int 0), (0, .ref (a 0)), (1, .int x1)]) F dX8_fillsOn_1 rfl (by decide) rfl ?_
  refine z_sub (lv' := [(0, .ref (a 0)), (1, .int x1), (2, .int 0)]) [1, 2, 0] rfl ?_
  refine zM8_fillsOn_L2 F ?_ _ _ _ h
  intro σ12 h
  exact z_vret F h dX8_fillsOn_73
theorem ct8_fillsOn {r : Unit} {x1 : Int32} {σ : St} (h : M8_fillsOn x1 σ = some (r, σ')) : Met l yX8_fillsOn (wsY yX8_fillsOn cX8_fillsOn 4 none) (rmL 2) (PcW g a [.ref (a 0), .int x1] σ) (QvW g a r σ') 0 0 (Ad a) :=
  ct_V (by decide) (Nat.le_of_ble_eq_true rfl) (fun p e s m args below meth c F => zM8_fillsOn F h)
theorem cl8_200 {r : Unit} {x1 : Int32} (F : Fx p s m args meth c cc nL RX8 rt R cz sz g a) (h : M8_fillsOn x1 σ = some (r, σ1)) (hR : 2 + 1 ≤ R.frames ∧ 8 + (4 + 11) + 34 * 2 ≤ R.locals) (d : decode cc pc = .ok (.invokevirtual 200, 3)) (hrm : (rest.map fun v => v.category).sum ≤ 8) (z : Z p l e R s m args below meth c Q nL g a cz sz σ1 (pc + 3) lv (rest)) : Z p l e R s m args below meth c Q nL g a cz sz σ pc lv (.int x1 :: .ref (a 0) :: rest) :=
  z_callVV (nA := 1) (As := [.int x1]) F (ct8_fillsOn h) ⟨(tbm 1072 (by decide +kernel) rfl), (tbm 1074 (by decide +kernel) rfl), (tbs 75 (by decide +kernel) rfl), (tbm 9 (by decide +kernel) rfl), (tbm 1075 (by decide +kernel) rfl)⟩ (by decide +kernel) rfl kdc_0 (by decide) rfl rfl rfl hR d rfl hrm z
theorem zM8_greater {r : Int32} {x0 : Int32} {x1 : Int32} {σ : St} (F : Fx p s m args meth c cX8_greater 2 RX8 (some .int) (rmL 0) 0 0 g a) (h : M8_greater x0 x1 σ = some (r, σ')) : Z p l e (rmL 0) s m args below meth c (MQ below (QiW g a r σ') args s 0 0 (Ad a)) 2 g a 0 0 σ 0 [(0, .int x0), (1, .int x1)] [] := by
  unfold M8_greater at h
  refine z_iload_n (q := 0) F dX8_greater_0 rfl rfl ?_
  refine z_iload_n (q := 1) F dX8_greater_1 rfl rfl ?_
  refine z_icmp_le (tgt := 9) F dX8_greater_2 rfl (fun c1 => ?_) (fun c1 => ?_)
  · try simp only [if_pos c1] at h
    refine z_iload_n (q := 1) F dX8_greater_9 rfl rfl ?_
    exact z_iret F h dX8_greater_10
  · try simp only [if_neg c1] at h
    refine z_iload_n (q := 0) F dX8_greater_5 rfl rfl ?_
    refine z_goto (tgt := 10) F dX8_greater_6 rfl ?_
    exact z_iret F h dX8_greater_10
theorem ct8_greater {r : Int32} {x0 : Int32} {x1 : Int32} {σ : St} (h : M8_greater x0 x1 σ = some (r, σ')) : Met l yX8_greater (wsY yX8_greater cX8_greater 2 (some .int)) (rmL 0) (PcW g a [.int x0, .int x1] σ) (QiW g a r σ') 0 0 (Ad a) :=
  ct_I (by decide) (Nat.le_of_ble_eq_true rfl) (fun p e s m args below meth c F => zM8_greater F h)
theorem cl8_186 {r : Int32} {x0 : Int32} {x1 : Int32} (F : Fx p s m args meth c cc nL RX8 rt R cz sz g a) (h : M8_greater x0 x1 σ = some (r, σ1)) (hR : 0 + 1 ≤ R.frames ∧ 8 + (2 + 11) + 34 * 0 ≤ R.locals) (d : decode cc pc = .ok (.invokestatic 186, 3)) (hrm : (rest.map fun v => v.category).sum ≤ 8) (z : Z p l e R s m args below meth c Q nL g a cz sz σ1 (pc + 3) lv (.int r :: rest)) : Z p l e R s m args below meth c Q nL g a cz sz σ pc lv (.int x1 :: .int x0 :: rest) :=
  z_callSI (nA := 2) (As := [.int x0, .int x1]) F (ct8_greater h) ⟨(tbm 1080 (by decide +kernel) rfl), (tbm 1081 (by decide +kernel) rfl), (tbm 9 (by decide +kernel) rfl), (tbm 1082 (by decide +kernel) rfl)⟩ (by decide +kernel) rfl hR d rfl hrm z
theorem zM8_lesser {r : Int32} {x0 : Int32} {x1 : Int32} {σ : St} (F : Fx p s m args meth c cX8_lesser 2 RX8 (some .int) (rmL 0) 0 0 g a) (h : M8_lesser x0 x1 σ = some (r, σ')) : Z p l e (rmL 0) s m args below meth c (MQ below (QiW g a r σ') args s 0 0 (Ad a)) 2 g a 0 0 σ 0 [(0, .int x0), (1, .int x1)] [] := by
  unfold M8_lesser at h
  refine z_iload_n (q := 0) F dX8_lesser_0 rfl rfl ?_
  refine z_iload_n (q := 1) F dX8_lesser_1 rfl rfl ?_
  refine z_icmp_ge (tgt := 9) F dX8_lesser_2 rfl (fun c1 => ?_) (fun c1 => ?_)
  · try simp only [if_pos c1] at h
    refine z_iload_n (q := 1) F dX8_lesser_9 rfl rfl ?_
    exact z_iret F h dX8_lesser_10
  · try simp only [if_neg c1] at h
    refine z_iload_n (q := 0) F dX8_lesser_5 rfl rfl ?_
    refine z_goto (tgt := 10) F dX8_lesser_6 rfl ?_
    exact z_iret F h dX8_lesser_10
theorem ct8_lesser {r : Int32} {x0 : Int32} {x1 : Int32} {σ : St} (h : M8_lesser x0 x1 σ = some (r, σ')) : Met l yX8_lesser (wsY yX8_lesser cX8_lesser 2 (some .int)) (rmL 0) (PcW g a [.int x0, .int x1] σ) (QiW g a r σ') 0 0 (Ad a) :=
  ct_I (by decide) (Nat.le_of_ble_eq_true rfl) (fun p e s m args below meth c F => zM8_lesser F h)
theorem cl8_189 {r : Int32} {x0 : Int32} {x1 : Int32} (F : Fx p s m args meth c cc nL RX8 rt R cz sz g a) (h : M8_lesser x0 x1 σ = some (r, σ1)) (hR : 0 + 1 ≤ R.frames ∧ 8 + (2 + 11) + 34 * 0 ≤ R.locals) (d : decode cc pc = .ok (.invokestatic 189, 3)) (hrm : (rest.map fun v => v.category).sum ≤ 8) (z : Z p l e R s m args below meth c Q nL g a cz sz σ1 (pc + 3) lv (.int r :: rest)) : Z p l e R s m args below meth c Q nL g a cz sz σ pc lv (.int x1 :: .int x0 :: rest) :=
  z_callSI (nA := 2) (As := [.int x0, .int x1]) F (ct8_lesser h) ⟨(tbm 1087 (by decide +kernel) rfl), (tbm 1088 (by decide +kernel) rfl), (tbm 9 (by decide +kernel) rfl), (tbm 1089 (by decide +kernel) rfl)⟩ (by decide +kernel) rfl hR d rfl hrm z
theorem zM8_grows_J41 {r : Unit} {x1 : Int32} {x2 : Int32} {y0 : Int32} {y1 : Int32} {y2 : Nat} {σ : St} (F : Fx p s m args meth c cX8_grows 3 RX8 none (rmL 1) 0 0 g a) (ky2 : kd y2 = 9) (h : M8_grows_J41 x1 x2 y0 y1 y2 σ = some (r, σ')) : Z p l e (rmL 1) s m args below meth c (MQ below (QvW g a r σ') args s 0 0 (Ad a)) 3 g a 0 0 σ 41 [(0, .ref (a 0)), (1, .int x1), (2, .int x2)] [.int y0, .int y1, .ref (a y2)] := by
  unfold M8_grows_J41 at h
  obtain ⟨g6, h⟩ := gd_of h
  refine z_iast F ky2 (inl rfl g6) dX8_grows_41 ?_
  refine z_let h (fun σ7 h => ?_)
  refine z_aload_n (q := 0) F dX8_grows_42 rfl rfl ?_
  refine gf8_46 F kdc_0 dX8_grows_43 ?_
  refine z_iload_n (q := 1) F dX8_grows_46 rfl rfl ?_
  refine z_iload_n (q := 2) F dX8_grows_47 rfl rfl ?_
  refine z_iconst (v := 2) F dX8_grows_48 rfl ?_
  refine z_icmp_ne (tgt := 68) F dX8_grows_49 rfl (fun c8 => ?_) (fun c8 => ?_)
  · have h := ite_F c8 h
    refine z_iload_n (q := 2) F dX8_grows_68 rfl rfl ?_
    refine z_iconst (v := 1) F dX8_grows_69 rfl ?_
    refine z_icmp_ne (tgt := 88) F dX8_grows_70 rfl (fun c9 => ?_) (fun c9 => ?_)
    · have h := ite_F c9 h
      refine z_aload_n (q := 0) F dX8_grows_88 rfl rfl ?_
      refine gf8_46 F kdc_0 dX8_grows_89 ?_
      refine z_iload_n (q := 1) F dX8_grows_92 rfl rfl ?_
      obtain ⟨g10, h⟩ := gd_of h
      refine z_iald F kdc_13 (inl lnc_13 g10) dX8_grows_93 ?_
      refine z_iast F kdc_13 (inl lnc_13 g10) dX8_grows_94 ?_
      refine z_let h (fun σ12 h => ?_)
      exact z_vret F h dX8_grows_95
    · have h := ite_T c9 h
      refine z_aload_n (q := 0) F dX8_grows_73 rfl rfl ?_
      refine gf8_46 F kdc_0 dX8_grows_74 ?_
      refine z_iload_n (q := 1) F dX8_grows_77 rfl rfl ?_
      obtain ⟨g13, h⟩ := gd_of h
      refine z_iald F kdc_13 (inl lnc_13 g13) dX8_grows_78 ?_
      refine z_iconst (v := 1) F dX8_grows_79 rfl ?_
      refine z_isub F dX8_grows_80 ?_
      refine z_iconst (v := 1) F dX8_grows_81 rfl ?_
      obtain ⟨r14, σ14, hq14, h⟩ := bd_of h
      refine cl8_186 F hq14 ⟨Nat.le_of_ble_eq_true rfl, Nat.le_of_ble_eq_true rfl⟩ dX8_grows_82 (Nat.le_of_ble_eq_true rfl) ?_
      refine z_goto (tgt := 94) F dX8_grows_85 rfl ?_
      refine z_iast F kdc_13 (inl lnc_13 g13) dX8_grows_94 ?_
      refine z_let h (fun σ16 h => ?_)
      exact z_vret F h dX8_grows_95
  · have h := ite_T c8 h
    refine z_aload_n (q := 0) F dX8_grows_52 rfl rfl ?_
    refine gf8_46 F kdc_0 dX8_grows_53 ?_
    refine z_iload_n (q := 1) F dX8_grows_56 rfl rfl ?_
    obtain ⟨g17, h⟩ := gd_of h
    refine z_iald F kdc_13 (inl lnc_13 g17) dX8_grows_57 ?_
    refine z_iconst (v := 1) F dX8_grows_58 rfl ?_
    refine z_iadd F dX8_grows_59 ?_
    refine z_bipush (v := 9) F dX8_grows_60 rfl ?_
    obtain ⟨r18, σ18, hq18, h⟩ := bd_of h
    refine cl8_189 F hq18 ⟨Nat.le_of_ble_eq_true rfl, Nat.le_of_ble_eq_true rfl⟩ dX8_grows_62 (Nat.le_of_ble_eq_true rfl) ?_
    refine z_goto (tgt := 94) F dX8_grows_65 rfl ?_
    refine z_iast F kdc_13 (inl lnc_13 g17) dX8_grows_94 ?_
    refine z_let h (fun σ20 h => ?_)
    exact z_vret F h dX8_grows_95
theorem zM8_grows {r : Unit} {x1 : Int32} {σ : St} (F : Fx p s m args meth c cX8_grows 3 RX8 none (rmL 1) 0 0 g a) (h : M8_grows x1 σ = some (r, σ')) : Z p l e (rmL 1) s m args below meth c (MQ below (QvW g a r σ') args s 0 0 (Ad a)) 3 g a 0 0 σ 0 [(0, .ref (a 0)), (1, .int x1)] [] := by
  unfold M8_grows at h
  refine z_aload_n (q := 0) F dX8_grows_0 rfl rfl ?_
  refine gf8_31 F kdc_0 dX8_grows_1 ?_
  refine z_iconst (v := 4) F dX8_grows_4 rfl ?_
  refine z_iload_n (q := 1) F dX8_grows_5 rfl rfl ?_
  refine z_imul F dX8_grows_6 ?_
  obtain ⟨g1, h⟩ := gd_of h
  refine z_iald F kdc_8 (inl lnc_8 g1) dX8_grows_7 ?_
  refine z_letI h (fun v2 h => ?_)
  refine z_istore_n (lv' := [(2, .int v2), (0, .ref (a 0)), (1, .int x1)]) F dX8_grows_8 rfl (by decide) rfl ?_
  refine z_aload_n (q := 1) F dX8_grows_9 rfl rfl ?_
  refine gf8_43 F kdc_0 dX8_grows_10 ?_
  refine z_iload_n (q := 2) F dX8_grows_13 rfl rfl ?_
  refine z_iload_n (q := 0) F dX8_grows_14 rfl rfl ?_
  refine z_iconst (v := 2) F dX8_grows_15 rfl ?_
  refine z_icmp_ne (tgt := 28) F dX8_grows_16 rfl (fun c3 => ?_) (fun c3 => ?_)
  · have h := ite_F c3 h
    refine z_aload_n (q := 1) F dX8_grows_28 rfl rfl ?_
    refine gf8_43 F kdc_0 dX8_grows_29 ?_
    refine z_iload_n (q := 2) F dX8_grows_32 rfl rfl ?_
    obtain ⟨g4, h⟩ := gd_of h
    refine z_iald F kdc_12 (inl lnc_12 g4) dX8_grows_33 ?_
    refine z_iconst (v := 1) F dX8_grows_34 rfl ?_
    refine z_iadd F dX8_grows_35 ?_
    refine z_bipush (v := 9) F dX8_grows_36 rfl ?_
    obtain ⟨r5, σ5, hq5, h⟩ := bd_of h
    refine cl8_189 F hq5 ⟨Nat.le_of_ble_eq_true rfl, Nat.le_of_ble_eq_true rfl⟩ dX8_grows_38 (Nat.le_of_ble_eq_true rfl) ?_
    refine z_sub (lv' := [(0, .ref (a 0)), (1, .int x1), (2, .int v2)]) [1, 2, 0] rfl ?_
    exact zM8_grows_J41 F kdc_12 h
  · have h := ite_T c3 h
    refine z_aload_n (q := 1) F dX8_grows_19 rfl rfl ?_
    refine gf8_43 F kdc_0 dX8_grows_20 ?_
    refine z_iload_n (q := 2) F dX8_grows_23 rfl rfl ?_
    obtain ⟨g21, h⟩ := gd_of h
    refine z_iald F kdc_12 (inl lnc_12 g21) dX8_grows_24 ?_
    refine z_goto (tgt := 41) F dX8_grows_25 rfl ?_
    refine z_sub (lv' := [(0, .ref (a 0)), (1, .int x1), (2, .int v2)]) [1, 2, 0] rfl ?_
    exact zM8_grows_J41 F kdc_12 h
theorem ct8_grows {r : Unit} {x1 : Int32} {σ : St} (h : M8_grows x1 σ = some (r, σ')) : Met l yX8_grows (wsY yX8_grows cX8_grows 3 none) (rmL 1) (PcW g a [.ref (a 0), .int x1] σ) (QvW g a r σ') 0 0 (Ad a) :=
  ct_V (by decide) (Nat.le_of_ble_eq_true rfl) (fun p e s m args below meth c F => zM8_grows F h)
theorem cl8_206 {r : Unit} {x1 : Int32} (F : Fx p s m args meth c cc nL RX8 rt R cz sz g a) (h : M8_grows x1 σ = some (r, σ1)) (hR : 1 + 1 ≤ R.frames ∧ 8 + (3 + 11) + 34 * 1 ≤ R.locals) (d : decode cc pc = .ok (.invokevirtual 206, 3)) (hrm : (rest.map fun v => v.category).sum ≤ 8) (z : Z p l e R s m args below meth c Q nL g a cz sz σ1 (pc + 3) lv (rest)) : Z p l e R s m args below meth c Q nL g a cz sz σ pc lv (.int x1 :: .ref (a 0) :: rest) :=
  z_callVV (nA := 1) (As := [.int x1]) F (ct8_grows h) ⟨(tbm 1083 (by decide +kernel) rfl), (tbm 1085 (by decide +kernel) rfl), (tbs 77 (by decide +kernel) rfl), (tbm 9 (by decide +kernel) rfl), (tbm 1086 (by decide +kernel) rfl)⟩ (by decide +kernel) rfl kdc_0 (by decide) rfl rfl rfl hR d rfl hrm z
theorem zM8_lendsOn_J119 {r : Unit} {x1 : Int32} {x2 : Int32} {σ : St} (F : Fx p s m args meth c cX8_lendsOn 4 RX8 none (rmL 2) 0 0 g a) {kb : Int32 → St → Option (Unit × St)} (hb : ∀ (w2 : Int32) (σ : St), kb w2 σ = some (r, σ') → Z p l e (rmL 2) s m args below meth c (MQ below (QvW g a r σ') args s 0 0 (Ad a)) 4 g a 0 0 σ 2 [(0, .ref (a 0)), (1, .int x1), (2, .int w2)] []) (h : M8_lendsOn_J119 kb x1 x2 σ = some (r, σ')) : Z p l e (rmL 2) s m args below meth c (MQ below (QvW g a r σ') args s 0 0 (Ad a)) 4 g a 0 0 σ 119 [(0, .ref (a 0)), (1, .int x1), (2, .int x2)] [] := by
  unfold M8_lendsOn_J119 at h
  refine z_iinc (q := 2) (v := x2 + 1) (lv' := [(2, .int (x2 + 1)), (0, .ref (a 0)), (1, .int x1)]) F dX8_lendsOn_119 rfl rfl (by decide) rfl ?_
  refine z_letL (s0 := 2) (lv := [(0, .ref (a 0)), (1, .int x1)]) h (fun v5 h => ?_)
  refine z_goto (tgt := 2) F dX8_lendsOn_122 rfl ?_
  refine z_sub (lv' := [(0, .ref (a 0)), (1, .int x1), (2, .int v5)]) [1, 2, 0] rfl ?_
  exact hb _ _ h
theorem zM8_lendsOn_L2 {r : Unit} {x1 : Int32} (F : Fx p s m args meth c cX8_lendsOn 4 RX8 none (rmL 2) 0 0 g a) {kx : St → Option (Unit × St)} (hx : ∀ (σ : St), kx σ = some (r, σ') → Z p l e (rmL 2) s m args below meth c (MQ below (QvW g a r σ') args s 0 0 (Ad a)) 4 g a 0 0 σ 125 [] []) : ∀ (n : Nat) (x2 : Int32) (σ : St), M8_lendsOn_L2 x1 kx n x2 σ = some (r, σ') → Z p l e (rmL 2) s m args below meth c (MQ below (QvW g a r σ') args s 0 0 (Ad a)) 4 g a 0 0 σ 2 [(0, .ref (a 0)), (1, .int x1), (2, .int x2)] [] := by
  intro n
  induction n with
  | zero => intro x2 σ h; rw [M8_lendsOn_L2] at h; cases h
  | succ n ih =>
    intro x2 σ h
    rw [M8_lendsOn_L2] at h
    refine z_iload_n (q := 2) F dX8_lendsOn_2 rfl rfl ?_
    refine z_aload_n (q := 0) F dX8_lendsOn_3 rfl rfl ?_
    refine gf8_151 F kdc_0 dX8_lendsOn_4 ?_
    refine z_icmp_ge (tgt := 125) F dX8_lendsOn_7 rfl (fun c1 => ?_) (fun c1 => ?_)
    · have h := ite_T c1 h
      refine z_sub (lv' := []) [] rfl ?_
      exact hx _ h
    · have h := ite_F c1 h
      refine z_aload_n (q := 0) F dX8_lendsOn_10 rfl rfl ?_
      refine gf8_34 F kdc_0 dX8_lendsOn_11 ?_
      refine z_iconst (v := 4) F dX8_lendsOn_14 rfl ?_
      refine z_iload_n (q := 2) F dX8_lendsOn_15 rfl rfl ?_
      refine z_imul F dX8_lendsOn_16 ?_
      refine z_iconst (v := 1) F dX8_lendsOn_17 rfl ?_
      refine z_iadd F dX8_lendsOn_18 ?_
      obtain ⟨g2, h⟩ := gd_of h
      refine z_iald F kdc_9 (inl lnc_9 g2) dX8_lendsOn_19 ?_
      refine z_letI h (fun v3 h => ?_)
      refine z_istore_n (lv' := [(3, .int v3), (0, .ref (a 0)), (1, .int x1), (2, .int x2)]) F dX8_lendsOn_20 rfl (by decide) rfl ?_
      refine z_iload_n (q := 3) F dX8_lendsOn_21 rfl rfl ?_
      refine z_aload_n (q := 1) F dX8_lendsOn_22 rfl rfl ?_
      refine gf8_86 F kdc_0 dX8_lendsOn_23 ?_
      refine z_icmp_eq (tgt := 119) F dX8_lendsOn_26 rfl (fun c4 => ?_) (fun c4 => ?_)
      · have h := ite_T c4 h
        refine z_sub (lv' := [(0, .ref (a 0)), (1, .int x1), (2, .int x2)]) [1, 2, 3] rfl ?_
        exact zM8_lendsOn_J119 F ih h
      · have h := ite_F c4 h
        refine z_aload_n (q := 1) F dX8_lendsOn_29 rfl rfl ?_
        refine gf8_34 F kdc_0 dX8_lendsOn_30 ?_
        refine z_iconst (v := 4) F dX8_lendsOn_33 rfl ?_
        refine z_iload_n (q := 3) F dX8_lendsOn_34 rfl rfl ?_
        refine z_imul F dX8_lendsOn_35 ?_
        obtain ⟨g6, h⟩ := gd_of h
        refine z_iald F kdc_9 (inl lnc_9 g6) dX8_lendsOn_36 ?_
        refine z_iload_n (q := 2) F dX8_lendsOn_37 rfl rfl ?_
        refine z_icmp_ne (tgt := 119) F dX8_lendsOn_38 rfl (fun c7 => ?_) (fun c7 => ?_)
        · have h := ite_F c7 h
          refine z_sub (lv' := [(0, .ref (a 0)), (1, .int x1), (2, .int x2)]) [1, 2, 3] rfl ?_
          exact zM8_lendsOn_J119 F ih h
        · have h := ite_T c7 h
          refine z_aload_n (q := 1) F dX8_lendsOn_41 rfl rfl ?_
          refine z_iload_n (q := 0) F dX8_lendsOn_42 rfl rfl ?_
          obtain ⟨r8, σ8, hq8, h⟩ := bd_of h
          refine cl8_145 F hq8 ⟨Nat.le_of_ble_eq_true rfl, Nat.le_of_ble_eq_true rfl⟩ dX8_lendsOn_43 (Nat.le_of_ble_eq_true rfl) ?_
          refine z_if_eq (tgt := 119) F dX8_lendsOn_46 rfl (fun c9 => ?_) (fun c9 => ?_)
          · have h := ite_T c9 h
            refine z_sub (lv' := [(0, .ref (a 0)), (1, .int x1), (2, .int x2)]) [1, 2, 3] rfl ?_
            exact zM8_lendsOn_J119 F ih h
          · have h := ite_F c9 h
            refine z_aload_n (q := 1) F dX8_lendsOn_49 rfl rfl ?_
            refine gf8_49 F kdc_0 dX8_lendsOn_50 ?_
            refine z_iload_n (q := 0) F dX8_lendsOn_53 rfl rfl ?_
            obtain ⟨g10, h⟩ := gd_of h
            refine z_iald F kdc_14 (inl lnc_14 g10) dX8_lendsOn_54 ?_
            refine z_iconst (v := (-1)) F dX8_lendsOn_55 rfl ?_
            refine z_icmp_ne (tgt := 119) F dX8_lendsOn_56 rfl (fun c11 => ?_) (fun c11 => ?_)
            · have h := ite_F c11 h
              refine z_sub (lv' := [(0, .ref (a 0)), (1, .int x1), (2, .int x2)]) [1, 2, 3] rfl ?_
              exact zM8_lendsOn_J119 F ih h
            · have h := ite_T c11 h
              refine z_aload_n (q := 1) F dX8_lendsOn_59 rfl rfl ?_
              refine gf8_49 F kdc_0 dX8_lendsOn_60 ?_
              refine z_iload_n (q := 0) F dX8_lendsOn_63 rfl rfl ?_
              refine z_iload_n (q := 3) F dX8_lendsOn_64 rfl rfl ?_
              refine z_iast F kdc_14 (inl lnc_14 g10) dX8_lendsOn_65 ?_
              refine z_let h (fun σ13 h => ?_)
              refine z_aload_n (q := 1) F dX8_lendsOn_66 rfl rfl ?_
              refine gf8_55 F kdc_0 dX8_lendsOn_67 ?_
              refine z_iload_n (q := 0) F dX8_lendsOn_70 rfl rfl ?_
              refine z_iconst (v := 0) F dX8_lendsOn_71 rfl ?_
              refine z_iast F kdc_16 (inl lnc_16 g10) dX8_lendsOn_72 ?_
              refine z_let h (fun σ15 h => ?_)
              refine z_aload_n (q := 1) F dX8_lendsOn_73 rfl rfl ?_
              refine gf8_52 F kdc_0 dX8_lendsOn_74 ?_
              refine z_iload_n (q := 0) F dX8_lendsOn_77 rfl rfl ?_
              refine z_iload_n (q := 2) F dX8_lendsOn_78 rfl rfl ?_
              refine z_aload_n (q := 1) F dX8_lendsOn_79 rfl rfl ?_
              refine gf8_34 F kdc_0 dX8_lendsOn_80 ?_
              refine z_iconst (v := 4) F dX8_lendsOn_83 rfl ?_
              refine z_iload_n (q := 3) F dX8_lendsOn_84 rfl rfl ?_
              refine z_imul F dX8_lendsOn_85 ?_
              refine z_iconst (v := 3) F dX8_lendsOn_86 rfl ?_
              refine z_iadd F dX8_lendsOn_87 ?_
              obtain ⟨g16, h⟩ := gd_of h
              refine z_iald F kdc_9 (inl lnc_9 g16) dX8_lendsOn_88 ?_
              refine z_iadd F dX8_lendsOn_89 ?_
              refine z_iconst (v := 1) F dX8_lendsOn_90 rfl ?_
              refine z_isub F dX8_lendsOn_91 ?_
              refine z_iast F kdc_15 (inl lnc_15 g10) dX8_lendsOn_92 ?_
              refine z_let h (fun σ18 h => ?_)
              refine z_aload_n (q := 1) F dX8_lendsOn_93 rfl rfl ?_
              refine gf8_58 F kdc_0 dX8_lendsOn_94 ?_
              refine z_iload_n (q := 3) F dX8_lendsOn_97 rfl rfl ?_
              refine z_iconst (v := 1) F dX8_lendsOn_98 rfl ?_
              obtain ⟨g19, h⟩ := gd_of h
              refine z_iast F kdc_17 (inl lnc_17 g19) dX8_lendsOn_99 ?_
              refine z_let h (fun σ20 h => ?_)
              refine z_aload_n (q := 1) F dX8_lendsOn_100 rfl rfl ?_
              refine gf8_64 F kdc_0 dX8_lendsOn_101 ?_
              refine z_iload_n (q := 3) F dX8_lendsOn_104 rfl rfl ?_
              refine z_aload_n (q := 1) F dX8_lendsOn_105 rfl rfl ?_
              refine gf8_43 F kdc_0 dX8_lendsOn_106 ?_
              refine z_iload_n (q := 0) F dX8_lendsOn_109 rfl rfl ?_
              refine z_iald F kdc_12 (inl lnc_12 g10) dX8_lendsOn_110 ?_
              refine z_aload_n (q := 1) F dX8_lendsOn_111 rfl rfl ?_
              refine gf8_46 F kdc_0 dX8_lendsOn_112 ?_
              refine z_iload_n (q := 0) F dX8_lendsOn_115 rfl rfl ?_
              refine z_iald F kdc_13 (inl lnc_13 g10) dX8_lendsOn_116 ?_
              refine z_imul F dX8_lendsOn_117 ?_
              refine z_iast F kdc_19 (inl lnc_19 g19) dX8_lendsOn_118 ?_
              refine z_let h (fun σ24 h => ?_)
              refine z_sub (lv' := [(0, .ref (a 0)), (1, .int x1), (2, .int x2)]) [1, 2, 3] rfl ?_
              exact zM8_lendsOn_J119 F ih h
theorem zM8_lendsOn {r : Unit} {x1 : Int32} {σ : St} (F : Fx p s m args meth c cX8_lendsOn 4 RX8 none (rmL 2) 0 0 g a) (h : M8_lendsOn x1 σ = some (r, σ')) : Z p l e (rmL 2) s m args below meth c (MQ below (QvW g a r σ') args s 0 0 (Ad a)) 4 g a 0 0 σ 0 [(0, .ref (a 0)), (1, .int x1)] [] := by
  unfold M8_lendsOn at h
  refine z_iconst (v := 0) F dX8_lendsOn_0 rfl ?_
  refine z_istore_n (lv' := [(2, .int 0), (0, .ref (a 0)), (1, .int x1)]) F dX8_lendsOn_1 rfl (by decide) rfl ?_
  refine z_sub (lv' := [(0, .ref (a 0)), (1, .int x1), (2, .int 0)]) [1, 2, 0] rfl ?_
  refine zM8_lendsOn_L2 F ?_ _ _ _ h
  intro σ25 h
  exact z_vret F h dX8_lendsOn_125
theorem ct8_lendsOn {r : Unit} {x1 : Int32} {σ : St} (h : M8_lendsOn x1 σ = some (r, σ')) : Met l yX8_lendsOn (wsY yX8_lendsOn cX8_lendsOn 4 none) (rmL 2) (PcW g a [.ref (a 0), .int x1] σ) (QvW g a r σ') 0 0 (Ad a) :=
  ct_V (by decide) (Nat.le_of_ble_eq_true rfl) (fun p e s m args below meth c F => zM8_lendsOn F h)
theorem cl8_196 {r : Unit} {x1 : Int32} (F : Fx p s m args meth c cc nL RX8 rt R cz sz g a) (h : M8_lendsOn x1 σ = some (r, σ1)) (hR : 2 + 1 ≤ R.frames ∧ 8 + (4 + 11) + 34 * 2 ≤ R.locals) (d : decode cc pc = .ok (.invokevirtual 196, 3)) (hrm : (rest.map fun v => v.category).sum ≤ 8) (z : Z p l e R s m args below meth c Q nL g a cz sz σ1 (pc + 3) lv (rest)) : Z p l e R s m args below meth c Q nL g a cz sz σ pc lv (.int x1 :: .ref (a 0) :: rest) :=
  z_callVV (nA := 1) (As := [.int x1]) F (ct8_lendsOn h) ⟨(tbm 1068 (by decide +kernel) rfl), (tbm 1070 (by decide +kernel) rfl), (tbs 74 (by decide +kernel) rfl), (tbm 9 (by decide +kernel) rfl), (tbm 1071 (by decide +kernel) rfl)⟩ (by decide +kernel) rfl kdc_0 (by decide) rfl rfl rfl hR d rfl hrm z
theorem zM8_patchesOn_J77 {r : Unit} {x1 : Int32} {x2 : Int32} {σ : St} (F : Fx p s m args meth c cX8_patchesOn 4 RX8 none (rmL 2) 0 0 g a) {kb : Int32 → St → Option (Unit × St)} (hb : ∀ (w2 : Int32) (σ : St), kb w2 σ = some (r, σ') → Z p l e (rmL 2) s m args below meth c (MQ below (QvW g a r σ') args s 0 0 (Ad a)) 4 g a 0 0 σ 2 [(0, .ref (a 0)), (1, .int x1), (2, .int w2)] []) (h : M8_patchesOn_J77 kb x1 x2 σ = some (r, σ')) : Z p l e (rmL 2) s m args below meth c (MQ below (QvW g a r σ') args s 0 0 (Ad a)) 4 g a 0 0 σ 77 [(0, .ref (a 0)), (1, .int x1), (2, .int x2)] [] := by
  unfold M8_patchesOn_J77 at h
  refine z_iinc (q := 2) (v := x2 + 1) (lv' := [(2, .int (x2 + 1)), (0, .ref (a 0)), (1, .int x1)]) F dX8_patchesOn_77 rfl rfl (by decide) rfl ?_
  refine z_letL (s0 := 2) (lv := [(0, .ref (a 0)), (1, .int x1)]) h (fun v5 h => ?_)
  refine z_goto (tgt := 2) F dX8_patchesOn_80 rfl ?_
  refine z_sub (lv' := [(0, .ref (a 0)), (1, .int x1), (2, .int v5)]) [1, 2, 0] rfl ?_
  exact hb _ _ h
theorem zM8_patchesOn_L2 {r : Unit} {x1 : Int32} (F : Fx p s m args meth c cX8_patchesOn 4 RX8 none (rmL 2) 0 0 g a) {kx : St → Option (Unit × St)} (hx : ∀ (σ : St), kx σ = some (r, σ') → Z p l e (rmL 2) s m args below meth c (MQ below (QvW g a r σ') args s 0 0 (Ad a)) 4 g a 0 0 σ 83 [] []) : ∀ (n : Nat) (x2 : Int32) (σ : St), M8_patchesOn_L2 x1 kx n x2 σ = some (r, σ') → Z p l e (rmL 2) s m args below meth c (MQ below (QvW g a r σ') args s 0 0 (Ad a)) 4 g a 0 0 σ 2 [(0, .ref (a 0)), (1, .int x1), (2, .int x2)] [] := by
  intro n
  induction n with
  | zero => intro x2 σ h; rw [M8_patchesOn_L2] at h; cases h
  | succ n ih =>
    intro x2 σ h
    rw [M8_patchesOn_L2] at h
    refine z_iload_n (q := 2) F dX8_patchesOn_2 rfl rfl ?_
    refine z_aload_n (q := 0) F dX8_patchesOn_3 rfl rfl ?_
    refine gf8_171 F kdc_0 dX8_patchesOn_4 ?_
    refine z_icmp_ge (tgt := 83) F dX8_patchesOn_7 rfl (fun c1 => ?_) (fun c1 => ?_)
    · have h := ite_T c1 h
      refine z_sub (lv' := []) [] rfl ?_
      exact hx _ h
    · have h := ite_F c1 h
      refine z_aload_n (q := 0) F dX8_patchesOn_10 rfl rfl ?_
      refine gf8_40 F kdc_0 dX8_patchesOn_11 ?_
      refine z_iconst (v := 2) F dX8_patchesOn_14 rfl ?_
      refine z_iload_n (q := 2) F dX8_patchesOn_15 rfl rfl ?_
      refine z_imul F dX8_patchesOn_16 ?_
      refine z_iconst (v := 1) F dX8_patchesOn_17 rfl ?_
      refine z_iadd F dX8_patchesOn_18 ?_
      obtain ⟨g2, h⟩ := gd_of h
      refine z_iald F kdc_11 (inl lnc_11 g2) dX8_patchesOn_19 ?_
      refine z_letI h (fun v3 h => ?_)
      refine z_istore_n (lv' := [(3, .int v3), (0, .ref (a 0)), (1, .int x1), (2, .int x2)]) F dX8_patchesOn_20 rfl (by decide) rfl ?_
      refine z_iload_n (q := 3) F dX8_patchesOn_21 rfl rfl ?_
      refine z_aload_n (q := 1) F dX8_patchesOn_22 rfl rfl ?_
      refine gf8_89 F kdc_0 dX8_patchesOn_23 ?_
      refine z_icmp_eq (tgt := 77) F dX8_patchesOn_26 rfl (fun c4 => ?_) (fun c4 => ?_)
      · have h := ite_T c4 h
        refine z_sub (lv' := [(0, .ref (a 0)), (1, .int x1), (2, .int x2)]) [1, 2, 3] rfl ?_
        exact zM8_patchesOn_J77 F ih h
      · have h := ite_F c4 h
        refine z_aload_n (q := 1) F dX8_patchesOn_29 rfl rfl ?_
        refine gf8_40 F kdc_0 dX8_patchesOn_30 ?_
        refine z_iconst (v := 2) F dX8_patchesOn_33 rfl ?_
        refine z_iload_n (q := 3) F dX8_patchesOn_34 rfl rfl ?_
        refine z_imul F dX8_patchesOn_35 ?_
        obtain ⟨g6, h⟩ := gd_of h
        refine z_iald F kdc_11 (inl lnc_11 g6) dX8_patchesOn_36 ?_
        refine z_iload_n (q := 2) F dX8_patchesOn_37 rfl rfl ?_
        refine z_icmp_ne (tgt := 77) F dX8_patchesOn_38 rfl (fun c7 => ?_) (fun c7 => ?_)
        · have h := ite_F c7 h
          refine z_sub (lv' := [(0, .ref (a 0)), (1, .int x1), (2, .int x2)]) [1, 2, 3] rfl ?_
          exact zM8_patchesOn_J77 F ih h
        · have h := ite_T c7 h
          refine z_aload_n (q := 1) F dX8_patchesOn_41 rfl rfl ?_
          refine z_iload_n (q := 0) F dX8_patchesOn_42 rfl rfl ?_
          obtain ⟨r8, σ8, hq8, h⟩ := bd_of h
          refine cl8_145 F hq8 ⟨Nat.le_of_ble_eq_true rfl, Nat.le_of_ble_eq_true rfl⟩ dX8_patchesOn_43 (Nat.le_of_ble_eq_true rfl) ?_
          refine z_if_eq (tgt := 77) F dX8_patchesOn_46 rfl (fun c9 => ?_) (fun c9 => ?_)
          · have h := ite_T c9 h
            refine z_sub (lv' := [(0, .ref (a 0)), (1, .int x1), (2, .int x2)]) [1, 2, 3] rfl ?_
            exact zM8_patchesOn_J77 F ih h
          · have h := ite_F c9 h
            refine z_aload_n (q := 1) F dX8_patchesOn_49 rfl rfl ?_
            refine gf8_49 F kdc_0 dX8_patchesOn_50 ?_
            refine z_iload_n (q := 0) F dX8_patchesOn_53 rfl rfl ?_
            obtain ⟨g10, h⟩ := gd_of h
            refine z_iald F kdc_14 (inl lnc_14 g10) dX8_patchesOn_54 ?_
            refine z_iconst (v := (-1)) F dX8_patchesOn_55 rfl ?_
            refine z_icmp_ne (tgt := 77) F dX8_patchesOn_56 rfl (fun c11 => ?_) (fun c11 => ?_)
            · have h := ite_F c11 h
              refine z_sub (lv' := [(0, .ref (a 0)), (1, .int x1), (2, .int x2)]) [1, 2, 3] rfl ?_
              exact zM8_patchesOn_J77 F ih h
            · have h := ite_T c11 h
              refine z_aload_n (q := 1) F dX8_patchesOn_59 rfl rfl ?_
              refine gf8_43 F kdc_0 dX8_patchesOn_60 ?_
              refine z_iload_n (q := 0) F dX8_patchesOn_63 rfl rfl ?_
              refine z_aload_n (q := 1) F dX8_patchesOn_64 rfl rfl ?_
              refine gf8_43 F kdc_0 dX8_patchesOn_65 ?_
              refine z_iload_n (q := 0) F dX8_patchesOn_68 rfl rfl ?_
              refine z_iald F kdc_12 (inl lnc_12 g10) dX8_patchesOn_69 ?_
              refine z_iconst (v := 1) F dX8_patchesOn_70 rfl ?_
              refine z_isub F dX8_patchesOn_71 ?_
              refine z_iconst (v := 1) F dX8_patchesOn_72 rfl ?_
              obtain ⟨r13, σ13, hq13, h⟩ := bd_of h
              refine cl8_186 F hq13 ⟨Nat.le_of_ble_eq_true rfl, Nat.le_of_ble_eq_true rfl⟩ dX8_patchesOn_73 (Nat.le_of_ble_eq_true rfl) ?_
              refine z_iast F kdc_12 (inl lnc_12 g10) dX8_patchesOn_76 ?_
              refine z_let h (fun σ15 h => ?_)
              refine z_sub (lv' := [(0, .ref (a 0)), (1, .int x1), (2, .int x2)]) [1, 2, 3] rfl ?_
              exact zM8_patchesOn_J77 F ih h
theorem zM8_patchesOn {r : Unit} {x1 : Int32} {σ : St} (F : Fx p s m args meth c cX8_patchesOn 4 RX8 none (rmL 2) 0 0 g a) (h : M8_patchesOn x1 σ = some (r, σ')) : Z p l e (rmL 2) s m args below meth c (MQ below (QvW g a r σ') args s 0 0 (Ad a)) 4 g a 0 0 σ 0 [(0, .ref (a 0)), (1, .int x1)] [] := by
  unfold M8_patchesOn at h
  refine z_iconst (v := 0) F dX8_patchesOn_0 rfl ?_
  refine z_istore_n (lv' := [(2, .int 0), (0, .ref (a 0)), (1, .int x1)]) F dX8_patchesOn_1 rfl (by decide) rfl ?_
  refine z_sub (lv' := [(0, .ref (a 0)), (1, .int x1), (2, .int 0)]) [1, 2, 0] rfl ?_
  refine zM8_patchesOn_L2 F ?_ _ _ _ h
  intro σ16 h
  exact z_vret F h dX8_patchesOn_83
theorem ct8_patchesOn {r : Unit} {x1 : Int32} {σ : St} (h : M8_patchesOn x1 σ = some (r, σ')) : Met l yX8_patchesOn (wsY yX8_patchesOn cX8_patchesOn 4 none) (rmL 2) (PcW g a [.ref (a 0), .int x1] σ) (QvW g a r σ') 0 0 (Ad a) :=
  ct_V (by decide) (Nat.le_of_ble_eq_true rfl) (fun p e s m args below meth c F => zM8_patchesOn F h)
theorem cl8_203 {r : Unit} {x1 : Int32} (F : Fx p s m args meth c cc nL RX8 rt R cz sz g a) (h : M8_patchesOn x1 σ = some (r, σ1)) (hR : 2 + 1 ≤ R.frames ∧ 8 + (4 + 11) + 34 * 2 ≤ R.locals) (d : decode cc pc = .ok (.invokevirtual 203, 3)) (hrm : (rest.map fun v => v.category).sum ≤ 8) (z : Z p l e R s m args below meth c Q nL g a cz sz σ1 (pc + 3) lv (rest)) : Z p l e R s m args below meth c Q nL g a cz sz σ pc lv (.int x1 :: .ref (a 0) :: rest) :=
  z_callVV (nA := 1) (As := [.int x1]) F (ct8_patchesOn h) ⟨(tbm 1076 (by decide +kernel) rfl), (tbm 1078 (by decide +kernel) rfl), (tbs 76 (by decide +kernel) rfl), (tbm 9 (by decide +kernel) rfl), (tbm 1079 (by decide +kernel) rfl)⟩ (by decide +kernel) rfl kdc_0 (by decide) rfl rfl rfl hR d rfl hrm z
theorem zM8_day_J94 {r : Unit} {x1 : Int32} {x2 : Int32} {σ : St} (F : Fx p s m args meth c cX8_day 4 RX8 none (rmL 3) 0 0 g a) {kb : Int32 → St → Option (Unit × St)} (hb : ∀ (w2 : Int32) (σ : St), kb w2 σ = some (r, σ') → Z p l e (rmL 3) s m args below meth c (MQ below (QvW g a r σ') args s 0 0 (Ad a)) 4 g a 0 0 σ 17 [(0, .ref (a 0)), (1, .int x1), (2, .int w2)] []) (h : M8_day_J94 kb x1 x2 σ = some (r, σ')) : Z p l e (rmL 3) s m args below meth c (MQ below (QvW g a r σ') args s 0 0 (Ad a)) 4 g a 0 0 σ 94 [(0, .ref (a 0)), (1, .int x1), (2, .int x2)] [] := by
  unfold M8_day_J94 at h
  refine z_iinc (q := 2) (v := x2 + 1) (lv' := [(2, .int (x2 + 1)), (0, .ref (a 0)), (1, .int x1)]) F dX8_day_94 rfl rfl (by decide) rfl ?_
  refine z_letL (s0 := 2) (lv := [(0, .ref (a 0)), (1, .int x1)]) h (fun v8 h => ?_)
  refine z_goto (tgt := 17) F dX8_day_97 rfl ?_
  refine z_sub (lv' := [(0, .ref (a 0)), (1, .int x1), (2, .int v8)]) [1, 2, 0] rfl ?_
  exact hb _ _ h
theorem zM8_day_J78 {r : Unit} {x1 : Int32} {x2 : Int32} {σ : St} (F : Fx p s m args meth c cX8_day 4 RX8 none (rmL 3) 0 0 g a) {kb : Int32 → St → Option (Unit × St)} (hb : ∀ (w2 : Int32) (σ : St), kb w2 σ = some (r, σ') → Z p l e (rmL 3) s m args below meth c (MQ below (QvW g a r σ') args s 0 0 (Ad a)) 4 g a 0 0 σ 17 [(0, .ref (a 0)), (1, .int x1), (2, .int w2)] []) (h : M8_day_J78 kb x1 x2 σ = some (r, σ')) : Z p l e (rmL 3) s m args below meth c (MQ below (QvW g a r σ') args s 0 0 (Ad a)) 4 g a 0 0 σ 78 [(0, .ref (a 0)), (1, .int x1), (2, .int x2)] [] := by
  unfold M8_day_J78 at h
  refine z_aload_n (q := 0) F dX8_day_78 rfl rfl ?_
  refine gf8_52 F kdc_0 dX8_day_79 ?_
  refine z_iload_n (q := 2) F dX8_day_82 rfl rfl ?_
  obtain ⟨g15, h⟩ := gd_of h
  refine z_iald F kdc_15 (inl lnc_15 g15) dX8_day_83 ?_
  refine z_iload_n (q := 1) F dX8_day_84 rfl rfl ?_
  refine z_icmp_ne (tgt := 94) F dX8_day_85 rfl (fun c16 => ?_) (fun c16 => ?_)
  · have h := ite_F c16 h
    refine z_sub (lv' := [(0, .ref (a 0)), (1, .int x1), (2, .int x2)]) [0, 1, 2] rfl ?_
    exact zM8_day_J94 F hb h
  · have h := ite_T c16 h
    refine z_aload_n (q := 0) F dX8_day_88 rfl rfl ?_
    refine z_iload_n (q := 2) F dX8_day_89 rfl rfl ?_
    refine z_iload_n (q := 1) F dX8_day_90 rfl rfl ?_
    obtain ⟨r17, σ17, hq17, h⟩ := bd_of h
    refine cl8_209 F hq17 ⟨Nat.le_of_ble_eq_true rfl, Nat.le_of_ble_eq_true rfl⟩ dX8_day_91 (Nat.le_of_ble_eq_true rfl) ?_
    refine z_sub (lv' := [(0, .ref (a 0)), (1, .int x1), (2, .int x2)]) [0, 1, 2] rfl ?_
    exact zM8_day_J94 F hb h
theorem zM8_day_L17 {r : Unit} {x1 : Int32} (F : Fx p s m args meth c cX8_day 4 RX8 none (rmL 3) 0 0 g a) {kx : St → Option (Unit × St)} (hx : ∀ (σ : St), kx σ = some (r, σ') → Z p l e (rmL 3) s m args below meth c (MQ below (QvW g a r σ') args s 0 0 (Ad a)) 4 g a 0 0 σ 100 [] []) : ∀ (n : Nat) (x2 : Int32) (σ : St), M8_day_L17 x1 kx n x2 σ = some (r, σ') → Z p l e (rmL 3) s m args below meth c (MQ below (QvW g a r σ') args s 0 0 (Ad a)) 4 g a 0 0 σ 17 [(0, .ref (a 0)), (1, .int x1), (2, .int x2)] [] := by
  intro n
  induction n with
  | zero => intro x2 σ h; rw [M8_day_L17] at h; cases h
  | succ n ih =>
    intro x2 σ h
    rw [M8_day_L17] at h
    refine z_iload_n (q := 2) F dX8_day_17 rfl rfl ?_
    refine z_aload_n (q := 0) F dX8_day_18 rfl rfl ?_
    refine gf8_28 F kdc_0 dX8_day_19 ?_
    refine z_iconst (v := 0) F dX8_day_22 rfl ?_
    refine z_ialdC (j := 0) F kdc_7 (inl lnc_7 (by decide)) (by decide) dX8_day_23 ?_
    refine z_icmp_ge (tgt := 100) F dX8_day_24 rfl (fun c5 => ?_) (fun c5 => ?_)
    · have h := ite_T c5 h
      refine z_sub (lv' := []) [] rfl ?_
      exact hx _ h
    · have h := ite_F c5 h
      refine z_aload_n (q := 0) F dX8_day_27 rfl rfl ?_
      refine gf8_49 F kdc_0 dX8_day_28 ?_
      refine z_iload_n (q := 2) F dX8_day_31 rfl rfl ?_
      obtain ⟨g6, h⟩ := gd_of h
      refine z_iald F kdc_14 (inl lnc_14 g6) dX8_day_32 ?_
      refine z_iconst (v := (-1)) F dX8_day_33 rfl ?_
      refine z_icmp_eq (tgt := 94) F dX8_day_34 rfl (fun c7 => ?_) (fun c7 => ?_)
      · have h := ite_T c7 h
        refine z_sub (lv' := [(0, .ref (a 0)), (1, .int x1), (2, .int x2)]) [0, 1, 2] rfl ?_
        exact zM8_day_J94 F ih h
      · have h := ite_F c7 h
        refine z_aload_n (q := 0) F dX8_day_37 rfl rfl ?_
        refine gf8_55 F kdc_0 dX8_day_38 ?_
        refine z_iload_n (q := 2) F dX8_day_41 rfl rfl ?_
        refine z_dup2 F dX8_day_42 rfl rfl ?_
        refine z_iald F kdc_16 (inl lnc_16 g6) dX8_day_43 ?_
        refine z_iconst (v := 1) F dX8_day_44 rfl ?_
        refine z_iadd F dX8_day_45 ?_
        refine z_iast F kdc_16 (inl lnc_16 g6) dX8_day_46 ?_
        refine z_let h (fun σ11 h => ?_)
        refine z_aload_n (q := 0) F dX8_day_47 rfl rfl ?_
        refine gf8_31 F kdc_0 dX8_day_48 ?_
        refine z_iconst (v := 4) F dX8_day_51 rfl ?_
        refine z_iload_n (q := 2) F dX8_day_52 rfl rfl ?_
        refine z_imul F dX8_day_53 ?_
        refine z_iconst (v := 3) F dX8_day_54 rfl ?_
        refine z_iadd F dX8_day_55 ?_
        obtain ⟨g12, h⟩ := gd_of h
        refine z_iald F kdc_8 (inl lnc_8 g12) dX8_day_56 ?_
        refine z_letI h (fun v13 h => ?_)
        refine z_istore_n (lv' := [(3, .int v13), (0, .ref (a 0)), (1, .int x1), (2, .int x2)]) F dX8_day_57 rfl (by decide) rfl ?_
        refine z_iload_n (q := 0) F dX8_day_58 rfl rfl ?_
        refine z_if_le (tgt := 78) F dX8_day_59 rfl (fun c14 => ?_) (fun c14 => ?_)
        · have h := ite_T c14 h
          refine z_sub (lv' := [(0, .ref (a 0)), (1, .int x1), (2, .int x2)]) [1, 2, 3] rfl ?_
          exact zM8_day_J78 F ih h
        · have h := ite_F c14 h
          refine z_aload_n (q := 1) F dX8_day_62 rfl rfl ?_
          refine gf8_55 F kdc_0 dX8_day_63 ?_
          refine z_iload_n (q := 3) F dX8_day_66 rfl rfl ?_
          refine z_iald F kdc_16 (inl lnc_16 g6) dX8_day_67 ?_
          refine z_iload_n (q := 0) F dX8_day_68 rfl rfl ?_
          obtain ⟨g19, h⟩ := gd_of h
          refine z_irem F dX8_day_69 g19 ?_
          refine z_if_ne (tgt := 78) F dX8_day_70 rfl (fun c20 => ?_) (fun c20 => ?_)
          · have h := ite_F c20 h
            refine z_sub (lv' := [(0, .ref (a 0)), (1, .int x1), (2, .int x2)]) [1, 2, 3] rfl ?_
            exact zM8_day_J78 F ih h
          · have h := ite_T c20 h
            refine z_aload_n (q := 1) F dX8_day_73 rfl rfl ?_
            refine z_iload_n (q := 3) F dX8_day_74 rfl rfl ?_
            obtain ⟨r21, σ21, hq21, h⟩ := bd_of h
            refine cl8_206 F hq21 ⟨Nat.le_of_ble_eq_true rfl, Nat.le_of_ble_eq_true rfl⟩ dX8_day_75 (Nat.le_of_ble_eq_true rfl) ?_
            refine z_sub (lv' := [(0, .ref (a 0)), (1, .int x1), (2, .int x2)]) [1, 2, 3] rfl ?_
            exact zM8_day_J78 F ih h
theorem zM8_day {r : Unit} {x1 : Int32} {σ : St} (F : Fx p s m args meth c cX8_day 4 RX8 none (rmL 3) 0 0 g a) (h : M8_day x1 σ = some (r, σ')) : Z p l e (rmL 3) s m args below meth c (MQ below (QvW g a r σ') args s 0 0 (Ad a)) 4 g a 0 0 σ 0 [(0, .ref (a 0)), (1, .int x1)] [] := by
  unfold M8_day at h
  refine z_aload_n (q := 0) F dX8_day_0 rfl rfl ?_
  refine z_iload_n (q := 1) F dX8_day_1 rfl rfl ?_
  obtain ⟨r1, σ1, hq1, h⟩ := bd_of h
  refine cl8_196 F hq1 ⟨Nat.le_of_ble_eq_true rfl, Nat.le_of_ble_eq_true rfl⟩ dX8_day_2 (Nat.le_of_ble_eq_true rfl) ?_
  refine z_aload_n (q := 0) F dX8_day_5 rfl rfl ?_
  refine z_iload_n (q := 1) F dX8_day_6 rfl rfl ?_
  obtain ⟨r2, σ2, hq2, h⟩ := bd_of h
  refine cl8_200 F hq2 ⟨Nat.le_of_ble_eq_true rfl, Nat.le_of_ble_eq_true rfl⟩ dX8_day_7 (Nat.le_of_ble_eq_true rfl) ?_
  refine z_aload_n (q := 0) F dX8_day_10 rfl rfl ?_
  refine z_iload_n (q := 1) F dX8_day_11 rfl rfl ?_
  obtain ⟨r3, σ3, hq3, h⟩ := bd_of h
  refine cl8_203 F hq3 ⟨Nat.le_of_ble_eq_true rfl, Nat.le_of_ble_eq_true rfl⟩ dX8_day_12 (Nat.le_of_ble_eq_true rfl) ?_
  refine z_iconst (v := 0) F dX8_day_15 rfl ?_
  refine z_istore_n (lv' := [(2, .int 0), (0, .ref (a 0)), (1, .int x1)]) F dX8_day_16 rfl (by decide) rfl ?_
  refine z_sub (lv' := [(0, .ref (a 0)), (1, .int x1), (2, .int 0)]) [1, 2, 0] rfl ?_
  refine zM8_day_L17 F ?_ _ _ _ h
  intro σ22 h
  exact z_vret F h dX8_day_100
theorem ct8_day {r : Unit} {x1 : Int32} {σ : St} (h : M8_day x1 σ = some (r, σ')) : Met l yX8_day (wsY yX8_day cX8_day 4 none) (rmL 3) (PcW g a [.ref (a 0), .int x1] σ) (QvW g a r σ') 0 0 (Ad a) :=
  ct_V (by decide) (Nat.le_of_ble_eq_true rfl) (fun p e s m args below meth c F => zM8_day F h)
theorem cl8_215 {r : Unit} {x1 : Int32} (F : Fx p s m args meth c cc nL RX8 rt R cz sz g a) (h : M8_day x1 σ = some (r, σ1)) (hR : 3 + 1 ≤ R.frames ∧ 8 + (4 + 11) + 34 * 3 ≤ R.locals) (d : decode cc pc = .ok (.invokevirtual 215, 3)) (hrm : (rest.map fun v => v.category).sum ≤ 8) (z : Z p l e R s m args below meth c Q nL g a cz sz σ1 (pc + 3) lv (rest)) : Z p l e R s m args below meth c Q nL g a cz sz σ pc lv (.int x1 :: .ref (a 0) :: rest) :=
  z_callVV (nA := 1) (As := [.int x1]) F (ct8_day h) ⟨(tbm 1064 (by decide +kernel) rfl), (tbm 1066 (by decide +kernel) rfl), (tbs 73 (by decide +kernel) rfl), (tbm 9 (by decide +kernel) rfl), (tbm 1067 (by decide +kernel) rfl)⟩ (by decide +kernel) rfl kdc_0 (by decide) rfl rfl rfl hR d rfl hrm z
end WalkZ
