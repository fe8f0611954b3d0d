section WalkZ
variable {p : Program} {l : Launch} {e : Env} {R : Room} {s : State} {m : MethodId} {args : Array Value} {below : List Frame} {meth : Method} {c : Code} {Q : State → Prop} {cc : ByteArray} {nL : Nat} {own : String} {rt : Option FieldType} {g : Gd} {a : Nat → Nat} {cz sz : Nat} {σ σ1 σ' : St} {pc : Nat} {lv lv' : List (Nat × Value)} {st st0 rest : List Value}
theorem zM8_serves {r : Int32} {x1 : Int32} {x2 : Int32} {σ : St} (F : Fx p s m args meth c cX8_serves 3 RX8 (some .int) (rmL 6) 0 0 g a) (h : M8_serves x1 x2 σ = some (r, σ')) : Z p l e (rmL 6) s m args below meth c (MQ below (QiW g a r σ') args s 0 0 (Ad a)) 3 g a 0 0 σ 0 [(0, .ref (a 0)), (1, .int x1), (2, .int x2)] [] := by
  unfold M8_serves at h
  refine z_aload_n (q := 0) F dX8_serves_0 rfl rfl ?_
  obtain ⟨r1, σ1, hq1, h⟩ := bd_of h
  refine cl8_142 F hq1 ⟨Nat.le_of_ble_eq_true rfl, Nat.le_of_ble_eq_true rfl⟩ dX8_serves_1 (Nat.le_of_ble_eq_true rfl) ?_
  refine z_iload_n (q := 1) F dX8_serves_4 rfl rfl ?_
  obtain ⟨r2, σ2, hq2, h⟩ := bd_of h
  refine cl8_154 F hq2 ⟨Nat.le_of_ble_eq_true rfl, Nat.le_of_ble_eq_true rfl⟩ dX8_serves_5 (Nat.le_of_ble_eq_true rfl) ?_
  refine z_if_eq (tgt := 28) F dX8_serves_8 rfl (fun c3 => ?_) (fun c3 => ?_)
  · have h := ite_T c3 h
    refine z_bipush (v := (-2)) F dX8_serves_28 rfl ?_
    exact z_iret F h dX8_serves_30
  · have h := ite_F c3 h
    refine z_aload_n (q := 0) F dX8_serves_11 rfl rfl ?_
    refine z_iload_n (q := 2) F dX8_serves_12 rfl rfl ?_
    obtain ⟨r4, σ4, hq4, h⟩ := bd_of h
    refine cl8_145 F hq4 ⟨Nat.le_of_ble_eq_true rfl, Nat.le_of_ble_eq_true rfl⟩ dX8_serves_13 (Nat.le_of_ble_eq_true rfl) ?_
    refine z_if_eq (tgt := 28) F dX8_serves_16 rfl (fun c5 => ?_) (fun c5 => ?_)
    · have h := ite_T c5 h
      refine z_bipush (v := (-2)) F dX8_serves_28 rfl ?_
      exact z_iret F h dX8_serves_30
    · have h := ite_F c5 h
      refine z_aload_n (q := 0) F dX8_serves_19 rfl rfl ?_
      refine z_iload_n (q := 1) F dX8_serves_20 rfl rfl ?_
      refine z_iload_n (q := 2) F dX8_serves_21 rfl rfl ?_
      obtain ⟨r6, σ6, hq6, h⟩ := bd_of h
      refine cl8_247 F hq6 ⟨Nat.le_of_ble_eq_true rfl, Nat.le_of_ble_eq_true rfl⟩ dX8_serves_22 (Nat.le_of_ble_eq_true rfl) ?_
      refine z_goto (tgt := 30) F dX8_serves_25 rfl ?_
      exact z_iret F h dX8_serves_30
theorem ct8_serves {r : Int32} {x1 : Int32} {x2 : Int32} {σ : St} (h : M8_serves x1 x2 σ = some (r, σ')) : Met l yX8_serves (wsY yX8_serves cX8_serves 3 (some .int)) (rmL 6) (PcW g a [.ref (a 0), .int x1, .int x2] σ) (QiW g a r σ') 0 0 (Ad a) :=
  ct_I (by decide) (Nat.le_of_ble_eq_true rfl) (fun p e s m args below meth c F => zM8_serves F h)

theorem zM8_sheet_L55 {r : Int32} {x1 : Int32} {x3 : Int32} (F : Fx p s m args meth c cX8_sheet 5 RX8 (some .int) (rmL 2) 0 0 g a) {kx : St → Option (Int32 × St)} (hx : ∀ (σ : St), kx σ = some (r, σ') → Z p l e (rmL 2) s m args below meth c (MQ below (QiW g a r σ') args s 0 0 (Ad a)) 5 g a 0 0 σ 80 [(3, .int x3)] []) : ∀ (n : Nat) (x4 : Int32) (σ : St), M8_sheet_L55 x1 x3 kx n x4 σ = some (r, σ') → Z p l e (rmL 2) s m args below meth c (MQ below (QiW g a r σ') args s 0 0 (Ad a)) 5 g a 0 0 σ 55 [(0, .ref (a 0)), (1, .int x1), (3, .int x3), (4, .int x4)] [] := by
  intro n
  induction n with
  | zero => intro x4 σ h; rw [M8_sheet_L55] at h; cases h
  | succ n ih =>
    intro x4 σ h
    rw [M8_sheet_L55] at h
    refine z_iload (q := 3) F dX8_sheet_55 rfl ?_
    refine z_iload_n (q := 2) F dX8_sheet_57 rfl rfl ?_
    refine z_icmp_ge (tgt := 80) F dX8_sheet_58 rfl (fun c11 => ?_) (fun c11 => ?_)
    · have h := ite_T c11 h
      refine z_sub (lv' := [(3, .int x3)]) [2] rfl ?_
      exact hx _ h
    · have h := ite_F c11 h
      refine z_aload_n (q := 0) F dX8_sheet_61 rfl rfl ?_
      refine gf8_16 F kdc_0 dX8_sheet_62 ?_
      refine z_bipush (v := 60) F dX8_sheet_65 rfl ?_
      refine z_iload_n (q := 1) F dX8_sheet_67 rfl rfl ?_
      refine z_imul F dX8_sheet_68 ?_
      refine z_iload (q := 3) F dX8_sheet_69 rfl ?_
      refine z_iadd F dX8_sheet_71 ?_
      refine z_iconst (v := 0) F dX8_sheet_72 rfl ?_
      obtain ⟨g12, h⟩ := gd_of h
      refine z_iast F kdc_3 (inl lnc_3 g12) dX8_sheet_73 ?_
      refine z_let h (fun σ13 h => ?_)
      refine z_iinc (q := 3) (v := x4 + 1) (lv' := [(4, .int (x4 + 1)), (0, .ref (a 0)), (1, .int x1), (3, .int x3)]) F dX8_sheet_74 rfl rfl (by decide) rfl ?_
      refine z_letL (s0 := 4) (lv := [(0, .ref (a 0)), (1, .int x1), (3, .int x3)]) h (fun v14 h => ?_)
      refine z_goto (tgt := 55) F dX8_sheet_77 rfl ?_
      refine z_sub (lv' := [(0, .ref (a 0)), (1, .int x1), (3, .int x3), (4, .int v14)]) [1, 2, 3, 0] rfl ?_
      exact ih _ _ h
theorem zM8_sheet {r : Int32} {x1 : Int32} {x2 : Int32} {x3 : Int32} {σ : St} (F : Fx p s m args meth c cX8_sheet 5 RX8 (some .int) (rmL 2) 0 0 g a) (h : M8_sheet x1 x2 x3 σ = some (r, σ')) : Z p l e (rmL 2) s m args below meth c (MQ below (QiW g a r σ') args s 0 0 (Ad a)) 5 g a 0 0 σ 0 [(0, .ref (a 0)), (1, .int x1), (2, .int x2), (3, .int x3)] [] := by
  unfold M8_sheet at h
  refine z_iload_n (q := 1) F dX8_sheet_0 rfl rfl ?_
  obtain ⟨r1, σ1, hq1, h⟩ := bd_of h
  refine cl8_103 F hq1 ⟨Nat.le_of_ble_eq_true rfl, Nat.le_of_ble_eq_true rfl⟩ dX8_sheet_1 (Nat.le_of_ble_eq_true rfl) ?_
  refine z_if_eq (tgt := 25) F dX8_sheet_4 rfl (fun c2 => ?_) (fun c2 => ?_)
  · have h := ite_T c2 h
    refine z_bipush (v := (-2)) F dX8_sheet_25 rfl ?_
    exact z_iret F h dX8_sheet_27
  · have h := ite_F c2 h
    refine z_iload_n (q := 2) F dX8_sheet_7 rfl rfl ?_
    refine z_i2l F dX8_sheet_8 ?_
    refine z_lconst (v := 0) F dX8_sheet_9 rfl ?_
    refine z_ldc2 (v := 2) F dX8_sheet_10 (tbm 924 (by decide +kernel) rfl) ?_
    obtain ⟨r3, σ3, hq3, h⟩ := bd_of h
    refine cl8_94 F hq3 ⟨Nat.le_of_ble_eq_true rfl, Nat.le_of_ble_eq_true rfl⟩ dX8_sheet_13 (Nat.le_of_ble_eq_true rfl) ?_
    refine z_if_eq (tgt := 25) F dX8_sheet_16 rfl (fun c4 => ?_) (fun c4 => ?_)
    · have h := ite_T c4 h
      refine z_bipush (v := (-2)) F dX8_sheet_25 rfl ?_
      exact z_iret F h dX8_sheet_27
    · have h := ite_F c4 h
      refine z_iload_n (q := 3) F dX8_sheet_19 rfl rfl ?_
      refine z_bipush (v := 60) F dX8_sheet_20 rfl ?_
      refine z_icmp_le (tgt := 28) F dX8_sheet_22 rfl (fun c5 => ?_) (fun c5 => ?_)
      · have h := ite_T c5 h
        refine z_iload_n (q := 3) F dX8_sheet_28 rfl rfl ?_
        refine z_if_ge (tgt := 38) F dX8_sheet_29 rfl (fun c6 => ?_) (fun c6 => ?_)
        · have h := ite_T c6 h
          refine z_aload_n (q := 0) F dX8_sheet_38 rfl rfl ?_
          refine gf8_7 F kdc_0 dX8_sheet_39 ?_
          refine z_iload_n (q := 1) F dX8_sheet_42 rfl rfl ?_
          refine z_iload_n (q := 2) F dX8_sheet_43 rfl rfl ?_
          obtain ⟨g7, h⟩ := gd_of h
          refine z_iast F kdc_1 (inl lnc_1 g7) dX8_sheet_44 ?_
          refine z_let h (fun σ8 h => ?_)
          refine z_aload_n (q := 0) F dX8_sheet_45 rfl rfl ?_
          refine gf8_13 F kdc_0 dX8_sheet_46 ?_
          refine z_iload_n (q := 1) F dX8_sheet_49 rfl rfl ?_
          refine z_iload_n (q := 3) F dX8_sheet_50 rfl rfl ?_
          refine z_iast F kdc_2 (inl lnc_2 g7) dX8_sheet_51 ?_
          refine z_let h (fun σ10 h => ?_)
          refine z_iconst (v := 0) F dX8_sheet_52 rfl ?_
          refine z_istore (lv' := [(4, .int 0), (0, .ref (a 0)), (1, .int x1), (2, .int x2), (3, .int x3)]) F dX8_sheet_53 (by decide) rfl ?_
          refine z_sub (lv' := [(0, .ref (a 0)), (1, .int x1), (3, .int x3), (4, .int 0)]) [1, 2, 4, 0] rfl ?_
          refine zM8_sheet_L55 F ?_ _ _ _ h
          intro σ15 h
          refine z_iload_n (q := 0) F dX8_sheet_80 rfl rfl ?_
          exact z_iret F h dX8_sheet_81
        · have h := ite_F c6 h
          refine z_aload_n (q := 0) F dX8_sheet_32 rfl rfl ?_
          refine z_iconst (v := 5) F dX8_sheet_33 rfl ?_
          obtain ⟨r16, σ16, hq16, h⟩ := bd_of h
          refine cl8_109 F hq16 ⟨Nat.le_of_ble_eq_true rfl, Nat.le_of_ble_eq_true rfl⟩ dX8_sheet_34 (Nat.le_of_ble_eq_true rfl) ?_
          exact z_iret F h dX8_sheet_37
      · have h := ite_F c5 h
        refine z_bipush (v := (-2)) F dX8_sheet_25 rfl ?_
        exact z_iret F h dX8_sheet_27
theorem ct8_sheet {r : Int32} {x1 : Int32} {x2 : Int32} {x3 : Int32} {σ : St} (h : M8_sheet x1 x2 x3 σ = some (r, σ')) : Met l yX8_sheet (wsY yX8_sheet cX8_sheet 5 (some .int)) (rmL 2) (PcW g a [.ref (a 0), .int x1, .int x2, .int x3] σ) (QiW g a r σ') 0 0 (Ad a) :=
  ct_I (by decide) (Nat.le_of_ble_eq_true rfl) (fun p e s m args below meth c F => zM8_sheet F h)

theorem zM8_type {r : Int32} {x1 : Int32} {x2 : Int32} {σ : St} (F : Fx p s m args meth c cX8_type 3 RX8 (some .int) (rmL 2) 0 0 g a) (h : M8_type x1 x2 σ = some (r, σ')) : Z p l e (rmL 2) s m args below meth c (MQ below (QiW g a r σ') args s 0 0 (Ad a)) 3 g a 0 0 σ 0 [(0, .ref (a 0)), (1, .int x1), (2, .int x2)] [] := by
  unfold M8_type at h
  refine z_iload_n (q := 1) F dX8_type_0 rfl rfl ?_
  obtain ⟨r1, σ1, hq1, h⟩ := bd_of h
  refine cl8_122 F hq1 ⟨Nat.le_of_ble_eq_true rfl, Nat.le_of_ble_eq_true rfl⟩ dX8_type_1 (Nat.le_of_ble_eq_true rfl) ?_
  refine z_if_eq (tgt := 19) F dX8_type_4 rfl (fun c2 => ?_) (fun c2 => ?_)
  · have h := ite_T c2 h
    refine z_bipush (v := (-2)) F dX8_type_19 rfl ?_
    exact z_iret F h dX8_type_21
  · have h := ite_F c2 h
    refine z_iload_n (q := 2) F dX8_type_7 rfl rfl ?_
    refine z_i2l F dX8_type_8 ?_
    refine z_lconst (v := 0) F dX8_type_9 rfl ?_
    refine z_ldc2 (v := 255) F dX8_type_10 (tbm 960 (by decide +kernel) rfl) ?_
    obtain ⟨r3, σ3, hq3, h⟩ := bd_of h
    refine cl8_94 F hq3 ⟨Nat.le_of_ble_eq_true rfl, Nat.le_of_ble_eq_true rfl⟩ dX8_type_13 (Nat.le_of_ble_eq_true rfl) ?_
    refine z_if_ne (tgt := 22) F dX8_type_16 rfl (fun c4 => ?_) (fun c4 => ?_)
    · have h := ite_F c4 h
      refine z_aload_n (q := 0) F dX8_type_22 rfl rfl ?_
      refine gf8_25 F kdc_0 dX8_type_23 ?_
      refine z_iload_n (q := 1) F dX8_type_26 rfl rfl ?_
      obtain ⟨g5, h⟩ := gd_of h
      refine z_iald F kdc_6 (inl lnc_6 g5) dX8_type_27 ?_
      refine z_bipush (v := 39) F dX8_type_28 rfl ?_
      refine z_icmp_ne (tgt := 36) F dX8_type_30 rfl (fun c6 => ?_) (fun c6 => ?_)
      · have h := ite_F c6 h
        refine z_aload_n (q := 0) F dX8_type_36 rfl rfl ?_
        refine gf8_22 F kdc_0 dX8_type_37 ?_
        refine z_bipush (v := 40) F dX8_type_40 rfl ?_
        refine z_iload_n (q := 1) F dX8_type_42 rfl rfl ?_
        refine z_imul F dX8_type_43 ?_
        refine z_aload_n (q := 0) F dX8_type_44 rfl rfl ?_
        refine gf8_25 F kdc_0 dX8_type_45 ?_
        refine z_iload_n (q := 1) F dX8_type_48 rfl rfl ?_
        refine z_iald F kdc_6 (inl lnc_6 g5) dX8_type_49 ?_
        refine z_iadd F dX8_type_50 ?_
        refine z_iload_n (q := 2) F dX8_type_51 rfl rfl ?_
        obtain ⟨g8, h⟩ := gd_of h
        refine z_iast F kdc_5 (inl lnc_5 g8) dX8_type_52 ?_
        refine z_let h (fun σ9 h => ?_)
        refine z_aload_n (q := 0) F dX8_type_53 rfl rfl ?_
        refine gf8_25 F kdc_0 dX8_type_54 ?_
        refine z_iload_n (q := 1) F dX8_type_57 rfl rfl ?_
        refine z_dup2 F dX8_type_58 rfl rfl ?_
        refine z_iald F kdc_6 (inl lnc_6 g5) dX8_type_59 ?_
        refine z_iconst (v := 1) F dX8_type_60 rfl ?_
        refine z_iadd F dX8_type_61 ?_
        refine z_iast F kdc_6 (inl lnc_6 g5) dX8_type_62 ?_
        refine z_let h (fun σ12 h => ?_)
        refine z_aload_n (q := 0) F dX8_type_63 rfl rfl ?_
        refine gf8_25 F kdc_0 dX8_type_64 ?_
        refine z_iload_n (q := 1) F dX8_type_67 rfl rfl ?_
        refine z_iald F kdc_6 (inl lnc_6 g5) dX8_type_68 ?_
        exact z_iret F h dX8_type_69
      · have h := ite_T c6 h
        refine z_bipush (v := (-4)) F dX8_type_33 rfl ?_
        exact z_iret F h dX8_type_35
    · have h := ite_T c4 h
      refine z_bipush (v := (-2)) F dX8_type_19 rfl ?_
      exact z_iret F h dX8_type_21
theorem ct8_type {r : Int32} {x1 : Int32} {x2 : Int32} {σ : St} (h : M8_type x1 x2 σ = some (r, σ')) : Met l yX8_type (wsY yX8_type cX8_type 3 (some .int)) (rmL 2) (PcW g a [.ref (a 0), .int x1, .int x2] σ) (QiW g a r σ') 0 0 (Ad a) :=
  ct_I (by decide) (Nat.le_of_ble_eq_true rfl) (fun p e s m args below meth c F => zM8_type F h)

theorem zM8_undo {r : Int32} {x1 : Int32} {σ : St} (F : Fx p s m args meth c cX8_undo 2 RX8 (some .int) (rmL 2) 0 0 g a) (h : M8_undo x1 σ = some (r, σ')) : Z p l e (rmL 2) s m args below meth c (MQ below (QiW g a r σ') args s 0 0 (Ad a)) 2 g a 0 0 σ 0 [(0, .ref (a 0)), (1, .int x1)] [] := by
  unfold M8_undo at h
  refine z_iload_n (q := 1) F dX8_undo_0 rfl rfl ?_
  obtain ⟨r1, σ1, hq1, h⟩ := bd_of h
  refine cl8_122 F hq1 ⟨Nat.le_of_ble_eq_true rfl, Nat.le_of_ble_eq_true rfl⟩ dX8_undo_1 (Nat.le_of_ble_eq_true rfl) ?_
  refine z_if_ne (tgt := 10) F dX8_undo_4 rfl (fun c2 => ?_) (fun c2 => ?_)
  · have h := ite_F c2 h
    refine z_aload_n (q := 0) F dX8_undo_10 rfl rfl ?_
    refine gf8_25 F kdc_0 dX8_undo_11 ?_
    refine z_iload_n (q := 1) F dX8_undo_14 rfl rfl ?_
    obtain ⟨g3, h⟩ := gd_of h
    refine z_iald F kdc_6 (inl lnc_6 g3) dX8_undo_15 ?_
    refine z_if_ne (tgt := 22) F dX8_undo_16 rfl (fun c4 => ?_) (fun c4 => ?_)
    · have h := ite_F c4 h
      refine z_aload_n (q := 0) F dX8_undo_22 rfl rfl ?_
      refine gf8_25 F kdc_0 dX8_undo_23 ?_
      refine z_iload_n (q := 1) F dX8_undo_26 rfl rfl ?_
      refine z_dup2 F dX8_undo_27 rfl rfl ?_
      refine z_iald F kdc_6 (inl lnc_6 g3) dX8_undo_28 ?_
      refine z_iconst (v := 1) F dX8_undo_29 rfl ?_
      refine z_isub F dX8_undo_30 ?_
      refine z_iast F kdc_6 (inl lnc_6 g3) dX8_undo_31 ?_
      refine z_let h (fun σ7 h => ?_)
      refine z_aload_n (q := 0) F dX8_undo_32 rfl rfl ?_
      refine gf8_25 F kdc_0 dX8_undo_33 ?_
      refine z_iload_n (q := 1) F dX8_undo_36 rfl rfl ?_
      refine z_iald F kdc_6 (inl lnc_6 g3) dX8_undo_37 ?_
      exact z_iret F h dX8_undo_38
    · have h := ite_T c4 h
      refine z_bipush (v := (-3)) F dX8_undo_19 rfl ?_
      exact z_iret F h dX8_undo_21
  · have h := ite_T c2 h
    refine z_bipush (v := (-2)) F dX8_undo_7 rfl ?_
    exact z_iret F h dX8_undo_9
theorem ct8_undo {r : Int32} {x1 : Int32} {σ : St} (h : M8_undo x1 σ = some (r, σ')) : Met l yX8_undo (wsY yX8_undo cX8_undo 2 (some .int)) (rmL 2) (PcW g a [.ref (a 0), .int x1] σ) (QiW g a r σ') 0 0 (Ad a) :=
  ct_I (by decide) (Nat.le_of_ble_eq_true rfl) (fun p e s m args below meth c F => zM8_undo F h)

theorem zM8_wipe {r : Int32} {x1 : Int32} {σ : St} (F : Fx p s m args meth c cX8_wipe 3 RX8 (some .int) (rmL 2) 0 0 g a) (h : M8_wipe x1 σ = some (r, σ')) : Z p l e (rmL 2) s m args below meth c (MQ below (QiW g a r σ') args s 0 0 (Ad a)) 3 g a 0 0 σ 0 [(0, .ref (a 0)), (1, .int x1)] [] := by
  unfold M8_wipe at h
  refine z_iload_n (q := 1) F dX8_wipe_0 rfl rfl ?_
  obtain ⟨r1, σ1, hq1, h⟩ := bd_of h
  refine cl8_122 F hq1 ⟨Nat.le_of_ble_eq_true rfl, Nat.le_of_ble_eq_true rfl⟩ dX8_wipe_1 (Nat.le_of_ble_eq_true rfl) ?_
  refine z_if_ne (tgt := 10) F dX8_wipe_4 rfl (fun c2 => ?_) (fun c2 => ?_)
  · have h := ite_F c2 h
    refine z_aload_n (q := 0) F dX8_wipe_10 rfl rfl ?_
    refine gf8_25 F kdc_0 dX8_wipe_11 ?_
    refine z_iload_n (q := 1) F dX8_wipe_14 rfl rfl ?_
    obtain ⟨g3, h⟩ := gd_of h
    refine z_iald F kdc_6 (inl lnc_6 g3) dX8_wipe_15 ?_
    refine z_letI h (fun v4 h => ?_)
    refine z_istore_n (lv' := [(2, .int v4), (0, .ref (a 0)), (1, .int x1)]) F dX8_wipe_16 rfl (by decide) rfl ?_
    refine z_aload_n (q := 1) F dX8_wipe_17 rfl rfl ?_
    refine gf8_25 F kdc_0 dX8_wipe_18 ?_
    refine z_iload_n (q := 2) F dX8_wipe_21 rfl rfl ?_
    refine z_iconst (v := 0) F dX8_wipe_22 rfl ?_
    refine z_iast F kdc_6 (inl lnc_6 g3) dX8_wipe_23 ?_
    refine z_let h (fun σ6 h => ?_)
    refine z_iload_n (q := 0) F dX8_wipe_24 rfl rfl ?_
    exact z_iret F h dX8_wipe_25
  · have h := ite_T c2 h
    refine z_bipush (v := (-2)) F dX8_wipe_7 rfl ?_
    exact z_iret F h dX8_wipe_9
theorem ct8_wipe {r : Int32} {x1 : Int32} {σ : St} (h : M8_wipe x1 σ = some (r, σ')) : Met l yX8_wipe (wsY yX8_wipe cX8_wipe 3 (some .int)) (rmL 2) (PcW g a [.ref (a 0), .int x1] σ) (QiW g a r σ') 0 0 (Ad a) :=
  ct_I (by decide) (Nat.le_of_ble_eq_true rfl) (fun p e s m args below meth c F => zM8_wipe F h)

theorem zM8_work {r : Int32} {x1 : Int32} {x2 : Int32} {σ : St} (F : Fx p s m args meth c cX8_work 3 RX8 (some .int) (rmL 4) 0 0 g a) (h : M8_work x1 x2 σ = some (r, σ')) : Z p l e (rmL 4) s m args below meth c (MQ below (QiW g a r σ') args s 0 0 (Ad a)) 3 g a 0 0 σ 0 [(0, .ref (a 0)), (1, .int x1), (2, .int x2)] [] := by
  unfold M8_work at h
  refine z_aload_n (q := 0) F dX8_work_0 rfl rfl ?_
  obtain ⟨r1, σ1, hq1, h⟩ := bd_of h
  refine cl8_142 F hq1 ⟨Nat.le_of_ble_eq_true rfl, Nat.le_of_ble_eq_true rfl⟩ dX8_work_1 (Nat.le_of_ble_eq_true rfl) ?_
  refine z_aload_n (q := 0) F dX8_work_4 rfl rfl ?_
  refine z_iload_n (q := 1) F dX8_work_5 rfl rfl ?_
  obtain ⟨r2, σ2, hq2, h⟩ := bd_of h
  refine cl8_148 F hq2 ⟨Nat.le_of_ble_eq_true rfl, Nat.le_of_ble_eq_true rfl⟩ dX8_work_6 (Nat.le_of_ble_eq_true rfl) ?_
  refine z_if_eq (tgt := 40) F dX8_work_9 rfl (fun c3 => ?_) (fun c3 => ?_)
  · have h := ite_T c3 h
    refine z_bipush (v := (-2)) F dX8_work_40 rfl ?_
    exact z_iret F h dX8_work_42
  · have h := ite_F c3 h
    refine z_iload_n (q := 2) F dX8_work_12 rfl rfl ?_
    refine z_i2l F dX8_work_13 ?_
    refine z_lconst (v := 0) F dX8_work_14 rfl ?_
    refine z_ldc2 (v := 3) F dX8_work_15 (tbm 920 (by decide +kernel) rfl) ?_
    obtain ⟨r4, σ4, hq4, h⟩ := bd_of h
    refine cl8_94 F hq4 ⟨Nat.le_of_ble_eq_true rfl, Nat.le_of_ble_eq_true rfl⟩ dX8_work_18 (Nat.le_of_ble_eq_true rfl) ?_
    refine z_if_eq (tgt := 40) F dX8_work_21 rfl (fun c5 => ?_) (fun c5 => ?_)
    · have h := ite_T c5 h
      refine z_bipush (v := (-2)) F dX8_work_40 rfl ?_
      exact z_iret F h dX8_work_42
    · have h := ite_F c5 h
      refine z_aload_n (q := 0) F dX8_work_24 rfl rfl ?_
      refine gf8_31 F kdc_0 dX8_work_25 ?_
      refine z_bipush (v := 32) F dX8_work_28 rfl ?_
      refine z_iconst (v := 4) F dX8_work_30 rfl ?_
      refine z_iload_n (q := 1) F dX8_work_31 rfl rfl ?_
      refine z_imul F dX8_work_32 ?_
      refine z_iadd F dX8_work_33 ?_
      refine z_iload_n (q := 2) F dX8_work_34 rfl rfl ?_
      refine z_iadd F dX8_work_35 ?_
      obtain ⟨g6, h⟩ := gd_of h
      refine z_iald F kdc_8 (inl lnc_8 g6) dX8_work_36 ?_
      refine z_goto (tgt := 42) F dX8_work_37 rfl ?_
      exact z_iret F h dX8_work_42
theorem ct8_work {r : Int32} {x1 : Int32} {x2 : Int32} {σ : St} (h : M8_work x1 x2 σ = some (r, σ')) : Met l yX8_work (wsY yX8_work cX8_work 3 (some .int)) (rmL 4) (PcW g a [.ref (a 0), .int x1, .int x2] σ) (QiW g a r σ') 0 0 (Ad a) :=
  ct_I (by decide) (Nat.le_of_ble_eq_true rfl) (fun p e s m args below meth c F => zM8_work F h)

theorem zM8_write_L60 {r : Int32} {x2 : Int32} {x3 : Int32} (F : Fx p s m args meth c cX8_write 5 RX8 (some .int) (rmL 5) 0 0 g a) {kx : St → Option (Int32 × St)} (hx : ∀ (σ : St), kx σ = some (r, σ') → Z p l e (rmL 5) s m args below meth c (MQ below (QiW g a r σ') args s 0 0 (Ad a)) 5 g a 0 0 σ 99 [(3, .int x3)] []) : ∀ (n : Nat) (x4 : Int32) (σ : St), M8_write_L60 x2 x3 kx n x4 σ = some (r, σ') → Z p l e (rmL 5) s m args below meth c (MQ below (QiW g a r σ') args s 0 0 (Ad a)) 5 g a 0 0 σ 60 [(0, .ref (a 0)), (2, .int x2), (3, .int x3), (4, .int x4)] [] := by
  intro n
  induction n with
  | zero => intro x4 σ h; rw [M8_write_L60] at h; cases h
  | succ n ih =>
    intro x4 σ h
    rw [M8_write_L60] at h
    refine z_iload (q := 3) F dX8_write_60 rfl ?_
    refine z_iload_n (q := 2) F dX8_write_62 rfl rfl ?_
    refine z_icmp_ge (tgt := 99) F dX8_write_63 rfl (fun c12 => ?_) (fun c12 => ?_)
    · have h := ite_T c12 h
      refine z_sub (lv' := [(3, .int x3)]) [2] rfl ?_
      exact hx _ h
    · have h := ite_F c12 h
      refine z_aload_n (q := 0) F dX8_write_66 rfl rfl ?_
      refine gf8_16 F kdc_0 dX8_write_67 ?_
      refine z_bipush (v := 60) F dX8_write_70 rfl ?_
      refine z_iload_n (q := 1) F dX8_write_72 rfl rfl ?_
      refine z_imul F dX8_write_73 ?_
      refine z_iload (q := 3) F dX8_write_74 rfl ?_
      refine z_iadd F dX8_write_76 ?_
      refine z_aload_n (q := 0) F dX8_write_77 rfl rfl ?_
      refine gf8_7 F kdc_0 dX8_write_78 ?_
      refine z_iload_n (q := 1) F dX8_write_81 rfl rfl ?_
      obtain ⟨g13, h⟩ := gd_of h
      refine z_iald F kdc_1 (inl lnc_1 g13) dX8_write_82 ?_
      refine z_aload_n (q := 0) F dX8_write_83 rfl rfl ?_
      refine z_iload (q := 3) F dX8_write_84 rfl ?_
      obtain ⟨r14, σ14, hq14, h⟩ := bd_of h
      refine cl8_279 F hq14 ⟨Nat.le_of_ble_eq_true rfl, Nat.le_of_ble_eq_true rfl⟩ dX8_write_86 (Nat.le_of_ble_eq_true rfl) ?_
      obtain ⟨r15, σ15, hq15, h⟩ := bd_of h
      refine cl8_117 F hq15 ⟨Nat.le_of_ble_eq_true rfl, Nat.le_of_ble_eq_true rfl⟩ dX8_write_89 (Nat.le_of_ble_eq_true rfl) ?_
      obtain ⟨g16, h⟩ := gd_of h
      refine z_iast F kdc_3 (inl lnc_3 g16) dX8_write_92 ?_
      refine z_let h (fun σ17 h => ?_)
      refine z_iinc (q := 3) (v := x4 + 1) (lv' := [(4, .int (x4 + 1)), (0, .ref (a 0)), (2, .int x2), (3, .int x3)]) F dX8_write_93 rfl rfl (by decide) rfl ?_
      refine z_letL (s0 := 4) (lv := [(0, .ref (a 0)), (2, .int x2), (3, .int x3)]) h (fun v18 h => ?_)
      refine z_goto (tgt := 60) F dX8_write_96 rfl ?_
      refine z_sub (lv' := [(0, .ref (a 0)), (2, .int x2), (3, .int x3), (4, .int v18)]) [1, 2, 3, 0] rfl ?_
      exact ih _ _ h
theorem zM8_write {r : Int32} {x1 : Int32} {x2 : Int32} {σ : St} (F : Fx p s m args meth c cX8_write 5 RX8 (some .int) (rmL 5) 0 0 g a) (h : M8_write x1 x2 σ = some (r, σ')) : Z p l e (rmL 5) s m args below meth c (MQ below (QiW g a r σ') args s 0 0 (Ad a)) 5 g a 0 0 σ 0 [(0, .ref (a 0)), (1, .int x1), (2, .int x2)] [] := by
  unfold M8_write at h
  refine z_iload_n (q := 1) F dX8_write_0 rfl rfl ?_
  obtain ⟨r1, σ1, hq1, h⟩ := bd_of h
  refine cl8_154 F hq1 ⟨Nat.le_of_ble_eq_true rfl, Nat.le_of_ble_eq_true rfl⟩ dX8_write_1 (Nat.le_of_ble_eq_true rfl) ?_
  refine z_if_eq (tgt := 14) F dX8_write_4 rfl (fun c2 => ?_) (fun c2 => ?_)
  · have h := ite_T c2 h
    refine z_bipush (v := (-2)) F dX8_write_14 rfl ?_
    exact z_iret F h dX8_write_16
  · have h := ite_F c2 h
    refine z_iload_n (q := 2) F dX8_write_7 rfl rfl ?_
    obtain ⟨r3, σ3, hq3, h⟩ := bd_of h
    refine cl8_103 F hq3 ⟨Nat.le_of_ble_eq_true rfl, Nat.le_of_ble_eq_true rfl⟩ dX8_write_8 (Nat.le_of_ble_eq_true rfl) ?_
    refine z_if_ne (tgt := 17) F dX8_write_11 rfl (fun c4 => ?_) (fun c4 => ?_)
    · have h := ite_F c4 h
      refine z_aload_n (q := 0) F dX8_write_17 rfl rfl ?_
      refine gf8_7 F kdc_0 dX8_write_18 ?_
      refine z_iload_n (q := 2) F dX8_write_21 rfl rfl ?_
      obtain ⟨g5, h⟩ := gd_of h
      refine z_iald F kdc_1 (inl lnc_1 g5) dX8_write_22 ?_
      refine z_if_ge (tgt := 32) F dX8_write_23 rfl (fun c6 => ?_) (fun c6 => ?_)
      · have h := ite_T c6 h
        refine z_aload_n (q := 0) F dX8_write_32 rfl rfl ?_
        obtain ⟨r7, σ7, hq7, h⟩ := bd_of h
        refine cl8_142 F hq7 ⟨Nat.le_of_ble_eq_true rfl, Nat.le_of_ble_eq_true rfl⟩ dX8_write_33 (Nat.le_of_ble_eq_true rfl) ?_
        refine z_aload_n (q := 0) F dX8_write_36 rfl rfl ?_
        refine z_iload_n (q := 1) F dX8_write_37 rfl rfl ?_
        obtain ⟨r8, σ8, hq8, h⟩ := bd_of h
        refine cl8_218 F hq8 ⟨Nat.le_of_ble_eq_true rfl, Nat.le_of_ble_eq_true rfl⟩ dX8_write_38 (Nat.le_of_ble_eq_true rfl) ?_
        refine z_aload_n (q := 0) F dX8_write_41 rfl rfl ?_
        refine gf8_13 F kdc_0 dX8_write_42 ?_
        refine z_iload_n (q := 2) F dX8_write_45 rfl rfl ?_
        refine z_iald F kdc_2 (inl lnc_2 g5) dX8_write_46 ?_
        refine z_aload_n (q := 0) F dX8_write_47 rfl rfl ?_
        refine gf8_28 F kdc_0 dX8_write_48 ?_
        refine z_iconst (v := 0) F dX8_write_51 rfl ?_
        refine z_ialdC (j := 0) F kdc_7 (inl lnc_7 (by decide)) (by decide) dX8_write_52 ?_
        obtain ⟨r11, σ11, hq11, h⟩ := bd_of h
        refine cl8_189 F hq11 ⟨Nat.le_of_ble_eq_true rfl, Nat.le_of_ble_eq_true rfl⟩ dX8_write_53 (Nat.le_of_ble_eq_true rfl) ?_
        refine z_istore_n (lv' := [(3, .int r11), (0, .ref (a 0)), (1, .int x1), (2, .int x2)]) F dX8_write_56 rfl (by decide) rfl ?_
        refine z_iconst (v := 0) F dX8_write_57 rfl ?_
        refine z_istore (lv' := [(4, .int 0), (3, .int r11), (0, .ref (a 0)), (1, .int x1), (2, .int x2)]) F dX8_write_58 (by decide) rfl ?_
        refine z_sub (lv' := [(0, .ref (a 0)), (2, .int x2), (3, .int r11), (4, .int 0)]) [2, 4, 1, 0] rfl ?_
        refine zM8_write_L60 F ?_ _ _ _ h
        intro σ19 h
        refine z_iload_n (q := 0) F dX8_write_99 rfl rfl ?_
        exact z_iret F h dX8_write_100
      · have h := ite_F c6 h
        refine z_aload_n (q := 0) F dX8_write_26 rfl rfl ?_
        refine z_iconst (v := 1) F dX8_write_27 rfl ?_
        obtain ⟨r20, σ20, hq20, h⟩ := bd_of h
        refine cl8_109 F hq20 ⟨Nat.le_of_ble_eq_true rfl, Nat.le_of_ble_eq_true rfl⟩ dX8_write_28 (Nat.le_of_ble_eq_true rfl) ?_
        exact z_iret F h dX8_write_31
    · have h := ite_T c4 h
      refine z_bipush (v := (-2)) F dX8_write_14 rfl ?_
      exact z_iret F h dX8_write_16
theorem ct8_write {r : Int32} {x1 : Int32} {x2 : Int32} {σ : St} (h : M8_write x1 x2 σ = some (r, σ')) : Met l yX8_write (wsY yX8_write cX8_write 5 (some .int)) (rmL 5) (PcW g a [.ref (a 0), .int x1, .int x2] σ) (QiW g a r σ') 0 0 (Ad a) :=
  ct_I (by decide) (Nat.le_of_ble_eq_true rfl) (fun p e s m args below meth c F => zM8_write F h)

theorem zMJ0_coder_7d493 {r : Int32} {o0 : Nat} {σ : St} (F : Fx p s m args meth c cJ0_coder_7d493 1 RJ0 (some .byte) (rmL 0) 0 0 g a) (ko0 : isStr o0) (h : MJ0_coder_7d493 o0 σ = some (r, σ')) : Z p l e (rmL 0) s m args below meth c (MQ below (QiW g a r σ') args s 0 0 (Ad a)) 1 g a 0 0 σ 0 [(0, .ref (a o0))] [] := by
  unfold MJ0_coder_7d493 at h
  refine z_compact F dJ0_coder_7d493_0 ?_
  refine z_if_eq (tgt := 13) F dJ0_coder_7d493_3 rfl (fun c1 => ?_) (fun c1 => ?_)
  · exact absurd c1 (by decide)
  · skip
    refine z_aload_n (q := 0) F dJ0_coder_7d493_6 rfl rfl ?_
    refine z_scoder F ko0 dJ0_coder_7d493_7 ?_
    refine z_goto (tgt := 14) F dJ0_coder_7d493_10 rfl ?_
    exact z_yret F (by first | exact Or.inl rfl | exact Or.inr rfl) h dJ0_coder_7d493_14
theorem ctJ0_coder_7d493 {r : Int32} {o0 : Nat} {σ : St} (ko0 : isStr o0) (h : MJ0_coder_7d493 o0 σ = some (r, σ')) : Met l yJ0_coder_7d493 (wsY yJ0_coder_7d493 cJ0_coder_7d493 1 (some .byte)) (rmL 0) (PcW g a [.ref (a o0)] σ) (QiW g a r σ') 0 0 (Ad a) :=
  ct_I (by decide) (Nat.le_of_ble_eq_true rfl) (fun p e s m args below meth c F => zMJ0_coder_7d493 F ko0 h)
theorem clJ0_335 {r : Int32} {o0 : Nat} (F : Fx p s m args meth c cc nL RJ0 rt R cz sz g a) (ko0 : isStr o0) (h : MJ0_coder_7d493 o0 σ = some (r, σ1)) (hR : 0 + 1 ≤ R.frames ∧ 8 + (1 + 11) + 34 * 0 ≤ R.locals) (d : decode cc pc = .ok (.invokevirtual 335, 3)) (hrm : (rest.map fun v => v.category).sum ≤ 8) (z : Z p l e R s m args below meth c Q nL g a cz sz σ1 (pc + 3) lv (.int r :: rest)) : Z p l e R s m args below meth c Q nL g a cz sz σ pc lv (.ref (a o0) :: rest) :=
  z_callVs (nA := 0) (As := []) F (ctJ0_coder_7d493 ko0 h) ⟨(tbm 314 (by decide +kernel) rfl), (tbm 315 (by decide +kernel) rfl), (tbm 316 (by decide +kernel) rfl), (tbm 10 (by decide +kernel) rfl), (tbm 317 (by decide +kernel) rfl)⟩ (by decide +kernel) rfl ko0 hR d rfl hrm z
theorem zMJ0_isLatin1_aae02 {r : Int32} {o0 : Nat} {σ : St} (F : Fx p s m args meth c cJ0_isLatin1_aae02 1 RJ0 (some .boolean) (rmL 0) 0 0 g a) (ko0 : isStr o0) (h : MJ0_isLatin1_aae02 o0 σ = some (r, σ')) : Z p l e (rmL 0) s m args below meth c (MQ below (QiW g a r σ') args s 0 0 (Ad a)) 1 g a 0 0 σ 0 [(0, .ref (a o0))] [] := by
  unfold MJ0_isLatin1_aae02 at h
  refine z_compact F dJ0_isLatin1_aae02_0 ?_
  refine z_if_eq (tgt := 17) F dJ0_isLatin1_aae02_3 rfl (fun c1 => ?_) (fun c1 => ?_)
  · exact absurd c1 (by decide)
  · skip
    refine z_aload_n (q := 0) F dJ0_isLatin1_aae02_6 rfl rfl ?_
    refine z_scoder F ko0 dJ0_isLatin1_aae02_7 ?_
    refine z_if_ne (tgt := 17) F dJ0_isLatin1_aae02_10 rfl (fun c2 => ?_) (fun c2 => ?_)
    · exact absurd c2 (by decide)
    · skip
      refine z_iconst (v := 1) F dJ0_isLatin1_aae02_13 rfl ?_
      refine z_goto (tgt := 18) F dJ0_isLatin1_aae02_14 rfl ?_
      exact z_bret F (by first | exact Or.inl rfl | exact Or.inr rfl) h dJ0_isLatin1_aae02_18
theorem ctJ0_isLatin1_aae02 {r : Int32} {o0 : Nat} {σ : St} (ko0 : isStr o0) (h : MJ0_isLatin1_aae02 o0 σ = some (r, σ')) : Met l yJ0_isLatin1_aae02 (wsY yJ0_isLatin1_aae02 cJ0_isLatin1_aae02 1 (some .boolean)) (rmL 0) (PcW g a [.ref (a o0)] σ) (QiW g a r σ') 0 0 (Ad a) :=
  ct_I (by decide) (Nat.le_of_ble_eq_true rfl) (fun p e s m args below meth c F => zMJ0_isLatin1_aae02 F ko0 h)
theorem clJ0_492 {r : Int32} {o0 : Nat} (F : Fx p s m args meth c cc nL RJ0 rt R cz sz g a) (ko0 : isStr o0) (h : MJ0_isLatin1_aae02 o0 σ = some (r, σ1)) (hR : 0 + 1 ≤ R.frames ∧ 8 + (1 + 11) + 34 * 0 ≤ R.locals) (d : decode cc pc = .ok (.invokevirtual 492, 3)) (hrm : (rest.map fun v => v.category).sum ≤ 8) (z : Z p l e R s m args below meth c Q nL g a cz sz σ1 (pc + 3) lv (.int r :: rest)) : Z p l e R s m args below meth c Q nL g a cz sz σ pc lv (.ref (a o0) :: rest) :=
  z_callVs (nA := 0) (As := []) F (ctJ0_isLatin1_aae02 ko0 h) ⟨(tbm 304 (by decide +kernel) rfl), (tbm 305 (by decide +kernel) rfl), (tbm 306 (by decide +kernel) rfl), (tbm 10 (by decide +kernel) rfl), (tbm 307 (by decide +kernel) rfl)⟩ (by decide +kernel) rfl ko0 hR d rfl hrm z
theorem zMJ0_length_8abf5 {r : Int32} {o0 : Nat} {σ : St} (F : Fx p s m args meth c cJ0_length_8abf5 1 RJ0 (some .int) (rmL 1) 0 0 g a) (ko0 : isStr o0) (h : MJ0_length_8abf5 o0 σ = some (r, σ')) : Z p l e (rmL 1) s m args below meth c (MQ below (QiW g a r σ') args s 0 0 (Ad a)) 1 g a 0 0 σ 0 [(0, .ref (a o0))] [] := by
  unfold MJ0_length_8abf5 at h
  refine z_aload_n (q := 0) F dJ0_length_8abf5_0 rfl rfl ?_
  refine z_svalue F ko0 dJ0_length_8abf5_1 ?_
  refine z_blen F (byt_of ko0) dJ0_length_8abf5_4 ?_
  refine z_aload_n (q := 0) F dJ0_length_8abf5_5 rfl rfl ?_
  obtain ⟨r1, σ1, hq1, h⟩ := bd_of h
  refine clJ0_335 F ko0 hq1 ⟨Nat.le_of_ble_eq_true rfl, Nat.le_of_ble_eq_true rfl⟩ dJ0_length_8abf5_6 (Nat.le_of_ble_eq_true rfl) ?_
  refine z_ishr F dJ0_length_8abf5_9 ?_
  exact z_iret F h dJ0_length_8abf5_10
theorem ctJ0_length_8abf5 {r : Int32} {o0 : Nat} {σ : St} (ko0 : isStr o0) (h : MJ0_length_8abf5 o0 σ = some (r, σ')) : Met l yJ0_length_8abf5 (wsY yJ0_length_8abf5 cJ0_length_8abf5 1 (some .int)) (rmL 1) (PcW g a [.ref (a o0)] σ) (QiW g a r σ') 0 0 (Ad a) :=
  ct_I (by decide) (Nat.le_of_ble_eq_true rfl) (fun p e s m args below meth c F => zMJ0_length_8abf5 F ko0 h)
theorem clJ0_505 {r : Int32} {o0 : Nat} (F : Fx p s m args meth c cc nL RJ0 rt R cz sz g a) (ko0 : isStr o0) (h : MJ0_length_8abf5 o0 σ = some (r, σ1)) (hR : 1 + 1 ≤ R.frames ∧ 8 + (1 + 11) + 34 * 1 ≤ R.locals) (d : decode cc pc = .ok (.invokevirtual 505, 3)) (hrm : (rest.map fun v => v.category).sum ≤ 8) (z : Z p l e R s m args below meth c Q nL g a cz sz σ1 (pc + 3) lv (.int r :: rest)) : Z p l e R s m args below meth c Q nL g a cz sz σ pc lv (.ref (a o0) :: rest) :=
  z_callVs (nA := 0) (As := []) F (ctJ0_length_8abf5 ko0 h) ⟨(tbm 310 (by decide +kernel) rfl), (tbm 311 (by decide +kernel) rfl), (tbm 312 (by decide +kernel) rfl), (tbm 10 (by decide +kernel) rfl), (tbm 313 (by decide +kernel) rfl)⟩ (by decide +kernel) rfl ko0 hR d rfl hrm z
theorem zMJ1_canEncode_9a6ad {r : Int32} {x0 : Int32} {σ : St} (F : Fx p s m args meth c cJ1_canEncode_9a6ad 1 RJ1 (some .boolean) (rmL 0) 0 0 g a) (h : MJ1_canEncode_9a6ad x0 σ = some (r, σ')) : Z p l e (rmL 0) s m args below meth c (MQ below (QiW g a r σ') args s 0 0 (Ad a)) 1 g a 0 0 σ 0 [(0, .int x0)] [] := by
  unfold MJ1_canEncode_9a6ad at h
  refine z_iload_n (q := 0) F dJ1_canEncode_9a6ad_0 rfl rfl ?_
  refine z_if_lt (tgt := 15) F dJ1_canEncode_9a6ad_1 rfl (fun c1 => ?_) (fun c1 => ?_)
  · try simp only [if_pos c1] at h
    refine z_iconst (v := 0) F dJ1_canEncode_9a6ad_15 rfl ?_
    exact z_bret F (by first | exact Or.inl rfl | exact Or.inr rfl) h dJ1_canEncode_9a6ad_16
  · try simp only [if_neg c1] at h
    refine z_iload_n (q := 0) F dJ1_canEncode_9a6ad_4 rfl rfl ?_
    refine z_sipush (v := 255) F dJ1_canEncode_9a6ad_5 rfl ?_
    refine z_icmp_gt (tgt := 15) F dJ1_canEncode_9a6ad_8 rfl (fun c2 => ?_) (fun c2 => ?_)
    · try simp only [if_pos c2] at h
      refine z_iconst (v := 0) F dJ1_canEncode_9a6ad_15 rfl ?_
      exact z_bret F (by first | exact Or.inl rfl | exact Or.inr rfl) h dJ1_canEncode_9a6ad_16
    · try simp only [if_neg c2] at h
      refine z_iconst (v := 1) F dJ1_canEncode_9a6ad_11 rfl ?_
      refine z_goto (tgt := 16) F dJ1_canEncode_9a6ad_12 rfl ?_
      exact z_bret F (by first | exact Or.inl rfl | exact Or.inr rfl) h dJ1_canEncode_9a6ad_16
theorem ctJ1_canEncode_9a6ad {r : Int32} {x0 : Int32} {σ : St} (h : MJ1_canEncode_9a6ad x0 σ = some (r, σ')) : Met l yJ1_canEncode_9a6ad (wsY yJ1_canEncode_9a6ad cJ1_canEncode_9a6ad 1 (some .boolean)) (rmL 0) (PcW g a [.int x0] σ) (QiW g a r σ') 0 0 (Ad a) :=
  ct_I (by decide) (Nat.le_of_ble_eq_true rfl) (fun p e s m args below meth c F => zMJ1_canEncode_9a6ad F h)
theorem clJ1_88 {r : Int32} {x0 : Int32} (F : Fx p s m args meth c cc nL RJ1 rt R cz sz g a) (h : MJ1_canEncode_9a6ad x0 σ = some (r, σ1)) (hR : 0 + 1 ≤ R.frames ∧ 8 + (1 + 11) + 34 * 0 ≤ R.locals) (d : decode cc pc = .ok (.invokestatic 88, 3)) (hrm : (rest.map fun v => v.category).sum ≤ 8) (z : Z p l e R s m args below meth c Q nL g a cz sz σ1 (pc + 3) lv (.int r :: rest)) : Z p l e R s m args below meth c Q nL g a cz sz σ pc lv (.int x0 :: rest) :=
  z_callSI (nA := 1) (As := [.int x0]) F (ctJ1_canEncode_9a6ad h) ⟨(tbm 321 (by decide +kernel) rfl), (tbm 322 (by decide +kernel) rfl), (tbm 11 (by decide +kernel) rfl), (tbm 323 (by decide +kernel) rfl)⟩ (by decide +kernel) rfl hR d rfl hrm z
theorem zMJ1_indexOfChar_4cfef_L7 {r : Int32} {o0 : Nat} {x3 : Int32} {x4 : Int32} (F : Fx p s m args meth c cJ1_indexOfChar_4cfef 6 RJ1 (some .int) (rmL 0) 0 0 g a) (ko0 : isByt o0) {kx : St → Option (Int32 × St)} (hx : ∀ (σ : St), kx σ = some (r, σ') → Z p l e (rmL 0) s m args below meth c (MQ below (QiW g a r σ') args s 0 0 (Ad a)) 6 g a 0 0 σ 31 [] []) : ∀ (n : Nat) (x5 : Int32) (σ : St), MJ1_indexOfChar_4cfef_L7 o0 x3 x4 kx n x5 σ = some (r, σ') → Z p l e (rmL 0) s m args below meth c (MQ below (QiW g a r σ') args s 0 0 (Ad a)) 6 g a 0 0 σ 7 [(0, .ref (a o0)), (3, .int x3), (4, .int x4), (5, .int x5)] [] := by
  intro n
  induction n with
  | zero => intro x5 σ h; rw [MJ1_indexOfChar_4cfef_L7] at h; cases h
  | succ n ih =>
    intro x5 σ h
    rw [MJ1_indexOfChar_4cfef_L7] at h
    refine z_iload (q := 3) F dJ1_indexOfChar_4cfef_7 rfl ?_
    refine z_iload_n (q := 1) F dJ1_indexOfChar_4cfef_9 rfl rfl ?_
    refine z_icmp_ge (tgt := 31) F dJ1_indexOfChar_4cfef_10 rfl (fun c1 => ?_) (fun c1 => ?_)
    · have h := ite_T c1 h
      refine z_sub (lv' := []) [] rfl ?_
      exact hx _ h
    · have h := ite_F c1 h
      refine z_aload_n (q := 0) F dJ1_indexOfChar_4cfef_13 rfl rfl ?_
      refine z_iload (q := 3) F dJ1_indexOfChar_4cfef_14 rfl ?_
      obtain ⟨g2, h⟩ := gd_of h
      refine z_bald F ko0 (inb_in g2) dJ1_indexOfChar_4cfef_16 ?_
      refine z_iload (q := 2) F dJ1_indexOfChar_4cfef_17 rfl ?_
      refine z_icmp_ne (tgt := 25) F dJ1_indexOfChar_4cfef_19 rfl (fun c3 => ?_) (fun c3 => ?_)
      · have h := ite_F c3 h
        refine z_iinc (q := 3) (v := x5 + 1) (lv' := [(5, .int (x5 + 1)), (0, .ref (a o0)), (3, .int x3), (4, .int x4)]) F dJ1_indexOfChar_4cfef_25 rfl rfl (by decide) rfl ?_
        refine z_letL (s0 := 5) (lv := [(0, .ref (a o0)), (3, .int x3), (4, .int x4)]) h (fun v4 h => ?_)
        refine z_goto (tgt := 7) F dJ1_indexOfChar_4cfef_28 rfl ?_
        refine z_sub (lv' := [(0, .ref (a o0)), (3, .int x3), (4, .int x4), (5, .int v4)]) [1, 2, 3, 0] rfl ?_
        exact ih _ _ h
      · have h := ite_T c3 h
        refine z_iload (q := 3) F dJ1_indexOfChar_4cfef_22 rfl ?_
        exact z_iret F h dJ1_indexOfChar_4cfef_24
theorem zMJ1_indexOfChar_4cfef {r : Int32} {o0 : Nat} {x1 : Int32} {x2 : Int32} {x3 : Int32} {σ : St} (F : Fx p s m args meth c cJ1_indexOfChar_4cfef 6 RJ1 (some .int) (rmL 0) 0 0 g a) (ko0 : isByt o0) (h : MJ1_indexOfChar_4cfef o0 x1 x2 x3 σ = some (r, σ')) : Z p l e (rmL 0) s m args below meth c (MQ below (QiW g a r σ') args s 0 0 (Ad a)) 6 g a 0 0 σ 0 [(0, .ref (a o0)), (1, .int x1), (2, .int x2), (3, .int x3)] [] := by
  unfold MJ1_indexOfChar_4cfef at h
  refine z_iload_n (q := 1) F dJ1_indexOfChar_4cfef_0 rfl rfl ?_
  refine z_i2b F dJ1_indexOfChar_4cfef_1 ?_
  refine z_istore (lv' := [(4, .int x1.toInt8.toInt32), (0, .ref (a o0)), (1, .int x1), (2, .int x2), (3, .int x3)]) F dJ1_indexOfChar_4cfef_2 (by decide) rfl ?_
  refine z_iload_n (q := 3) F dJ1_indexOfChar_4cfef_4 rfl rfl ?_
  refine z_istore (lv' := [(5, .int x2), (4, .int x1.toInt8.toInt32), (0, .ref (a o0)), (1, .int x1), (2, .int x2), (3, .int x3)]) F dJ1_indexOfChar_4cfef_5 (by decide) rfl ?_
  refine z_sub (lv' := [(0, .ref (a o0)), (3, .int x3), (4, .int x1.toInt8.toInt32), (5, .int x2)]) [2, 5, 1, 0] rfl ?_
  refine zMJ1_indexOfChar_4cfef_L7 F ko0 ?_ _ _ _ h
  intro σ5 h
  refine z_iconst (v := (-1)) F dJ1_indexOfChar_4cfef_31 rfl ?_
  exact z_iret F h dJ1_indexOfChar_4cfef_32
theorem ctJ1_indexOfChar_4cfef {r : Int32} {o0 : Nat} {x1 : Int32} {x2 : Int32} {x3 : Int32} {σ : St} (ko0 : isByt o0) (h : MJ1_indexOfChar_4cfef o0 x1 x2 x3 σ = some (r, σ')) : Met l yJ1_indexOfChar_4cfef (wsY yJ1_indexOfChar_4cfef cJ1_indexOfChar_4cfef 6 (some .int)) (rmL 0) (PcW g a [.ref (a o0), .int x1, .int x2, .int x3] σ) (QiW g a r σ') 0 0 (Ad a) :=
  ct_I (by decide) (Nat.le_of_ble_eq_true rfl) (fun p e s m args below meth c F => zMJ1_indexOfChar_4cfef F ko0 h)
theorem clJ1_95 {r : Int32} {o0 : Nat} {x1 : Int32} {x2 : Int32} {x3 : Int32} (F : Fx p s m args meth c cc nL RJ1 rt R cz sz g a) (ko0 : isByt o0) (h : MJ1_indexOfChar_4cfef o0 x1 x2 x3 σ = some (r, σ1)) (hR : 0 + 1 ≤ R.frames ∧ 8 + (6 + 11) + 34 * 0 ≤ R.locals) (d : decode cc pc = .ok (.invokestatic 95, 3)) (hrm : (rest.map fun v => v.category).sum ≤ 8) (z : Z p l e R s m args below meth c Q nL g a cz sz σ1 (pc + 3) lv (.int r :: rest)) : Z p l e R s m args below meth c Q nL g a cz sz σ pc lv (.int x3 :: .int x2 :: .int x1 :: .ref (a o0) :: rest) :=
  z_callSI (nA := 4) (As := [.ref (a o0), .int x1, .int x2, .int x3]) F (ctJ1_indexOfChar_4cfef ko0 h) ⟨(tbm 330 (by decide +kernel) rfl), (tbm 331 (by decide +kernel) rfl), (tbm 11 (by decide +kernel) rfl), (tbm 332 (by decide +kernel) rfl)⟩ (by decide +kernel) rfl hR d rfl hrm z
theorem zMJ1_indexOf_4cfef {r : Int32} {o0 : Nat} {x1 : Int32} {x2 : Int32} {x3 : Int32} {σ : St} (F : Fx p s m args meth c cJ1_indexOf_4cfef 4 RJ1 (some .int) (rmL 1) 0 0 g a) (ko0 : isByt o0) (h : MJ1_indexOf_4cfef o0 x1 x2 x3 σ = some (r, σ')) : Z p l e (rmL 1) s m args below meth c (MQ below (QiW g a r σ') args s 0 0 (Ad a)) 4 g a 0 0 σ 0 [(0, .ref (a o0)), (1, .int x1), (2, .int x2), (3, .int x3)] [] := by
  unfold MJ1_indexOf_4cfef at h
  refine z_iload_n (q := 1) F dJ1_indexOf_4cfef_0 rfl rfl ?_
  obtain ⟨r1, σ1, hq1, h⟩ := bd_of h
  refine clJ1_88 F hq1 ⟨Nat.le_of_ble_eq_true rfl, Nat.le_of_ble_eq_true rfl⟩ dJ1_indexOf_4cfef_1 (Nat.le_of_ble_eq_true rfl) ?_
  refine z_if_ne (tgt := 9) F dJ1_indexOf_4cfef_4 rfl (fun c2 => ?_) (fun c2 => ?_)
  · have h := ite_F c2 h
    refine z_iload_n (q := 2) F dJ1_indexOf_4cfef_9 rfl rfl ?_
    refine z_iconst (v := 0) F dJ1_indexOf_4cfef_10 rfl ?_
    refine z_mmax F (tbm 324 (by decide +kernel) rfl) (tbm 325 (by decide +kernel) rfl) (tbm 12 (by decide +kernel) rfl) (tbm 326 (by decide +kernel) rfl) (Nat.le_of_ble_eq_true rfl) (Nat.le_of_ble_eq_true rfl) dJ1_indexOf_4cfef_11 ?_
    refine z_letI h (fun v3 h => ?_)
    refine z_istore_n (lv' := [(2, .int v3), (0, .ref (a o0)), (1, .int x1), (3, .int x3)]) F dJ1_indexOf_4cfef_14 rfl (by decide) rfl ?_
    refine z_iload_n (q := 3) F dJ1_indexOf_4cfef_15 rfl rfl ?_
    refine z_aload_n (q := 1) F dJ1_indexOf_4cfef_16 rfl rfl ?_
    refine z_blen F ko0 dJ1_indexOf_4cfef_17 ?_
    refine z_mmin F (tbm 327 (by decide +kernel) rfl) (tbm 328 (by decide +kernel) rfl) (tbm 12 (by decide +kernel) rfl) (tbm 329 (by decide +kernel) rfl) (Nat.le_of_ble_eq_true rfl) (Nat.le_of_ble_eq_true rfl) dJ1_indexOf_4cfef_18 ?_
    refine z_letI h (fun v4 h => ?_)
    refine z_istore_n (lv' := [(3, .int v4), (2, .int v3), (0, .ref (a o0)), (1, .int x1)]) F dJ1_indexOf_4cfef_21 rfl (by decide) rfl ?_
    refine z_iload_n (q := 1) F dJ1_indexOf_4cfef_22 rfl rfl ?_
    refine z_iload_n (q := 0) F dJ1_indexOf_4cfef_23 rfl rfl ?_
    refine z_icmp_lt (tgt := 29) F dJ1_indexOf_4cfef_24 rfl (fun c5 => ?_) (fun c5 => ?_)
    · have h := ite_T c5 h
      refine z_aload_n (q := 2) F dJ1_indexOf_4cfef_29 rfl rfl ?_
      refine z_iload_n (q := 3) F dJ1_indexOf_4cfef_30 rfl rfl ?_
      refine z_iload_n (q := 1) F dJ1_indexOf_4cfef_31 rfl rfl ?_
      refine z_iload_n (q := 0) F dJ1_indexOf_4cfef_32 rfl rfl ?_
      obtain ⟨r6, σ6, hq6, h⟩ := bd_of h
      refine clJ1_95 F ko0 hq6 ⟨Nat.le_of_ble_eq_true rfl, Nat.le_of_ble_eq_true rfl⟩ dJ1_indexOf_4cfef_33 (Nat.le_of_ble_eq_true rfl) ?_
      exact z_iret F h dJ1_indexOf_4cfef_36
    · have h := ite_F c5 h
      refine z_iconst (v := (-1)) F dJ1_indexOf_4cfef_27 rfl ?_
      exact z_iret F h dJ1_indexOf_4cfef_28
  · have h := ite_T c2 h
    refine z_iconst (v := (-1)) F dJ1_indexOf_4cfef_7 rfl ?_
    exact z_iret F h dJ1_indexOf_4cfef_8
theorem ctJ1_indexOf_4cfef {r : Int32} {o0 : Nat} {x1 : Int32} {x2 : Int32} {x3 : Int32} {σ : St} (ko0 : isByt o0) (h : MJ1_indexOf_4cfef o0 x1 x2 x3 σ = some (r, σ')) : Met l yJ1_indexOf_4cfef (wsY yJ1_indexOf_4cfef cJ1_indexOf_4cfef 4 (some .int)) (rmL 1) (PcW g a [.ref (a o0), .int x1, .int x2, .int x3] σ) (QiW g a r σ') 0 0 (Ad a) :=
  ct_I (by decide) (Nat.le_of_ble_eq_true rfl) (fun p e s m args below meth c F => zMJ1_indexOf_4cfef F ko0 h)
theorem clJ0_637 {r : Int32} {o0 : Nat} {x1 : Int32} {x2 : Int32} {x3 : Int32} (F : Fx p s m args meth c cc nL RJ0 rt R cz sz g a) (ko0 : isByt o0) (h : MJ1_indexOf_4cfef o0 x1 x2 x3 σ = some (r, σ1)) (hR : 1 + 1 ≤ R.frames ∧ 8 + (4 + 11) + 34 * 1 ≤ R.locals) (d : decode cc pc = .ok (.invokestatic 637, 3)) (hrm : (rest.map fun v => v.category).sum ≤ 8) (z : Z p l e R s m args below meth c Q nL g a cz sz σ1 (pc + 3) lv (.int r :: rest)) : Z p l e R s m args below meth c Q nL g a cz sz σ pc lv (.int x3 :: .int x2 :: .int x1 :: .ref (a o0) :: rest) :=
  z_callSI (nA := 4) (As := [.ref (a o0), .int x1, .int x2, .int x3]) F (ctJ1_indexOf_4cfef ko0 h) ⟨(tbm 318 (by decide +kernel) rfl), (tbm 319 (by decide +kernel) rfl), (tbm 11 (by decide +kernel) rfl), (tbm 320 (by decide +kernel) rfl)⟩ (by decide +kernel) rfl hR d rfl hrm z
theorem zMJ0_indexOf_7cf53 {r : Int32} {o0 : Nat} {x1 : Int32} {x2 : Int32} {σ : St} (F : Fx p s m args meth c cJ0_indexOf_7cf53 3 RJ0 (some .int) (rmL 2) 0 0 g a) (ko0 : isStr o0) (h : MJ0_indexOf_7cf53 o0 x1 x2 σ = some (r, σ')) : Z p l e (rmL 2) s m args below meth c (MQ below (QiW g a r σ') args s 0 0 (Ad a)) 3 g a 0 0 σ 0 [(0, .ref (a o0)), (1, .int x1), (2, .int x2)] [] := by
  unfold MJ0_indexOf_7cf53 at h
  refine z_aload_n (q := 0) F dJ0_indexOf_7cf53_0 rfl rfl ?_
  obtain ⟨r1, σ1, hq1, h⟩ := bd_of h
  refine clJ0_492 F ko0 hq1 ⟨Nat.le_of_ble_eq_true rfl, Nat.le_of_ble_eq_true rfl⟩ dJ0_indexOf_7cf53_1 (Nat.le_of_ble_eq_true rfl) ?_
  refine z_if_eq (tgt := 23) F dJ0_indexOf_7cf53_4 rfl (fun c2 => ?_) (fun c2 => ?_)
  · have h := ite_T c2 h
    refine z_aload_n (q := 0) F dJ0_indexOf_7cf53_23 rfl rfl ?_
    refine z_svalue F ko0 dJ0_indexOf_7cf53_24 ?_
    refine z_iload_n (q := 1) F dJ0_indexOf_7cf53_27 rfl rfl ?_
    refine z_iload_n (q := 2) F dJ0_indexOf_7cf53_28 rfl rfl ?_
    refine z_aload_n (q := 0) F dJ0_indexOf_7cf53_29 rfl rfl ?_
    obtain ⟨r3, σ3, hq3, h⟩ := bd_of h
    refine clJ0_505 F ko0 hq3 ⟨Nat.le_of_ble_eq_true rfl, Nat.le_of_ble_eq_true rfl⟩ dJ0_indexOf_7cf53_30 (Nat.le_of_ble_eq_true rfl) ?_
    cases h
  · have h := ite_F c2 h
    refine z_aload_n (q := 0) F dJ0_indexOf_7cf53_7 rfl rfl ?_
    refine z_svalue F ko0 dJ0_indexOf_7cf53_8 ?_
    refine z_iload_n (q := 1) F dJ0_indexOf_7cf53_11 rfl rfl ?_
    refine z_iload_n (q := 2) F dJ0_indexOf_7cf53_12 rfl rfl ?_
    refine z_aload_n (q := 0) F dJ0_indexOf_7cf53_13 rfl rfl ?_
    obtain ⟨r4, σ4, hq4, h⟩ := bd_of h
    refine clJ0_505 F ko0 hq4 ⟨Nat.le_of_ble_eq_true rfl, Nat.le_of_ble_eq_true rfl⟩ dJ0_indexOf_7cf53_14 (Nat.le_of_ble_eq_true rfl) ?_
    obtain ⟨r5, σ5, hq5, h⟩ := bd_of h
    refine clJ0_637 F (byt_of ko0) hq5 ⟨Nat.le_of_ble_eq_true rfl, Nat.le_of_ble_eq_true rfl⟩ dJ0_indexOf_7cf53_17 (Nat.le_of_ble_eq_true rfl) ?_
    refine z_goto (tgt := 36) F dJ0_indexOf_7cf53_20 rfl ?_
    exact z_iret F h dJ0_indexOf_7cf53_36
theorem ctJ0_indexOf_7cf53 {r : Int32} {o0 : Nat} {x1 : Int32} {x2 : Int32} {σ : St} (ko0 : isStr o0) (h : MJ0_indexOf_7cf53 o0 x1 x2 σ = some (r, σ')) : Met l yJ0_indexOf_7cf53 (wsY yJ0_indexOf_7cf53 cJ0_indexOf_7cf53 3 (some .int)) (rmL 2) (PcW g a [.ref (a o0), .int x1, .int x2] σ) (QiW g a r σ') 0 0 (Ad a) :=
  ct_I (by decide) (Nat.le_of_ble_eq_true rfl) (fun p e s m args below meth c F => zMJ0_indexOf_7cf53 F ko0 h)
theorem clJ0_633 {r : Int32} {o0 : Nat} {x1 : Int32} {x2 : Int32} (F : Fx p s m args meth c cc nL RJ0 rt R cz sz g a) (ko0 : isStr o0) (h : MJ0_indexOf_7cf53 o0 x1 x2 σ = some (r, σ1)) (hR : 2 + 1 ≤ R.frames ∧ 8 + (3 + 11) + 34 * 2 ≤ R.locals) (d : decode cc pc = .ok (.invokevirtual 633, 3)) (hrm : (rest.map fun v => v.category).sum ≤ 8) (z : Z p l e R s m args below meth c Q nL g a cz sz σ1 (pc + 3) lv (.int r :: rest)) : Z p l e R s m args below meth c Q nL g a cz sz σ pc lv (.int x2 :: .int x1 :: .ref (a o0) :: rest) :=
  z_callVs (nA := 2) (As := [.int x1, .int x2]) F (ctJ0_indexOf_7cf53 ko0 h) ⟨(tbm 300 (by decide +kernel) rfl), (tbm 301 (by decide +kernel) rfl), (tbm 302 (by decide +kernel) rfl), (tbm 10 (by decide +kernel) rfl), (tbm 303 (by decide +kernel) rfl)⟩ (by decide +kernel) rfl ko0 hR d rfl hrm z
theorem zMJ0_indexOf_0f7a4 {r : Int32} {o0 : Nat} {x1 : Int32} {σ : St} (F : Fx p s m args meth c cJ0_indexOf_0f7a4 2 RJ0 (some .int) (rmL 3) 0 0 g a) (ko0 : isStr o0) (h : MJ0_indexOf_0f7a4 o0 x1 σ = some (r, σ')) : Z p l e (rmL 3) s m args below meth c (MQ below (QiW g a r σ') args s 0 0 (Ad a)) 2 g a 0 0 σ 0 [(0, .ref (a o0)), (1, .int x1)] [] := by
  unfold MJ0_indexOf_0f7a4 at h
  refine z_aload_n (q := 0) F dJ0_indexOf_0f7a4_0 rfl rfl ?_
  refine z_iload_n (q := 1) F dJ0_indexOf_0f7a4_1 rfl rfl ?_
  refine z_iconst (v := 0) F dJ0_indexOf_0f7a4_2 rfl ?_
  obtain ⟨r1, σ1, hq1, h⟩ := bd_of h
  refine clJ0_633 F ko0 hq1 ⟨Nat.le_of_ble_eq_true rfl, Nat.le_of_ble_eq_true rfl⟩ dJ0_indexOf_0f7a4_3 (Nat.le_of_ble_eq_true rfl) ?_
  exact z_iret F h dJ0_indexOf_0f7a4_6
theorem ctJ0_indexOf_0f7a4 {r : Int32} {o0 : Nat} {x1 : Int32} {σ : St} (ko0 : isStr o0) (h : MJ0_indexOf_0f7a4 o0 x1 σ = some (r, σ')) : Met l yJ0_indexOf_0f7a4 (wsY yJ0_indexOf_0f7a4 cJ0_indexOf_0f7a4 2 (some .int)) (rmL 3) (PcW g a [.ref (a o0), .int x1] σ) (QiW g a r σ') 0 0 (Ad a) :=
  ct_I (by decide) (Nat.le_of_ble_eq_true rfl) (fun p e s m args below meth c F => zMJ0_indexOf_0f7a4 F ko0 h)
theorem cl6_45 {r : Int32} {o0 : Nat} {x1 : Int32} (F : Fx p s m args meth c cc nL RX6 rt R cz sz g a) (ko0 : isStr o0) (h : MJ0_indexOf_0f7a4 o0 x1 σ = some (r, σ1)) (hR : 3 + 1 ≤ R.frames ∧ 8 + (2 + 11) + 34 * 3 ≤ R.locals) (d : decode cc pc = .ok (.invokevirtual 45, 3)) (hrm : (rest.map fun v => v.category).sum ≤ 8) (z : Z p l e R s m args below meth c Q nL g a cz sz σ1 (pc + 3) lv (.int r :: rest)) : Z p l e R s m args below meth c Q nL g a cz sz σ pc lv (.int x1 :: .ref (a o0) :: rest) :=
  z_callVs (nA := 1) (As := [.int x1]) F (ctJ0_indexOf_0f7a4 ko0 h) ⟨(tbm 296 (by decide +kernel) rfl), (tbm 297 (by decide +kernel) rfl), (tbm 298 (by decide +kernel) rfl), (tbm 10 (by decide +kernel) rfl), (tbm 299 (by decide +kernel) rfl)⟩ (by decide +kernel) rfl ko0 hR d rfl hrm z
theorem zMJ7_fill_53178_L5 {r : Unit} {o0 : Nat} {x1 : Int32} {x3 : Int32} (F : Fx p s m args meth c cJ7_fill_53178 4 RJ7 none (rmL 0) 0 0 g a) (ko0 : kd o0 = 9) {kx : St → Option (Unit × St)} (hx : ∀ (σ : St), kx σ = some (r, σ') → Z p l e (rmL 0) s m args below meth c (MQ below (QvW g a r σ') args s 0 0 (Ad a)) 4 g a 0 0 σ 20 [] []) : ∀ (n : Nat) (x2 : Int32) (σ : St), MJ7_fill_53178_L5 o0 x1 x3 kx n x2 σ = some (r, σ') → Z p l e (rmL 0) s m args below meth c (MQ below (QvW g a r σ') args s 0 0 (Ad a)) 4 g a 0 0 σ 5 [(0, .ref (a o0)), (1, .int x1), (2, .int x2), (3, .int x3)] [] := by
  intro n
  induction n with
  | zero => intro x2 σ h; rw [MJ7_fill_53178_L5] at h; cases h
  | succ n ih =>
    intro x2 σ h
    rw [MJ7_fill_53178_L5] at h
    refine z_iload_n (q := 2) F dJ7_fill_53178_5 rfl rfl ?_
    refine z_iload_n (q := 3) F dJ7_fill_53178_6 rfl rfl ?_
    refine z_icmp_ge (tgt := 20) F dJ7_fill_53178_7 rfl (fun c2 => ?_) (fun c2 => ?_)
    · have h := ite_T c2 h
      refine z_sub (lv' := []) [] rfl ?_
      exact hx _ h
    · have h := ite_F c2 h
      refine z_aload_n (q := 0) F dJ7_fill_53178_10 rfl rfl ?_
      refine z_iload_n (q := 2) F dJ7_fill_53178_11 rfl rfl ?_
      refine z_iload_n (q := 1) F dJ7_fill_53178_12 rfl rfl ?_
      obtain ⟨g3, h⟩ := gd_of h
      refine z_iast F ko0 (inl rfl g3) dJ7_fill_53178_13 ?_
      refine z_let h (fun σ4 h => ?_)
      refine z_iinc (q := 2) (v := x2 + 1) (lv' := [(2, .int (x2 + 1)), (0, .ref (a o0)), (1, .int x1), (3, .int x3)]) F dJ7_fill_53178_14 rfl rfl (by decide) rfl ?_
      refine z_letL (s0 := 2) (lv := [(0, .ref (a o0)), (1, .int x1), (3, .int x3)]) h (fun v5 h => ?_)
      refine z_goto (tgt := 5) F dJ7_fill_53178_17 rfl ?_
      refine z_sub (lv' := [(0, .ref (a o0)), (1, .int x1), (2, .int v5), (3, .int x3)]) [1, 2, 0, 3] rfl ?_
      exact ih _ _ h
theorem zMJ7_fill_53178 {r : Unit} {o0 : Nat} {x1 : Int32} {σ : St} (F : Fx p s m args meth c cJ7_fill_53178 4 RJ7 none (rmL 0) 0 0 g a) (ko0 : kd o0 = 9) (h : MJ7_fill_53178 o0 x1 σ = some (r, σ')) : Z p l e (rmL 0) s m args below meth c (MQ below (QvW g a r σ') args s 0 0 (Ad a)) 4 g a 0 0 σ 0 [(0, .ref (a o0)), (1, .int x1)] [] := by
  unfold MJ7_fill_53178 at h
  refine z_iconst (v := 0) F dJ7_fill_53178_0 rfl ?_
  refine z_istore_n (lv' := [(2, .int 0), (0, .ref (a o0)), (1, .int x1)]) F dJ7_fill_53178_1 rfl (by decide) rfl ?_
  refine z_aload_n (q := 1) F dJ7_fill_53178_2 rfl rfl ?_
  refine z_alen F ko0 dJ7_fill_53178_3 ?_
  refine z_letI h (fun v1 h => ?_)
  refine z_istore_n (lv' := [(3, .int v1), (2, .int 0), (0, .ref (a o0)), (1, .int x1)]) F dJ7_fill_53178_4 rfl (by decide) rfl ?_
  refine z_sub (lv' := [(0, .ref (a o0)), (1, .int x1), (2, .int 0), (3, .int v1)]) [2, 3, 1, 0] rfl ?_
  refine zMJ7_fill_53178_L5 F ko0 ?_ _ _ _ h
  intro σ6 h
  exact z_vret F h dJ7_fill_53178_20
theorem ctJ7_fill_53178 {r : Unit} {o0 : Nat} {x1 : Int32} {σ : St} (ko0 : kd o0 = 9) (h : MJ7_fill_53178 o0 x1 σ = some (r, σ')) : Met l yJ7_fill_53178 (wsY yJ7_fill_53178 cJ7_fill_53178 4 none) (rmL 0) (PcW g a [.ref (a o0), .int x1] σ) (QvW g a r σ') 0 0 (Ad a) :=
  ct_V (by decide) (Nat.le_of_ble_eq_true rfl) (fun p e s m args below meth c F => zMJ7_fill_53178 F ko0 h)
theorem cl1_56 {r : Unit} {o0 : Nat} {x1 : Int32} (F : Fx p s m args meth c cc nL RX1 rt R cz sz g a) (ko0 : kd o0 = 9) (h : MJ7_fill_53178 o0 x1 σ = some (r, σ1)) (hR : 0 + 1 ≤ R.frames ∧ 8 + (4 + 11) + 34 * 0 ≤ R.locals) (d : decode cc pc = .ok (.invokestatic 56, 3)) (hrm : (rest.map fun v => v.category).sum ≤ 8) (z : Z p l e R s m args below meth c Q nL g a cz sz σ1 (pc + 3) lv (rest)) : Z p l e R s m args below meth c Q nL g a cz sz σ pc lv (.int x1 :: .ref (a o0) :: rest) :=
  z_callSV (nA := 2) (As := [.ref (a o0), .int x1]) F (ctJ7_fill_53178 ko0 h) ⟨(tbm 494 (by decide +kernel) rfl), (tbm 495 (by decide +kernel) rfl), (tbm 17 (by decide +kernel) rfl), (tbm 496 (by decide +kernel) rfl)⟩ (by decide +kernel) rfl hR d rfl hrm z
theorem cl5_26 {r : Unit} {o0 : Nat} {x1 : Int32} (F : Fx p s m args meth c cc nL RX5 rt R cz sz g a) (ko0 : kd o0 = 9) (h : MJ7_fill_53178 o0 x1 σ = some (r, σ1)) (hR : 0 + 1 ≤ R.frames ∧ 8 + (4 + 11) + 34 * 0 ≤ R.locals) (d : decode cc pc = .ok (.invokestatic 26, 3)) (hrm : (rest.map fun v => v.category).sum ≤ 8) (z : Z p l e R s m args below meth c Q nL g a cz sz σ1 (pc + 3) lv (rest)) : Z p l e R s m args below meth c Q nL g a cz sz σ pc lv (.int x1 :: .ref (a o0) :: rest) :=
  z_callSV (nA := 2) (As := [.ref (a o0), .int x1]) F (ctJ7_fill_53178 ko0 h) ⟨(tbm 729 (by decide +kernel) rfl), (tbm 495 (by decide +kernel) rfl), (tbm 17 (by decide +kernel) rfl), (tbm 496 (by decide +kernel) rfl)⟩ (by decide +kernel) rfl hR d rfl hrm z
theorem cl7_229 {r : Unit} {o0 : Nat} {x1 : Int32} (F : Fx p s m args meth c cc nL RX7 rt R cz sz g a) (ko0 : kd o0 = 9) (h : MJ7_fill_53178 o0 x1 σ = some (r, σ1)) (hR : 0 + 1 ≤ R.frames ∧ 8 + (4 + 11) + 34 * 0 ≤ R.locals) (d : decode cc pc = .ok (.invokestatic 229, 3)) (hrm : (rest.map fun v => v.category).sum ≤ 8) (z : Z p l e R s m args below meth c Q nL g a cz sz σ1 (pc + 3) lv (rest)) : Z p l e R s m args below meth c Q nL g a cz sz σ pc lv (.int x1 :: .ref (a o0) :: rest) :=
  z_callSV (nA := 2) (As := [.ref (a o0), .int x1]) F (ctJ7_fill_53178 ko0 h) ⟨(tbm 685 (by decide +kernel) rfl), (tbm 495 (by decide +kernel) rfl), (tbm 17 (by decide +kernel) rfl), (tbm 496 (by decide +kernel) rfl)⟩ (by decide +kernel) rfl hR d rfl hrm z
theorem zM4_takeAll {r : Unit} {o0 : Nat} {o1 : Nat} {σ : St} (F : Fx p s m args meth c cX4_takeAll 2 RX4 none (rmL 1) 0 0 g a) (ko0 : kd o0 = 4) (ko1 : kd o1 = 4) (h : M4_takeAll o0 o1 σ = some (r, σ')) : Z p l e (rmL 1) s m args below meth c (MQ below (QvW g a r σ') args s 0 0 (Ad a)) 2 g a 0 0 σ 0 [(0, .ref (a o0)), (1, .ref (a o1))] [] := by
  unfold M4_takeAll at h
  refine z_aload_n (q := 0) F dX4_takeAll_0 rfl rfl ?_
  refine z_aload_n (q := 1) F dX4_takeAll_1 rfl rfl ?_
  refine gf4_9 F ko1 dX4_takeAll_2 ?_
  refine z_aload_n (q := 0) F dX4_takeAll_5 rfl rfl ?_
  refine gf4_15 F ko0 dX4_takeAll_6 ?_
  refine z_mmin F (tbm 648 (by decide +kernel) rfl) (tbm 328 (by decide +kernel) rfl) (tbm 12 (by decide +kernel) rfl) (tbm 329 (by decide +kernel) rfl) (Nat.le_of_ble_eq_true rfl) (Nat.le_of_ble_eq_true rfl) dX4_takeAll_9 ?_
  refine pf4_9 F ko0 dX4_takeAll_12 ?_
  refine z_let h (fun σ1 h => ?_)
  refine z_aload_n (q := 1) F dX4_takeAll_15 rfl rfl ?_
  refine gf4_18 F ko1 dX4_takeAll_16 ?_
  refine z_iconst (v := 0) F dX4_takeAll_19 rfl ?_
  refine z_aload_n (q := 0) F dX4_takeAll_20 rfl rfl ?_
  refine gf4_18 F ko0 dX4_takeAll_21 ?_
  refine z_iconst (v := 0) F dX4_takeAll_24 rfl ?_
  refine z_aload_n (q := 0) F dX4_takeAll_25 rfl rfl ?_
  refine gf4_9 F ko0 dX4_takeAll_26 ?_
  refine z_iconst (v := 4) F dX4_takeAll_29 rfl ?_
  refine z_imul F dX4_takeAll_30 ?_
  obtain ⟨g2, h⟩ := gd_of h
  refine z_copy F (kf_4_1 ko1) (kf_4_1 ko0) g2 (tbm 457 (by decide +kernel) rfl) (tbm 459 (by decide +kernel) rfl) (tbm 458 (by decide +kernel) rfl) (tbm 16 (by decide +kernel) rfl) (Nat.le_of_ble_eq_true rfl) (Nat.le_of_ble_eq_true rfl) dX4_takeAll_31 ?_
  refine z_let h (fun σ3 h => ?_)
  exact z_vret F h dX4_takeAll_34
theorem ct4_takeAll {r : Unit} {o0 : Nat} {o1 : Nat} {σ : St} (ko0 : kd o0 = 4) (ko1 : kd o1 = 4) (h : M4_takeAll o0 o1 σ = some (r, σ')) : Met l yX4_takeAll (wsY yX4_takeAll cX4_takeAll 2 none) (rmL 1) (PcW g a [.ref (a o0), .ref (a o1)] σ) (QvW g a r σ') 0 0 (Ad a) :=
  ct_V (by decide) (Nat.le_of_ble_eq_true rfl) (fun p e s m args below meth c F => zM4_takeAll F ko0 ko1 h)
theorem cl0_26 {r : Unit} {o0 : Nat} {o1 : Nat} (F : Fx p s m args meth c cc nL RX0 rt R cz sz g a) (ko0 : kd o0 = 4) (ko1 : kd o1 = 4) (h : M4_takeAll o0 o1 σ = some (r, σ1)) (hR : 1 + 1 ≤ R.frames ∧ 8 + (2 + 11) + 34 * 1 ≤ R.locals) (d : decode cc pc = .ok (.invokevirtual 26, 3)) (hrm : (rest.map fun v => v.category).sum ≤ 8) (z : Z p l e R s m args below meth c Q nL g a cz sz σ1 (pc + 3) lv (rest)) : Z p l e R s m args below meth c Q nL g a cz sz σ pc lv (.ref (a o1) :: .ref (a o0) :: rest) :=
  z_callVNV (host := "HoleBank") (nA := 1) (As := [.ref (a o1)]) F (ct4_takeAll ko0 ko1 h) ⟨(nlm 644 (by decide +kernel) rfl), (tbm 646 (by decide +kernel) rfl), (tbs 45 (by decide +kernel) rfl), (tbm 4 (by decide +kernel) rfl), (tbm 647 (by decide +kernel) rfl)⟩ (by decide +kernel) rfl ko0 (by decide) rfl rfl rfl hR d rfl hrm z
theorem zM0_takeAll {r : Unit} {o0 : Nat} {o1 : Nat} {σ : St} (F : Fx p s m args meth c cX0_takeAll 2 RX0 none (rmL 2) 0 0 g a) (ko0 : kd o0 = 0) (ko1 : kd o1 = 0) (h : M0_takeAll o0 o1 σ = some (r, σ')) : Z p l e (rmL 2) s m args below meth c (MQ below (QvW g a r σ') args s 0 0 (Ad a)) 2 g a 0 0 σ 0 [(0, .ref (a o0)), (1, .ref (a o1))] [] := by
  unfold M0_takeAll at h
  refine z_aload_n (q := 0) F dX0_takeAll_0 rfl rfl ?_
  refine gf0_23 F ko0 dX0_takeAll_1 ?_
  refine z_aload_n (q := 1) F dX0_takeAll_4 rfl rfl ?_
  refine gf0_23 F ko1 dX0_takeAll_5 ?_
  obtain ⟨r1, σ1, hq1, h⟩ := bd_of h
  refine cl0_26 F (kf_0_0 ko0) (kf_0_0 ko1) hq1 ⟨Nat.le_of_ble_eq_true rfl, Nat.le_of_ble_eq_true rfl⟩ dX0_takeAll_8 (Nat.le_of_ble_eq_true rfl) ?_
  refine z_aload_n (q := 0) F dX0_takeAll_11 rfl rfl ?_
  refine gf0_14 F ko0 dX0_takeAll_12 ?_
  refine z_aload_n (q := 1) F dX0_takeAll_15 rfl rfl ?_
  refine gf0_14 F ko1 dX0_takeAll_16 ?_
  obtain ⟨r2, σ2, hq2, h⟩ := bd_of h
  refine cl0_26 F (kf_0_1 ko0) (kf_0_1 ko1) hq2 ⟨Nat.le_of_ble_eq_true rfl, Nat.le_of_ble_eq_true rfl⟩ dX0_takeAll_19 (Nat.le_of_ble_eq_true rfl) ?_
  refine z_aload_n (q := 0) F dX0_takeAll_22 rfl rfl ?_
  refine gf0_20 F ko0 dX0_takeAll_23 ?_
  refine z_aload_n (q := 1) F dX0_takeAll_26 rfl rfl ?_
  refine gf0_20 F ko1 dX0_takeAll_27 ?_
  obtain ⟨r3, σ3, hq3, h⟩ := bd_of h
  refine cl0_26 F (kf_0_2 ko0) (kf_0_2 ko1) hq3 ⟨Nat.le_of_ble_eq_true rfl, Nat.le_of_ble_eq_true rfl⟩ dX0_takeAll_30 (Nat.le_of_ble_eq_true rfl) ?_
  exact z_vret F h dX0_takeAll_33
theorem ct0_takeAll {r : Unit} {o0 : Nat} {o1 : Nat} {σ : St} (ko0 : kd o0 = 0) (ko1 : kd o1 = 0) (h : M0_takeAll o0 o1 σ = some (r, σ')) : Met l yX0_takeAll (wsY yX0_takeAll cX0_takeAll 2 none) (rmL 2) (PcW g a [.ref (a o0), .ref (a o1)] σ) (QvW g a r σ') 0 0 (Ad a) :=
  ct_V (by decide) (Nat.le_of_ble_eq_true rfl) (fun p e s m args below meth c F => zM0_takeAll F ko0 ko1 h)
theorem cl7_257 {r : Unit} {o0 : Nat} {o1 : Nat} (F : Fx p s m args meth c cc nL RX7 rt R cz sz g a) (ko0 : kd o0 = 0) (ko1 : kd o1 = 0) (h : M0_takeAll o0 o1 σ = some (r, σ1)) (hR : 2 + 1 ≤ R.frames ∧ 8 + (2 + 11) + 34 * 2 ≤ R.locals) (d : decode cc pc = .ok (.invokevirtual 257, 3)) (hrm : (rest.map fun v => v.category).sum ≤ 8) (z : Z p l e R s m args below meth c Q nL g a cz sz σ1 (pc + 3) lv (rest)) : Z p l e R s m args below meth c Q nL g a cz sz σ pc lv (.ref (a o1) :: .ref (a o0) :: rest) :=
  z_callVNV (host := "HoleBank") (nA := 1) (As := [.ref (a o1)]) F (ct0_takeAll ko0 ko1 h) ⟨(nlm 640 (by decide +kernel) rfl), (tbm 642 (by decide +kernel) rfl), (tbs 44 (by decide +kernel) rfl), (tbm 3 (by decide +kernel) rfl), (tbm 643 (by decide +kernel) rfl)⟩ (by decide +kernel) rfl ko0 (by decide) rfl rfl rfl hR d rfl hrm z
theorem zM1_bitsAtBank_J31 {r : Int32} {o0 : Nat} {x1 : Int32} {x2 : Int32} {σ : St} (F : Fx p s m args meth c cX1_bitsAtBank 3 RX1 (some .int) (rmL 0) 0 0 g a) (ko0 : kd o0 = 1) {kb : Int32 → Int32 → St → Option (Int32 × St)} (hb : ∀ (w1 : Int32) (w2 : Int32) (σ : St), kb w1 w2 σ = some (r, σ') → Z p l e (rmL 0) s m args below meth c (MQ below (QiW g a r σ') args s 0 0 (Ad a)) 3 g a 0 0 σ 4 [(0, .ref (a o0)), (1, .int w1), (2, .int w2)] []) (h : M1_bitsAtBank_J31 kb o0 x1 x2 σ = some (r, σ')) : Z p l e (rmL 0) s m args below meth c (MQ below (QiW g a r σ') args s 0 0 (Ad a)) 3 g a 0 0 σ 31 [(0, .ref (a o0)), (1, .int x1), (2, .int x2)] [] := by
  unfold M1_bitsAtBank_J31 at h
  refine z_iinc (q := 2) (v := x2 + 1) (lv' := [(2, .int (x2 + 1)), (0, .ref (a o0)), (1, .int x1)]) F dX1_bitsAtBank_31 rfl rfl (by decide) rfl ?_
  refine z_letL (s0 := 2) (lv := [(0, .ref (a o0)), (1, .int x1)]) h (fun v4 h => ?_)
  refine z_goto (tgt := 4) F dX1_bitsAtBank_34 rfl ?_
  refine z_sub (lv' := [(0, .ref (a o0)), (1, .int x1), (2, .int v4)]) [1, 2, 0] rfl ?_
  exact hb _ _ _ h
theorem zM1_bitsAtBank_L4 {r : Int32} {o0 : Nat} (F : Fx p s m args meth c cX1_bitsAtBank 3 RX1 (some .int) (rmL 0) 0 0 g a) (ko0 : kd o0 = 1) {kx : Int32 → St → Option (Int32 × St)} (hx : ∀ (w1 : Int32) (σ : St), kx w1 σ = some (r, σ') → Z p l e (rmL 0) s m args below meth c (MQ below (QiW g a r σ') args s 0 0 (Ad a)) 3 g a 0 0 σ 37 [(1, .int w1)] []) : ∀ (n : Nat) (x1 : Int32) (x2 : Int32) (σ : St), M1_bitsAtBank_L4 o0 kx n x1 x2 σ = some (r, σ') → Z p l e (rmL 0) s m args below meth c (MQ below (QiW g a r σ') args s 0 0 (Ad a)) 3 g a 0 0 σ 4 [(0, .ref (a o0)), (1, .int x1), (2, .int x2)] [] := by
  intro n
  induction n with
  | zero => intro x1 x2 σ h; rw [M1_bitsAtBank_L4] at h; cases h
  | succ n ih =>
    intro x1 x2 σ h
    rw [M1_bitsAtBank_L4] at h
    refine z_iload_n (q := 2) F dX1_bitsAtBank_4 rfl rfl ?_
    refine z_aload_n (q := 0) F dX1_bitsAtBank_5 rfl rfl ?_
    refine gf1_42 F ko0 dX1_bitsAtBank_6 ?_
    refine z_icmp_ge (tgt := 37) F dX1_bitsAtBank_9 rfl (fun c1 => ?_) (fun c1 => ?_)
    · have h := ite_T c1 h
      refine z_sub (lv' := [(1, .int x1)]) [1] rfl ?_
      exact hx _ _ h
    · have h := ite_F c1 h
      refine z_aload_n (q := 0) F dX1_bitsAtBank_12 rfl rfl ?_
      refine gf1_11 F ko0 dX1_bitsAtBank_13 ?_
      refine z_iload_n (q := 2) F dX1_bitsAtBank_16 rfl rfl ?_
      obtain ⟨g2, h⟩ := gd_of h
      refine z_aldH F (kf_1_0 ko0) (inb_in g2) dX1_bitsAtBank_17 ?_
      refine gf1_88 F (kdH (kf_1_0 ko0) g2) dX1_bitsAtBank_18 ?_
      refine z_iconst (v := (-1)) F dX1_bitsAtBank_21 rfl ?_
      refine z_icmp_ne (tgt := 31) F dX1_bitsAtBank_22 rfl (fun c3 => ?_) (fun c3 => ?_)
      · have h := ite_F c3 h
        refine z_sub (lv' := [(0, .ref (a o0)), (1, .int x1), (2, .int x2)]) [0, 1, 2] rfl ?_
        exact zM1_bitsAtBank_J31 F ko0 ih h
      · have h := ite_T c3 h
        refine z_iload_n (q := 1) F dX1_bitsAtBank_25 rfl rfl ?_
        refine z_iconst (v := 1) F dX1_bitsAtBank_26 rfl ?_
        refine z_iload_n (q := 2) F dX1_bitsAtBank_27 rfl rfl ?_
        refine z_ishl F dX1_bitsAtBank_28 ?_
        refine z_ior F dX1_bitsAtBank_29 ?_
        refine z_letI h (fun v5 h => ?_)
        refine z_istore_n (lv' := [(1, .int v5), (0, .ref (a o0)), (2, .int x2)]) F dX1_bitsAtBank_30 rfl (by decide) rfl ?_
        refine z_sub (lv' := [(0, .ref (a o0)), (1, .int v5), (2, .int x2)]) [1, 0, 2] rfl ?_
        exact zM1_bitsAtBank_J31 F ko0 ih h
theorem zM1_bitsAtBank {r : Int32} {o0 : Nat} {σ : St} (F : Fx p s m args meth c cX1_bitsAtBank 3 RX1 (some .int) (rmL 0) 0 0 g a) (ko0 : kd o0 = 1) (h : M1_bitsAtBank o0 σ = some (r, σ')) : Z p l e (rmL 0) s m args below meth c (MQ below (QiW g a r σ') args s 0 0 (Ad a)) 3 g a 0 0 σ 0 [(0, .ref (a o0))] [] := by
  unfold M1_bitsAtBank at h
  refine z_iconst (v := 0) F dX1_bitsAtBank_0 rfl ?_
  refine z_istore_n (lv' := [(1, .int 0), (0, .ref (a o0))]) F dX1_bitsAtBank_1 rfl (by decide) rfl ?_
  refine z_iconst (v := 0) F dX1_bitsAtBank_2 rfl ?_
  refine z_istore_n (lv' := [(2, .int 0), (1, .int 0), (0, .ref (a o0))]) F dX1_bitsAtBank_3 rfl (by decide) rfl ?_
  refine z_sub (lv' := [(0, .ref (a o0)), (1, .int 0), (2, .int 0)]) [2, 1, 0] rfl ?_
  refine zM1_bitsAtBank_L4 F ko0 ?_ _ _ _ _ h
  intro v6 σ7 h
  refine z_iload_n (q := 0) F dX1_bitsAtBank_37 rfl rfl ?_
  exact z_iret F h dX1_bitsAtBank_38
theorem ct1_bitsAtBank {r : Int32} {o0 : Nat} {σ : St} (ko0 : kd o0 = 1) (h : M1_bitsAtBank o0 σ = some (r, σ')) : Met l yX1_bitsAtBank (wsY yX1_bitsAtBank cX1_bitsAtBank 3 (some .int)) (rmL 0) (PcW g a [.ref (a o0)] σ) (QiW g a r σ') 0 0 (Ad a) :=
  ct_I (by decide) (Nat.le_of_ble_eq_true rfl) (fun p e s m args below meth c F => zM1_bitsAtBank F ko0 h)
theorem cl1_84 {r : Int32} {o0 : Nat} (F : Fx p s m args meth c cc nL RX1 rt R cz sz g a) (ko0 : kd o0 = 1) (h : M1_bitsAtBank o0 σ = some (r, σ1)) (hR : 0 + 1 ≤ R.frames ∧ 8 + (3 + 11) + 34 * 0 ≤ R.locals) (d : decode cc pc = .ok (.invokevirtual 84, 3)) (hrm : (rest.map fun v => v.category).sum ≤ 8) (z : Z p l e R s m args below meth c Q nL g a cz sz σ1 (pc + 3) lv (.int r :: rest)) : Z p l e R s m args below meth c Q nL g a cz sz σ pc lv (.ref (a o0) :: rest) :=
  z_callVI (nA := 0) (As := []) F (ct1_bitsAtBank ko0 h) ⟨(tbm 518 (by decide +kernel) rfl), (tbm 520 (by decide +kernel) rfl), (tbs 23 (by decide +kernel) rfl), (tbm 5 (by decide +kernel) rfl), (tbm 521 (by decide +kernel) rfl)⟩ (by decide +kernel) rfl ko0 (by decide) rfl rfl rfl hR d rfl hrm z
theorem zM1_bitsFilled_J30 {r : Int32} {o0 : Nat} {x1 : Int32} {x2 : Int32} {σ : St} (F : Fx p s m args meth c cX1_bitsFilled 3 RX1 (some .int) (rmL 0) 0 0 g a) (ko0 : kd o0 = 1) {kb : Int32 → Int32 → St → Option (Int32 × St)} (hb : ∀ (w1 : Int32) (w2 : Int32) (σ : St), kb w1 w2 σ = some (r, σ') → Z p l e (rmL 0) s m args below meth c (MQ below (QiW g a r σ') args s 0 0 (Ad a)) 3 g a 0 0 σ 4 [(0, .ref (a o0)), (1, .int w1), (2, .int w2)] []) (h : M1_bitsFilled_J30 kb o0 x1 x2 σ = some (r, σ')) : Z p l e (rmL 0) s m args below meth c (MQ below (QiW g a r σ') args s 0 0 (Ad a)) 3 g a 0 0 σ 30 [(0, .ref (a o0)), (1, .int x1), (2, .int x2)] [] := by
  unfold M1_bitsFilled_J30 at h
  refine z_iinc (q := 2) (v := x2 + 1) (lv' := [(2, .int (x2 + 1)), (0, .ref (a o0)), (1, .int x1)]) F dX1_bitsFilled_30 rfl rfl (by decide) rfl ?_
  refine z_letL (s0 := 2) (lv := [(0, .ref (a o0)), (1, .int x1)]) h (fun v4 h => ?_)
  refine z_goto (tgt := 4) F dX1_bitsFilled_33 rfl ?_
  refine z_sub (lv' := [(0, .ref (a o0)), (1, .int x1), (2, .int v4)]) [1, 2, 0] rfl ?_
  exact hb _ _ _ h
theorem zM1_bitsFilled_L4 {r : Int32} {o0 : Nat} (F : Fx p s m args meth c cX1_bitsFilled 3 RX1 (some .int) (rmL 0) 0 0 g a) (ko0 : kd o0 = 1) {kx : Int32 → St → Option (Int32 × St)} (hx : ∀ (w1 : Int32) (σ : St), kx w1 σ = some (r, σ') → Z p l e (rmL 0) s m args below meth c (MQ below (QiW g a r σ') args s 0 0 (Ad a)) 3 g a 0 0 σ 36 [(1, .int w1)] []) : ∀ (n : Nat) (x1 : Int32) (x2 : Int32) (σ : St), M1_bitsFilled_L4 o0 kx n x1 x2 σ = some (r, σ') → Z p l e (rmL 0) s m args below meth c (MQ below (QiW g a r σ') args s 0 0 (Ad a)) 3 g a 0 0 σ 4 [(0, .ref (a o0)), (1, .int x1), (2, .int x2)] [] := by
  intro n
  induction n with
  | zero => intro x1 x2 σ h; rw [M1_bitsFilled_L4] at h; cases h
  | succ n ih =>
    intro x1 x2 σ h
    rw [M1_bitsFilled_L4] at h
    refine z_iload_n (q := 2) F dX1_bitsFilled_4 rfl rfl ?_
    refine z_aload_n (q := 0) F dX1_bitsFilled_5 rfl rfl ?_
    refine gf1_42 F ko0 dX1_bitsFilled_6 ?_
    refine z_icmp_ge (tgt := 36) F dX1_bitsFilled_9 rfl (fun c1 => ?_) (fun c1 => ?_)
    · have h := ite_T c1 h
      refine z_sub (lv' := [(1, .int x1)]) [1] rfl ?_
      exact hx _ _ h
    · have h := ite_F c1 h
      refine z_aload_n (q := 0) F dX1_bitsFilled_12 rfl rfl ?_
      refine gf1_11 F ko0 dX1_bitsFilled_13 ?_
      refine z_iload_n (q := 2) F dX1_bitsFilled_16 rfl rfl ?_
      obtain ⟨g2, h⟩ := gd_of h
      refine z_aldH F (kf_1_0 ko0) (inb_in g2) dX1_bitsFilled_17 ?_
      refine gf1_114 F (kdH (kf_1_0 ko0) g2) dX1_bitsFilled_18 ?_
      refine z_if_eq (tgt := 30) F dX1_bitsFilled_21 rfl (fun c3 => ?_) (fun c3 => ?_)
      · have h := ite_T c3 h
        refine z_sub (lv' := [(0, .ref (a o0)), (1, .int x1), (2, .int x2)]) [0, 1, 2] rfl ?_
        exact zM1_bitsFilled_J30 F ko0 ih h
      · have h := ite_F c3 h
        refine z_iload_n (q := 1) F dX1_bitsFilled_24 rfl rfl ?_
        refine z_iconst (v := 1) F dX1_bitsFilled_25 rfl ?_
        refine z_iload_n (q := 2) F dX1_bitsFilled_26 rfl rfl ?_
        refine z_ishl F dX1_bitsFilled_27 ?_
        refine z_ior F dX1_bitsFilled_28 ?_
        refine z_letI h (fun v5 h => ?_)
        refine z_istore_n (lv' := [(1, .int v5), (0, .ref (a o0)), (2, .int x2)]) F dX1_bitsFilled_29 rfl (by decide) rfl ?_
        refine z_sub (lv' := [(0, .ref (a o0)), (1, .int v5), (2, .int x2)]) [1, 0, 2] rfl ?_
        exact zM1_bitsFilled_J30 F ko0 ih h
theorem zM1_bitsFilled {r : Int32} {o0 : Nat} {σ : St} (F : Fx p s m args meth c cX1_bitsFilled 3 RX1 (some .int) (rmL 0) 0 0 g a) (ko0 : kd o0 = 1) (h : M1_bitsFilled o0 σ = some (r, σ')) : Z p l e (rmL 0) s m args below meth c (MQ below (QiW g a r σ') args s 0 0 (Ad a)) 3 g a 0 0 σ 0 [(0, .ref (a o0))] [] := by
  unfold M1_bitsFilled at h
  refine z_iconst (v := 0) F dX1_bitsFilled_0 rfl ?_
  refine z_istore_n (lv' := [(1, .int 0), (0, .ref (a o0))]) F dX1_bitsFilled_1 rfl (by decide) rfl ?_
  refine z_iconst (v := 0) F dX1_bitsFilled_2 rfl ?_
  refine z_istore_n (lv' := [(2, .int 0), (1, .int 0), (0, .ref (a o0))]) F dX1_bitsFilled_3 rfl (by decide) rfl ?_
  refine z_sub (lv' := [(0, .ref (a o0)), (1, .int 0), (2, .int 0)]) [2, 1, 0] rfl ?_
  refine zM1_bitsFilled_L4 F ko0 ?_ _ _ _ _ h
  intro v6 σ7 h
  refine z_iload_n (q := 0) F dX1_bitsFilled_36 rfl rfl ?_
  exact z_iret F h dX1_bitsFilled_37
theorem ct1_bitsFilled {r : Int32} {o0 : Nat} {σ : St} (ko0 : kd o0 = 1) (h : M1_bitsFilled o0 σ = some (r, σ')) : Met l yX1_bitsFilled (wsY yX1_bitsFilled cX1_bitsFilled 3 (some .int)) (rmL 0) (PcW g a [.ref (a o0)] σ) (QiW g a r σ') 0 0 (Ad a) :=
  ct_I (by decide) (Nat.le_of_ble_eq_true rfl) (fun p e s m args below meth c F => zM1_bitsFilled F ko0 h)
theorem cl1_98 {r : Int32} {o0 : Nat} (F : Fx p s m args meth c cc nL RX1 rt R cz sz g a) (ko0 : kd o0 = 1) (h : M1_bitsFilled o0 σ = some (r, σ1)) (hR : 0 + 1 ≤ R.frames ∧ 8 + (3 + 11) + 34 * 0 ≤ R.locals) (d : decode cc pc = .ok (.invokevirtual 98, 3)) (hrm : (rest.map fun v => v.category).sum ≤ 8) (z : Z p l e R s m args below meth c Q nL g a cz sz σ1 (pc + 3) lv (.int r :: rest)) : Z p l e R s m args below meth c Q nL g a cz sz σ pc lv (.ref (a o0) :: rest) :=
  z_callVI (nA := 0) (As := []) F (ct1_bitsFilled ko0 h) ⟨(tbm 534 (by decide +kernel) rfl), (tbm 536 (by decide +kernel) rfl), (tbs 27 (by decide +kernel) rfl), (tbm 5 (by decide +kernel) rfl), (tbm 537 (by decide +kernel) rfl)⟩ (by decide +kernel) rfl ko0 (by decide) rfl rfl rfl hR d rfl hrm z
theorem zM1_couldBePatched {r : Int32} {o0 : Nat} {x1 : Int32} {x2 : Int32} {σ : St} (F : Fx p s m args meth c cX1_couldBePatched 3 RX1 (some .boolean) (rmL 0) 0 0 g a) (ko0 : kd o0 = 1) (h : M1_couldBePatched o0 x1 x2 σ = some (r, σ')) : Z p l e (rmL 0) s m args below meth c (MQ below (QiW g a r σ') args s 0 0 (Ad a)) 3 g a 0 0 σ 0 [(0, .ref (a o0)), (1, .int x1), (2, .int x2)] [] := by
  unfold M1_couldBePatched at h
  refine z_aload_n (q := 0) F dX1_couldBePatched_0 rfl rfl ?_
  refine gf1_27 F ko0 dX1_couldBePatched_1 ?_
  refine z_iload_n (q := 1) F dX1_couldBePatched_4 rfl rfl ?_
  obtain ⟨g1, h⟩ := gd_of h
  refine z_iald F (kf_1_4 ko0) (inl (lf_1_4 ko0) g1) dX1_couldBePatched_5 ?_
  refine z_iload_n (q := 2) F dX1_couldBePatched_6 rfl rfl ?_
  refine z_ishr F dX1_couldBePatched_7 ?_
  refine z_iconst (v := 1) F dX1_couldBePatched_8 rfl ?_
  refine z_iand F dX1_couldBePatched_9 ?_
  refine z_iconst (v := 1) F dX1_couldBePatched_10 rfl ?_
  refine z_icmp_ne (tgt := 18) F dX1_couldBePatched_11 rfl (fun c2 => ?_) (fun c2 => ?_)
  · try simp only [if_neg c2] at h
    refine z_iconst (v := 0) F dX1_couldBePatched_18 rfl ?_
    exact z_bret F (by first | exact Or.inl rfl | exact Or.inr rfl) h dX1_couldBePatched_19
  · try simp only [if_pos c2] at h
    refine z_iconst (v := 1) F dX1_couldBePatched_14 rfl ?_
    refine z_goto (tgt := 19) F dX1_couldBePatched_15 rfl ?_
    exact z_bret F (by first | exact Or.inl rfl | exact Or.inr rfl) h dX1_couldBePatched_19
theorem ct1_couldBePatched {r : Int32} {o0 : Nat} {x1 : Int32} {x2 : Int32} {σ : St} (ko0 : kd o0 = 1) (h : M1_couldBePatched o0 x1 x2 σ = some (r, σ')) : Met l yX1_couldBePatched (wsY yX1_couldBePatched cX1_couldBePatched 3 (some .boolean)) (rmL 0) (PcW g a [.ref (a o0), .int x1, .int x2] σ) (QiW g a r σ') 0 0 (Ad a) :=
  ct_I (by decide) (Nat.le_of_ble_eq_true rfl) (fun p e s m args below meth c F => zM1_couldBePatched F ko0 h)
theorem cl7_380 {r : Int32} {o0 : Nat} {x1 : Int32} {x2 : Int32} (F : Fx p s m args meth c cc nL RX7 rt R cz sz g a) (ko0 : kd o0 = 1) (h : M1_couldBePatched o0 x1 x2 σ = some (r, σ1)) (hR : 0 + 1 ≤ R.frames ∧ 8 + (3 + 11) + 34 * 0 ≤ R.locals) (d : decode cc pc = .ok (.invokevirtual 380, 3)) (hrm : (rest.map fun v => v.category).sum ≤ 8) (z : Z p l e R s m args below meth c Q nL g a cz sz σ1 (pc + 3) lv (.int r :: rest)) : Z p l e R s m args below meth c Q nL g a cz sz σ pc lv (.int x2 :: .int x1 :: .ref (a o0) :: rest) :=
  z_callVNI (host := "HoleBank") (nA := 2) (As := [.int x1, .int x2]) F (ct1_couldBePatched ko0 h) ⟨(nlm 623 (by decide +kernel) rfl), (tbm 625 (by decide +kernel) rfl), (tbs 41 (by decide +kernel) rfl), (tbm 5 (by decide +kernel) rfl), (tbm 626 (by decide +kernel) rfl)⟩ (by decide +kernel) rfl ko0 (by decide) rfl rfl rfl hR d rfl hrm z
theorem zM1_countedFrom_L5 {r : Int32} {o0 : Nat} {x2 : Int32} (F : Fx p s m args meth c cX1_countedFrom 5 RX1 (some .int) (rmL 0) 0 0 g a) (ko0 : kd o0 = 1) {kx : Int32 → St → Option (Int32 × St)} (hx : ∀ (w3 : Int32) (σ : St), kx w3 σ = some (r, σ') → Z p l e (rmL 0) s m args below meth c (MQ below (QiW g a r σ') args s 0 0 (Ad a)) 5 g a 0 0 σ 34 [(3, .int w3)] []) : ∀ (n : Nat) (x3 : Int32) (x4 : Int32) (σ : St), M1_countedFrom_L5 o0 x2 kx n x3 x4 σ = some (r, σ') → Z p l e (rmL 0) s m args below meth c (MQ below (QiW g a r σ') args s 0 0 (Ad a)) 5 g a 0 0 σ 5 [(0, .ref (a o0)), (2, .int x2), (3, .int x3), (4, .int x4)] [] := by
  intro n
  induction n with
  | zero => intro x3 x4 σ h; rw [M1_countedFrom_L5] at h; cases h
  | succ n ih =>
    intro x3 x4 σ h
    rw [M1_countedFrom_L5] at h
    refine z_iload (q := 3) F dX1_countedFrom_5 rfl ?_
    refine z_iload_n (q := 1) F dX1_countedFrom_7 rfl rfl ?_
    refine z_icmp_ge (tgt := 34) F dX1_countedFrom_8 rfl (fun c1 => ?_) (fun c1 => ?_)
    · have h := ite_T c1 h
      refine z_sub (lv' := [(3, .int x3)]) [2] rfl ?_
      exact hx _ _ h
    · have h := ite_F c1 h
      refine z_iload (q := 3) F dX1_countedFrom_11 rfl ?_
      refine z_bipush (v := 52) F dX1_countedFrom_13 rfl ?_
      refine z_icmp_ge (tgt := 34) F dX1_countedFrom_15 rfl (fun c2 => ?_) (fun c2 => ?_)
      · have h := ite_T c2 h
        refine z_sub (lv' := [(3, .int x3)]) [2] rfl ?_
        exact hx _ _ h
      · have h := ite_F c2 h
        refine z_iload_n (q := 2) F dX1_countedFrom_18 rfl rfl ?_
        refine z_aload_n (q := 0) F dX1_countedFrom_19 rfl rfl ?_
        refine gf1_33 F ko0 dX1_countedFrom_20 ?_
        refine z_iload (q := 3) F dX1_countedFrom_23 rfl ?_
        obtain ⟨g3, h⟩ := gd_of h
        refine z_iald F (kf_1_6 ko0) (inl (lf_1_6 ko0) g3) dX1_countedFrom_25 ?_
        refine z_iadd F dX1_countedFrom_26 ?_
        refine z_letI h (fun v4 h => ?_)
        refine z_istore_n (lv' := [(3, .int v4), (0, .ref (a o0)), (2, .int x2), (4, .int x4)]) F dX1_countedFrom_27 rfl (by decide) rfl ?_
        refine z_iinc (q := 3) (v := x4 + 1) (lv' := [(4, .int (x4 + 1)), (3, .int v4), (0, .ref (a o0)), (2, .int x2)]) F dX1_countedFrom_28 rfl rfl (by decide) rfl ?_
        refine z_letL (s0 := 4) (lv := [(3, .int v4), (0, .ref (a o0)), (2, .int x2)]) h (fun v5 h => ?_)
        refine z_goto (tgt := 5) F dX1_countedFrom_31 rfl ?_
        refine z_sub (lv' := [(0, .ref (a o0)), (2, .int x2), (3, .int v4), (4, .int v5)]) [2, 3, 1, 0] rfl ?_
        exact ih _ _ _ h
theorem zM1_countedFrom {r : Int32} {o0 : Nat} {x1 : Int32} {x2 : Int32} {σ : St} (F : Fx p s m args meth c cX1_countedFrom 5 RX1 (some .int) (rmL 0) 0 0 g a) (ko0 : kd o0 = 1) (h : M1_countedFrom o0 x1 x2 σ = some (r, σ')) : Z p l e (rmL 0) s m args below meth c (MQ below (QiW g a r σ') args s 0 0 (Ad a)) 5 g a 0 0 σ 0 [(0, .ref (a o0)), (1, .int x1), (2, .int x2)] [] := by
  unfold M1_countedFrom at h
  refine z_iconst (v := 0) F dX1_countedFrom_0 rfl ?_
  refine z_istore_n (lv' := [(3, .int 0), (0, .ref (a o0)), (1, .int x1), (2, .int x2)]) F dX1_countedFrom_1 rfl (by decide) rfl ?_
  refine z_iload_n (q := 2) F dX1_countedFrom_2 rfl rfl ?_
  refine z_istore (lv' := [(4, .int x1), (3, .int 0), (0, .ref (a o0)), (1, .int x1), (2, .int x2)]) F dX1_countedFrom_3 (by decide) rfl ?_
  refine z_sub (lv' := [(0, .ref (a o0)), (2, .int x2), (3, .int 0), (4, .int x1)]) [2, 4, 1, 0] rfl ?_
  refine zM1_countedFrom_L5 F ko0 ?_ _ _ _ _ h
  intro v6 σ7 h
  refine z_iload_n (q := 0) F dX1_countedFrom_34 rfl rfl ?_
  exact z_iret F h dX1_countedFrom_35
theorem ct1_countedFrom {r : Int32} {o0 : Nat} {x1 : Int32} {x2 : Int32} {σ : St} (ko0 : kd o0 = 1) (h : M1_countedFrom o0 x1 x2 σ = some (r, σ')) : Met l yX1_countedFrom (wsY yX1_countedFrom cX1_countedFrom 5 (some .int)) (rmL 0) (PcW g a [.ref (a o0), .int x1, .int x2] σ) (QiW g a r σ') 0 0 (Ad a) :=
  ct_I (by decide) (Nat.le_of_ble_eq_true rfl) (fun p e s m args below meth c F => zM1_countedFrom F ko0 h)
theorem cl7_271 {r : Int32} {o0 : Nat} {x1 : Int32} {x2 : Int32} (F : Fx p s m args meth c cc nL RX7 rt R cz sz g a) (ko0 : kd o0 = 1) (h : M1_countedFrom o0 x1 x2 σ = some (r, σ1)) (hR : 0 + 1 ≤ R.frames ∧ 8 + (5 + 11) + 34 * 0 ≤ R.locals) (d : decode cc pc = .ok (.invokevirtual 271, 3)) (hrm : (rest.map fun v => v.category).sum ≤ 8) (z : Z p l e R s m args below meth c Q nL g a cz sz σ1 (pc + 3) lv (.int r :: rest)) : Z p l e R s m args below meth c Q nL g a cz sz σ pc lv (.int x2 :: .int x1 :: .ref (a o0) :: rest) :=
  z_callVNI (host := "HoleBank") (nA := 2) (As := [.int x1, .int x2]) F (ct1_countedFrom ko0 h) ⟨(nlm 717 (by decide +kernel) rfl), (tbm 719 (by decide +kernel) rfl), (tbs 54 (by decide +kernel) rfl), (tbm 5 (by decide +kernel) rfl), (tbm 720 (by decide +kernel) rfl)⟩ (by decide +kernel) rfl ko0 (by decide) rfl rfl rfl hR d rfl hrm z
theorem zM1_deepBehind {r : Int32} {o0 : Nat} {x1 : Int32} {x2 : Int32} {σ : St} (F : Fx p s m args meth c cX1_deepBehind 3 RX1 (some .int) (rmL 0) 0 0 g a) (ko0 : kd o0 = 1) (h : M1_deepBehind o0 x1 x2 σ = some (r, σ')) : Z p l e (rmL 0) s m args below meth c (MQ below (QiW g a r σ') args s 0 0 (Ad a)) 3 g a 0 0 σ 0 [(0, .ref (a o0)), (1, .int x1), (2, .int x2)] [] := by
  unfold M1_deepBehind at h
  refine z_aload_n (q := 0) F dX1_deepBehind_0 rfl rfl ?_
  refine gf1_21 F ko0 dX1_deepBehind_1 ?_
  refine z_iload_n (q := 1) F dX1_deepBehind_4 rfl rfl ?_
  refine z_bipush (v := 8) F dX1_deepBehind_5 rfl ?_
  refine z_imul F dX1_deepBehind_7 ?_
  refine z_iload_n (q := 2) F dX1_deepBehind_8 rfl rfl ?_
  refine z_iadd F dX1_deepBehind_9 ?_
  obtain ⟨g1, h⟩ := gd_of h
  refine z_iald F (kf_1_2 ko0) (inl (lf_1_2 ko0) g1) dX1_deepBehind_10 ?_
  exact z_iret F h dX1_deepBehind_11
theorem ct1_deepBehind {r : Int32} {o0 : Nat} {x1 : Int32} {x2 : Int32} {σ : St} (ko0 : kd o0 = 1) (h : M1_deepBehind o0 x1 x2 σ = some (r, σ')) : Met l yX1_deepBehind (wsY yX1_deepBehind cX1_deepBehind 3 (some .int)) (rmL 0) (PcW g a [.ref (a o0), .int x1, .int x2] σ) (QiW g a r σ') 0 0 (Ad a) :=
  ct_I (by decide) (Nat.le_of_ble_eq_true rfl) (fun p e s m args below meth c F => zM1_deepBehind F ko0 h)
theorem cl1_141 {r : Int32} {o0 : Nat} {x1 : Int32} {x2 : Int32} (F : Fx p s m args meth c cc nL RX1 rt R cz sz g a) (ko0 : kd o0 = 1) (h : M1_deepBehind o0 x1 x2 σ = some (r, σ1)) (hR : 0 + 1 ≤ R.frames ∧ 8 + (3 + 11) + 34 * 0 ≤ R.locals) (d : decode cc pc = .ok (.invokevirtual 141, 3)) (hrm : (rest.map fun v => v.category).sum ≤ 8) (z : Z p l e R s m args below meth c Q nL g a cz sz σ1 (pc + 3) lv (.int r :: rest)) : Z p l e R s m args below meth c Q nL g a cz sz σ pc lv (.int x2 :: .int x1 :: .ref (a o0) :: rest) :=
  z_callVI (nA := 2) (As := [.int x1, .int x2]) F (ct1_deepBehind ko0 h) ⟨(tbm 561 (by decide +kernel) rfl), (tbm 544 (by decide +kernel) rfl), (tbs 29 (by decide +kernel) rfl), (tbm 5 (by decide +kernel) rfl), (tbm 545 (by decide +kernel) rfl)⟩ (by decide +kernel) rfl ko0 (by decide) rfl rfl rfl hR d rfl hrm z
theorem cl7_166 {r : Int32} {o0 : Nat} {x1 : Int32} {x2 : Int32} (F : Fx p s m args meth c cc nL RX7 rt R cz sz g a) (ko0 : kd o0 = 1) (h : M1_deepBehind o0 x1 x2 σ = some (r, σ1)) (hR : 0 + 1 ≤ R.frames ∧ 8 + (3 + 11) + 34 * 0 ≤ R.locals) (d : decode cc pc = .ok (.invokevirtual 166, 3)) (hrm : (rest.map fun v => v.category).sum ≤ 8) (z : Z p l e R s m args below meth c Q nL g a cz sz σ1 (pc + 3) lv (.int r :: rest)) : Z p l e R s m args below meth c Q nL g a cz sz σ pc lv (.int x2 :: .int x1 :: .ref (a o0) :: rest) :=
  z_callVNI (host := "HoleBank") (nA := 2) (As := [.int x1, .int x2]) F (ct1_deepBehind ko0 h) ⟨(nlm 542 (by decide +kernel) rfl), (tbm 544 (by decide +kernel) rfl), (tbs 29 (by decide +kernel) rfl), (tbm 5 (by decide +kernel) rfl), (tbm 545 (by decide +kernel) rfl)⟩ (by decide +kernel) rfl ko0 (by decide) rfl rfl rfl hR d rfl hrm z
theorem zM4_cell {r : Int32} {o0 : Nat} {x1 : Int32} {x2 : Int32} {σ : St} (F : Fx p s m args meth c cX4_cell 3 RX4 (some .int) (rmL 0) 0 0 g a) (ko0 : kd o0 = 4) (h : M4_cell o0 x1 x2 σ = some (r, σ')) : Z p l e (rmL 0) s m args below meth c (MQ below (QiW g a r σ') args s 0 0 (Ad a)) 3 g a 0 0 σ 0 [(0, .ref (a o0)), (1, .int x1), (2, .int x2)] [] := by
  unfold M4_cell at h
  refine z_aload_n (q := 0) F dX4_cell_0 rfl rfl ?_
  refine gf4_18 F ko0 dX4_cell_1 ?_
  refine z_iload_n (q := 1) F dX4_cell_4 rfl rfl ?_
  refine z_iconst (v := 4) F dX4_cell_5 rfl ?_
  refine z_imul F dX4_cell_6 ?_
  refine z_iload_n (q := 2) F dX4_cell_7 rfl rfl ?_
  refine z_iadd F dX4_cell_8 ?_
  obtain ⟨g1, h⟩ := gd_of h
  refine z_iald F (kf_4_1 ko0) (inl rfl g1) dX4_cell_9 ?_
  exact z_iret F h dX4_cell_10
theorem ct4_cell {r : Int32} {o0 : Nat} {x1 : Int32} {x2 : Int32} {σ : St} (ko0 : kd o0 = 4) (h : M4_cell o0 x1 x2 σ = some (r, σ')) : Met l yX4_cell (wsY yX4_cell cX4_cell 3 (some .int)) (rmL 0) (PcW g a [.ref (a o0), .int x1, .int x2] σ) (QiW g a r σ') 0 0 (Ad a) :=
  ct_I (by decide) (Nat.le_of_ble_eq_true rfl) (fun p e s m args below meth c F => zM4_cell F ko0 h)
theorem cl1_106 {r : Int32} {o0 : Nat} {x1 : Int32} {x2 : Int32} (F : Fx p s m args meth c cc nL RX1 rt R cz sz g a) (ko0 : kd o0 = 4) (h : M4_cell o0 x1 x2 σ = some (r, σ1)) (hR : 0 + 1 ≤ R.frames ∧ 8 + (3 + 11) + 34 * 0 ≤ R.locals) (d : decode cc pc = .ok (.invokevirtual 106, 3)) (hrm : (rest.map fun v => v.category).sum ≤ 8) (z : Z p l e R s m args below meth c Q nL g a cz sz σ1 (pc + 3) lv (.int r :: rest)) : Z p l e R s m args below meth c Q nL g a cz sz σ pc lv (.int x2 :: .int x1 :: .ref (a o0) :: rest) :=
  z_callVNI (host := "HoleBank") (nA := 2) (As := [.int x1, .int x2]) F (ct4_cell ko0 h) ⟨(nlm 501 (by decide +kernel) rfl), (tbm 503 (by decide +kernel) rfl), (tbs 19 (by decide +kernel) rfl), (tbm 4 (by decide +kernel) rfl), (tbm 504 (by decide +kernel) rfl)⟩ (by decide +kernel) rfl ko0 (by decide) rfl rfl rfl hR d rfl hrm z
theorem cl7_172 {r : Int32} {o0 : Nat} {x1 : Int32} {x2 : Int32} (F : Fx p s m args meth c cc nL RX7 rt R cz sz g a) (ko0 : kd o0 = 4) (h : M4_cell o0 x1 x2 σ = some (r, σ1)) (hR : 0 + 1 ≤ R.frames ∧ 8 + (3 + 11) + 34 * 0 ≤ R.locals) (d : decode cc pc = .ok (.invokevirtual 172, 3)) (hrm : (rest.map fun v => v.category).sum ≤ 8) (z : Z p l e R s m args below meth c Q nL g a cz sz σ1 (pc + 3) lv (.int r :: rest)) : Z p l e R s m args below meth c Q nL g a cz sz σ pc lv (.int x2 :: .int x1 :: .ref (a o0) :: rest) :=
  z_callVNI (host := "HoleBank") (nA := 2) (As := [.int x1, .int x2]) F (ct4_cell ko0 h) ⟨(nlm 550 (by decide +kernel) rfl), (tbm 503 (by decide +kernel) rfl), (tbs 19 (by decide +kernel) rfl), (tbm 4 (by decide +kernel) rfl), (tbm 504 (by decide +kernel) rfl)⟩ (by decide +kernel) rfl ko0 (by decide) rfl rfl rfl hR d rfl hrm z
theorem zM1_fillAll_J62 {r : Unit} {o0 : Nat} {x1 : Int32} {o2 : Nat} {x3 : Int32} {σ : St} (F : Fx p s m args meth c cX1_fillAll 5 RX1 none (rmL 1) 0 0 g a) (ko0 : kd o0 = 1) (ko2 : kd o2 = 4) {kb : Int32 → St → Option (Unit × St)} (hb : ∀ (w3 : Int32) (σ : St), kb w3 σ = some (r, σ') → Z p l e (rmL 1) s m args below meth c (MQ below (QvW g a r σ') args s 0 0 (Ad a)) 5 g a 0 0 σ 2 [(0, .ref (a o0)), (1, .int x1), (2, .ref (a o2)), (3, .int w3)] []) (h : M1_fillAll_J62 kb o0 x1 o2 x3 σ = some (r, σ')) : Z p l e (rmL 1) s m args below meth c (MQ below (QvW g a r σ') args s 0 0 (Ad a)) 5 g a 0 0 σ 62 [(0, .ref (a o0)), (1, .int x1), (2, .ref (a o2)), (3, .int x3)] [] := by
  unfold M1_fillAll_J62 at h
  refine z_iinc (q := 3) (v := x3 + 1) (lv' := [(3, .int (x3 + 1)), (0, .ref (a o0)), (1, .int x1), (2, .ref (a o2))]) F dX1_fillAll_62 rfl rfl (by decide) rfl ?_
  refine z_letL (s0 := 3) (lv := [(0, .ref (a o0)), (1, .int x1), (2, .ref (a o2))]) h (fun v5 h => ?_)
  refine z_goto (tgt := 2) F dX1_fillAll_65 rfl ?_
  refine z_sub (lv' := [(0, .ref (a o0)), (1, .int x1), (2, .ref (a o2)), (3, .int v5)]) [1, 2, 3, 0] rfl ?_
  exact hb _ _ h
theorem zM1_fillAll_L2 {r : Unit} {o0 : Nat} {x1 : Int32} {o2 : Nat} (F : Fx p s m args meth c cX1_fillAll 5 RX1 none (rmL 1) 0 0 g a) (ko0 : kd o0 = 1) (ko2 : kd o2 = 4) {kx : St → Option (Unit × St)} (hx : ∀ (σ : St), kx σ = some (r, σ') → Z p l e (rmL 1) s m args below meth c (MQ below (QvW g a r σ') args s 0 0 (Ad a)) 5 g a 0 0 σ 68 [] []) : ∀ (n : Nat) (x3 : Int32) (σ : St), M1_fillAll_L2 o0 x1 o2 kx n x3 σ = some (r, σ') → Z p l e (rmL 1) s m args below meth c (MQ below (QvW g a r σ') args s 0 0 (Ad a)) 5 g a 0 0 σ 2 [(0, .ref (a o0)), (1, .int x1), (2, .ref (a o2)), (3, .int x3)] [] := by
  intro n
  induction n with
  | zero => intro x3 σ h; rw [M1_fillAll_L2] at h; cases h
  | succ n ih =>
    intro x3 σ h
    rw [M1_fillAll_L2] at h
    refine z_iload_n (q := 3) F dX1_fillAll_2 rfl rfl ?_
    refine z_aload_n (q := 2) F dX1_fillAll_3 rfl rfl ?_
    refine gf1_101 F ko2 dX1_fillAll_4 ?_
    refine z_icmp_ge (tgt := 68) F dX1_fillAll_7 rfl (fun c1 => ?_) (fun c1 => ?_)
    · have h := ite_T c1 h
      refine z_sub (lv' := []) [] rfl ?_
      exact hx _ h
    · have h := ite_F c1 h
      refine z_aload_n (q := 2) F dX1_fillAll_10 rfl rfl ?_
      refine z_iload_n (q := 3) F dX1_fillAll_11 rfl rfl ?_
      refine z_iconst (v := 1) F dX1_fillAll_12 rfl ?_
      obtain ⟨r2, σ2, hq2, h⟩ := bd_of h
      refine cl1_106 F ko2 hq2 ⟨Nat.le_of_ble_eq_true rfl, Nat.le_of_ble_eq_true rfl⟩ dX1_fillAll_13 (Nat.le_of_ble_eq_true rfl) ?_
      refine z_istore (lv' := [(4, .int r2), (0, .ref (a o0)), (1, .int x1), (2, .ref (a o2)), (3, .int x3)]) F dX1_fillAll_16 (by decide) rfl ?_
      refine z_aload_n (q := 3) F dX1_fillAll_18 rfl rfl ?_
      refine z_iload_n (q := 4) F dX1_fillAll_19 rfl rfl ?_
      refine z_iconst (v := 0) F dX1_fillAll_20 rfl ?_
      obtain ⟨r3, σ3, hq3, h⟩ := bd_of h
      refine cl1_106 F ko2 hq3 ⟨Nat.le_of_ble_eq_true rfl, Nat.le_of_ble_eq_true rfl⟩ dX1_fillAll_21 (Nat.le_of_ble_eq_true rfl) ?_
      refine z_iload_n (q := 2) F dX1_fillAll_24 rfl rfl ?_
      refine z_icmp_ne (tgt := 62) F dX1_fillAll_25 rfl (fun c4 => ?_) (fun c4 => ?_)
      · have h := ite_F c4 h
        refine z_sub (lv' := [(0, .ref (a o0)), (1, .int x1), (2, .ref (a o2)), (3, .int x3)]) [1, 2, 3, 4] rfl ?_
        exact zM1_fillAll_J62 F ko0 ko2 ih h
      · have h := ite_T c4 h
        refine z_iload (q := 0) F dX1_fillAll_28 rfl ?_
        refine z_aload_n (q := 1) F dX1_fillAll_30 rfl rfl ?_
        refine gf1_42 F ko0 dX1_fillAll_31 ?_
        refine z_icmp_ge (tgt := 62) F dX1_fillAll_34 rfl (fun c6 => ?_) (fun c6 => ?_)
        · have h := ite_T c6 h
          refine z_sub (lv' := [(0, .ref (a o0)), (1, .int x1), (2, .ref (a o2)), (3, .int x3)]) [1, 2, 3, 4] rfl ?_
          exact zM1_fillAll_J62 F ko0 ko2 ih h
        · have h := ite_F c6 h
          refine z_aload_n (q := 1) F dX1_fillAll_37 rfl rfl ?_
          refine gf1_11 F ko0 dX1_fillAll_38 ?_
          refine z_iload (q := 0) F dX1_fillAll_41 rfl ?_
          obtain ⟨g7, h⟩ := gd_of h
          refine z_aldH F (kf_1_0 ko0) (inb_in g7) dX1_fillAll_43 ?_
          refine gf1_88 F (kdH (kf_1_0 ko0) g7) dX1_fillAll_44 ?_
          refine z_iconst (v := (-1)) F dX1_fillAll_47 rfl ?_
          refine z_icmp_eq (tgt := 62) F dX1_fillAll_48 rfl (fun c8 => ?_) (fun c8 => ?_)
          · have h := ite_T c8 h
            refine z_sub (lv' := [(0, .ref (a o0)), (1, .int x1), (2, .ref (a o2)), (3, .int x3)]) [1, 2, 3, 4] rfl ?_
            exact zM1_fillAll_J62 F ko0 ko2 ih h
          · have h := ite_F c8 h
            refine z_aload_n (q := 1) F dX1_fillAll_51 rfl rfl ?_
            refine gf1_11 F ko0 dX1_fillAll_52 ?_
            refine z_iload (q := 0) F dX1_fillAll_55 rfl ?_
            refine z_aldH F (kf_1_0 ko0) (inb_in g7) dX1_fillAll_57 ?_
            refine z_iconst (v := 1) F dX1_fillAll_58 rfl ?_
            refine pf1_114 F (kdH (kf_1_0 ko0) g7) (by first | exact Or.inl rfl | exact Or.inr rfl) dX1_fillAll_59 ?_
            refine z_let h (fun σ10 h => ?_)
            refine z_sub (lv' := [(0, .ref (a o0)), (1, .int x1), (2, .ref (a o2)), (3, .int x3)]) [1, 2, 3, 4] rfl ?_
            exact zM1_fillAll_J62 F ko0 ko2 ih h
theorem zM1_fillAll {r : Unit} {o0 : Nat} {x1 : Int32} {o2 : Nat} {σ : St} (F : Fx p s m args meth c cX1_fillAll 5 RX1 none (rmL 1) 0 0 g a) (ko0 : kd o0 = 1) (ko2 : kd o2 = 4) (h : M1_fillAll o0 x1 o2 σ = some (r, σ')) : Z p l e (rmL 1) s m args below meth c (MQ below (QvW g a r σ') args s 0 0 (Ad a)) 5 g a 0 0 σ 0 [(0, .ref (a o0)), (1, .int x1), (2, .ref (a o2))] [] := by
  unfold M1_fillAll at h
  refine z_iconst (v := 0) F dX1_fillAll_0 rfl ?_
  refine z_istore_n (lv' := [(3, .int 0), (0, .ref (a o0)), (1, .int x1), (2, .ref (a o2))]) F dX1_fillAll_1 rfl (by decide) rfl ?_
  refine z_sub (lv' := [(0, .ref (a o0)), (1, .int x1), (2, .ref (a o2)), (3, .int 0)]) [1, 2, 3, 0] rfl ?_
  refine zM1_fillAll_L2 F ko0 ko2 ?_ _ _ _ h
  intro σ11 h
  exact z_vret F h dX1_fillAll_68
theorem ct1_fillAll {r : Unit} {o0 : Nat} {x1 : Int32} {o2 : Nat} {σ : St} (ko0 : kd o0 = 1) (ko2 : kd o2 = 4) (h : M1_fillAll o0 x1 o2 σ = some (r, σ')) : Met l yX1_fillAll (wsY yX1_fillAll cX1_fillAll 5 none) (rmL 1) (PcW g a [.ref (a o0), .int x1, .ref (a o2)] σ) (QvW g a r σ') 0 0 (Ad a) :=
  ct_V (by decide) (Nat.le_of_ble_eq_true rfl) (fun p e s m args below meth c F => zM1_fillAll F ko0 ko2 h)
theorem cl1_75 {r : Unit} {o0 : Nat} {x1 : Int32} {o2 : Nat} (F : Fx p s m args meth c cc nL RX1 rt R cz sz g a) (ko0 : kd o0 = 1) (ko2 : kd o2 = 4) (h : M1_fillAll o0 x1 o2 σ = some (r, σ1)) (hR : 1 + 1 ≤ R.frames ∧ 8 + (5 + 11) + 34 * 1 ≤ R.locals) (d : decode cc pc = .ok (.invokevirtual 75, 3)) (hrm : (rest.map fun v => v.category).sum ≤ 8) (z : Z p l e R s m args below meth c Q nL g a cz sz σ1 (pc + 3) lv (rest)) : Z p l e R s m args below meth c Q nL g a cz sz σ pc lv (.ref (a o2) :: .int x1 :: .ref (a o0) :: rest) :=
  z_callVV (nA := 2) (As := [.int x1, .ref (a o2)]) F (ct1_fillAll ko0 ko2 h) ⟨(tbm 509 (by decide +kernel) rfl), (tbm 511 (by decide +kernel) rfl), (tbs 21 (by decide +kernel) rfl), (tbm 5 (by decide +kernel) rfl), (tbm 512 (by decide +kernel) rfl)⟩ (by decide +kernel) rfl ko0 (by decide) rfl rfl rfl hR d rfl hrm z
end WalkZ
