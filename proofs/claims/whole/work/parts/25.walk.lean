section WalkZ
variable {p : Program} {l : Launch} {e : Env} {R : Room} {s : State} {m : MethodId} {args : Array Value} {below : List Frame} {meth : Method} {c : Code} {Q : State → Prop} {cc : ByteArray} {nL : Nat} {own : String} {rt : Option FieldType} {g : Gd} {a : Nat → Nat} {cz sz : Nat} {σ σ1 σ' : St} {pc : Nat} {lv lv' : List (Nat × Value)} {st st0 rest : List Value}
theorem zM8_ease {r : Int32} {x1 : Int32} {σ : St} (F : Fx p s m args meth c cX8_ease 3 RX8 (some .int) (rmL 1) 0 0 g a) (h : M8_ease x1 σ = some (r, σ')) : Z p l e (rmL 1) s m args below meth c (MQ below (QiW g a r σ') args s 0 0 (Ad a)) 3 g a 0 0 σ 0 [(0, .ref (a 0)), (1, .int x1)] [] := by
  unfold M8_ease at h
  refine z_iload_n (q := 1) F dX8_ease_0 rfl rfl ?_
  refine z_i2l F dX8_ease_1 ?_
  refine z_lconst (v := 0) F dX8_ease_2 rfl ?_
  refine z_ldc2 (v := 8) F dX8_ease_3 (tbm 1047 (by decide +kernel) rfl) ?_
  obtain ⟨r1, σ1, hq1, h⟩ := bd_of h
  refine cl8_94 F hq1 ⟨Nat.le_of_ble_eq_true rfl, Nat.le_of_ble_eq_true rfl⟩ dX8_ease_6 (Nat.le_of_ble_eq_true rfl) ?_
  refine z_if_ne (tgt := 15) F dX8_ease_9 rfl (fun c2 => ?_) (fun c2 => ?_)
  · have h := ite_F c2 h
    refine z_aload_n (q := 0) F dX8_ease_15 rfl rfl ?_
    refine gf8_82 F kdc_0 dX8_ease_16 ?_
    refine z_letI h (fun v3 h => ?_)
    refine z_istore_n (lv' := [(2, .int v3), (0, .ref (a 0)), (1, .int x1)]) F dX8_ease_19 rfl (by decide) rfl ?_
    refine z_aload_n (q := 1) F dX8_ease_20 rfl rfl ?_
    refine z_iload_n (q := 2) F dX8_ease_21 rfl rfl ?_
    refine pf8_82 F kdc_0 dX8_ease_22 ?_
    refine z_let h (fun σ4 h => ?_)
    refine z_iload_n (q := 0) F dX8_ease_25 rfl rfl ?_
    exact z_iret F h dX8_ease_26
  · have h := ite_T c2 h
    refine z_bipush (v := (-2)) F dX8_ease_12 rfl ?_
    exact z_iret F h dX8_ease_14
theorem ct8_ease {r : Int32} {x1 : Int32} {σ : St} (h : M8_ease x1 σ = some (r, σ')) : Met l yX8_ease (wsY yX8_ease cX8_ease 3 (some .int)) (rmL 1) (PcW g a [.ref (a 0), .int x1] σ) (QiW g a r σ') 0 0 (Ad a) :=
  ct_I (by decide) (Nat.le_of_ble_eq_true rfl) (fun p e s m args below meth c F => zM8_ease F h)

theorem zM8_fault {r : Int32} {x1 : Int32} {σ : St} (F : Fx p s m args meth c cX8_fault 2 RX8 (some .int) (rmL 3) 0 0 g a) (h : M8_fault x1 σ = some (r, σ')) : Z p l e (rmL 3) s m args below meth c (MQ below (QiW g a r σ') args s 0 0 (Ad a)) 2 g a 0 0 σ 0 [(0, .ref (a 0)), (1, .int x1)] [] := by
  unfold M8_fault at h
  refine z_iload_n (q := 1) F dX8_fault_0 rfl rfl ?_
  obtain ⟨r1, σ1, hq1, h⟩ := bd_of h
  refine cl8_122 F hq1 ⟨Nat.le_of_ble_eq_true rfl, Nat.le_of_ble_eq_true rfl⟩ dX8_fault_1 (Nat.le_of_ble_eq_true rfl) ?_
  refine z_if_eq (tgt := 15) F dX8_fault_4 rfl (fun c2 => ?_) (fun c2 => ?_)
  · have h := ite_T c2 h
    refine z_bipush (v := (-2)) F dX8_fault_15 rfl ?_
    exact z_iret F h dX8_fault_17
  · have h := ite_F c2 h
    refine z_aload_n (q := 0) F dX8_fault_7 rfl rfl ?_
    refine z_iload_n (q := 1) F dX8_fault_8 rfl rfl ?_
    obtain ⟨r3, σ3, hq3, h⟩ := bd_of h
    refine cl8_135 F hq3 ⟨Nat.le_of_ble_eq_true rfl, Nat.le_of_ble_eq_true rfl⟩ dX8_fault_9 (Nat.le_of_ble_eq_true rfl) ?_
    refine z_goto (tgt := 17) F dX8_fault_12 rfl ?_
    exact z_iret F h dX8_fault_17
theorem ct8_fault {r : Int32} {x1 : Int32} {σ : St} (h : M8_fault x1 σ = some (r, σ')) : Met l yX8_fault (wsY yX8_fault cX8_fault 2 (some .int)) (rmL 3) (PcW g a [.ref (a 0), .int x1] σ) (QiW g a r σ') 0 0 (Ad a) :=
  ct_I (by decide) (Nat.le_of_ble_eq_true rfl) (fun p e s m args below meth c F => zM8_fault F h)

theorem zM8_isAnyHole {r : Int32} {x0 : Int32} {σ : St} (F : Fx p s m args meth c cX8_isAnyHole 1 RX8 (some .boolean) (rmL 1) 0 0 g a) (h : M8_isAnyHole x0 σ = some (r, σ')) : Z p l e (rmL 1) s m args below meth c (MQ below (QiW g a r σ') args s 0 0 (Ad a)) 1 g a 0 0 σ 0 [(0, .int x0)] [] := by
  unfold M8_isAnyHole at h
  refine z_iload_n (q := 0) F dX8_isAnyHole_0 rfl rfl ?_
  refine z_i2l F dX8_isAnyHole_1 ?_
  refine z_lconst (v := 0) F dX8_isAnyHole_2 rfl ?_
  refine z_ldc2 (v := 7) F dX8_isAnyHole_3 (tbm 1015 (by decide +kernel) rfl) ?_
  obtain ⟨r1, σ1, hq1, h⟩ := bd_of h
  refine cl8_94 F hq1 ⟨Nat.le_of_ble_eq_true rfl, Nat.le_of_ble_eq_true rfl⟩ dX8_isAnyHole_6 (Nat.le_of_ble_eq_true rfl) ?_
  obtain ⟨g2, h⟩ := gd_of h
  exact z_bret F g2 h dX8_isAnyHole_9
theorem ct8_isAnyHole {r : Int32} {x0 : Int32} {σ : St} (h : M8_isAnyHole x0 σ = some (r, σ')) : Met l yX8_isAnyHole (wsY yX8_isAnyHole cX8_isAnyHole 1 (some .boolean)) (rmL 1) (PcW g a [.int x0] σ) (QiW g a r σ') 0 0 (Ad a) :=
  ct_I (by decide) (Nat.le_of_ble_eq_true rfl) (fun p e s m args below meth c F => zM8_isAnyHole F h)
theorem cl8_157 {r : Int32} {x0 : Int32} (F : Fx p s m args meth c cc nL RX8 rt R cz sz g a) (h : M8_isAnyHole x0 σ = some (r, σ1)) (hR : 1 + 1 ≤ R.frames ∧ 8 + (1 + 11) + 34 * 1 ≤ R.locals) (d : decode cc pc = .ok (.invokestatic 157, 3)) (hrm : (rest.map fun v => v.category).sum ≤ 8) (z : Z p l e R s m args below meth c Q nL g a cz sz σ1 (pc + 3) lv (.int r :: rest)) : Z p l e R s m args below meth c Q nL g a cz sz σ pc lv (.int x0 :: rest) :=
  z_callSI (nA := 1) (As := [.int x0]) F (ct8_isAnyHole h) ⟨(tbm 1012 (by decide +kernel) rfl), (tbm 1013 (by decide +kernel) rfl), (tbm 9 (by decide +kernel) rfl), (tbm 1014 (by decide +kernel) rfl)⟩ (by decide +kernel) rfl hR d rfl hrm z
theorem zM8_fill {r : Int32} {x1 : Int32} {x2 : Int32} {σ : St} (F : Fx p s m args meth c cX8_fill 3 RX8 (some .int) (rmL 2) 0 0 g a) (h : M8_fill x1 x2 σ = some (r, σ')) : Z p l e (rmL 2) s m args below meth c (MQ below (QiW g a r σ') args s 0 0 (Ad a)) 3 g a 0 0 σ 0 [(0, .ref (a 0)), (1, .int x1), (2, .int x2)] [] := by
  unfold M8_fill at h
  refine z_iload_n (q := 1) F dX8_fill_0 rfl rfl ?_
  obtain ⟨r1, σ1, hq1, h⟩ := bd_of h
  refine cl8_154 F hq1 ⟨Nat.le_of_ble_eq_true rfl, Nat.le_of_ble_eq_true rfl⟩ dX8_fill_1 (Nat.le_of_ble_eq_true rfl) ?_
  refine z_if_eq (tgt := 14) F dX8_fill_4 rfl (fun c2 => ?_) (fun c2 => ?_)
  · have h := ite_T c2 h
    refine z_bipush (v := (-2)) F dX8_fill_14 rfl ?_
    exact z_iret F h dX8_fill_16
  · have h := ite_F c2 h
    refine z_iload_n (q := 2) F dX8_fill_7 rfl rfl ?_
    obtain ⟨r3, σ3, hq3, h⟩ := bd_of h
    refine cl8_157 F hq3 ⟨Nat.le_of_ble_eq_true rfl, Nat.le_of_ble_eq_true rfl⟩ dX8_fill_8 (Nat.le_of_ble_eq_true rfl) ?_
    refine z_if_ne (tgt := 17) F dX8_fill_11 rfl (fun c4 => ?_) (fun c4 => ?_)
    · have h := ite_F c4 h
      refine z_aload_n (q := 0) F dX8_fill_17 rfl rfl ?_
      refine gf8_168 F kdc_0 dX8_fill_18 ?_
      refine z_bipush (v := 8) F dX8_fill_21 rfl ?_
      refine z_icmp_ne (tgt := 29) F dX8_fill_23 rfl (fun c5 => ?_) (fun c5 => ?_)
      · have h := ite_F c5 h
        refine z_aload_n (q := 0) F dX8_fill_29 rfl rfl ?_
        refine gf8_37 F kdc_0 dX8_fill_30 ?_
        refine z_iconst (v := 2) F dX8_fill_33 rfl ?_
        refine z_aload_n (q := 0) F dX8_fill_34 rfl rfl ?_
        refine gf8_168 F kdc_0 dX8_fill_35 ?_
        refine z_imul F dX8_fill_38 ?_
        refine z_iload_n (q := 1) F dX8_fill_39 rfl rfl ?_
        obtain ⟨g6, h⟩ := gd_of h
        refine z_iast F kdc_10 (inl lnc_10 g6) dX8_fill_40 ?_
        refine z_let h (fun σ7 h => ?_)
        refine z_aload_n (q := 0) F dX8_fill_41 rfl rfl ?_
        refine gf8_37 F kdc_0 dX8_fill_42 ?_
        refine z_iconst (v := 2) F dX8_fill_45 rfl ?_
        refine z_aload_n (q := 0) F dX8_fill_46 rfl rfl ?_
        refine gf8_168 F kdc_0 dX8_fill_47 ?_
        refine z_imul F dX8_fill_50 ?_
        refine z_iconst (v := 1) F dX8_fill_51 rfl ?_
        refine z_iadd F dX8_fill_52 ?_
        refine z_iload_n (q := 2) F dX8_fill_53 rfl rfl ?_
        obtain ⟨g8, h⟩ := gd_of h
        refine z_iast F kdc_10 (inl lnc_10 g8) dX8_fill_54 ?_
        refine z_let h (fun σ9 h => ?_)
        refine z_aload_n (q := 0) F dX8_fill_55 rfl rfl ?_
        refine z_dup F dX8_fill_56 rfl ?_
        refine gf8_168 F kdc_0 dX8_fill_57 ?_
        refine z_iconst (v := 1) F dX8_fill_60 rfl ?_
        refine z_iadd F dX8_fill_61 ?_
        refine pf8_168 F kdc_0 dX8_fill_62 ?_
        refine z_let h (fun σ10 h => ?_)
        refine z_aload_n (q := 0) F dX8_fill_65 rfl rfl ?_
        refine gf8_168 F kdc_0 dX8_fill_66 ?_
        exact z_iret F h dX8_fill_69
      · have h := ite_T c5 h
        refine z_bipush (v := (-4)) F dX8_fill_26 rfl ?_
        exact z_iret F h dX8_fill_28
    · have h := ite_T c4 h
      refine z_bipush (v := (-2)) F dX8_fill_14 rfl ?_
      exact z_iret F h dX8_fill_16
theorem ct8_fill {r : Int32} {x1 : Int32} {x2 : Int32} {σ : St} (h : M8_fill x1 x2 σ = some (r, σ')) : Met l yX8_fill (wsY yX8_fill cX8_fill 3 (some .int)) (rmL 2) (PcW g a [.ref (a 0), .int x1, .int x2] σ) (QiW g a r σ') 0 0 (Ad a) :=
  ct_I (by decide) (Nat.le_of_ble_eq_true rfl) (fun p e s m args below meth c F => zM8_fill F h)

theorem zM8_first {r : Int32} {σ : St} (F : Fx p s m args meth c cX8_first 1 RX8 (some .int) (rmL 6) 0 0 g a) (h : M8_first σ = some (r, σ')) : Z p l e (rmL 6) s m args below meth c (MQ below (QiW g a r σ') args s 0 0 (Ad a)) 1 g a 0 0 σ 0 [(0, .ref (a 0))] [] := by
  unfold M8_first at h
  refine z_aload_n (q := 0) F dX8_first_0 rfl rfl ?_
  obtain ⟨r1, σ1, hq1, h⟩ := bd_of h
  refine cl8_142 F hq1 ⟨Nat.le_of_ble_eq_true rfl, Nat.le_of_ble_eq_true rfl⟩ dX8_first_1 (Nat.le_of_ble_eq_true rfl) ?_
  refine z_aload_n (q := 0) F dX8_first_4 rfl rfl ?_
  obtain ⟨r2, σ2, hq2, h⟩ := bd_of h
  refine cl8_237 F hq2 ⟨Nat.le_of_ble_eq_true rfl, Nat.le_of_ble_eq_true rfl⟩ dX8_first_5 (Nat.le_of_ble_eq_true rfl) ?_
  exact z_iret F h dX8_first_8
theorem ct8_first {r : Int32} {σ : St} (h : M8_first σ = some (r, σ')) : Met l yX8_first (wsY yX8_first cX8_first 1 (some .int)) (rmL 6) (PcW g a [.ref (a 0)] σ) (QiW g a r σ') 0 0 (Ad a) :=
  ct_I (by decide) (Nat.le_of_ble_eq_true rfl) (fun p e s m args below meth c F => zM8_first F h)

theorem zM8_forget {r : Int32} {σ : St} (F : Fx p s m args meth c cX8_forget 2 RX8 (some .int) (rmL 0) 0 0 g a) (h : M8_forget σ = some (r, σ')) : Z p l e (rmL 0) s m args below meth c (MQ below (QiW g a r σ') args s 0 0 (Ad a)) 2 g a 0 0 σ 0 [(0, .ref (a 0))] [] := by
  unfold M8_forget at h
  refine z_aload_n (q := 0) F dX8_forget_0 rfl rfl ?_
  refine gf8_276 F kdc_0 dX8_forget_1 ?_
  refine z_letI h (fun v1 h => ?_)
  refine z_istore_n (lv' := [(1, .int v1), (0, .ref (a 0))]) F dX8_forget_4 rfl (by decide) rfl ?_
  refine z_aload_n (q := 1) F dX8_forget_5 rfl rfl ?_
  refine z_iconst (v := 0) F dX8_forget_6 rfl ?_
  refine pf8_276 F kdc_0 dX8_forget_7 ?_
  refine z_let h (fun σ2 h => ?_)
  refine z_iload_n (q := 0) F dX8_forget_10 rfl rfl ?_
  exact z_iret F h dX8_forget_11
theorem ct8_forget {r : Int32} {σ : St} (h : M8_forget σ = some (r, σ')) : Met l yX8_forget (wsY yX8_forget cX8_forget 2 (some .int)) (rmL 0) (PcW g a [.ref (a 0)] σ) (QiW g a r σ') 0 0 (Ad a) :=
  ct_I (by decide) (Nat.le_of_ble_eq_true rfl) (fun p e s m args below meth c F => zM8_forget F h)

theorem zM8_lacks {r : Int32} {x1 : Int32} {x2 : Int32} {x3 : Int32} {σ : St} (F : Fx p s m args meth c cX8_lacks 4 RX8 (some .int) (rmL 1) 0 0 g a) (h : M8_lacks x1 x2 x3 σ = some (r, σ')) : Z p l e (rmL 1) s m args below meth c (MQ below (QiW g a r σ') args s 0 0 (Ad a)) 4 g a 0 0 σ 0 [(0, .ref (a 0)), (1, .int x1), (2, .int x2), (3, .int x3)] [] := by
  unfold M8_lacks at h
  refine z_aload_n (q := 0) F dX8_lacks_0 rfl rfl ?_
  refine gf8_7 F kdc_0 dX8_lacks_1 ?_
  refine z_iload_n (q := 1) F dX8_lacks_4 rfl rfl ?_
  obtain ⟨g1, h⟩ := gd_of h
  refine z_iald F kdc_1 (inl lnc_1 g1) dX8_lacks_5 ?_
  refine z_if_ge (tgt := 15) F dX8_lacks_6 rfl (fun c2 => ?_) (fun c2 => ?_)
  · have h := ite_T c2 h
    refine z_aload_n (q := 0) F dX8_lacks_15 rfl rfl ?_
    refine gf8_7 F kdc_0 dX8_lacks_16 ?_
    refine z_iload_n (q := 1) F dX8_lacks_19 rfl rfl ?_
    refine z_iald F kdc_1 (inl lnc_1 g1) dX8_lacks_20 ?_
    refine z_iload_n (q := 2) F dX8_lacks_21 rfl rfl ?_
    refine z_icmp_eq (tgt := 31) F dX8_lacks_22 rfl (fun c4 => ?_) (fun c4 => ?_)
    · have h := ite_T c4 h
      refine z_iload_n (q := 3) F dX8_lacks_31 rfl rfl ?_
      refine z_i2l F dX8_lacks_32 ?_
      refine z_lconst (v := 0) F dX8_lacks_33 rfl ?_
      refine z_aload_n (q := 0) F dX8_lacks_34 rfl rfl ?_
      refine gf8_13 F kdc_0 dX8_lacks_35 ?_
      refine z_iload_n (q := 1) F dX8_lacks_38 rfl rfl ?_
      refine z_iald F kdc_2 (inl lnc_2 g1) dX8_lacks_39 ?_
      refine z_iconst (v := 1) F dX8_lacks_40 rfl ?_
      refine z_isub F dX8_lacks_41 ?_
      refine z_i2l F dX8_lacks_42 ?_
      obtain ⟨r6, σ6, hq6, h⟩ := bd_of h
      refine cl8_94 F hq6 ⟨Nat.le_of_ble_eq_true rfl, Nat.le_of_ble_eq_true rfl⟩ dX8_lacks_43 (Nat.le_of_ble_eq_true rfl) ?_
      refine z_if_eq (tgt := 53) F dX8_lacks_46 rfl (fun c7 => ?_) (fun c7 => ?_)
      · have h := ite_T c7 h
        refine z_aload_n (q := 0) F dX8_lacks_53 rfl rfl ?_
        refine z_iconst (v := 2) F dX8_lacks_54 rfl ?_
        obtain ⟨r8, σ8, hq8, h⟩ := bd_of h
        refine cl8_109 F hq8 ⟨Nat.le_of_ble_eq_true rfl, Nat.le_of_ble_eq_true rfl⟩ dX8_lacks_55 (Nat.le_of_ble_eq_true rfl) ?_
        exact z_iret F h dX8_lacks_58
      · have h := ite_F c7 h
        refine z_iconst (v := 0) F dX8_lacks_49 rfl ?_
        refine z_goto (tgt := 58) F dX8_lacks_50 rfl ?_
        exact z_iret F h dX8_lacks_58
    · have h := ite_F c4 h
      refine z_aload_n (q := 0) F dX8_lacks_25 rfl rfl ?_
      refine z_iconst (v := 3) F dX8_lacks_26 rfl ?_
      obtain ⟨r9, σ9, hq9, h⟩ := bd_of h
      refine cl8_109 F hq9 ⟨Nat.le_of_ble_eq_true rfl, Nat.le_of_ble_eq_true rfl⟩ dX8_lacks_27 (Nat.le_of_ble_eq_true rfl) ?_
      exact z_iret F h dX8_lacks_30
  · have h := ite_F c2 h
    refine z_aload_n (q := 0) F dX8_lacks_9 rfl rfl ?_
    refine z_iconst (v := 1) F dX8_lacks_10 rfl ?_
    obtain ⟨r10, σ10, hq10, h⟩ := bd_of h
    refine cl8_109 F hq10 ⟨Nat.le_of_ble_eq_true rfl, Nat.le_of_ble_eq_true rfl⟩ dX8_lacks_11 (Nat.le_of_ble_eq_true rfl) ?_
    exact z_iret F h dX8_lacks_14
theorem ct8_lacks {r : Int32} {x1 : Int32} {x2 : Int32} {x3 : Int32} {σ : St} (h : M8_lacks x1 x2 x3 σ = some (r, σ')) : Met l yX8_lacks (wsY yX8_lacks cX8_lacks 4 (some .int)) (rmL 1) (PcW g a [.ref (a 0), .int x1, .int x2, .int x3] σ) (QiW g a r σ') 0 0 (Ad a) :=
  ct_I (by decide) (Nat.le_of_ble_eq_true rfl) (fun p e s m args below meth c F => zM8_lacks F h)
theorem cl8_113 {r : Int32} {x1 : Int32} {x2 : Int32} {x3 : Int32} (F : Fx p s m args meth c cc nL RX8 rt R cz sz g a) (h : M8_lacks x1 x2 x3 σ = some (r, σ1)) (hR : 1 + 1 ≤ R.frames ∧ 8 + (4 + 11) + 34 * 1 ≤ R.locals) (d : decode cc pc = .ok (.invokevirtual 113, 3)) (hrm : (rest.map fun v => v.category).sum ≤ 8) (z : Z p l e R s m args below meth c Q nL g a cz sz σ1 (pc + 3) lv (.int r :: rest)) : Z p l e R s m args below meth c Q nL g a cz sz σ pc lv (.int x3 :: .int x2 :: .int x1 :: .ref (a 0) :: rest) :=
  z_callVI (nA := 3) (As := [.int x1, .int x2, .int x3]) F (ct8_lacks h) ⟨(tbm 937 (by decide +kernel) rfl), (tbm 939 (by decide +kernel) rfl), (tbs 63 (by decide +kernel) rfl), (tbm 9 (by decide +kernel) rfl), (tbm 940 (by decide +kernel) rfl)⟩ (by decide +kernel) rfl kdc_0 (by decide) rfl rfl rfl hR d rfl hrm z
theorem zM8_get {r : Int32} {x1 : Int32} {x2 : Int32} {x3 : Int32} {σ : St} (F : Fx p s m args meth c cX8_get 4 RX8 (some .int) (rmL 2) 0 0 g a) (h : M8_get x1 x2 x3 σ = some (r, σ')) : Z p l e (rmL 2) s m args below meth c (MQ below (QiW g a r σ') args s 0 0 (Ad a)) 4 g a 0 0 σ 0 [(0, .ref (a 0)), (1, .int x1), (2, .int x2), (3, .int x3)] [] := by
  unfold M8_get at h
  refine z_iload_n (q := 1) F dX8_get_0 rfl rfl ?_
  obtain ⟨r1, σ1, hq1, h⟩ := bd_of h
  refine cl8_103 F hq1 ⟨Nat.le_of_ble_eq_true rfl, Nat.le_of_ble_eq_true rfl⟩ dX8_get_1 (Nat.le_of_ble_eq_true rfl) ?_
  refine z_if_eq (tgt := 29) F dX8_get_4 rfl (fun c2 => ?_) (fun c2 => ?_)
  · have h := ite_T c2 h
    refine z_ldc (v := (-2147483648)) F dX8_get_29 (tbm 948 (by decide +kernel) rfl) ?_
    exact z_iret F h dX8_get_31
  · have h := ite_F c2 h
    refine z_iload_n (q := 2) F dX8_get_7 rfl rfl ?_
    refine z_i2l F dX8_get_8 ?_
    refine z_lconst (v := 0) F dX8_get_9 rfl ?_
    refine z_ldc2 (v := 2) F dX8_get_10 (tbm 924 (by decide +kernel) rfl) ?_
    obtain ⟨r3, σ3, hq3, h⟩ := bd_of h
    refine cl8_94 F hq3 ⟨Nat.le_of_ble_eq_true rfl, Nat.le_of_ble_eq_true rfl⟩ dX8_get_13 (Nat.le_of_ble_eq_true rfl) ?_
    refine z_if_eq (tgt := 29) F dX8_get_16 rfl (fun c4 => ?_) (fun c4 => ?_)
    · have h := ite_T c4 h
      refine z_ldc (v := (-2147483648)) F dX8_get_29 (tbm 948 (by decide +kernel) rfl) ?_
      exact z_iret F h dX8_get_31
    · have h := ite_F c4 h
      refine z_aload_n (q := 0) F dX8_get_19 rfl rfl ?_
      refine z_iload_n (q := 1) F dX8_get_20 rfl rfl ?_
      refine z_iload_n (q := 2) F dX8_get_21 rfl rfl ?_
      refine z_iload_n (q := 3) F dX8_get_22 rfl rfl ?_
      obtain ⟨r5, σ5, hq5, h⟩ := bd_of h
      refine cl8_113 F hq5 ⟨Nat.le_of_ble_eq_true rfl, Nat.le_of_ble_eq_true rfl⟩ dX8_get_23 (Nat.le_of_ble_eq_true rfl) ?_
      refine z_if_eq (tgt := 32) F dX8_get_26 rfl (fun c6 => ?_) (fun c6 => ?_)
      · have h := ite_T c6 h
        refine z_aload_n (q := 0) F dX8_get_32 rfl rfl ?_
        refine gf8_16 F kdc_0 dX8_get_33 ?_
        refine z_bipush (v := 60) F dX8_get_36 rfl ?_
        refine z_iload_n (q := 1) F dX8_get_38 rfl rfl ?_
        refine z_imul F dX8_get_39 ?_
        refine z_iload_n (q := 3) F dX8_get_40 rfl rfl ?_
        refine z_iadd F dX8_get_41 ?_
        obtain ⟨g7, h⟩ := gd_of h
        refine z_iald F kdc_3 (inl lnc_3 g7) dX8_get_42 ?_
        exact z_iret F h dX8_get_43
      · have h := ite_F c6 h
        refine z_ldc (v := (-2147483648)) F dX8_get_29 (tbm 948 (by decide +kernel) rfl) ?_
        exact z_iret F h dX8_get_31
theorem ct8_get {r : Int32} {x1 : Int32} {x2 : Int32} {x3 : Int32} {σ : St} (h : M8_get x1 x2 x3 σ = some (r, σ')) : Met l yX8_get (wsY yX8_get cX8_get 4 (some .int)) (rmL 2) (PcW g a [.ref (a 0), .int x1, .int x2, .int x3] σ) (QiW g a r σ') 0 0 (Ad a) :=
  ct_I (by decide) (Nat.le_of_ble_eq_true rfl) (fun p e s m args below meth c F => zM8_get F h)

theorem zM8_hole {r : Int32} {x1 : Int32} {x2 : Int32} {σ : St} (F : Fx p s m args meth c cX8_hole 3 RX8 (some .int) (rmL 4) 0 0 g a) (h : M8_hole x1 x2 σ = some (r, σ')) : Z p l e (rmL 4) s m args below meth c (MQ below (QiW g a r σ') args s 0 0 (Ad a)) 3 g a 0 0 σ 0 [(0, .ref (a 0)), (1, .int x1), (2, .int x2)] [] := by
  unfold M8_hole at h
  refine z_aload_n (q := 0) F dX8_hole_0 rfl rfl ?_
  obtain ⟨r1, σ1, hq1, h⟩ := bd_of h
  refine cl8_142 F hq1 ⟨Nat.le_of_ble_eq_true rfl, Nat.le_of_ble_eq_true rfl⟩ dX8_hole_1 (Nat.le_of_ble_eq_true rfl) ?_
  refine z_aload_n (q := 0) F dX8_hole_4 rfl rfl ?_
  refine z_iload_n (q := 1) F dX8_hole_5 rfl rfl ?_
  obtain ⟨r2, σ2, hq2, h⟩ := bd_of h
  refine cl8_145 F hq2 ⟨Nat.le_of_ble_eq_true rfl, Nat.le_of_ble_eq_true rfl⟩ dX8_hole_6 (Nat.le_of_ble_eq_true rfl) ?_
  refine z_if_eq (tgt := 37) F dX8_hole_9 rfl (fun c3 => ?_) (fun c3 => ?_)
  · have h := ite_T c3 h
    refine z_bipush (v := (-2)) F dX8_hole_37 rfl ?_
    exact z_iret F h dX8_hole_39
  · have h := ite_F c3 h
    refine z_iload_n (q := 2) F dX8_hole_12 rfl rfl ?_
    refine z_i2l F dX8_hole_13 ?_
    refine z_lconst (v := 0) F dX8_hole_14 rfl ?_
    refine z_ldc2 (v := 3) F dX8_hole_15 (tbm 920 (by decide +kernel) rfl) ?_
    obtain ⟨r4, σ4, hq4, h⟩ := bd_of h
    refine cl8_94 F hq4 ⟨Nat.le_of_ble_eq_true rfl, Nat.le_of_ble_eq_true rfl⟩ dX8_hole_18 (Nat.le_of_ble_eq_true rfl) ?_
    refine z_if_eq (tgt := 37) F dX8_hole_21 rfl (fun c5 => ?_) (fun c5 => ?_)
    · have h := ite_T c5 h
      refine z_bipush (v := (-2)) F dX8_hole_37 rfl ?_
      exact z_iret F h dX8_hole_39
    · have h := ite_F c5 h
      refine z_aload_n (q := 0) F dX8_hole_24 rfl rfl ?_
      refine gf8_31 F kdc_0 dX8_hole_25 ?_
      refine z_iconst (v := 4) F dX8_hole_28 rfl ?_
      refine z_iload_n (q := 1) F dX8_hole_29 rfl rfl ?_
      refine z_imul F dX8_hole_30 ?_
      refine z_iload_n (q := 2) F dX8_hole_31 rfl rfl ?_
      refine z_iadd F dX8_hole_32 ?_
      obtain ⟨g6, h⟩ := gd_of h
      refine z_iald F kdc_8 (inl lnc_8 g6) dX8_hole_33 ?_
      refine z_goto (tgt := 39) F dX8_hole_34 rfl ?_
      exact z_iret F h dX8_hole_39
theorem ct8_hole {r : Int32} {x1 : Int32} {x2 : Int32} {σ : St} (h : M8_hole x1 x2 σ = some (r, σ')) : Met l yX8_hole (wsY yX8_hole cX8_hole 3 (some .int)) (rmL 4) (PcW g a [.ref (a 0), .int x1, .int x2] σ) (QiW g a r σ') 0 0 (Ad a) :=
  ct_I (by decide) (Nat.le_of_ble_eq_true rfl) (fun p e s m args below meth c F => zM8_hole F h)

theorem zM8_is {r : Int32} {x1 : Int32} {x2 : Int32} {x3 : Int32} {σ : St} (F : Fx p s m args meth c cX8_is 4 RX8 (some .int) (rmL 6) 0 0 g a) (h : M8_is x1 x2 x3 σ = some (r, σ')) : Z p l e (rmL 6) s m args below meth c (MQ below (QiW g a r σ') args s 0 0 (Ad a)) 4 g a 0 0 σ 0 [(0, .ref (a 0)), (1, .int x1), (2, .int x2), (3, .int x3)] [] := by
  unfold M8_is at h
  refine z_aload_n (q := 0) F dX8_is_0 rfl rfl ?_
  obtain ⟨r1, σ1, hq1, h⟩ := bd_of h
  refine cl8_142 F hq1 ⟨Nat.le_of_ble_eq_true rfl, Nat.le_of_ble_eq_true rfl⟩ dX8_is_1 (Nat.le_of_ble_eq_true rfl) ?_
  refine z_iload_n (q := 1) F dX8_is_4 rfl rfl ?_
  obtain ⟨r2, σ2, hq2, h⟩ := bd_of h
  refine cl8_154 F hq2 ⟨Nat.le_of_ble_eq_true rfl, Nat.le_of_ble_eq_true rfl⟩ dX8_is_5 (Nat.le_of_ble_eq_true rfl) ?_
  refine z_if_eq (tgt := 41) F dX8_is_8 rfl (fun c3 => ?_) (fun c3 => ?_)
  · have h := ite_T c3 h
    refine z_bipush (v := (-2)) F dX8_is_41 rfl ?_
    exact z_iret F h dX8_is_43
  · have h := ite_F c3 h
    refine z_aload_n (q := 0) F dX8_is_11 rfl rfl ?_
    refine z_iload_n (q := 2) F dX8_is_12 rfl rfl ?_
    obtain ⟨r4, σ4, hq4, h⟩ := bd_of h
    refine cl8_145 F hq4 ⟨Nat.le_of_ble_eq_true rfl, Nat.le_of_ble_eq_true rfl⟩ dX8_is_13 (Nat.le_of_ble_eq_true rfl) ?_
    refine z_if_eq (tgt := 41) F dX8_is_16 rfl (fun c5 => ?_) (fun c5 => ?_)
    · have h := ite_T c5 h
      refine z_bipush (v := (-2)) F dX8_is_41 rfl ?_
      exact z_iret F h dX8_is_43
    · have h := ite_F c5 h
      refine z_iload_n (q := 3) F dX8_is_19 rfl rfl ?_
      refine z_i2l F dX8_is_20 ?_
      refine z_lconst (v := 0) F dX8_is_21 rfl ?_
      refine z_ldc2 (v := 2) F dX8_is_22 (tbm 924 (by decide +kernel) rfl) ?_
      obtain ⟨r6, σ6, hq6, h⟩ := bd_of h
      refine cl8_94 F hq6 ⟨Nat.le_of_ble_eq_true rfl, Nat.le_of_ble_eq_true rfl⟩ dX8_is_25 (Nat.le_of_ble_eq_true rfl) ?_
      refine z_if_eq (tgt := 41) F dX8_is_28 rfl (fun c7 => ?_) (fun c7 => ?_)
      · have h := ite_T c7 h
        refine z_bipush (v := (-2)) F dX8_is_41 rfl ?_
        exact z_iret F h dX8_is_43
      · have h := ite_F c7 h
        refine z_aload_n (q := 0) F dX8_is_31 rfl rfl ?_
        refine z_iload_n (q := 1) F dX8_is_32 rfl rfl ?_
        refine z_iload_n (q := 2) F dX8_is_33 rfl rfl ?_
        refine z_iload_n (q := 3) F dX8_is_34 rfl rfl ?_
        obtain ⟨r8, σ8, hq8, h⟩ := bd_of h
        refine cl8_221 F hq8 ⟨Nat.le_of_ble_eq_true rfl, Nat.le_of_ble_eq_true rfl⟩ dX8_is_35 (Nat.le_of_ble_eq_true rfl) ?_
        refine z_goto (tgt := 43) F dX8_is_38 rfl ?_
        exact z_iret F h dX8_is_43
theorem ct8_is {r : Int32} {x1 : Int32} {x2 : Int32} {x3 : Int32} {σ : St} (h : M8_is x1 x2 x3 σ = some (r, σ')) : Met l yX8_is (wsY yX8_is cX8_is 4 (some .int)) (rmL 6) (PcW g a [.ref (a 0), .int x1, .int x2, .int x3] σ) (QiW g a r σ') 0 0 (Ad a) :=
  ct_I (by decide) (Nat.le_of_ble_eq_true rfl) (fun p e s m args below meth c F => zM8_is F h)

theorem zM8_isWork {r : Int32} {x1 : Int32} {σ : St} (F : Fx p s m args meth c cX8_isWork 2 RX8 (some .boolean) (rmL 1) 0 0 g a) (h : M8_isWork x1 σ = some (r, σ')) : Z p l e (rmL 1) s m args below meth c (MQ below (QiW g a r σ') args s 0 0 (Ad a)) 2 g a 0 0 σ 0 [(0, .ref (a 0)), (1, .int x1)] [] := by
  unfold M8_isWork at h
  refine z_iload_n (q := 1) F dX8_isWork_0 rfl rfl ?_
  refine z_i2l F dX8_isWork_1 ?_
  refine z_lconst (v := 0) F dX8_isWork_2 rfl ?_
  refine z_aload_n (q := 0) F dX8_isWork_3 rfl rfl ?_
  refine gf8_28 F kdc_0 dX8_isWork_4 ?_
  refine z_iconst (v := 1) F dX8_isWork_7 rfl ?_
  refine z_ialdC (j := 1) F kdc_7 (inl lnc_7 (by decide)) (by decide) dX8_isWork_8 ?_
  refine z_iconst (v := 1) F dX8_isWork_9 rfl ?_
  refine z_isub F dX8_isWork_10 ?_
  refine z_i2l F dX8_isWork_11 ?_
  obtain ⟨r2, σ2, hq2, h⟩ := bd_of h
  refine cl8_94 F hq2 ⟨Nat.le_of_ble_eq_true rfl, Nat.le_of_ble_eq_true rfl⟩ dX8_isWork_12 (Nat.le_of_ble_eq_true rfl) ?_
  obtain ⟨g3, h⟩ := gd_of h
  exact z_bret F g3 h dX8_isWork_15
theorem ct8_isWork {r : Int32} {x1 : Int32} {σ : St} (h : M8_isWork x1 σ = some (r, σ')) : Met l yX8_isWork (wsY yX8_isWork cX8_isWork 2 (some .boolean)) (rmL 1) (PcW g a [.ref (a 0), .int x1] σ) (QiW g a r σ') 0 0 (Ad a) :=
  ct_I (by decide) (Nat.le_of_ble_eq_true rfl) (fun p e s m args below meth c F => zM8_isWork F h)
theorem cl8_148 {r : Int32} {x1 : Int32} (F : Fx p s m args meth c cc nL RX8 rt R cz sz g a) (h : M8_isWork x1 σ = some (r, σ1)) (hR : 1 + 1 ≤ R.frames ∧ 8 + (2 + 11) + 34 * 1 ≤ R.locals) (d : decode cc pc = .ok (.invokevirtual 148, 3)) (hrm : (rest.map fun v => v.category).sum ≤ 8) (z : Z p l e R s m args below meth c Q nL g a cz sz σ1 (pc + 3) lv (.int r :: rest)) : Z p l e R s m args below meth c Q nL g a cz sz σ pc lv (.int x1 :: .ref (a 0) :: rest) :=
  z_callVI (nA := 1) (As := [.int x1]) F (ct8_isWork h) ⟨(tbm 1000 (by decide +kernel) rfl), (tbm 1002 (by decide +kernel) rfl), (tbs 67 (by decide +kernel) rfl), (tbm 9 (by decide +kernel) rfl), (tbm 1003 (by decide +kernel) rfl)⟩ (by decide +kernel) rfl kdc_0 (by decide) rfl rfl rfl hR d rfl hrm z
theorem zM8_lay {r : Int32} {x1 : Int32} {x2 : Int32} {x3 : Int32} {x4 : Int32} {σ : St} (F : Fx p s m args meth c cX8_lay 6 RX8 (some .int) (rmL 2) 0 0 g a) (h : M8_lay x1 x2 x3 x4 σ = some (r, σ')) : Z p l e (rmL 2) s m args below meth c (MQ below (QiW g a r σ') args s 0 0 (Ad a)) 6 g a 0 0 σ 0 [(0, .ref (a 0)), (1, .int x1), (2, .int x2), (3, .int x3), (4, .int x4)] [] := by
  unfold M8_lay at h
  refine z_iload_n (q := 1) F dX8_lay_0 rfl rfl ?_
  obtain ⟨r1, σ1, hq1, h⟩ := bd_of h
  refine cl8_103 F hq1 ⟨Nat.le_of_ble_eq_true rfl, Nat.le_of_ble_eq_true rfl⟩ dX8_lay_1 (Nat.le_of_ble_eq_true rfl) ?_
  refine z_if_eq (tgt := 19) F dX8_lay_4 rfl (fun c2 => ?_) (fun c2 => ?_)
  · have h := ite_T c2 h
    refine z_bipush (v := (-2)) F dX8_lay_19 rfl ?_
    exact z_iret F h dX8_lay_21
  · have h := ite_F c2 h
    refine z_iload_n (q := 2) F dX8_lay_7 rfl rfl ?_
    refine z_i2l F dX8_lay_8 ?_
    refine z_lconst (v := 0) F dX8_lay_9 rfl ?_
    refine z_ldc2 (v := 2) F dX8_lay_10 (tbm 924 (by decide +kernel) rfl) ?_
    obtain ⟨r3, σ3, hq3, h⟩ := bd_of h
    refine cl8_94 F hq3 ⟨Nat.le_of_ble_eq_true rfl, Nat.le_of_ble_eq_true rfl⟩ dX8_lay_13 (Nat.le_of_ble_eq_true rfl) ?_
    refine z_if_ne (tgt := 22) F dX8_lay_16 rfl (fun c4 => ?_) (fun c4 => ?_)
    · have h := ite_F c4 h
      refine z_aload_n (q := 0) F dX8_lay_22 rfl rfl ?_
      refine z_iload_n (q := 1) F dX8_lay_23 rfl rfl ?_
      refine z_iload_n (q := 2) F dX8_lay_24 rfl rfl ?_
      refine z_iload_n (q := 3) F dX8_lay_25 rfl rfl ?_
      obtain ⟨r5, σ5, hq5, h⟩ := bd_of h
      refine cl8_113 F hq5 ⟨Nat.le_of_ble_eq_true rfl, Nat.le_of_ble_eq_true rfl⟩ dX8_lay_26 (Nat.le_of_ble_eq_true rfl) ?_
      refine z_istore (lv' := [(5, .int r5), (0, .ref (a 0)), (1, .int x1), (2, .int x2), (3, .int x3), (4, .int x4)]) F dX8_lay_29 (by decide) rfl ?_
      refine z_iload (q := 0) F dX8_lay_31 rfl ?_
      refine z_if_eq (tgt := 39) F dX8_lay_33 rfl (fun c6 => ?_) (fun c6 => ?_)
      · have h := ite_T c6 h
        refine z_aload_n (q := 1) F dX8_lay_39 rfl rfl ?_
        refine gf8_16 F kdc_0 dX8_lay_40 ?_
        refine z_bipush (v := 60) F dX8_lay_43 rfl ?_
        refine z_iload_n (q := 2) F dX8_lay_45 rfl rfl ?_
        refine z_imul F dX8_lay_46 ?_
        refine z_iload_n (q := 4) F dX8_lay_47 rfl rfl ?_
        refine z_iadd F dX8_lay_48 ?_
        refine z_iload_n (q := 3) F dX8_lay_49 rfl rfl ?_
        refine z_iload (q := 5) F dX8_lay_50 rfl ?_
        obtain ⟨r7, σ7, hq7, h⟩ := bd_of h
        refine cl8_117 F hq7 ⟨Nat.le_of_ble_eq_true rfl, Nat.le_of_ble_eq_true rfl⟩ dX8_lay_52 (Nat.le_of_ble_eq_true rfl) ?_
        obtain ⟨g8, h⟩ := gd_of h
        refine z_iast F kdc_3 (inl lnc_3 g8) dX8_lay_55 ?_
        refine z_let h (fun σ9 h => ?_)
        refine z_iconst (v := 1) F dX8_lay_56 rfl ?_
        exact z_iret F h dX8_lay_57
      · have h := ite_F c6 h
        refine z_iload (q := 0) F dX8_lay_36 rfl ?_
        exact z_iret F h dX8_lay_38
    · have h := ite_T c4 h
      refine z_bipush (v := (-2)) F dX8_lay_19 rfl ?_
      exact z_iret F h dX8_lay_21
theorem ct8_lay {r : Int32} {x1 : Int32} {x2 : Int32} {x3 : Int32} {x4 : Int32} {σ : St} (h : M8_lay x1 x2 x3 x4 σ = some (r, σ')) : Met l yX8_lay (wsY yX8_lay cX8_lay 6 (some .int)) (rmL 2) (PcW g a [.ref (a 0), .int x1, .int x2, .int x3, .int x4] σ) (QiW g a r σ') 0 0 (Ad a) :=
  ct_I (by decide) (Nat.le_of_ble_eq_true rfl) (fun p e s m args below meth c F => zM8_lay F h)

theorem zM8_loan {r : Int32} {x1 : Int32} {x2 : Int32} {x3 : Int32} {x4 : Int32} {σ : St} (F : Fx p s m args meth c cX8_loan 5 RX8 (some .int) (rmL 2) 0 0 g a) (h : M8_loan x1 x2 x3 x4 σ = some (r, σ')) : Z p l e (rmL 2) s m args below meth c (MQ below (QiW g a r σ') args s 0 0 (Ad a)) 5 g a 0 0 σ 0 [(0, .ref (a 0)), (1, .int x1), (2, .int x2), (3, .int x3), (4, .int x4)] [] := by
  unfold M8_loan at h
  refine z_iload_n (q := 1) F dX8_loan_0 rfl rfl ?_
  obtain ⟨r1, σ1, hq1, h⟩ := bd_of h
  refine cl8_154 F hq1 ⟨Nat.le_of_ble_eq_true rfl, Nat.le_of_ble_eq_true rfl⟩ dX8_loan_1 (Nat.le_of_ble_eq_true rfl) ?_
  refine z_if_eq (tgt := 39) F dX8_loan_4 rfl (fun c2 => ?_) (fun c2 => ?_)
  · have h := ite_T c2 h
    refine z_bipush (v := (-2)) F dX8_loan_39 rfl ?_
    exact z_iret F h dX8_loan_41
  · have h := ite_F c2 h
    refine z_iload_n (q := 2) F dX8_loan_7 rfl rfl ?_
    obtain ⟨r3, σ3, hq3, h⟩ := bd_of h
    refine cl8_157 F hq3 ⟨Nat.le_of_ble_eq_true rfl, Nat.le_of_ble_eq_true rfl⟩ dX8_loan_8 (Nat.le_of_ble_eq_true rfl) ?_
    refine z_if_eq (tgt := 39) F dX8_loan_11 rfl (fun c4 => ?_) (fun c4 => ?_)
    · have h := ite_T c4 h
      refine z_bipush (v := (-2)) F dX8_loan_39 rfl ?_
      exact z_iret F h dX8_loan_41
    · have h := ite_F c4 h
      refine z_iload_n (q := 3) F dX8_loan_14 rfl rfl ?_
      refine z_i2l F dX8_loan_15 ?_
      refine z_lconst (v := 0) F dX8_loan_16 rfl ?_
      refine z_ldc2 (v := 5) F dX8_loan_17 (tbm 1016 (by decide +kernel) rfl) ?_
      obtain ⟨r5, σ5, hq5, h⟩ := bd_of h
      refine cl8_94 F hq5 ⟨Nat.le_of_ble_eq_true rfl, Nat.le_of_ble_eq_true rfl⟩ dX8_loan_20 (Nat.le_of_ble_eq_true rfl) ?_
      refine z_if_eq (tgt := 39) F dX8_loan_23 rfl (fun c6 => ?_) (fun c6 => ?_)
      · have h := ite_T c6 h
        refine z_bipush (v := (-2)) F dX8_loan_39 rfl ?_
        exact z_iret F h dX8_loan_41
      · have h := ite_F c6 h
        refine z_iload (q := 4) F dX8_loan_26 rfl ?_
        refine z_i2l F dX8_loan_28 ?_
        refine z_lconst (v := 1) F dX8_loan_29 rfl ?_
        refine z_ldc2 (v := 9) F dX8_loan_30 (tbm 1017 (by decide +kernel) rfl) ?_
        obtain ⟨r7, σ7, hq7, h⟩ := bd_of h
        refine cl8_94 F hq7 ⟨Nat.le_of_ble_eq_true rfl, Nat.le_of_ble_eq_true rfl⟩ dX8_loan_33 (Nat.le_of_ble_eq_true rfl) ?_
        refine z_if_ne (tgt := 42) F dX8_loan_36 rfl (fun c8 => ?_) (fun c8 => ?_)
        · have h := ite_F c8 h
          refine z_aload_n (q := 0) F dX8_loan_42 rfl rfl ?_
          refine gf8_151 F kdc_0 dX8_loan_43 ?_
          refine z_bipush (v := 12) F dX8_loan_46 rfl ?_
          refine z_icmp_ne (tgt := 54) F dX8_loan_48 rfl (fun c9 => ?_) (fun c9 => ?_)
          · have h := ite_F c9 h
            refine z_aload_n (q := 0) F dX8_loan_54 rfl rfl ?_
            refine z_iload_n (q := 1) F dX8_loan_55 rfl rfl ?_
            refine z_iload_n (q := 2) F dX8_loan_56 rfl rfl ?_
            refine z_iload_n (q := 3) F dX8_loan_57 rfl rfl ?_
            refine z_iload (q := 4) F dX8_loan_58 rfl ?_
            obtain ⟨r10, σ10, hq10, h⟩ := bd_of h
            refine cl8_164 F hq10 ⟨Nat.le_of_ble_eq_true rfl, Nat.le_of_ble_eq_true rfl⟩ dX8_loan_60 (Nat.le_of_ble_eq_true rfl) ?_
            refine z_aload_n (q := 0) F dX8_loan_63 rfl rfl ?_
            refine gf8_151 F kdc_0 dX8_loan_64 ?_
            exact z_iret F h dX8_loan_67
          · have h := ite_T c9 h
            refine z_bipush (v := (-4)) F dX8_loan_51 rfl ?_
            exact z_iret F h dX8_loan_53
        · have h := ite_T c8 h
          refine z_bipush (v := (-2)) F dX8_loan_39 rfl ?_
          exact z_iret F h dX8_loan_41
theorem ct8_loan {r : Int32} {x1 : Int32} {x2 : Int32} {x3 : Int32} {x4 : Int32} {σ : St} (h : M8_loan x1 x2 x3 x4 σ = some (r, σ')) : Met l yX8_loan (wsY yX8_loan cX8_loan 5 (some .int)) (rmL 2) (PcW g a [.ref (a 0), .int x1, .int x2, .int x3, .int x4] σ) (QiW g a r σ') 0 0 (Ad a) :=
  ct_I (by decide) (Nat.le_of_ble_eq_true rfl) (fun p e s m args below meth c F => zM8_loan F h)
theorem cl8_178 {r : Int32} {x1 : Int32} {x2 : Int32} {x3 : Int32} {x4 : Int32} (F : Fx p s m args meth c cc nL RX8 rt R cz sz g a) (h : M8_loan x1 x2 x3 x4 σ = some (r, σ1)) (hR : 2 + 1 ≤ R.frames ∧ 8 + (5 + 11) + 34 * 2 ≤ R.locals) (d : decode cc pc = .ok (.invokevirtual 178, 3)) (hrm : (rest.map fun v => v.category).sum ≤ 8) (z : Z p l e R s m args below meth c Q nL g a cz sz σ1 (pc + 3) lv (.int r :: rest)) : Z p l e R s m args below meth c Q nL g a cz sz σ pc lv (.int x4 :: .int x3 :: .int x2 :: .int x1 :: .ref (a 0) :: rest) :=
  z_callVI (nA := 4) (As := [.int x1, .int x2, .int x3, .int x4]) F (ct8_loan h) ⟨(tbm 1042 (by decide +kernel) rfl), (tbm 1005 (by decide +kernel) rfl), (tbm 1006 (by decide +kernel) rfl), (tbm 9 (by decide +kernel) rfl), (tbm 1007 (by decide +kernel) rfl)⟩ (by decide +kernel) rfl kdc_0 (by decide) rfl rfl rfl hR d rfl hrm z
theorem zM8_look {r : Int32} {x1 : Int32} {σ : St} (F : Fx p s m args meth c cX8_look 2 RX8 (some .int) (rmL 8) 0 0 g a) (h : M8_look x1 σ = some (r, σ')) : Z p l e (rmL 8) s m args below meth c (MQ below (QiW g a r σ') args s 0 0 (Ad a)) 2 g a 0 0 σ 0 [(0, .ref (a 0)), (1, .int x1)] [] := by
  unfold M8_look at h
  refine z_aload_n (q := 0) F dX8_look_0 rfl rfl ?_
  obtain ⟨r1, σ1, hq1, h⟩ := bd_of h
  refine cl8_142 F hq1 ⟨Nat.le_of_ble_eq_true rfl, Nat.le_of_ble_eq_true rfl⟩ dX8_look_1 (Nat.le_of_ble_eq_true rfl) ?_
  refine z_iload_n (q := 1) F dX8_look_4 rfl rfl ?_
  obtain ⟨r2, σ2, hq2, h⟩ := bd_of h
  refine cl8_154 F hq2 ⟨Nat.le_of_ble_eq_true rfl, Nat.le_of_ble_eq_true rfl⟩ dX8_look_5 (Nat.le_of_ble_eq_true rfl) ?_
  refine z_if_eq (tgt := 19) F dX8_look_8 rfl (fun c3 => ?_) (fun c3 => ?_)
  · have h := ite_T c3 h
    refine z_bipush (v := (-2)) F dX8_look_19 rfl ?_
    exact z_iret F h dX8_look_21
  · have h := ite_F c3 h
    refine z_aload_n (q := 0) F dX8_look_11 rfl rfl ?_
    refine z_iload_n (q := 1) F dX8_look_12 rfl rfl ?_
    obtain ⟨r4, σ4, hq4, h⟩ := bd_of h
    refine cl8_289 F hq4 ⟨Nat.le_of_ble_eq_true rfl, Nat.le_of_ble_eq_true rfl⟩ dX8_look_13 (Nat.le_of_ble_eq_true rfl) ?_
    refine z_goto (tgt := 21) F dX8_look_16 rfl ?_
    exact z_iret F h dX8_look_21
theorem ct8_look {r : Int32} {x1 : Int32} {σ : St} (h : M8_look x1 σ = some (r, σ')) : Met l yX8_look (wsY yX8_look cX8_look 2 (some .int)) (rmL 8) (PcW g a [.ref (a 0), .int x1] σ) (QiW g a r σ') 0 0 (Ad a) :=
  ct_I (by decide) (Nat.le_of_ble_eq_true rfl) (fun p e s m args below meth c F => zM8_look F h)

theorem zM8_lose {r : Int32} {x1 : Int32} {σ : St} (F : Fx p s m args meth c cX8_lose 2 RX8 (some .int) (rmL 2) 0 0 g a) (h : M8_lose x1 σ = some (r, σ')) : Z p l e (rmL 2) s m args below meth c (MQ below (QiW g a r σ') args s 0 0 (Ad a)) 2 g a 0 0 σ 0 [(0, .ref (a 0)), (1, .int x1)] [] := by
  unfold M8_lose at h
  refine z_iload_n (q := 1) F dX8_lose_0 rfl rfl ?_
  obtain ⟨r1, σ1, hq1, h⟩ := bd_of h
  refine cl8_103 F hq1 ⟨Nat.le_of_ble_eq_true rfl, Nat.le_of_ble_eq_true rfl⟩ dX8_lose_1 (Nat.le_of_ble_eq_true rfl) ?_
  refine z_if_ne (tgt := 10) F dX8_lose_4 rfl (fun c2 => ?_) (fun c2 => ?_)
  · have h := ite_F c2 h
    refine z_aload_n (q := 0) F dX8_lose_10 rfl rfl ?_
    refine gf8_7 F kdc_0 dX8_lose_11 ?_
    refine z_iload_n (q := 1) F dX8_lose_14 rfl rfl ?_
    obtain ⟨g3, h⟩ := gd_of h
    refine z_iald F kdc_1 (inl lnc_1 g3) dX8_lose_15 ?_
    refine z_if_ge (tgt := 25) F dX8_lose_16 rfl (fun c4 => ?_) (fun c4 => ?_)
    · have h := ite_T c4 h
      refine z_aload_n (q := 0) F dX8_lose_25 rfl rfl ?_
      refine gf8_7 F kdc_0 dX8_lose_26 ?_
      refine z_iload_n (q := 1) F dX8_lose_29 rfl rfl ?_
      refine z_iconst (v := (-1)) F dX8_lose_30 rfl ?_
      refine z_iast F kdc_1 (inl lnc_1 g3) dX8_lose_31 ?_
      refine z_let h (fun σ6 h => ?_)
      refine z_aload_n (q := 0) F dX8_lose_32 rfl rfl ?_
      refine gf8_13 F kdc_0 dX8_lose_33 ?_
      refine z_iload_n (q := 1) F dX8_lose_36 rfl rfl ?_
      refine z_iald F kdc_2 (inl lnc_2 g3) dX8_lose_37 ?_
      exact z_iret F h dX8_lose_38
    · have h := ite_F c4 h
      refine z_aload_n (q := 0) F dX8_lose_19 rfl rfl ?_
      refine z_iconst (v := 1) F dX8_lose_20 rfl ?_
      obtain ⟨r8, σ8, hq8, h⟩ := bd_of h
      refine cl8_109 F hq8 ⟨Nat.le_of_ble_eq_true rfl, Nat.le_of_ble_eq_true rfl⟩ dX8_lose_21 (Nat.le_of_ble_eq_true rfl) ?_
      exact z_iret F h dX8_lose_24
  · have h := ite_T c2 h
    refine z_bipush (v := (-2)) F dX8_lose_7 rfl ?_
    exact z_iret F h dX8_lose_9
theorem ct8_lose {r : Int32} {x1 : Int32} {σ : St} (h : M8_lose x1 σ = some (r, σ')) : Met l yX8_lose (wsY yX8_lose cX8_lose 2 (some .int)) (rmL 2) (PcW g a [.ref (a 0), .int x1] σ) (QiW g a r σ') 0 0 (Ad a) :=
  ct_I (by decide) (Nat.le_of_ble_eq_true rfl) (fun p e s m args below meth c F => zM8_lose F h)

theorem zM8_mend {r : Int32} {x1 : Int32} {x2 : Int32} {x3 : Int32} {σ : St} (F : Fx p s m args meth c cX8_mend 4 RX8 (some .int) (rmL 7) 0 0 g a) (h : M8_mend x1 x2 x3 σ = some (r, σ')) : Z p l e (rmL 7) s m args below meth c (MQ below (QiW g a r σ') args s 0 0 (Ad a)) 4 g a 0 0 σ 0 [(0, .ref (a 0)), (1, .int x1), (2, .int x2), (3, .int x3)] [] := by
  unfold M8_mend at h
  refine z_aload_n (q := 0) F dX8_mend_0 rfl rfl ?_
  obtain ⟨r1, σ1, hq1, h⟩ := bd_of h
  refine cl8_142 F hq1 ⟨Nat.le_of_ble_eq_true rfl, Nat.le_of_ble_eq_true rfl⟩ dX8_mend_1 (Nat.le_of_ble_eq_true rfl) ?_
  refine z_aload_n (q := 0) F dX8_mend_4 rfl rfl ?_
  refine z_iload_n (q := 1) F dX8_mend_5 rfl rfl ?_
  obtain ⟨r2, σ2, hq2, h⟩ := bd_of h
  refine cl8_148 F hq2 ⟨Nat.le_of_ble_eq_true rfl, Nat.le_of_ble_eq_true rfl⟩ dX8_mend_6 (Nat.le_of_ble_eq_true rfl) ?_
  refine z_if_eq (tgt := 43) F dX8_mend_9 rfl (fun c3 => ?_) (fun c3 => ?_)
  · have h := ite_T c3 h
    refine z_bipush (v := (-2)) F dX8_mend_43 rfl ?_
    exact z_iret F h dX8_mend_45
  · have h := ite_F c3 h
    refine z_iload_n (q := 2) F dX8_mend_12 rfl rfl ?_
    obtain ⟨r4, σ4, hq4, h⟩ := bd_of h
    refine cl8_154 F hq4 ⟨Nat.le_of_ble_eq_true rfl, Nat.le_of_ble_eq_true rfl⟩ dX8_mend_13 (Nat.le_of_ble_eq_true rfl) ?_
    refine z_if_eq (tgt := 43) F dX8_mend_16 rfl (fun c5 => ?_) (fun c5 => ?_)
    · have h := ite_T c5 h
      refine z_bipush (v := (-2)) F dX8_mend_43 rfl ?_
      exact z_iret F h dX8_mend_45
    · have h := ite_F c5 h
      refine z_iload_n (q := 3) F dX8_mend_19 rfl rfl ?_
      refine z_i2l F dX8_mend_20 ?_
      refine z_ldc2 (v := (-1)) F dX8_mend_21 (tbm 1153 (by decide +kernel) rfl) ?_
      refine z_ldc2 (v := 2) F dX8_mend_24 (tbm 924 (by decide +kernel) rfl) ?_
      obtain ⟨r6, σ6, hq6, h⟩ := bd_of h
      refine cl8_94 F hq6 ⟨Nat.le_of_ble_eq_true rfl, Nat.le_of_ble_eq_true rfl⟩ dX8_mend_27 (Nat.le_of_ble_eq_true rfl) ?_
      refine z_if_eq (tgt := 43) F dX8_mend_30 rfl (fun c7 => ?_) (fun c7 => ?_)
      · have h := ite_T c7 h
        refine z_bipush (v := (-2)) F dX8_mend_43 rfl ?_
        exact z_iret F h dX8_mend_45
      · have h := ite_F c7 h
        refine z_aload_n (q := 0) F dX8_mend_33 rfl rfl ?_
        refine z_iload_n (q := 1) F dX8_mend_34 rfl rfl ?_
        refine z_iload_n (q := 2) F dX8_mend_35 rfl rfl ?_
        refine z_iload_n (q := 3) F dX8_mend_36 rfl rfl ?_
        obtain ⟨r8, σ8, hq8, h⟩ := bd_of h
        refine cl8_270 F hq8 ⟨Nat.le_of_ble_eq_true rfl, Nat.le_of_ble_eq_true rfl⟩ dX8_mend_37 (Nat.le_of_ble_eq_true rfl) ?_
        refine z_goto (tgt := 45) F dX8_mend_40 rfl ?_
        exact z_iret F h dX8_mend_45
theorem ct8_mend {r : Int32} {x1 : Int32} {x2 : Int32} {x3 : Int32} {σ : St} (h : M8_mend x1 x2 x3 σ = some (r, σ')) : Met l yX8_mend (wsY yX8_mend cX8_mend 4 (some .int)) (rmL 7) (PcW g a [.ref (a 0), .int x1, .int x2, .int x3] σ) (QiW g a r σ') 0 0 (Ad a) :=
  ct_I (by decide) (Nat.le_of_ble_eq_true rfl) (fun p e s m args below meth c F => zM8_mend F h)

theorem zM8_no {r : Int64} {x0 : Int32} {σ : St} (F : Fx p s m args meth c cX8_no 1 RX8 (some .long) (rmL 0) 0 0 g a) (h : M8_no x0 σ = some (r, σ')) : Z p l e (rmL 0) s m args below meth c (MQ below (QlW g a r σ') args s 0 0 (Ad a)) 1 g a 0 0 σ 0 [(0, .int x0)] [] := by
  unfold M8_no at h
  refine z_ldc2 (v := (-9223372036854775808)) F dX8_no_0 (tbm 1241 (by decide +kernel) rfl) ?_
  refine z_iload_n (q := 0) F dX8_no_3 rfl rfl ?_
  refine z_i2l F dX8_no_4 ?_
  refine z_lsub F dX8_no_5 ?_
  exact z_lret F h dX8_no_6
theorem ct8_no {r : Int64} {x0 : Int32} {σ : St} (h : M8_no x0 σ = some (r, σ')) : Met l yX8_no (wsY yX8_no cX8_no 1 (some .long)) (rmL 0) (PcW g a [.int x0] σ) (QlW g a r σ') 0 0 (Ad a) :=
  ct_L (by decide) (Nat.le_of_ble_eq_true rfl) (fun p e s m args below meth c F => zM8_no F h)
theorem cl8_302 {r : Int64} {x0 : Int32} (F : Fx p s m args meth c cc nL RX8 rt R cz sz g a) (h : M8_no x0 σ = some (r, σ1)) (hR : 0 + 1 ≤ R.frames ∧ 8 + (1 + 11) + 34 * 0 ≤ R.locals) (d : decode cc pc = .ok (.invokestatic 302, 3)) (hrm : (rest.map fun v => v.category).sum ≤ 8) (z : Z p l e R s m args below meth c Q nL g a cz sz σ1 (pc + 3) lv (.long r :: rest)) : Z p l e R s m args below meth c Q nL g a cz sz σ pc lv (.int x0 :: rest) :=
  z_callSL (nA := 1) (As := [.int x0]) F (ct8_no h) ⟨(tbm 1238 (by decide +kernel) rfl), (tbm 1239 (by decide +kernel) rfl), (tbm 9 (by decide +kernel) rfl), (tbm 1240 (by decide +kernel) rfl)⟩ (by decide +kernel) rfl hR d rfl hrm z
theorem zM8_moths_J51 {r : Int64} {σ : St} (F : Fx p s m args meth c cX8_moths 5 RX8 (some .long) (rmL 6) 0 0 g a) (h : M8_moths_J51 σ = some (r, σ')) : Z p l e (rmL 6) s m args below meth c (MQ below (QlW g a r σ') args s 0 0 (Ad a)) 5 g a 0 0 σ 51 [] [] := by
  unfold M8_moths_J51 at h
  refine z_bipush (v := (-2)) F dX8_moths_51 rfl ?_
  obtain ⟨r4, σ4, hq4, h⟩ := bd_of h
  refine cl8_302 F hq4 ⟨Nat.le_of_ble_eq_true rfl, Nat.le_of_ble_eq_true rfl⟩ dX8_moths_53 (Nat.le_of_ble_eq_true rfl) ?_
  exact z_lret F h dX8_moths_56
theorem zM8_moths {r : Int64} {x1 : Int32} {x2 : Int32} {x3 : Int32} {x4 : Int32} {σ : St} (F : Fx p s m args meth c cX8_moths 5 RX8 (some .long) (rmL 6) 0 0 g a) (h : M8_moths x1 x2 x3 x4 σ = some (r, σ')) : Z p l e (rmL 6) s m args below meth c (MQ below (QlW g a r σ') args s 0 0 (Ad a)) 5 g a 0 0 σ 0 [(0, .ref (a 0)), (1, .int x1), (2, .int x2), (3, .int x3), (4, .int x4)] [] := by
  unfold M8_moths at h
  refine z_aload_n (q := 0) F dX8_moths_0 rfl rfl ?_
  obtain ⟨r1, σ1, hq1, h⟩ := bd_of h
  refine cl8_142 F hq1 ⟨Nat.le_of_ble_eq_true rfl, Nat.le_of_ble_eq_true rfl⟩ dX8_moths_1 (Nat.le_of_ble_eq_true rfl) ?_
  refine z_iload_n (q := 1) F dX8_moths_4 rfl rfl ?_
  refine z_i2l F dX8_moths_5 ?_
  refine z_lconst (v := 0) F dX8_moths_6 rfl ?_
  refine z_ldc2 (v := 16) F dX8_moths_7 (tbm 1230 (by decide +kernel) rfl) ?_
  obtain ⟨r2, σ2, hq2, h⟩ := bd_of h
  refine cl8_94 F hq2 ⟨Nat.le_of_ble_eq_true rfl, Nat.le_of_ble_eq_true rfl⟩ dX8_moths_10 (Nat.le_of_ble_eq_true rfl) ?_
  refine z_if_eq (tgt := 51) F dX8_moths_13 rfl (fun c3 => ?_) (fun c3 => ?_)
  · have h := ite_T c3 h
    refine z_sub (lv' := []) [] rfl ?_
    exact zM8_moths_J51 F h
  · have h := ite_F c3 h
    refine z_iload_n (q := 2) F dX8_moths_16 rfl rfl ?_
    obtain ⟨r5, σ5, hq5, h⟩ := bd_of h
    refine cl8_154 F hq5 ⟨Nat.le_of_ble_eq_true rfl, Nat.le_of_ble_eq_true rfl⟩ dX8_moths_17 (Nat.le_of_ble_eq_true rfl) ?_
    refine z_if_eq (tgt := 51) F dX8_moths_20 rfl (fun c6 => ?_) (fun c6 => ?_)
    · have h := ite_T c6 h
      refine z_sub (lv' := []) [] rfl ?_
      exact zM8_moths_J51 F h
    · have h := ite_F c6 h
      refine z_aload_n (q := 0) F dX8_moths_23 rfl rfl ?_
      refine z_iload_n (q := 3) F dX8_moths_24 rfl rfl ?_
      obtain ⟨r7, σ7, hq7, h⟩ := bd_of h
      refine cl8_148 F hq7 ⟨Nat.le_of_ble_eq_true rfl, Nat.le_of_ble_eq_true rfl⟩ dX8_moths_25 (Nat.le_of_ble_eq_true rfl) ?_
      refine z_if_eq (tgt := 51) F dX8_moths_28 rfl (fun c8 => ?_) (fun c8 => ?_)
      · have h := ite_T c8 h
        refine z_sub (lv' := []) [] rfl ?_
        exact zM8_moths_J51 F h
      · have h := ite_F c8 h
        refine z_iload (q := 4) F dX8_moths_31 rfl ?_
        obtain ⟨r9, σ9, hq9, h⟩ := bd_of h
        refine cl8_122 F hq9 ⟨Nat.le_of_ble_eq_true rfl, Nat.le_of_ble_eq_true rfl⟩ dX8_moths_33 (Nat.le_of_ble_eq_true rfl) ?_
        refine z_if_eq (tgt := 51) F dX8_moths_36 rfl (fun c10 => ?_) (fun c10 => ?_)
        · have h := ite_T c10 h
          refine z_sub (lv' := []) [] rfl ?_
          exact zM8_moths_J51 F h
        · have h := ite_F c10 h
          refine z_aload_n (q := 0) F dX8_moths_39 rfl rfl ?_
          refine z_iload_n (q := 1) F dX8_moths_40 rfl rfl ?_
          refine z_iload_n (q := 2) F dX8_moths_41 rfl rfl ?_
          refine z_iload_n (q := 3) F dX8_moths_42 rfl rfl ?_
          refine z_iload (q := 4) F dX8_moths_43 rfl ?_
          obtain ⟨r11, σ11, hq11, h⟩ := bd_of h
          refine cl8_298 F hq11 ⟨Nat.le_of_ble_eq_true rfl, Nat.le_of_ble_eq_true rfl⟩ dX8_moths_45 (Nat.le_of_ble_eq_true rfl) ?_
          refine z_goto (tgt := 56) F dX8_moths_48 rfl ?_
          exact z_lret F h dX8_moths_56
theorem ct8_moths {r : Int64} {x1 : Int32} {x2 : Int32} {x3 : Int32} {x4 : Int32} {σ : St} (h : M8_moths x1 x2 x3 x4 σ = some (r, σ')) : Met l yX8_moths (wsY yX8_moths cX8_moths 5 (some .long)) (rmL 6) (PcW g a [.ref (a 0), .int x1, .int x2, .int x3, .int x4] σ) (QlW g a r σ') 0 0 (Ad a) :=
  ct_L (by decide) (Nat.le_of_ble_eq_true rfl) (fun p e s m args below meth c F => zM8_moths F h)

theorem zM8_never {r : Int32} {x1 : Int32} {σ : St} (F : Fx p s m args meth c cX8_never 2 RX8 (some .int) (rmL 7) 0 0 g a) (h : M8_never x1 σ = some (r, σ')) : Z p l e (rmL 7) s m args below meth c (MQ below (QiW g a r σ') args s 0 0 (Ad a)) 2 g a 0 0 σ 0 [(0, .ref (a 0)), (1, .int x1)] [] := by
  unfold M8_never at h
  refine z_aload_n (q := 0) F dX8_never_0 rfl rfl ?_
  obtain ⟨r1, σ1, hq1, h⟩ := bd_of h
  refine cl8_142 F hq1 ⟨Nat.le_of_ble_eq_true rfl, Nat.le_of_ble_eq_true rfl⟩ dX8_never_1 (Nat.le_of_ble_eq_true rfl) ?_
  refine z_iload_n (q := 1) F dX8_never_4 rfl rfl ?_
  obtain ⟨r2, σ2, hq2, h⟩ := bd_of h
  refine cl8_122 F hq2 ⟨Nat.le_of_ble_eq_true rfl, Nat.le_of_ble_eq_true rfl⟩ dX8_never_5 (Nat.le_of_ble_eq_true rfl) ?_
  refine z_if_eq (tgt := 19) F dX8_never_8 rfl (fun c3 => ?_) (fun c3 => ?_)
  · have h := ite_T c3 h
    refine z_bipush (v := (-2)) F dX8_never_19 rfl ?_
    exact z_iret F h dX8_never_21
  · have h := ite_F c3 h
    refine z_aload_n (q := 0) F dX8_never_11 rfl rfl ?_
    refine z_iload_n (q := 1) F dX8_never_12 rfl rfl ?_
    obtain ⟨r4, σ4, hq4, h⟩ := bd_of h
    refine cl8_286 F hq4 ⟨Nat.le_of_ble_eq_true rfl, Nat.le_of_ble_eq_true rfl⟩ dX8_never_13 (Nat.le_of_ble_eq_true rfl) ?_
    refine z_goto (tgt := 21) F dX8_never_16 rfl ?_
    exact z_iret F h dX8_never_21
theorem ct8_never {r : Int32} {x1 : Int32} {σ : St} (h : M8_never x1 σ = some (r, σ')) : Met l yX8_never (wsY yX8_never cX8_never 2 (some .int)) (rmL 7) (PcW g a [.ref (a 0), .int x1] σ) (QiW g a r σ') 0 0 (Ad a) :=
  ct_I (by decide) (Nat.le_of_ble_eq_true rfl) (fun p e s m args below meth c F => zM8_never F h)

theorem zM8_patch {r : Int32} {x1 : Int32} {x2 : Int32} {σ : St} (F : Fx p s m args meth c cX8_patch 3 RX8 (some .int) (rmL 2) 0 0 g a) (h : M8_patch x1 x2 σ = some (r, σ')) : Z p l e (rmL 2) s m args below meth c (MQ below (QiW g a r σ') args s 0 0 (Ad a)) 3 g a 0 0 σ 0 [(0, .ref (a 0)), (1, .int x1), (2, .int x2)] [] := by
  unfold M8_patch at h
  refine z_iload_n (q := 1) F dX8_patch_0 rfl rfl ?_
  obtain ⟨r1, σ1, hq1, h⟩ := bd_of h
  refine cl8_154 F hq1 ⟨Nat.le_of_ble_eq_true rfl, Nat.le_of_ble_eq_true rfl⟩ dX8_patch_1 (Nat.le_of_ble_eq_true rfl) ?_
  refine z_if_eq (tgt := 14) F dX8_patch_4 rfl (fun c2 => ?_) (fun c2 => ?_)
  · have h := ite_T c2 h
    refine z_bipush (v := (-2)) F dX8_patch_14 rfl ?_
    exact z_iret F h dX8_patch_16
  · have h := ite_F c2 h
    refine z_iload_n (q := 2) F dX8_patch_7 rfl rfl ?_
    obtain ⟨r3, σ3, hq3, h⟩ := bd_of h
    refine cl8_157 F hq3 ⟨Nat.le_of_ble_eq_true rfl, Nat.le_of_ble_eq_true rfl⟩ dX8_patch_8 (Nat.le_of_ble_eq_true rfl) ?_
    refine z_if_ne (tgt := 17) F dX8_patch_11 rfl (fun c4 => ?_) (fun c4 => ?_)
    · have h := ite_F c4 h
      refine z_aload_n (q := 0) F dX8_patch_17 rfl rfl ?_
      refine gf8_171 F kdc_0 dX8_patch_18 ?_
      refine z_bipush (v := 8) F dX8_patch_21 rfl ?_
      refine z_icmp_ne (tgt := 29) F dX8_patch_23 rfl (fun c5 => ?_) (fun c5 => ?_)
      · have h := ite_F c5 h
        refine z_aload_n (q := 0) F dX8_patch_29 rfl rfl ?_
        refine z_iload_n (q := 1) F dX8_patch_30 rfl rfl ?_
        refine z_iload_n (q := 2) F dX8_patch_31 rfl rfl ?_
        obtain ⟨r6, σ6, hq6, h⟩ := bd_of h
        refine cl8_174 F hq6 ⟨Nat.le_of_ble_eq_true rfl, Nat.le_of_ble_eq_true rfl⟩ dX8_patch_32 (Nat.le_of_ble_eq_true rfl) ?_
        refine z_aload_n (q := 0) F dX8_patch_35 rfl rfl ?_
        refine gf8_171 F kdc_0 dX8_patch_36 ?_
        exact z_iret F h dX8_patch_39
      · have h := ite_T c5 h
        refine z_bipush (v := (-4)) F dX8_patch_26 rfl ?_
        exact z_iret F h dX8_patch_28
    · have h := ite_T c4 h
      refine z_bipush (v := (-2)) F dX8_patch_14 rfl ?_
      exact z_iret F h dX8_patch_16
theorem ct8_patch {r : Int32} {x1 : Int32} {x2 : Int32} {σ : St} (h : M8_patch x1 x2 σ = some (r, σ')) : Met l yX8_patch (wsY yX8_patch cX8_patch 3 (some .int)) (rmL 2) (PcW g a [.ref (a 0), .int x1, .int x2] σ) (QiW g a r σ') 0 0 (Ad a) :=
  ct_I (by decide) (Nat.le_of_ble_eq_true rfl) (fun p e s m args below meth c F => zM8_patch F h)

theorem zM8_read_J114 {r : Int32} {x1 : Int32} {x3 : Int32} {y0 : Int32} {y1 : Int32} {σ : St} (F : Fx p s m args meth c cX8_read 5 RX8 (some .int) (rmL 3) 0 0 g a) {kb : Int32 → Int32 → St → Option (Int32 × St)} (hb : ∀ (w2 : Int32) (w3 : Int32) (σ : St), kb w2 w3 σ = some (r, σ') → Z p l e (rmL 3) s m args below meth c (MQ below (QiW g a r σ') args s 0 0 (Ad a)) 5 g a 0 0 σ 29 [(0, .ref (a 0)), (1, .int x1), (2, .int w2), (3, .int w3)] []) (h : M8_read_J114 kb x1 x3 y0 y1 σ = some (r, σ')) : Z p l e (rmL 3) s m args below meth c (MQ below (QiW g a r σ') args s 0 0 (Ad a)) 5 g a 0 0 σ 114 [(0, .ref (a 0)), (1, .int x1), (3, .int x3)] [.int y0, .int y1] := by
  unfold M8_read_J114 at h
  refine z_iadd F dX8_read_114 ?_
  refine z_letI h (fun v16 h => ?_)
  refine z_istore_n (lv' := [(2, .int v16), (0, .ref (a 0)), (1, .int x1), (3, .int x3)]) F dX8_read_115 rfl (by decide) rfl ?_
  refine z_goto (tgt := 29) F dX8_read_116 rfl ?_
  refine z_sub (lv' := [(0, .ref (a 0)), (1, .int x1), (2, .int v16), (3, .int x3)]) [1, 2, 0, 3] rfl ?_
  exact hb _ _ _ h
theorem zM8_read_J103 {r : Int32} {x1 : Int32} {x2 : Int32} {y0 : Int32} {σ : St} (F : Fx p s m args meth c cX8_read 5 RX8 (some .int) (rmL 3) 0 0 g a) {kb : Int32 → Int32 → St → Option (Int32 × St)} (hb : ∀ (w2 : Int32) (w3 : Int32) (σ : St), kb w2 w3 σ = some (r, σ') → Z p l e (rmL 3) s m args below meth c (MQ below (QiW g a r σ') args s 0 0 (Ad a)) 5 g a 0 0 σ 29 [(0, .ref (a 0)), (1, .int x1), (2, .int w2), (3, .int w3)] []) (h : M8_read_J103 kb x1 x2 y0 σ = some (r, σ')) : Z p l e (rmL 3) s m args below meth c (MQ below (QiW g a r σ') args s 0 0 (Ad a)) 5 g a 0 0 σ 103 [(0, .ref (a 0)), (1, .int x1), (2, .int x2)] [.int y0] := by
  unfold M8_read_J103 at h
  refine z_istore_n (lv' := [(3, .int y0), (0, .ref (a 0)), (1, .int x1), (2, .int x2)]) F dX8_read_103 rfl (by decide) rfl ?_
  refine z_iload_n (q := 3) F dX8_read_104 rfl rfl ?_
  refine z_iload_n (q := 0) F dX8_read_105 rfl rfl ?_
  refine z_if_eq (tgt := 113) F dX8_read_106 rfl (fun c15 => ?_) (fun c15 => ?_)
  · try simp only [if_pos c15] at h
    refine z_iconst (v := 0) F dX8_read_113 rfl ?_
    refine z_sub (lv' := [(0, .ref (a 0)), (1, .int x1), (3, .int y0)]) [1, 2, 0] rfl ?_
    exact zM8_read_J114 F hb h
  · try simp only [if_neg c15] at h
    refine z_iconst (v := 1) F dX8_read_109 rfl ?_
    refine z_goto (tgt := 114) F dX8_read_110 rfl ?_
    refine z_sub (lv' := [(0, .ref (a 0)), (1, .int x1), (3, .int y0)]) [1, 2, 0] rfl ?_
    exact zM8_read_J114 F hb h
theorem zM8_read_L29 {r : Int32} {x1 : Int32} (F : Fx p s m args meth c cX8_read 5 RX8 (some .int) (rmL 3) 0 0 g a) {kx : Int32 → St → Option (Int32 × St)} (hx : ∀ (w2 : Int32) (σ : St), kx w2 σ = some (r, σ') → Z p l e (rmL 3) s m args below meth c (MQ below (QiW g a r σ') args s 0 0 (Ad a)) 5 g a 0 0 σ 119 [(2, .int w2)] []) : ∀ (n : Nat) (x2 : Int32) (x3 : Int32) (σ : St), M8_read_L29 x1 kx n x2 x3 σ = some (r, σ') → Z p l e (rmL 3) s m args below meth c (MQ below (QiW g a r σ') args s 0 0 (Ad a)) 5 g a 0 0 σ 29 [(0, .ref (a 0)), (1, .int x1), (2, .int x2), (3, .int x3)] [] := by
  intro n
  induction n with
  | zero => intro x2 x3 σ h; rw [M8_read_L29] at h; cases h
  | succ n ih =>
    intro x2 x3 σ h
    rw [M8_read_L29] at h
    refine z_iload_n (q := 3) F dX8_read_29 rfl rfl ?_
    refine z_if_eq (tgt := 119) F dX8_read_30 rfl (fun c5 => ?_) (fun c5 => ?_)
    · have h := ite_T c5 h
      refine z_sub (lv' := [(2, .int x2)]) [2] rfl ?_
      exact hx _ _ h
    · have h := ite_F c5 h
      refine z_iconst (v := 4) F dX8_read_33 rfl ?_
      refine z_iload_n (q := 2) F dX8_read_34 rfl rfl ?_
      refine z_imul F dX8_read_35 ?_
      refine z_iconst (v := 4) F dX8_read_36 rfl ?_
      refine z_iadd F dX8_read_37 ?_
      refine z_aload_n (q := 0) F dX8_read_38 rfl rfl ?_
      refine gf8_13 F kdc_0 dX8_read_39 ?_
      refine z_iload_n (q := 1) F dX8_read_42 rfl rfl ?_
      obtain ⟨g6, h⟩ := gd_of h
      refine z_iald F kdc_2 (inl lnc_2 g6) dX8_read_43 ?_
      refine z_icmp_gt (tgt := 119) F dX8_read_44 rfl (fun c7 => ?_) (fun c7 => ?_)
      · have h := ite_T c7 h
        refine z_sub (lv' := [(2, .int x2)]) [2] rfl ?_
        exact hx _ _ h
      · have h := ite_F c7 h
        refine z_bipush (v := 60) F dX8_read_47 rfl ?_
        refine z_iload_n (q := 1) F dX8_read_49 rfl rfl ?_
        refine z_imul F dX8_read_50 ?_
        refine z_iconst (v := 4) F dX8_read_51 rfl ?_
        refine z_iload_n (q := 2) F dX8_read_52 rfl rfl ?_
        refine z_imul F dX8_read_53 ?_
        refine z_iadd F dX8_read_54 ?_
        refine z_letI h (fun v8 h => ?_)
        refine z_istore (lv' := [(4, .int v8), (0, .ref (a 0)), (1, .int x1), (2, .int x2), (3, .int x3)]) F dX8_read_55 (by decide) rfl ?_
        refine z_aload_n (q := 1) F dX8_read_57 rfl rfl ?_
        refine z_aload_n (q := 1) F dX8_read_58 rfl rfl ?_
        refine gf8_16 F kdc_0 dX8_read_59 ?_
        refine z_iload (q := 0) F dX8_read_62 rfl ?_
        obtain ⟨g9, h⟩ := gd_of h
        refine z_iald F kdc_3 (inl lnc_3 g9) dX8_read_64 ?_
        refine z_aload_n (q := 1) F dX8_read_65 rfl rfl ?_
        refine gf8_16 F kdc_0 dX8_read_66 ?_
        refine z_iload (q := 0) F dX8_read_69 rfl ?_
        refine z_iconst (v := 1) F dX8_read_71 rfl ?_
        refine z_iadd F dX8_read_72 ?_
        obtain ⟨g10, h⟩ := gd_of h
        refine z_iald F kdc_3 (inl lnc_3 g10) dX8_read_73 ?_
        refine z_aload_n (q := 1) F dX8_read_74 rfl rfl ?_
        refine gf8_16 F kdc_0 dX8_read_75 ?_
        refine z_iload (q := 0) F dX8_read_78 rfl ?_
        refine z_iconst (v := 2) F dX8_read_80 rfl ?_
        refine z_iadd F dX8_read_81 ?_
        obtain ⟨g11, h⟩ := gd_of h
        refine z_iald F kdc_3 (inl lnc_3 g11) dX8_read_82 ?_
        refine z_aload_n (q := 1) F dX8_read_83 rfl rfl ?_
        refine gf8_16 F kdc_0 dX8_read_84 ?_
        refine z_iload (q := 0) F dX8_read_87 rfl ?_
        refine z_iconst (v := 3) F dX8_read_89 rfl ?_
        refine z_iadd F dX8_read_90 ?_
        obtain ⟨g12, h⟩ := gd_of h
        refine z_iald F kdc_3 (inl lnc_3 g12) dX8_read_91 ?_
        obtain ⟨r13, σ13, hq13, h⟩ := bd_of h
        refine cl8_178 F hq13 ⟨Nat.le_of_ble_eq_true rfl, Nat.le_of_ble_eq_true rfl⟩ dX8_read_92 (Nat.le_of_ble_eq_true rfl) ?_
        refine z_if_lt (tgt := 102) F dX8_read_95 rfl (fun c14 => ?_) (fun c14 => ?_)
        · try simp only [if_pos c14] at h
          refine z_iconst (v := 0) F dX8_read_102 rfl ?_
          refine z_sub (lv' := [(0, .ref (a 0)), (1, .int x1), (2, .int x2)]) [1, 2, 3] rfl ?_
          exact zM8_read_J103 F ih h
        · try simp only [if_neg c14] at h
          refine z_iconst (v := 1) F dX8_read_98 rfl ?_
          refine z_goto (tgt := 103) F dX8_read_99 rfl ?_
          refine z_sub (lv' := [(0, .ref (a 0)), (1, .int x1), (2, .int x2)]) [1, 2, 3] rfl ?_
          exact zM8_read_J103 F ih h
theorem zM8_read {r : Int32} {x1 : Int32} {σ : St} (F : Fx p s m args meth c cX8_read 5 RX8 (some .int) (rmL 3) 0 0 g a) (h : M8_read x1 σ = some (r, σ')) : Z p l e (rmL 3) s m args below meth c (MQ below (QiW g a r σ') args s 0 0 (Ad a)) 5 g a 0 0 σ 0 [(0, .ref (a 0)), (1, .int x1)] [] := by
  unfold M8_read at h
  refine z_iload_n (q := 1) F dX8_read_0 rfl rfl ?_
  obtain ⟨r1, σ1, hq1, h⟩ := bd_of h
  refine cl8_103 F hq1 ⟨Nat.le_of_ble_eq_true rfl, Nat.le_of_ble_eq_true rfl⟩ dX8_read_1 (Nat.le_of_ble_eq_true rfl) ?_
  refine z_if_ne (tgt := 10) F dX8_read_4 rfl (fun c2 => ?_) (fun c2 => ?_)
  · have h := ite_F c2 h
    refine z_aload_n (q := 0) F dX8_read_10 rfl rfl ?_
    refine gf8_7 F kdc_0 dX8_read_11 ?_
    refine z_iload_n (q := 1) F dX8_read_14 rfl rfl ?_
    obtain ⟨g3, h⟩ := gd_of h
    refine z_iald F kdc_1 (inl lnc_1 g3) dX8_read_15 ?_
    refine z_if_ge (tgt := 25) F dX8_read_16 rfl (fun c4 => ?_) (fun c4 => ?_)
    · have h := ite_T c4 h
      refine z_iconst (v := 0) F dX8_read_25 rfl ?_
      refine z_istore_n (lv' := [(2, .int 0), (0, .ref (a 0)), (1, .int x1)]) F dX8_read_26 rfl (by decide) rfl ?_
      refine z_iconst (v := 1) F dX8_read_27 rfl ?_
      refine z_istore_n (lv' := [(3, .int 1), (2, .int 0), (0, .ref (a 0)), (1, .int x1)]) F dX8_read_28 rfl (by decide) rfl ?_
      refine z_sub (lv' := [(0, .ref (a 0)), (1, .int x1), (2, .int 0), (3, .int 1)]) [2, 3, 1, 0] rfl ?_
      refine zM8_read_L29 F ?_ _ _ _ _ h
      intro v17 σ18 h
      refine z_iload_n (q := 0) F dX8_read_119 rfl rfl ?_
      exact z_iret F h dX8_read_120
    · have h := ite_F c4 h
      refine z_aload_n (q := 0) F dX8_read_19 rfl rfl ?_
      refine z_iconst (v := 1) F dX8_read_20 rfl ?_
      obtain ⟨r19, σ19, hq19, h⟩ := bd_of h
      refine cl8_109 F hq19 ⟨Nat.le_of_ble_eq_true rfl, Nat.le_of_ble_eq_true rfl⟩ dX8_read_21 (Nat.le_of_ble_eq_true rfl) ?_
      exact z_iret F h dX8_read_24
  · have h := ite_T c2 h
    refine z_bipush (v := (-2)) F dX8_read_7 rfl ?_
    exact z_iret F h dX8_read_9
theorem ct8_read {r : Int32} {x1 : Int32} {σ : St} (h : M8_read x1 σ = some (r, σ')) : Met l yX8_read (wsY yX8_read cX8_read 5 (some .int)) (rmL 3) (PcW g a [.ref (a 0), .int x1] σ) (QiW g a r σ') 0 0 (Ad a) :=
  ct_I (by decide) (Nat.le_of_ble_eq_true rfl) (fun p e s m args below meth c F => zM8_read F h)

theorem zM8_run {r : Int32} {x1 : Int32} {x2 : Int32} {x3 : Int32} {σ : St} (F : Fx p s m args meth c cX8_run 4 RX8 (some .int) (rmL 6) 0 0 g a) (h : M8_run x1 x2 x3 σ = some (r, σ')) : Z p l e (rmL 6) s m args below meth c (MQ below (QiW g a r σ') args s 0 0 (Ad a)) 4 g a 0 0 σ 0 [(0, .ref (a 0)), (1, .int x1), (2, .int x2), (3, .int x3)] [] := by
  unfold M8_run at h
  refine z_aload_n (q := 0) F dX8_run_0 rfl rfl ?_
  obtain ⟨r1, σ1, hq1, h⟩ := bd_of h
  refine cl8_142 F hq1 ⟨Nat.le_of_ble_eq_true rfl, Nat.le_of_ble_eq_true rfl⟩ dX8_run_1 (Nat.le_of_ble_eq_true rfl) ?_
  refine z_iload_n (q := 2) F dX8_run_4 rfl rfl ?_
  refine z_i2l F dX8_run_5 ?_
  refine z_lconst (v := 1) F dX8_run_6 rfl ?_
  refine z_ldc2 (v := 40) F dX8_run_7 (tbm 1246 (by decide +kernel) rfl) ?_
  obtain ⟨r2, σ2, hq2, h⟩ := bd_of h
  refine cl8_94 F hq2 ⟨Nat.le_of_ble_eq_true rfl, Nat.le_of_ble_eq_true rfl⟩ dX8_run_10 (Nat.le_of_ble_eq_true rfl) ?_
  refine z_if_eq (tgt := 33) F dX8_run_13 rfl (fun c3 => ?_) (fun c3 => ?_)
  · have h := ite_T c3 h
    refine z_bipush (v := (-2)) F dX8_run_33 rfl ?_
    exact z_iret F h dX8_run_35
  · have h := ite_F c3 h
    refine z_iload_n (q := 3) F dX8_run_16 rfl rfl ?_
    obtain ⟨r4, σ4, hq4, h⟩ := bd_of h
    refine cl8_122 F hq4 ⟨Nat.le_of_ble_eq_true rfl, Nat.le_of_ble_eq_true rfl⟩ dX8_run_17 (Nat.le_of_ble_eq_true rfl) ?_
    refine z_if_eq (tgt := 33) F dX8_run_20 rfl (fun c5 => ?_) (fun c5 => ?_)
    · have h := ite_T c5 h
      refine z_bipush (v := (-2)) F dX8_run_33 rfl ?_
      exact z_iret F h dX8_run_35
    · have h := ite_F c5 h
      refine z_aload_n (q := 0) F dX8_run_23 rfl rfl ?_
      refine z_iload_n (q := 1) F dX8_run_24 rfl rfl ?_
      refine z_iload_n (q := 2) F dX8_run_25 rfl rfl ?_
      refine z_iload_n (q := 3) F dX8_run_26 rfl rfl ?_
      obtain ⟨r6, σ6, hq6, h⟩ := bd_of h
      refine cl8_315 F hq6 ⟨Nat.le_of_ble_eq_true rfl, Nat.le_of_ble_eq_true rfl⟩ dX8_run_27 (Nat.le_of_ble_eq_true rfl) ?_
      refine z_goto (tgt := 35) F dX8_run_30 rfl ?_
      exact z_iret F h dX8_run_35
theorem ct8_run {r : Int32} {x1 : Int32} {x2 : Int32} {x3 : Int32} {σ : St} (h : M8_run x1 x2 x3 σ = some (r, σ')) : Met l yX8_run (wsY yX8_run cX8_run 4 (some .int)) (rmL 6) (PcW g a [.ref (a 0), .int x1, .int x2, .int x3] σ) (QiW g a r σ') 0 0 (Ad a) :=
  ct_I (by decide) (Nat.le_of_ble_eq_true rfl) (fun p e s m args below meth c F => zM8_run F h)

theorem zM8_seen {r : Int32} {x1 : Int32} {x2 : Int32} {x3 : Int32} {σ : St} (F : Fx p s m args meth c cX8_seen 4 RX8 (some .int) (rmL 2) 0 0 g a) (h : M8_seen x1 x2 x3 σ = some (r, σ')) : Z p l e (rmL 2) s m args below meth c (MQ below (QiW g a r σ') args s 0 0 (Ad a)) 4 g a 0 0 σ 0 [(0, .ref (a 0)), (1, .int x1), (2, .int x2), (3, .int x3)] [] := by
  unfold M8_seen at h
  refine z_iload_n (q := 1) F dX8_seen_0 rfl rfl ?_
  obtain ⟨r1, σ1, hq1, h⟩ := bd_of h
  refine cl8_154 F hq1 ⟨Nat.le_of_ble_eq_true rfl, Nat.le_of_ble_eq_true rfl⟩ dX8_seen_1 (Nat.le_of_ble_eq_true rfl) ?_
  refine z_if_eq (tgt := 26) F dX8_seen_4 rfl (fun c2 => ?_) (fun c2 => ?_)
  · have h := ite_T c2 h
    refine z_bipush (v := (-2)) F dX8_seen_26 rfl ?_
    exact z_iret F h dX8_seen_28
  · have h := ite_F c2 h
    refine z_iload_n (q := 2) F dX8_seen_7 rfl rfl ?_
    obtain ⟨r3, σ3, hq3, h⟩ := bd_of h
    refine cl8_157 F hq3 ⟨Nat.le_of_ble_eq_true rfl, Nat.le_of_ble_eq_true rfl⟩ dX8_seen_8 (Nat.le_of_ble_eq_true rfl) ?_
    refine z_if_eq (tgt := 26) F dX8_seen_11 rfl (fun c4 => ?_) (fun c4 => ?_)
    · have h := ite_T c4 h
      refine z_bipush (v := (-2)) F dX8_seen_26 rfl ?_
      exact z_iret F h dX8_seen_28
    · have h := ite_F c4 h
      refine z_iload_n (q := 3) F dX8_seen_14 rfl rfl ?_
      refine z_i2l F dX8_seen_15 ?_
      refine z_lconst (v := 0) F dX8_seen_16 rfl ?_
      refine z_ldc2 (v := 9) F dX8_seen_17 (tbm 1017 (by decide +kernel) rfl) ?_
      obtain ⟨r5, σ5, hq5, h⟩ := bd_of h
      refine cl8_94 F hq5 ⟨Nat.le_of_ble_eq_true rfl, Nat.le_of_ble_eq_true rfl⟩ dX8_seen_20 (Nat.le_of_ble_eq_true rfl) ?_
      refine z_if_ne (tgt := 29) F dX8_seen_23 rfl (fun c6 => ?_) (fun c6 => ?_)
      · have h := ite_F c6 h
        refine z_aload_n (q := 0) F dX8_seen_29 rfl rfl ?_
        refine gf8_276 F kdc_0 dX8_seen_30 ?_
        refine z_bipush (v := 8) F dX8_seen_33 rfl ?_
        refine z_icmp_ne (tgt := 41) F dX8_seen_35 rfl (fun c7 => ?_) (fun c7 => ?_)
        · have h := ite_F c7 h
          refine z_aload_n (q := 0) F dX8_seen_41 rfl rfl ?_
          refine gf8_76 F kdc_0 dX8_seen_42 ?_
          refine z_iconst (v := 3) F dX8_seen_45 rfl ?_
          refine z_aload_n (q := 0) F dX8_seen_46 rfl rfl ?_
          refine gf8_276 F kdc_0 dX8_seen_47 ?_
          refine z_imul F dX8_seen_50 ?_
          refine z_iload_n (q := 1) F dX8_seen_51 rfl rfl ?_
          obtain ⟨g8, h⟩ := gd_of h
          refine z_iast F kdc_23 (inl lnc_23 g8) dX8_seen_52 ?_
          refine z_let h (fun σ9 h => ?_)
          refine z_aload_n (q := 0) F dX8_seen_53 rfl rfl ?_
          refine gf8_76 F kdc_0 dX8_seen_54 ?_
          refine z_iconst (v := 3) F dX8_seen_57 rfl ?_
          refine z_aload_n (q := 0) F dX8_seen_58 rfl rfl ?_
          refine gf8_276 F kdc_0 dX8_seen_59 ?_
          refine z_imul F dX8_seen_62 ?_
          refine z_iconst (v := 1) F dX8_seen_63 rfl ?_
          refine z_iadd F dX8_seen_64 ?_
          refine z_iload_n (q := 2) F dX8_seen_65 rfl rfl ?_
          obtain ⟨g10, h⟩ := gd_of h
          refine z_iast F kdc_23 (inl lnc_23 g10) dX8_seen_66 ?_
          refine z_let h (fun σ11 h => ?_)
          refine z_aload_n (q := 0) F dX8_seen_67 rfl rfl ?_
          refine gf8_76 F kdc_0 dX8_seen_68 ?_
          refine z_iconst (v := 3) F dX8_seen_71 rfl ?_
          refine z_aload_n (q := 0) F dX8_seen_72 rfl rfl ?_
          refine gf8_276 F kdc_0 dX8_seen_73 ?_
          refine z_imul F dX8_seen_76 ?_
          refine z_iconst (v := 2) F dX8_seen_77 rfl ?_
          refine z_iadd F dX8_seen_78 ?_
          refine z_iload_n (q := 3) F dX8_seen_79 rfl rfl ?_
          obtain ⟨g12, h⟩ := gd_of h
          refine z_iast F kdc_23 (inl lnc_23 g12) dX8_seen_80 ?_
          refine z_let h (fun σ13 h => ?_)
          refine z_aload_n (q := 0) F dX8_seen_81 rfl rfl ?_
          refine z_dup F dX8_seen_82 rfl ?_
          refine gf8_276 F kdc_0 dX8_seen_83 ?_
          refine z_iconst (v := 1) F dX8_seen_86 rfl ?_
          refine z_iadd F dX8_seen_87 ?_
          refine pf8_276 F kdc_0 dX8_seen_88 ?_
          refine z_let h (fun σ14 h => ?_)
          refine z_aload_n (q := 0) F dX8_seen_91 rfl rfl ?_
          refine gf8_276 F kdc_0 dX8_seen_92 ?_
          exact z_iret F h dX8_seen_95
        · have h := ite_T c7 h
          refine z_bipush (v := (-4)) F dX8_seen_38 rfl ?_
          exact z_iret F h dX8_seen_40
      · have h := ite_T c6 h
        refine z_bipush (v := (-2)) F dX8_seen_26 rfl ?_
        exact z_iret F h dX8_seen_28
theorem ct8_seen {r : Int32} {x1 : Int32} {x2 : Int32} {x3 : Int32} {σ : St} (h : M8_seen x1 x2 x3 σ = some (r, σ')) : Met l yX8_seen (wsY yX8_seen cX8_seen 4 (some .int)) (rmL 2) (PcW g a [.ref (a 0), .int x1, .int x2, .int x3] σ) (QiW g a r σ') 0 0 (Ad a) :=
  ct_I (by decide) (Nat.le_of_ble_eq_true rfl) (fun p e s m args below meth c F => zM8_seen F h)

end WalkZ
