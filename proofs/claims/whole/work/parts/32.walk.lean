section WalkZ
variable {p : Program} {l : Launch} {e : Env} {R : Room} {s : State} {m : MethodId} {args : Array Value} {below : List Frame} {meth : Method} {c : Code} {Q : State → Prop} {cc : ByteArray} {nL : Nat} {own : String} {rt : Option FieldType} {g : Gd} {a : Nat → Nat} {cz sz : Nat} {σ σ1 σ' : St} {pc : Nat} {lv lv' : List (Nat × Value)} {st st0 rest : List Value}
theorem zM7_ease {r : Int32} {x1 : Int32} {σ : St} (F : Fx p s m args meth c cX7_ease 3 RX7 (some .int) (rmL 1) 0 0 g a) (h : M7_ease x1 σ = some (r, σ')) : Z p l e (rmL 1) s m args below meth c (MQ below (QiW g a r σ') args s 0 0 (Ad a)) 3 g a 0 0 σ 0 [(0, .ref (a 25)), (1, .int x1)] [] := by
  unfold M7_ease at h
  refine z_iload_n (q := 1) F dX7_ease_0 rfl rfl ?_
  refine z_bipush (v := 9) F dX7_ease_1 rfl ?_
  obtain ⟨r1, σ1, hq1, h⟩ := bd_of h
  refine cl7_83 F hq1 ⟨Nat.le_of_ble_eq_true rfl, Nat.le_of_ble_eq_true rfl⟩ dX7_ease_3 (Nat.le_of_ble_eq_true rfl) ?_
  refine z_if_ne (tgt := 12) F dX7_ease_6 rfl (fun c2 => ?_) (fun c2 => ?_)
  · have h := ite_F c2 h
    refine z_aload_n (q := 0) F dX7_ease_12 rfl rfl ?_
    refine gf7_75 F kdc_25 dX7_ease_13 ?_
    refine z_letI h (fun v3 h => ?_)
    refine z_istore_n (lv' := [(2, .int v3), (0, .ref (a 25)), (1, .int x1)]) F dX7_ease_16 rfl (by decide) rfl ?_
    refine z_aload_n (q := 1) F dX7_ease_17 rfl rfl ?_
    refine z_iload_n (q := 2) F dX7_ease_18 rfl rfl ?_
    refine pf7_75 F kdc_25 dX7_ease_19 ?_
    refine z_let h (fun σ4 h => ?_)
    refine z_iload_n (q := 0) F dX7_ease_22 rfl rfl ?_
    exact z_iret F h dX7_ease_23
  · have h := ite_T c2 h
    refine z_bipush (v := (-2)) F dX7_ease_9 rfl ?_
    exact z_iret F h dX7_ease_11
theorem ct7_ease {r : Int32} {x1 : Int32} {σ : St} (h : M7_ease x1 σ = some (r, σ')) : Met l yX7_ease (wsY yX7_ease cX7_ease 3 (some .int)) (rmL 1) (PcW g a [.ref (a 25), .int x1] σ) (QiW g a r σ') 0 0 (Ad a) :=
  ct_I (by decide) (Nat.le_of_ble_eq_true rfl) (fun p e s m args below meth c F => zM7_ease F h)

theorem zM7_tell {r : Int32} {o1 : Nat} {x2 : Int32} {x3 : Int32} {σ : St} (F : Fx p s m args meth c cX7_tell 4 RX7 (some .int) (rmL 1) 0 0 g a) (ko1 : kd o1 = 4) (h : M7_tell o1 x2 x3 σ = some (r, σ')) : Z p l e (rmL 1) s m args below meth c (MQ below (QiW g a r σ') args s 0 0 (Ad a)) 4 g a 0 0 σ 0 [(0, .ref (a 25)), (1, .ref (a o1)), (2, .int x2), (3, .int x3)] [] := by
  unfold M7_tell at h
  refine z_iload_n (q := 2) F dX7_tell_0 rfl rfl ?_
  refine z_bipush (v := 40) F dX7_tell_1 rfl ?_
  obtain ⟨r1, σ1, hq1, h⟩ := bd_of h
  refine cl7_83 F hq1 ⟨Nat.le_of_ble_eq_true rfl, Nat.le_of_ble_eq_true rfl⟩ dX7_tell_3 (Nat.le_of_ble_eq_true rfl) ?_
  refine z_if_eq (tgt := 18) F dX7_tell_6 rfl (fun c2 => ?_) (fun c2 => ?_)
  · have h := ite_T c2 h
    refine z_bipush (v := (-2)) F dX7_tell_18 rfl ?_
    exact z_iret F h dX7_tell_20
  · have h := ite_F c2 h
    refine z_iload_n (q := 3) F dX7_tell_9 rfl rfl ?_
    refine z_bipush (v := 8) F dX7_tell_10 rfl ?_
    obtain ⟨r3, σ3, hq3, h⟩ := bd_of h
    refine cl7_83 F hq3 ⟨Nat.le_of_ble_eq_true rfl, Nat.le_of_ble_eq_true rfl⟩ dX7_tell_12 (Nat.le_of_ble_eq_true rfl) ?_
    refine z_if_ne (tgt := 21) F dX7_tell_15 rfl (fun c4 => ?_) (fun c4 => ?_)
    · have h := ite_F c4 h
      refine z_aload_n (q := 1) F dX7_tell_21 rfl rfl ?_
      obtain ⟨r5, σ5, hq5, h⟩ := bd_of h
      refine cl7_122 F ko1 hq5 ⟨Nat.le_of_ble_eq_true rfl, Nat.le_of_ble_eq_true rfl⟩ dX7_tell_22 (Nat.le_of_ble_eq_true rfl) ?_
      refine z_if_eq (tgt := 31) F dX7_tell_25 rfl (fun c6 => ?_) (fun c6 => ?_)
      · have h := ite_T c6 h
        refine z_aload_n (q := 0) F dX7_tell_31 rfl rfl ?_
        refine z_iconst (v := 1) F dX7_tell_32 rfl ?_
        refine pf7_48 F kdc_25 (by first | exact Or.inl rfl | exact Or.inr rfl) dX7_tell_33 ?_
        refine z_let h (fun σ7 h => ?_)
        refine z_aload_n (q := 1) F dX7_tell_36 rfl rfl ?_
        refine z_iload_n (q := 2) F dX7_tell_37 rfl rfl ?_
        refine z_iload_n (q := 3) F dX7_tell_38 rfl rfl ?_
        refine z_iconst (v := 0) F dX7_tell_39 rfl ?_
        refine z_iconst (v := 0) F dX7_tell_40 rfl ?_
        obtain ⟨r8, σ8, hq8, h⟩ := bd_of h
        refine cl7_126 F ko1 hq8 ⟨Nat.le_of_ble_eq_true rfl, Nat.le_of_ble_eq_true rfl⟩ dX7_tell_41 (Nat.le_of_ble_eq_true rfl) ?_
        exact z_iret F h dX7_tell_44
      · have h := ite_F c6 h
        refine z_bipush (v := (-4)) F dX7_tell_28 rfl ?_
        exact z_iret F h dX7_tell_30
    · have h := ite_T c4 h
      refine z_bipush (v := (-2)) F dX7_tell_18 rfl ?_
      exact z_iret F h dX7_tell_20
theorem ct7_tell {r : Int32} {o1 : Nat} {x2 : Int32} {x3 : Int32} {σ : St} (ko1 : kd o1 = 4) (h : M7_tell o1 x2 x3 σ = some (r, σ')) : Met l yX7_tell (wsY yX7_tell cX7_tell 4 (some .int)) (rmL 1) (PcW g a [.ref (a 25), .ref (a o1), .int x2, .int x3] σ) (QiW g a r σ') 0 0 (Ad a) :=
  ct_I (by decide) (Nat.le_of_ble_eq_true rfl) (fun p e s m args below meth c F => zM7_tell F ko1 h)
theorem cl7_133 {r : Int32} {o1 : Nat} {x2 : Int32} {x3 : Int32} (F : Fx p s m args meth c cc nL RX7 rt R cz sz g a) (ko1 : kd o1 = 4) (h : M7_tell o1 x2 x3 σ = some (r, σ1)) (hR : 1 + 1 ≤ R.frames ∧ 8 + (4 + 11) + 34 * 1 ≤ R.locals) (d : decode cc pc = .ok (.invokevirtual 133, 3)) (hrm : (rest.map fun v => v.category).sum ≤ 8) (z : Z p l e R s m args below meth c Q nL g a cz sz σ1 (pc + 3) lv (.int r :: rest)) : Z p l e R s m args below meth c Q nL g a cz sz σ pc lv (.int x3 :: .int x2 :: .ref (a o1) :: .ref (a 25) :: rest) :=
  z_callVI (nA := 3) (As := [.ref (a o1), .int x2, .int x3]) F (ct7_tell ko1 h) ⟨(tbm 440 (by decide +kernel) rfl), (tbm 442 (by decide +kernel) rfl), (tbs 11 (by decide +kernel) rfl), (tbm 1 (by decide +kernel) rfl), (tbm 443 (by decide +kernel) rfl)⟩ (by decide +kernel) rfl kdc_25 (by decide) rfl rfl rfl hR d rfl hrm z
theorem zM7_fill {r : Int32} {x1 : Int32} {x2 : Int32} {σ : St} (F : Fx p s m args meth c cX7_fill 3 RX7 (some .int) (rmL 2) 0 0 g a) (h : M7_fill x1 x2 σ = some (r, σ')) : Z p l e (rmL 2) s m args below meth c (MQ below (QiW g a r σ') args s 0 0 (Ad a)) 3 g a 0 0 σ 0 [(0, .ref (a 25)), (1, .int x1), (2, .int x2)] [] := by
  unfold M7_fill at h
  refine z_aload_n (q := 0) F dX7_fill_0 rfl rfl ?_
  refine z_aload_n (q := 0) F dX7_fill_1 rfl rfl ?_
  refine gf7_30 F kdc_25 dX7_fill_2 ?_
  refine gf7_130 F kdc_32 dX7_fill_5 ?_
  refine z_iload_n (q := 1) F dX7_fill_8 rfl rfl ?_
  refine z_iload_n (q := 2) F dX7_fill_9 rfl rfl ?_
  obtain ⟨r1, σ1, hq1, h⟩ := bd_of h
  refine cl7_133 F kdc_35 hq1 ⟨Nat.le_of_ble_eq_true rfl, Nat.le_of_ble_eq_true rfl⟩ dX7_fill_10 (Nat.le_of_ble_eq_true rfl) ?_
  exact z_iret F h dX7_fill_13
theorem ct7_fill {r : Int32} {x1 : Int32} {x2 : Int32} {σ : St} (h : M7_fill x1 x2 σ = some (r, σ')) : Met l yX7_fill (wsY yX7_fill cX7_fill 3 (some .int)) (rmL 2) (PcW g a [.ref (a 25), .int x1, .int x2] σ) (QiW g a r σ') 0 0 (Ad a) :=
  ct_I (by decide) (Nat.le_of_ble_eq_true rfl) (fun p e s m args below meth c F => zM7_fill F h)

theorem zM7_forget {r : Int32} {σ : St} (F : Fx p s m args meth c cX7_forget 2 RX7 (some .int) (rmL 1) 0 0 g a) (h : M7_forget σ = some (r, σ')) : Z p l e (rmL 1) s m args below meth c (MQ below (QiW g a r σ') args s 0 0 (Ad a)) 2 g a 0 0 σ 0 [(0, .ref (a 25))] [] := by
  unfold M7_forget at h
  refine z_aload_n (q := 0) F dX7_forget_0 rfl rfl ?_
  refine gf7_37 F kdc_25 dX7_forget_1 ?_
  refine gf7_140 F kdc_46 dX7_forget_4 ?_
  refine z_letI h (fun v1 h => ?_)
  refine z_istore_n (lv' := [(1, .int v1), (0, .ref (a 25))]) F dX7_forget_7 rfl (by decide) rfl ?_
  refine z_aload_n (q := 1) F dX7_forget_8 rfl rfl ?_
  refine gf7_37 F kdc_25 dX7_forget_9 ?_
  obtain ⟨r2, σ2, hq2, h⟩ := bd_of h
  refine cl7_215 F kdc_46 hq2 ⟨Nat.le_of_ble_eq_true rfl, Nat.le_of_ble_eq_true rfl⟩ dX7_forget_12 (Nat.le_of_ble_eq_true rfl) ?_
  refine z_iload_n (q := 0) F dX7_forget_15 rfl rfl ?_
  exact z_iret F h dX7_forget_16
theorem ct7_forget {r : Int32} {σ : St} (h : M7_forget σ = some (r, σ')) : Met l yX7_forget (wsY yX7_forget cX7_forget 2 (some .int)) (rmL 1) (PcW g a [.ref (a 25)] σ) (QiW g a r σ') 0 0 (Ad a) :=
  ct_I (by decide) (Nat.le_of_ble_eq_true rfl) (fun p e s m args below meth c F => zM7_forget F h)

theorem zM7_get {r : Int32} {x1 : Int32} {x2 : Int32} {x3 : Int32} {σ : St} (F : Fx p s m args meth c cX7_get 5 RX7 (some .int) (rmL 2) 0 0 g a) (h : M7_get x1 x2 x3 σ = some (r, σ')) : Z p l e (rmL 2) s m args below meth c (MQ below (QiW g a r σ') args s 0 0 (Ad a)) 5 g a 0 0 σ 0 [(0, .ref (a 25)), (1, .int x1), (2, .int x2), (3, .int x3)] [] := by
  unfold M7_get at h
  refine z_iload_n (q := 1) F dX7_get_0 rfl rfl ?_
  refine z_iconst (v := 4) F dX7_get_1 rfl ?_
  obtain ⟨r1, σ1, hq1, h⟩ := bd_of h
  refine cl7_83 F hq1 ⟨Nat.le_of_ble_eq_true rfl, Nat.le_of_ble_eq_true rfl⟩ dX7_get_2 (Nat.le_of_ble_eq_true rfl) ?_
  refine z_if_eq (tgt := 16) F dX7_get_5 rfl (fun c2 => ?_) (fun c2 => ?_)
  · have h := ite_T c2 h
    refine z_ldcw (v := (-2147483648)) F dX7_get_16 (tbm 751 (by decide +kernel) rfl) ?_
    exact z_iret F h dX7_get_19
  · have h := ite_F c2 h
    refine z_iload_n (q := 2) F dX7_get_8 rfl rfl ?_
    refine z_iconst (v := 3) F dX7_get_9 rfl ?_
    obtain ⟨r3, σ3, hq3, h⟩ := bd_of h
    refine cl7_83 F hq3 ⟨Nat.le_of_ble_eq_true rfl, Nat.le_of_ble_eq_true rfl⟩ dX7_get_10 (Nat.le_of_ble_eq_true rfl) ?_
    refine z_if_ne (tgt := 20) F dX7_get_13 rfl (fun c4 => ?_) (fun c4 => ?_)
    · have h := ite_F c4 h
      refine z_aload_n (q := 0) F dX7_get_20 rfl rfl ?_
      refine gf7_71 F kdc_25 dX7_get_21 ?_
      refine z_iload_n (q := 1) F dX7_get_24 rfl rfl ?_
      obtain ⟨g5, h⟩ := gd_of h
      refine z_aldS F kdc_89 (inb_in g5) dX7_get_25 ?_
      refine z_iload_n (q := 2) F dX7_get_26 rfl rfl ?_
      refine z_iload_n (q := 3) F dX7_get_27 rfl rfl ?_
      obtain ⟨r6, σ6, hq6, h⟩ := bd_of h
      refine cl7_278 F (kdS kdc_89 g5) hq6 ⟨Nat.le_of_ble_eq_true rfl, Nat.le_of_ble_eq_true rfl⟩ dX7_get_28 (Nat.le_of_ble_eq_true rfl) ?_
      refine z_istore (lv' := [(4, .int r6), (0, .ref (a 25)), (1, .int x1), (2, .int x2), (3, .int x3)]) F dX7_get_31 (by decide) rfl ?_
      refine z_iload (q := 0) F dX7_get_33 rfl ?_
      refine z_if_eq (tgt := 49) F dX7_get_35 rfl (fun c7 => ?_) (fun c7 => ?_)
      · have h := ite_T c7 h
        refine z_aload_n (q := 1) F dX7_get_49 rfl rfl ?_
        refine gf7_71 F kdc_25 dX7_get_50 ?_
        refine z_iload_n (q := 2) F dX7_get_53 rfl rfl ?_
        refine z_aldS F kdc_89 (inb_in g5) dX7_get_54 ?_
        refine z_iload_n (q := 4) F dX7_get_55 rfl rfl ?_
        obtain ⟨r9, σ9, hq9, h⟩ := bd_of h
        refine cl7_153 F (kdS kdc_89 g5) hq9 ⟨Nat.le_of_ble_eq_true rfl, Nat.le_of_ble_eq_true rfl⟩ dX7_get_56 (Nat.le_of_ble_eq_true rfl) ?_
        exact z_iret F h dX7_get_59
      · have h := ite_F c7 h
        refine z_aload_n (q := 1) F dX7_get_38 rfl rfl ?_
        refine z_iload (q := 0) F dX7_get_39 rfl ?_
        obtain ⟨r10, σ10, hq10, h⟩ := bd_of h
        refine cl7_149 F hq10 ⟨Nat.le_of_ble_eq_true rfl, Nat.le_of_ble_eq_true rfl⟩ dX7_get_41 (Nat.le_of_ble_eq_true rfl) ?_
        refine z_pop F dX7_get_44 rfl ?_
        refine z_ldcw (v := (-2147483648)) F dX7_get_45 (tbm 751 (by decide +kernel) rfl) ?_
        exact z_iret F h dX7_get_48
    · have h := ite_T c4 h
      refine z_ldcw (v := (-2147483648)) F dX7_get_16 (tbm 751 (by decide +kernel) rfl) ?_
      exact z_iret F h dX7_get_19
theorem ct7_get {r : Int32} {x1 : Int32} {x2 : Int32} {x3 : Int32} {σ : St} (h : M7_get x1 x2 x3 σ = some (r, σ')) : Met l yX7_get (wsY yX7_get cX7_get 5 (some .int)) (rmL 2) (PcW g a [.ref (a 25), .int x1, .int x2, .int x3] σ) (QiW g a r σ') 0 0 (Ad a) :=
  ct_I (by decide) (Nat.le_of_ble_eq_true rfl) (fun p e s m args below meth c F => zM7_get F h)

theorem zM7_lay {r : Int32} {x1 : Int32} {x2 : Int32} {x3 : Int32} {x4 : Int32} {σ : St} (F : Fx p s m args meth c cX7_lay 6 RX7 (some .int) (rmL 2) 0 0 g a) (h : M7_lay x1 x2 x3 x4 σ = some (r, σ')) : Z p l e (rmL 2) s m args below meth c (MQ below (QiW g a r σ') args s 0 0 (Ad a)) 6 g a 0 0 σ 0 [(0, .ref (a 25)), (1, .int x1), (2, .int x2), (3, .int x3), (4, .int x4)] [] := by
  unfold M7_lay at h
  refine z_iload_n (q := 1) F dX7_lay_0 rfl rfl ?_
  refine z_iconst (v := 4) F dX7_lay_1 rfl ?_
  obtain ⟨r1, σ1, hq1, h⟩ := bd_of h
  refine cl7_83 F hq1 ⟨Nat.le_of_ble_eq_true rfl, Nat.le_of_ble_eq_true rfl⟩ dX7_lay_2 (Nat.le_of_ble_eq_true rfl) ?_
  refine z_if_eq (tgt := 16) F dX7_lay_5 rfl (fun c2 => ?_) (fun c2 => ?_)
  · have h := ite_T c2 h
    refine z_bipush (v := (-2)) F dX7_lay_16 rfl ?_
    exact z_iret F h dX7_lay_18
  · have h := ite_F c2 h
    refine z_iload_n (q := 2) F dX7_lay_8 rfl rfl ?_
    refine z_iconst (v := 3) F dX7_lay_9 rfl ?_
    obtain ⟨r3, σ3, hq3, h⟩ := bd_of h
    refine cl7_83 F hq3 ⟨Nat.le_of_ble_eq_true rfl, Nat.le_of_ble_eq_true rfl⟩ dX7_lay_10 (Nat.le_of_ble_eq_true rfl) ?_
    refine z_if_ne (tgt := 19) F dX7_lay_13 rfl (fun c4 => ?_) (fun c4 => ?_)
    · have h := ite_F c4 h
      refine z_aload_n (q := 0) F dX7_lay_19 rfl rfl ?_
      refine gf7_71 F kdc_25 dX7_lay_20 ?_
      refine z_iload_n (q := 1) F dX7_lay_23 rfl rfl ?_
      obtain ⟨g5, h⟩ := gd_of h
      refine z_aldS F kdc_89 (inb_in g5) dX7_lay_24 ?_
      refine z_iload_n (q := 2) F dX7_lay_25 rfl rfl ?_
      refine z_iload_n (q := 3) F dX7_lay_26 rfl rfl ?_
      obtain ⟨r6, σ6, hq6, h⟩ := bd_of h
      refine cl7_278 F (kdS kdc_89 g5) hq6 ⟨Nat.le_of_ble_eq_true rfl, Nat.le_of_ble_eq_true rfl⟩ dX7_lay_27 (Nat.le_of_ble_eq_true rfl) ?_
      refine z_istore (lv' := [(5, .int r6), (0, .ref (a 25)), (1, .int x1), (2, .int x2), (3, .int x3), (4, .int x4)]) F dX7_lay_30 (by decide) rfl ?_
      refine z_iload (q := 0) F dX7_lay_32 rfl ?_
      refine z_if_eq (tgt := 44) F dX7_lay_34 rfl (fun c7 => ?_) (fun c7 => ?_)
      · have h := ite_T c7 h
        refine z_aload_n (q := 1) F dX7_lay_44 rfl rfl ?_
        refine gf7_71 F kdc_25 dX7_lay_45 ?_
        refine z_iload_n (q := 2) F dX7_lay_48 rfl rfl ?_
        refine z_aldS F kdc_89 (inb_in g5) dX7_lay_49 ?_
        refine z_iload_n (q := 4) F dX7_lay_50 rfl rfl ?_
        refine z_iload (q := 5) F dX7_lay_51 rfl ?_
        obtain ⟨r9, σ9, hq9, h⟩ := bd_of h
        refine cl7_281 F (kdS kdc_89 g5) hq9 ⟨Nat.le_of_ble_eq_true rfl, Nat.le_of_ble_eq_true rfl⟩ dX7_lay_53 (Nat.le_of_ble_eq_true rfl) ?_
        refine z_iconst (v := 1) F dX7_lay_56 rfl ?_
        exact z_iret F h dX7_lay_57
      · have h := ite_F c7 h
        refine z_aload_n (q := 1) F dX7_lay_37 rfl rfl ?_
        refine z_iload (q := 0) F dX7_lay_38 rfl ?_
        obtain ⟨r10, σ10, hq10, h⟩ := bd_of h
        refine cl7_149 F hq10 ⟨Nat.le_of_ble_eq_true rfl, Nat.le_of_ble_eq_true rfl⟩ dX7_lay_40 (Nat.le_of_ble_eq_true rfl) ?_
        exact z_iret F h dX7_lay_43
    · have h := ite_T c4 h
      refine z_bipush (v := (-2)) F dX7_lay_16 rfl ?_
      exact z_iret F h dX7_lay_18
theorem ct7_lay {r : Int32} {x1 : Int32} {x2 : Int32} {x3 : Int32} {x4 : Int32} {σ : St} (h : M7_lay x1 x2 x3 x4 σ = some (r, σ')) : Met l yX7_lay (wsY yX7_lay cX7_lay 6 (some .int)) (rmL 2) (PcW g a [.ref (a 25), .int x1, .int x2, .int x3, .int x4] σ) (QiW g a r σ') 0 0 (Ad a) :=
  ct_I (by decide) (Nat.le_of_ble_eq_true rfl) (fun p e s m args below meth c F => zM7_lay F h)

theorem zM7_mayBeLoan {r : Int32} {x0 : Int32} {x1 : Int32} {x2 : Int32} {x3 : Int32} {σ : St} (F : Fx p s m args meth c cX7_mayBeLoan 4 RX7 (some .boolean) (rmL 1) 0 0 g a) (h : M7_mayBeLoan x0 x1 x2 x3 σ = some (r, σ')) : Z p l e (rmL 1) s m args below meth c (MQ below (QiW g a r σ') args s 0 0 (Ad a)) 4 g a 0 0 σ 0 [(0, .int x0), (1, .int x1), (2, .int x2), (3, .int x3)] [] := by
  unfold M7_mayBeLoan at h
  refine z_iload_n (q := 0) F dX7_mayBeLoan_0 rfl rfl ?_
  refine z_bipush (v := 40) F dX7_mayBeLoan_1 rfl ?_
  obtain ⟨r1, σ1, hq1, h⟩ := bd_of h
  refine cl7_83 F hq1 ⟨Nat.le_of_ble_eq_true rfl, Nat.le_of_ble_eq_true rfl⟩ dX7_mayBeLoan_3 (Nat.le_of_ble_eq_true rfl) ?_
  refine z_if_eq (tgt := 42) F dX7_mayBeLoan_6 rfl (fun c2 => ?_) (fun c2 => ?_)
  · have h := ite_T c2 h
    refine z_iconst (v := 0) F dX7_mayBeLoan_42 rfl ?_
    exact z_bret F (by first | exact Or.inl rfl | exact Or.inr rfl) h dX7_mayBeLoan_43
  · have h := ite_F c2 h
    refine z_iload_n (q := 1) F dX7_mayBeLoan_9 rfl rfl ?_
    refine z_bipush (v := 8) F dX7_mayBeLoan_10 rfl ?_
    obtain ⟨r3, σ3, hq3, h⟩ := bd_of h
    refine cl7_83 F hq3 ⟨Nat.le_of_ble_eq_true rfl, Nat.le_of_ble_eq_true rfl⟩ dX7_mayBeLoan_12 (Nat.le_of_ble_eq_true rfl) ?_
    refine z_if_eq (tgt := 42) F dX7_mayBeLoan_15 rfl (fun c4 => ?_) (fun c4 => ?_)
    · have h := ite_T c4 h
      refine z_iconst (v := 0) F dX7_mayBeLoan_42 rfl ?_
      exact z_bret F (by first | exact Or.inl rfl | exact Or.inr rfl) h dX7_mayBeLoan_43
    · have h := ite_F c4 h
      refine z_iload_n (q := 2) F dX7_mayBeLoan_18 rfl rfl ?_
      refine z_bipush (v := 6) F dX7_mayBeLoan_19 rfl ?_
      obtain ⟨r5, σ5, hq5, h⟩ := bd_of h
      refine cl7_83 F hq5 ⟨Nat.le_of_ble_eq_true rfl, Nat.le_of_ble_eq_true rfl⟩ dX7_mayBeLoan_21 (Nat.le_of_ble_eq_true rfl) ?_
      refine z_if_eq (tgt := 42) F dX7_mayBeLoan_24 rfl (fun c6 => ?_) (fun c6 => ?_)
      · try simp only [if_pos c6] at h
        refine z_iconst (v := 0) F dX7_mayBeLoan_42 rfl ?_
        exact z_bret F (by first | exact Or.inl rfl | exact Or.inr rfl) h dX7_mayBeLoan_43
      · try simp only [if_neg c6] at h
        refine z_iload_n (q := 3) F dX7_mayBeLoan_27 rfl rfl ?_
        refine z_iconst (v := 1) F dX7_mayBeLoan_28 rfl ?_
        refine z_icmp_lt (tgt := 42) F dX7_mayBeLoan_29 rfl (fun c7 => ?_) (fun c7 => ?_)
        · try simp only [if_pos c7] at h
          refine z_iconst (v := 0) F dX7_mayBeLoan_42 rfl ?_
          exact z_bret F (by first | exact Or.inl rfl | exact Or.inr rfl) h dX7_mayBeLoan_43
        · try simp only [if_neg c7] at h
          refine z_iload_n (q := 3) F dX7_mayBeLoan_32 rfl rfl ?_
          refine z_bipush (v := 9) F dX7_mayBeLoan_33 rfl ?_
          refine z_icmp_gt (tgt := 42) F dX7_mayBeLoan_35 rfl (fun c8 => ?_) (fun c8 => ?_)
          · try simp only [if_pos c8] at h
            refine z_iconst (v := 0) F dX7_mayBeLoan_42 rfl ?_
            exact z_bret F (by first | exact Or.inl rfl | exact Or.inr rfl) h dX7_mayBeLoan_43
          · try simp only [if_neg c8] at h
            refine z_iconst (v := 1) F dX7_mayBeLoan_38 rfl ?_
            refine z_goto (tgt := 43) F dX7_mayBeLoan_39 rfl ?_
            exact z_bret F (by first | exact Or.inl rfl | exact Or.inr rfl) h dX7_mayBeLoan_43
theorem ct7_mayBeLoan {r : Int32} {x0 : Int32} {x1 : Int32} {x2 : Int32} {x3 : Int32} {σ : St} (h : M7_mayBeLoan x0 x1 x2 x3 σ = some (r, σ')) : Met l yX7_mayBeLoan (wsY yX7_mayBeLoan cX7_mayBeLoan 4 (some .boolean)) (rmL 1) (PcW g a [.int x0, .int x1, .int x2, .int x3] σ) (QiW g a r σ') 0 0 (Ad a) :=
  ct_I (by decide) (Nat.le_of_ble_eq_true rfl) (fun p e s m args below meth c F => zM7_mayBeLoan F h)
theorem cl7_115 {r : Int32} {x0 : Int32} {x1 : Int32} {x2 : Int32} {x3 : Int32} (F : Fx p s m args meth c cc nL RX7 rt R cz sz g a) (h : M7_mayBeLoan x0 x1 x2 x3 σ = some (r, σ1)) (hR : 1 + 1 ≤ R.frames ∧ 8 + (4 + 11) + 34 * 1 ≤ R.locals) (d : decode cc pc = .ok (.invokestatic 115, 3)) (hrm : (rest.map fun v => v.category).sum ≤ 8) (z : Z p l e R s m args below meth c Q nL g a cz sz σ1 (pc + 3) lv (.int r :: rest)) : Z p l e R s m args below meth c Q nL g a cz sz σ pc lv (.int x3 :: .int x2 :: .int x1 :: .int x0 :: rest) :=
  z_callSI (nA := 4) (As := [.int x0, .int x1, .int x2, .int x3]) F (ct7_mayBeLoan h) ⟨(tbm 425 (by decide +kernel) rfl), (tbm 426 (by decide +kernel) rfl), (tbm 1 (by decide +kernel) rfl), (tbm 427 (by decide +kernel) rfl)⟩ (by decide +kernel) rfl hR d rfl hrm z
theorem zM7_loan {r : Int32} {x1 : Int32} {x2 : Int32} {x3 : Int32} {x4 : Int32} {σ : St} (F : Fx p s m args meth c cX7_loan 5 RX7 (some .int) (rmL 2) 0 0 g a) (h : M7_loan x1 x2 x3 x4 σ = some (r, σ')) : Z p l e (rmL 2) s m args below meth c (MQ below (QiW g a r σ') args s 0 0 (Ad a)) 5 g a 0 0 σ 0 [(0, .ref (a 25)), (1, .int x1), (2, .int x2), (3, .int x3), (4, .int x4)] [] := by
  unfold M7_loan at h
  refine z_iload_n (q := 1) F dX7_loan_0 rfl rfl ?_
  refine z_iload_n (q := 2) F dX7_loan_1 rfl rfl ?_
  refine z_iload_n (q := 3) F dX7_loan_2 rfl rfl ?_
  refine z_iload (q := 4) F dX7_loan_3 rfl ?_
  obtain ⟨r1, σ1, hq1, h⟩ := bd_of h
  refine cl7_115 F hq1 ⟨Nat.le_of_ble_eq_true rfl, Nat.le_of_ble_eq_true rfl⟩ dX7_loan_5 (Nat.le_of_ble_eq_true rfl) ?_
  refine z_if_ne (tgt := 14) F dX7_loan_8 rfl (fun c2 => ?_) (fun c2 => ?_)
  · have h := ite_F c2 h
    refine z_aload_n (q := 0) F dX7_loan_14 rfl rfl ?_
    refine gf7_30 F kdc_25 dX7_loan_15 ?_
    refine gf7_119 F kdc_32 dX7_loan_18 ?_
    obtain ⟨r3, σ3, hq3, h⟩ := bd_of h
    refine cl7_122 F kdc_33 hq3 ⟨Nat.le_of_ble_eq_true rfl, Nat.le_of_ble_eq_true rfl⟩ dX7_loan_21 (Nat.le_of_ble_eq_true rfl) ?_
    refine z_if_eq (tgt := 30) F dX7_loan_24 rfl (fun c4 => ?_) (fun c4 => ?_)
    · have h := ite_T c4 h
      refine z_aload_n (q := 0) F dX7_loan_30 rfl rfl ?_
      refine z_iconst (v := 1) F dX7_loan_31 rfl ?_
      refine pf7_48 F kdc_25 (by first | exact Or.inl rfl | exact Or.inr rfl) dX7_loan_32 ?_
      refine z_let h (fun σ5 h => ?_)
      refine z_aload_n (q := 0) F dX7_loan_35 rfl rfl ?_
      refine gf7_30 F kdc_25 dX7_loan_36 ?_
      refine gf7_119 F kdc_32 dX7_loan_39 ?_
      refine z_iload_n (q := 1) F dX7_loan_42 rfl rfl ?_
      refine z_iload_n (q := 2) F dX7_loan_43 rfl rfl ?_
      refine z_iload_n (q := 3) F dX7_loan_44 rfl rfl ?_
      refine z_iload (q := 4) F dX7_loan_45 rfl ?_
      obtain ⟨r6, σ6, hq6, h⟩ := bd_of h
      refine cl7_126 F kdc_33 hq6 ⟨Nat.le_of_ble_eq_true rfl, Nat.le_of_ble_eq_true rfl⟩ dX7_loan_47 (Nat.le_of_ble_eq_true rfl) ?_
      exact z_iret F h dX7_loan_50
    · have h := ite_F c4 h
      refine z_bipush (v := (-4)) F dX7_loan_27 rfl ?_
      exact z_iret F h dX7_loan_29
  · have h := ite_T c2 h
    refine z_bipush (v := (-2)) F dX7_loan_11 rfl ?_
    exact z_iret F h dX7_loan_13
theorem ct7_loan {r : Int32} {x1 : Int32} {x2 : Int32} {x3 : Int32} {x4 : Int32} {σ : St} (h : M7_loan x1 x2 x3 x4 σ = some (r, σ')) : Met l yX7_loan (wsY yX7_loan cX7_loan 5 (some .int)) (rmL 2) (PcW g a [.ref (a 25), .int x1, .int x2, .int x3, .int x4] σ) (QiW g a r σ') 0 0 (Ad a) :=
  ct_I (by decide) (Nat.le_of_ble_eq_true rfl) (fun p e s m args below meth c F => zM7_loan F h)
theorem cl7_156 {r : Int32} {x1 : Int32} {x2 : Int32} {x3 : Int32} {x4 : Int32} (F : Fx p s m args meth c cc nL RX7 rt R cz sz g a) (h : M7_loan x1 x2 x3 x4 σ = some (r, σ1)) (hR : 2 + 1 ≤ R.frames ∧ 8 + (5 + 11) + 34 * 2 ≤ R.locals) (d : decode cc pc = .ok (.invokevirtual 156, 3)) (hrm : (rest.map fun v => v.category).sum ≤ 8) (z : Z p l e R s m args below meth c Q nL g a cz sz σ1 (pc + 3) lv (.int r :: rest)) : Z p l e R s m args below meth c Q nL g a cz sz σ pc lv (.int x4 :: .int x3 :: .int x2 :: .int x1 :: .ref (a 25) :: rest) :=
  z_callVI (nA := 4) (As := [.int x1, .int x2, .int x3, .int x4]) F (ct7_loan h) ⟨(tbm 472 (by decide +kernel) rfl), (tbm 422 (by decide +kernel) rfl), (tbm 423 (by decide +kernel) rfl), (tbm 1 (by decide +kernel) rfl), (tbm 424 (by decide +kernel) rfl)⟩ (by decide +kernel) rfl kdc_25 (by decide) rfl rfl rfl hR d rfl hrm z
theorem zM7_lose {r : Int32} {x1 : Int32} {σ : St} (F : Fx p s m args meth c cX7_lose 3 RX7 (some .int) (rmL 1) 0 0 g a) (h : M7_lose x1 σ = some (r, σ')) : Z p l e (rmL 1) s m args below meth c (MQ below (QiW g a r σ') args s 0 0 (Ad a)) 3 g a 0 0 σ 0 [(0, .ref (a 25)), (1, .int x1)] [] := by
  unfold M7_lose at h
  refine z_iload_n (q := 1) F dX7_lose_0 rfl rfl ?_
  refine z_iconst (v := 4) F dX7_lose_1 rfl ?_
  obtain ⟨r1, σ1, hq1, h⟩ := bd_of h
  refine cl7_83 F hq1 ⟨Nat.le_of_ble_eq_true rfl, Nat.le_of_ble_eq_true rfl⟩ dX7_lose_2 (Nat.le_of_ble_eq_true rfl) ?_
  refine z_if_ne (tgt := 11) F dX7_lose_5 rfl (fun c2 => ?_) (fun c2 => ?_)
  · have h := ite_F c2 h
    refine z_aload_n (q := 0) F dX7_lose_11 rfl rfl ?_
    refine gf7_71 F kdc_25 dX7_lose_12 ?_
    refine z_iload_n (q := 1) F dX7_lose_15 rfl rfl ?_
    obtain ⟨g3, h⟩ := gd_of h
    refine z_aldS F kdc_89 (inb_in g3) dX7_lose_16 ?_
    refine z_astore_n (lv' := [(2, .ref (a (89 + 1 + 2 * x1.toNatClampNeg))), (0, .ref (a 25)), (1, .int x1)]) F dX7_lose_17 rfl (by decide) rfl ?_
    refine z_aload_n (q := 0) F dX7_lose_18 rfl rfl ?_
    refine gf7_146 F (kdS kdc_89 g3) dX7_lose_19 ?_
    refine z_if_eq (tgt := 31) F dX7_lose_22 rfl (fun c4 => ?_) (fun c4 => ?_)
    · have h := ite_T c4 h
      refine z_aload_n (q := 0) F dX7_lose_31 rfl rfl ?_
      refine z_iconst (v := 1) F dX7_lose_32 rfl ?_
      refine pf7_146 F (kdS kdc_89 g3) (by first | exact Or.inl rfl | exact Or.inr rfl) dX7_lose_33 ?_
      refine z_let h (fun σ5 h => ?_)
      refine z_aload_n (q := 0) F dX7_lose_36 rfl rfl ?_
      refine gf7_152 F (kdS kdc_89 g3) dX7_lose_37 ?_
      exact z_iret F h dX7_lose_40
    · have h := ite_F c4 h
      refine z_aload_n (q := 1) F dX7_lose_25 rfl rfl ?_
      refine z_iconst (v := 1) F dX7_lose_26 rfl ?_
      obtain ⟨r6, σ6, hq6, h⟩ := bd_of h
      refine cl7_149 F hq6 ⟨Nat.le_of_ble_eq_true rfl, Nat.le_of_ble_eq_true rfl⟩ dX7_lose_27 (Nat.le_of_ble_eq_true rfl) ?_
      exact z_iret F h dX7_lose_30
  · have h := ite_T c2 h
    refine z_bipush (v := (-2)) F dX7_lose_8 rfl ?_
    exact z_iret F h dX7_lose_10
theorem ct7_lose {r : Int32} {x1 : Int32} {σ : St} (h : M7_lose x1 σ = some (r, σ')) : Met l yX7_lose (wsY yX7_lose cX7_lose 3 (some .int)) (rmL 1) (PcW g a [.ref (a 25), .int x1] σ) (QiW g a r σ') 0 0 (Ad a) :=
  ct_I (by decide) (Nat.le_of_ble_eq_true rfl) (fun p e s m args below meth c F => zM7_lose F h)

theorem zM7_patch {r : Int32} {x1 : Int32} {x2 : Int32} {σ : St} (F : Fx p s m args meth c cX7_patch 3 RX7 (some .int) (rmL 2) 0 0 g a) (h : M7_patch x1 x2 σ = some (r, σ')) : Z p l e (rmL 2) s m args below meth c (MQ below (QiW g a r σ') args s 0 0 (Ad a)) 3 g a 0 0 σ 0 [(0, .ref (a 25)), (1, .int x1), (2, .int x2)] [] := by
  unfold M7_patch at h
  refine z_aload_n (q := 0) F dX7_patch_0 rfl rfl ?_
  refine z_aload_n (q := 0) F dX7_patch_1 rfl rfl ?_
  refine gf7_30 F kdc_25 dX7_patch_2 ?_
  refine gf7_137 F kdc_32 dX7_patch_5 ?_
  refine z_iload_n (q := 1) F dX7_patch_8 rfl rfl ?_
  refine z_iload_n (q := 2) F dX7_patch_9 rfl rfl ?_
  obtain ⟨r1, σ1, hq1, h⟩ := bd_of h
  refine cl7_133 F kdc_37 hq1 ⟨Nat.le_of_ble_eq_true rfl, Nat.le_of_ble_eq_true rfl⟩ dX7_patch_10 (Nat.le_of_ble_eq_true rfl) ?_
  exact z_iret F h dX7_patch_13
theorem ct7_patch {r : Int32} {x1 : Int32} {x2 : Int32} {σ : St} (h : M7_patch x1 x2 σ = some (r, σ')) : Met l yX7_patch (wsY yX7_patch cX7_patch 3 (some .int)) (rmL 2) (PcW g a [.ref (a 25), .int x1, .int x2] σ) (QiW g a r σ') 0 0 (Ad a) :=
  ct_I (by decide) (Nat.le_of_ble_eq_true rfl) (fun p e s m args below meth c F => zM7_patch F h)

theorem zM7_read_L36 {r : Int32} {o2 : Nat} (F : Fx p s m args meth c cX7_read 5 RX7 (some .int) (rmL 3) 0 0 g a) (ko2 : kd o2 = 5) {kx : Int32 → St → Option (Int32 × St)} (hx : ∀ (w3 : Int32) (σ : St), kx w3 σ = some (r, σ') → Z p l e (rmL 3) s m args below meth c (MQ below (QiW g a r σ') args s 0 0 (Ad a)) 5 g a 0 0 σ 96 [(3, .int w3)] []) : ∀ (n : Nat) (x3 : Int32) (x4 : Int32) (σ : St), M7_read_L36 o2 kx n x3 x4 σ = some (r, σ') → Z p l e (rmL 3) s m args below meth c (MQ below (QiW g a r σ') args s 0 0 (Ad a)) 5 g a 0 0 σ 36 [(0, .ref (a 25)), (2, .ref (a o2)), (3, .int x3), (4, .int x4)] [] := by
  intro n
  induction n with
  | zero => intro x3 x4 σ h; rw [M7_read_L36] at h; cases h
  | succ n ih =>
    intro x3 x4 σ h
    rw [M7_read_L36] at h
    refine z_iload (q := 3) F dX7_read_36 rfl ?_
    refine z_iconst (v := 4) F dX7_read_38 rfl ?_
    refine z_iadd F dX7_read_39 ?_
    refine z_aload_n (q := 1) F dX7_read_40 rfl rfl ?_
    refine gf7_152 F ko2 dX7_read_41 ?_
    refine z_icmp_gt (tgt := 96) F dX7_read_44 rfl (fun c5 => ?_) (fun c5 => ?_)
    · have h := ite_T c5 h
      refine z_sub (lv' := [(3, .int x3)]) [2] rfl ?_
      exact hx _ _ h
    · have h := ite_F c5 h
      refine z_aload_n (q := 0) F dX7_read_47 rfl rfl ?_
      refine z_aload_n (q := 1) F dX7_read_48 rfl rfl ?_
      refine z_iload (q := 3) F dX7_read_49 rfl ?_
      obtain ⟨r6, σ6, hq6, h⟩ := bd_of h
      refine cl7_153 F ko2 hq6 ⟨Nat.le_of_ble_eq_true rfl, Nat.le_of_ble_eq_true rfl⟩ dX7_read_51 (Nat.le_of_ble_eq_true rfl) ?_
      refine z_aload_n (q := 1) F dX7_read_54 rfl rfl ?_
      refine z_iload (q := 3) F dX7_read_55 rfl ?_
      refine z_iconst (v := 1) F dX7_read_57 rfl ?_
      refine z_iadd F dX7_read_58 ?_
      obtain ⟨r7, σ7, hq7, h⟩ := bd_of h
      refine cl7_153 F ko2 hq7 ⟨Nat.le_of_ble_eq_true rfl, Nat.le_of_ble_eq_true rfl⟩ dX7_read_59 (Nat.le_of_ble_eq_true rfl) ?_
      refine z_aload_n (q := 1) F dX7_read_62 rfl rfl ?_
      refine z_iload (q := 3) F dX7_read_63 rfl ?_
      refine z_iconst (v := 2) F dX7_read_65 rfl ?_
      refine z_iadd F dX7_read_66 ?_
      obtain ⟨r8, σ8, hq8, h⟩ := bd_of h
      refine cl7_153 F ko2 hq8 ⟨Nat.le_of_ble_eq_true rfl, Nat.le_of_ble_eq_true rfl⟩ dX7_read_67 (Nat.le_of_ble_eq_true rfl) ?_
      refine z_aload_n (q := 1) F dX7_read_70 rfl rfl ?_
      refine z_iload (q := 3) F dX7_read_71 rfl ?_
      refine z_iconst (v := 3) F dX7_read_73 rfl ?_
      refine z_iadd F dX7_read_74 ?_
      obtain ⟨r9, σ9, hq9, h⟩ := bd_of h
      refine cl7_153 F ko2 hq9 ⟨Nat.le_of_ble_eq_true rfl, Nat.le_of_ble_eq_true rfl⟩ dX7_read_75 (Nat.le_of_ble_eq_true rfl) ?_
      obtain ⟨r10, σ10, hq10, h⟩ := bd_of h
      refine cl7_156 F hq10 ⟨Nat.le_of_ble_eq_true rfl, Nat.le_of_ble_eq_true rfl⟩ dX7_read_78 (Nat.le_of_ble_eq_true rfl) ?_
      refine z_if_ge (tgt := 87) F dX7_read_81 rfl (fun c11 => ?_) (fun c11 => ?_)
      · have h := ite_T c11 h
        refine z_iinc (q := 2) (v := x3 + 1) (lv' := [(3, .int (x3 + 1)), (0, .ref (a 25)), (2, .ref (a o2)), (4, .int x4)]) F dX7_read_87 rfl rfl (by decide) rfl ?_
        refine z_letL (s0 := 3) (lv := [(0, .ref (a 25)), (2, .ref (a o2)), (4, .int x4)]) h (fun v12 h => ?_)
        refine z_iinc (q := 3) (v := x4 + 4) (lv' := [(4, .int (x4 + 4)), (3, .int v12), (0, .ref (a 25)), (2, .ref (a o2))]) F dX7_read_90 rfl rfl (by decide) rfl ?_
        refine z_letL (s0 := 4) (lv := [(3, .int v12), (0, .ref (a 25)), (2, .ref (a o2))]) h (fun v13 h => ?_)
        refine z_goto (tgt := 36) F dX7_read_93 rfl ?_
        refine z_sub (lv' := [(0, .ref (a 25)), (2, .ref (a o2)), (3, .int v12), (4, .int v13)]) [2, 3, 1, 0] rfl ?_
        exact ih _ _ _ h
      · have h := ite_F c11 h
        refine z_goto (tgt := 96) F dX7_read_84 rfl ?_
        refine z_sub (lv' := [(3, .int x3)]) [2] rfl ?_
        exact hx _ _ h
theorem zM7_read {r : Int32} {x1 : Int32} {σ : St} (F : Fx p s m args meth c cX7_read 5 RX7 (some .int) (rmL 3) 0 0 g a) (h : M7_read x1 σ = some (r, σ')) : Z p l e (rmL 3) s m args below meth c (MQ below (QiW g a r σ') args s 0 0 (Ad a)) 5 g a 0 0 σ 0 [(0, .ref (a 25)), (1, .int x1)] [] := by
  unfold M7_read at h
  refine z_iload_n (q := 1) F dX7_read_0 rfl rfl ?_
  refine z_iconst (v := 4) F dX7_read_1 rfl ?_
  obtain ⟨r1, σ1, hq1, h⟩ := bd_of h
  refine cl7_83 F hq1 ⟨Nat.le_of_ble_eq_true rfl, Nat.le_of_ble_eq_true rfl⟩ dX7_read_2 (Nat.le_of_ble_eq_true rfl) ?_
  refine z_if_ne (tgt := 11) F dX7_read_5 rfl (fun c2 => ?_) (fun c2 => ?_)
  · have h := ite_F c2 h
    refine z_aload_n (q := 0) F dX7_read_11 rfl rfl ?_
    refine gf7_71 F kdc_25 dX7_read_12 ?_
    refine z_iload_n (q := 1) F dX7_read_15 rfl rfl ?_
    obtain ⟨g3, h⟩ := gd_of h
    refine z_aldS F kdc_89 (inb_in g3) dX7_read_16 ?_
    refine z_astore_n (lv' := [(2, .ref (a (89 + 1 + 2 * x1.toNatClampNeg))), (0, .ref (a 25)), (1, .int x1)]) F dX7_read_17 rfl (by decide) rfl ?_
    refine z_aload_n (q := 0) F dX7_read_18 rfl rfl ?_
    refine gf7_146 F (kdS kdc_89 g3) dX7_read_19 ?_
    refine z_if_eq (tgt := 31) F dX7_read_22 rfl (fun c4 => ?_) (fun c4 => ?_)
    · have h := ite_T c4 h
      refine z_iconst (v := 0) F dX7_read_31 rfl ?_
      refine z_istore_n (lv' := [(3, .int 0), (2, .ref (a (89 + 1 + 2 * x1.toNatClampNeg))), (0, .ref (a 25)), (1, .int x1)]) F dX7_read_32 rfl (by decide) rfl ?_
      refine z_iconst (v := 0) F dX7_read_33 rfl ?_
      refine z_istore (lv' := [(4, .int 0), (3, .int 0), (2, .ref (a (89 + 1 + 2 * x1.toNatClampNeg))), (0, .ref (a 25)), (1, .int x1)]) F dX7_read_34 (by decide) rfl ?_
      refine z_sub (lv' := [(0, .ref (a 25)), (2, .ref (a (89 + 1 + 2 * x1.toNatClampNeg))), (3, .int 0), (4, .int 0)]) [3, 2, 1, 0] rfl ?_
      refine zM7_read_L36 F (kdS kdc_89 g3) ?_ _ _ _ _ h
      intro v14 σ15 h
      refine z_iload_n (q := 0) F dX7_read_96 rfl rfl ?_
      exact z_iret F h dX7_read_97
    · have h := ite_F c4 h
      refine z_aload_n (q := 1) F dX7_read_25 rfl rfl ?_
      refine z_iconst (v := 1) F dX7_read_26 rfl ?_
      obtain ⟨r16, σ16, hq16, h⟩ := bd_of h
      refine cl7_149 F hq16 ⟨Nat.le_of_ble_eq_true rfl, Nat.le_of_ble_eq_true rfl⟩ dX7_read_27 (Nat.le_of_ble_eq_true rfl) ?_
      exact z_iret F h dX7_read_30
  · have h := ite_T c2 h
    refine z_bipush (v := (-2)) F dX7_read_8 rfl ?_
    exact z_iret F h dX7_read_10
theorem ct7_read {r : Int32} {x1 : Int32} {σ : St} (h : M7_read x1 σ = some (r, σ')) : Met l yX7_read (wsY yX7_read cX7_read 5 (some .int)) (rmL 3) (PcW g a [.ref (a 25), .int x1] σ) (QiW g a r σ') 0 0 (Ad a) :=
  ct_I (by decide) (Nat.le_of_ble_eq_true rfl) (fun p e s m args below meth c F => zM7_read F h)

theorem zM7_seen {r : Int32} {x1 : Int32} {x2 : Int32} {x3 : Int32} {σ : St} (F : Fx p s m args meth c cX7_seen 4 RX7 (some .int) (rmL 1) 0 0 g a) (h : M7_seen x1 x2 x3 σ = some (r, σ')) : Z p l e (rmL 1) s m args below meth c (MQ below (QiW g a r σ') args s 0 0 (Ad a)) 4 g a 0 0 σ 0 [(0, .ref (a 25)), (1, .int x1), (2, .int x2), (3, .int x3)] [] := by
  unfold M7_seen at h
  refine z_iload_n (q := 1) F dX7_seen_0 rfl rfl ?_
  refine z_bipush (v := 40) F dX7_seen_1 rfl ?_
  obtain ⟨r1, σ1, hq1, h⟩ := bd_of h
  refine cl7_83 F hq1 ⟨Nat.le_of_ble_eq_true rfl, Nat.le_of_ble_eq_true rfl⟩ dX7_seen_3 (Nat.le_of_ble_eq_true rfl) ?_
  refine z_if_eq (tgt := 27) F dX7_seen_6 rfl (fun c2 => ?_) (fun c2 => ?_)
  · have h := ite_T c2 h
    refine z_bipush (v := (-2)) F dX7_seen_27 rfl ?_
    exact z_iret F h dX7_seen_29
  · have h := ite_F c2 h
    refine z_iload_n (q := 2) F dX7_seen_9 rfl rfl ?_
    refine z_bipush (v := 8) F dX7_seen_10 rfl ?_
    obtain ⟨r3, σ3, hq3, h⟩ := bd_of h
    refine cl7_83 F hq3 ⟨Nat.le_of_ble_eq_true rfl, Nat.le_of_ble_eq_true rfl⟩ dX7_seen_12 (Nat.le_of_ble_eq_true rfl) ?_
    refine z_if_eq (tgt := 27) F dX7_seen_15 rfl (fun c4 => ?_) (fun c4 => ?_)
    · have h := ite_T c4 h
      refine z_bipush (v := (-2)) F dX7_seen_27 rfl ?_
      exact z_iret F h dX7_seen_29
    · have h := ite_F c4 h
      refine z_iload_n (q := 3) F dX7_seen_18 rfl rfl ?_
      refine z_bipush (v := 10) F dX7_seen_19 rfl ?_
      obtain ⟨r5, σ5, hq5, h⟩ := bd_of h
      refine cl7_83 F hq5 ⟨Nat.le_of_ble_eq_true rfl, Nat.le_of_ble_eq_true rfl⟩ dX7_seen_21 (Nat.le_of_ble_eq_true rfl) ?_
      refine z_if_ne (tgt := 30) F dX7_seen_24 rfl (fun c6 => ?_) (fun c6 => ?_)
      · have h := ite_F c6 h
        refine z_aload_n (q := 0) F dX7_seen_30 rfl rfl ?_
        refine gf7_37 F kdc_25 dX7_seen_31 ?_
        obtain ⟨r7, σ7, hq7, h⟩ := bd_of h
        refine cl7_122 F kdc_46 hq7 ⟨Nat.le_of_ble_eq_true rfl, Nat.le_of_ble_eq_true rfl⟩ dX7_seen_34 (Nat.le_of_ble_eq_true rfl) ?_
        refine z_if_eq (tgt := 45) F dX7_seen_37 rfl (fun c8 => ?_) (fun c8 => ?_)
        · have h := ite_T c8 h
          refine z_aload_n (q := 0) F dX7_seen_45 rfl rfl ?_
          refine gf7_37 F kdc_25 dX7_seen_46 ?_
          refine z_iload_n (q := 1) F dX7_seen_49 rfl rfl ?_
          refine z_iload_n (q := 2) F dX7_seen_50 rfl rfl ?_
          refine z_iload_n (q := 3) F dX7_seen_51 rfl rfl ?_
          refine z_iconst (v := 0) F dX7_seen_52 rfl ?_
          obtain ⟨r9, σ9, hq9, h⟩ := bd_of h
          refine cl7_126 F kdc_46 hq9 ⟨Nat.le_of_ble_eq_true rfl, Nat.le_of_ble_eq_true rfl⟩ dX7_seen_53 (Nat.le_of_ble_eq_true rfl) ?_
          exact z_iret F h dX7_seen_56
        · have h := ite_F c8 h
          refine z_bipush (v := (-4)) F dX7_seen_40 rfl ?_
          refine z_goto (tgt := 56) F dX7_seen_42 rfl ?_
          exact z_iret F h dX7_seen_56
      · have h := ite_T c6 h
        refine z_bipush (v := (-2)) F dX7_seen_27 rfl ?_
        exact z_iret F h dX7_seen_29
theorem ct7_seen {r : Int32} {x1 : Int32} {x2 : Int32} {x3 : Int32} {σ : St} (h : M7_seen x1 x2 x3 σ = some (r, σ')) : Met l yX7_seen (wsY yX7_seen cX7_seen 4 (some .int)) (rmL 1) (PcW g a [.ref (a 25), .int x1, .int x2, .int x3] σ) (QiW g a r σ') 0 0 (Ad a) :=
  ct_I (by decide) (Nat.le_of_ble_eq_true rfl) (fun p e s m args below meth c F => zM7_seen F h)

theorem zM7_sheet {r : Int32} {x1 : Int32} {x2 : Int32} {x3 : Int32} {σ : St} (F : Fx p s m args meth c cX7_sheet 4 RX7 (some .int) (rmL 2) 0 0 g a) (h : M7_sheet x1 x2 x3 σ = some (r, σ')) : Z p l e (rmL 2) s m args below meth c (MQ below (QiW g a r σ') args s 0 0 (Ad a)) 4 g a 0 0 σ 0 [(0, .ref (a 25)), (1, .int x1), (2, .int x2), (3, .int x3)] [] := by
  unfold M7_sheet at h
  refine z_iload_n (q := 1) F dX7_sheet_0 rfl rfl ?_
  refine z_iconst (v := 4) F dX7_sheet_1 rfl ?_
  obtain ⟨r1, σ1, hq1, h⟩ := bd_of h
  refine cl7_83 F hq1 ⟨Nat.le_of_ble_eq_true rfl, Nat.le_of_ble_eq_true rfl⟩ dX7_sheet_2 (Nat.le_of_ble_eq_true rfl) ?_
  refine z_if_eq (tgt := 22) F dX7_sheet_5 rfl (fun c2 => ?_) (fun c2 => ?_)
  · have h := ite_T c2 h
    refine z_bipush (v := (-2)) F dX7_sheet_22 rfl ?_
    exact z_iret F h dX7_sheet_24
  · have h := ite_F c2 h
    refine z_iload_n (q := 2) F dX7_sheet_8 rfl rfl ?_
    refine z_iconst (v := 3) F dX7_sheet_9 rfl ?_
    obtain ⟨r3, σ3, hq3, h⟩ := bd_of h
    refine cl7_83 F hq3 ⟨Nat.le_of_ble_eq_true rfl, Nat.le_of_ble_eq_true rfl⟩ dX7_sheet_10 (Nat.le_of_ble_eq_true rfl) ?_
    refine z_if_eq (tgt := 22) F dX7_sheet_13 rfl (fun c4 => ?_) (fun c4 => ?_)
    · have h := ite_T c4 h
      refine z_bipush (v := (-2)) F dX7_sheet_22 rfl ?_
      exact z_iret F h dX7_sheet_24
    · have h := ite_F c4 h
      refine z_iload_n (q := 3) F dX7_sheet_16 rfl rfl ?_
      refine z_bipush (v := 60) F dX7_sheet_17 rfl ?_
      refine z_icmp_le (tgt := 25) F dX7_sheet_19 rfl (fun c5 => ?_) (fun c5 => ?_)
      · have h := ite_T c5 h
        refine z_iload_n (q := 3) F dX7_sheet_25 rfl rfl ?_
        refine z_if_ge (tgt := 35) F dX7_sheet_26 rfl (fun c6 => ?_) (fun c6 => ?_)
        · have h := ite_T c6 h
          refine z_aload_n (q := 0) F dX7_sheet_35 rfl rfl ?_
          refine gf7_71 F kdc_25 dX7_sheet_36 ?_
          refine z_iload_n (q := 1) F dX7_sheet_39 rfl rfl ?_
          obtain ⟨g7, h⟩ := gd_of h
          refine z_aldS F kdc_89 (inb_in g7) dX7_sheet_40 ?_
          refine z_iload_n (q := 2) F dX7_sheet_41 rfl rfl ?_
          refine z_iload_n (q := 3) F dX7_sheet_42 rfl rfl ?_
          obtain ⟨r8, σ8, hq8, h⟩ := bd_of h
          refine cl7_274 F (kdS kdc_89 g7) hq8 ⟨Nat.le_of_ble_eq_true rfl, Nat.le_of_ble_eq_true rfl⟩ dX7_sheet_43 (Nat.le_of_ble_eq_true rfl) ?_
          refine z_iload_n (q := 3) F dX7_sheet_46 rfl rfl ?_
          exact z_iret F h dX7_sheet_47
        · have h := ite_F c6 h
          refine z_aload_n (q := 0) F dX7_sheet_29 rfl rfl ?_
          refine z_iconst (v := 5) F dX7_sheet_30 rfl ?_
          obtain ⟨r9, σ9, hq9, h⟩ := bd_of h
          refine cl7_149 F hq9 ⟨Nat.le_of_ble_eq_true rfl, Nat.le_of_ble_eq_true rfl⟩ dX7_sheet_31 (Nat.le_of_ble_eq_true rfl) ?_
          exact z_iret F h dX7_sheet_34
      · have h := ite_F c5 h
        refine z_bipush (v := (-2)) F dX7_sheet_22 rfl ?_
        exact z_iret F h dX7_sheet_24
theorem ct7_sheet {r : Int32} {x1 : Int32} {x2 : Int32} {x3 : Int32} {σ : St} (h : M7_sheet x1 x2 x3 σ = some (r, σ')) : Met l yX7_sheet (wsY yX7_sheet cX7_sheet 4 (some .int)) (rmL 2) (PcW g a [.ref (a 25), .int x1, .int x2, .int x3] σ) (QiW g a r σ') 0 0 (Ad a) :=
  ct_I (by decide) (Nat.le_of_ble_eq_true rfl) (fun p e s m args below meth c F => zM7_sheet F h)

theorem zM7_type {r : Int32} {x1 : Int32} {x2 : Int32} {σ : St} (F : Fx p s m args meth c cX7_type 4 RX7 (some .int) (rmL 8) 0 0 g a) (h : M7_type x1 x2 σ = some (r, σ')) : Z p l e (rmL 8) s m args below meth c (MQ below (QiW g a r σ') args s 0 0 (Ad a)) 4 g a 0 0 σ 0 [(0, .ref (a 25)), (1, .int x1), (2, .int x2)] [] := by
  unfold M7_type at h
  refine z_iload_n (q := 1) F dX7_type_0 rfl rfl ?_
  refine z_iconst (v := 2) F dX7_type_1 rfl ?_
  obtain ⟨r1, σ1, hq1, h⟩ := bd_of h
  refine cl7_83 F hq1 ⟨Nat.le_of_ble_eq_true rfl, Nat.le_of_ble_eq_true rfl⟩ dX7_type_2 (Nat.le_of_ble_eq_true rfl) ?_
  refine z_if_eq (tgt := 18) F dX7_type_5 rfl (fun c2 => ?_) (fun c2 => ?_)
  · have h := ite_T c2 h
    refine z_bipush (v := (-2)) F dX7_type_18 rfl ?_
    exact z_iret F h dX7_type_20
  · have h := ite_F c2 h
    refine z_iload_n (q := 2) F dX7_type_8 rfl rfl ?_
    refine z_sipush (v := 256) F dX7_type_9 rfl ?_
    obtain ⟨r3, σ3, hq3, h⟩ := bd_of h
    refine cl7_83 F hq3 ⟨Nat.le_of_ble_eq_true rfl, Nat.le_of_ble_eq_true rfl⟩ dX7_type_12 (Nat.le_of_ble_eq_true rfl) ?_
    refine z_if_ne (tgt := 21) F dX7_type_15 rfl (fun c4 => ?_) (fun c4 => ?_)
    · have h := ite_F c4 h
      refine z_aload_n (q := 0) F dX7_type_21 rfl rfl ?_
      refine z_iload_n (q := 1) F dX7_type_22 rfl rfl ?_
      obtain ⟨r5, σ5, hq5, h⟩ := bd_of h
      obtain ⟨g6, h⟩ := gd_of h
      refine cl7_87 F hq5 ⟨Nat.le_of_ble_eq_true rfl, Nat.le_of_ble_eq_true rfl⟩ dX7_type_23 (Nat.le_of_ble_eq_true rfl) ?_
      refine z_astore_n (lv' := [(3, .ref (a r5)), (0, .ref (a 25)), (1, .int x1), (2, .int x2)]) F dX7_type_26 rfl (by decide) rfl ?_
      refine z_aload_n (q := 0) F dX7_type_27 rfl rfl ?_
      refine gf7_91 F g6 dX7_type_28 ?_
      refine z_bipush (v := 39) F dX7_type_31 rfl ?_
      refine z_icmp_lt (tgt := 39) F dX7_type_33 rfl (fun c7 => ?_) (fun c7 => ?_)
      · have h := ite_T c7 h
        refine z_aload_n (q := 1) F dX7_type_39 rfl rfl ?_
        refine z_iconst (v := 1) F dX7_type_40 rfl ?_
        refine pf7_48 F kdc_25 (by first | exact Or.inl rfl | exact Or.inr rfl) dX7_type_41 ?_
        refine z_let h (fun σ8 h => ?_)
        refine z_aload_n (q := 0) F dX7_type_44 rfl rfl ?_
        refine z_iload_n (q := 3) F dX7_type_45 rfl rfl ?_
        obtain ⟨r9, σ9, hq9, h⟩ := bd_of h
        refine cl7_94 F g6 hq9 ⟨Nat.le_of_ble_eq_true rfl, Nat.le_of_ble_eq_true rfl⟩ dX7_type_46 (Nat.le_of_ble_eq_true rfl) ?_
        exact z_iret F h dX7_type_49
      · have h := ite_F c7 h
        refine z_bipush (v := (-4)) F dX7_type_36 rfl ?_
        exact z_iret F h dX7_type_38
    · have h := ite_T c4 h
      refine z_bipush (v := (-2)) F dX7_type_18 rfl ?_
      exact z_iret F h dX7_type_20
theorem ct7_type {r : Int32} {x1 : Int32} {x2 : Int32} {σ : St} (h : M7_type x1 x2 σ = some (r, σ')) : Met l yX7_type (wsY yX7_type cX7_type 4 (some .int)) (rmL 8) (PcW g a [.ref (a 25), .int x1, .int x2] σ) (QiW g a r σ') 0 0 (Ad a) :=
  ct_I (by decide) (Nat.le_of_ble_eq_true rfl) (fun p e s m args below meth c F => zM7_type F h)

theorem zM7_undo {r : Int32} {x1 : Int32} {σ : St} (F : Fx p s m args meth c cX7_undo 3 RX7 (some .int) (rmL 8) 0 0 g a) (h : M7_undo x1 σ = some (r, σ')) : Z p l e (rmL 8) s m args below meth c (MQ below (QiW g a r σ') args s 0 0 (Ad a)) 3 g a 0 0 σ 0 [(0, .ref (a 25)), (1, .int x1)] [] := by
  unfold M7_undo at h
  refine z_iload_n (q := 1) F dX7_undo_0 rfl rfl ?_
  refine z_iconst (v := 2) F dX7_undo_1 rfl ?_
  obtain ⟨r1, σ1, hq1, h⟩ := bd_of h
  refine cl7_83 F hq1 ⟨Nat.le_of_ble_eq_true rfl, Nat.le_of_ble_eq_true rfl⟩ dX7_undo_2 (Nat.le_of_ble_eq_true rfl) ?_
  refine z_if_ne (tgt := 11) F dX7_undo_5 rfl (fun c2 => ?_) (fun c2 => ?_)
  · have h := ite_F c2 h
    refine z_aload_n (q := 0) F dX7_undo_11 rfl rfl ?_
    refine z_iload_n (q := 1) F dX7_undo_12 rfl rfl ?_
    obtain ⟨r3, σ3, hq3, h⟩ := bd_of h
    obtain ⟨g4, h⟩ := gd_of h
    refine cl7_87 F hq3 ⟨Nat.le_of_ble_eq_true rfl, Nat.le_of_ble_eq_true rfl⟩ dX7_undo_13 (Nat.le_of_ble_eq_true rfl) ?_
    refine z_astore_n (lv' := [(2, .ref (a r3)), (0, .ref (a 25)), (1, .int x1)]) F dX7_undo_16 rfl (by decide) rfl ?_
    refine z_aload_n (q := 0) F dX7_undo_17 rfl rfl ?_
    refine gf7_91 F g4 dX7_undo_18 ?_
    refine z_if_ne (tgt := 27) F dX7_undo_21 rfl (fun c5 => ?_) (fun c5 => ?_)
    · have h := ite_F c5 h
      refine z_aload_n (q := 1) F dX7_undo_27 rfl rfl ?_
      refine z_iconst (v := 1) F dX7_undo_28 rfl ?_
      refine pf7_48 F kdc_25 (by first | exact Or.inl rfl | exact Or.inr rfl) dX7_undo_29 ?_
      refine z_let h (fun σ6 h => ?_)
      refine z_aload_n (q := 0) F dX7_undo_32 rfl rfl ?_
      refine z_aload_n (q := 0) F dX7_undo_33 rfl rfl ?_
      refine gf7_91 F g4 dX7_undo_34 ?_
      refine z_iconst (v := 1) F dX7_undo_37 rfl ?_
      refine z_isub F dX7_undo_38 ?_
      obtain ⟨r7, σ7, hq7, h⟩ := bd_of h
      refine cl7_98 F g4 hq7 ⟨Nat.le_of_ble_eq_true rfl, Nat.le_of_ble_eq_true rfl⟩ dX7_undo_39 (Nat.le_of_ble_eq_true rfl) ?_
      refine z_aload_n (q := 0) F dX7_undo_42 rfl rfl ?_
      refine gf7_91 F g4 dX7_undo_43 ?_
      exact z_iret F h dX7_undo_46
    · have h := ite_T c5 h
      refine z_bipush (v := (-3)) F dX7_undo_24 rfl ?_
      exact z_iret F h dX7_undo_26
  · have h := ite_T c2 h
    refine z_bipush (v := (-2)) F dX7_undo_8 rfl ?_
    exact z_iret F h dX7_undo_10
theorem ct7_undo {r : Int32} {x1 : Int32} {σ : St} (h : M7_undo x1 σ = some (r, σ')) : Met l yX7_undo (wsY yX7_undo cX7_undo 3 (some .int)) (rmL 8) (PcW g a [.ref (a 25), .int x1] σ) (QiW g a r σ') 0 0 (Ad a) :=
  ct_I (by decide) (Nat.le_of_ble_eq_true rfl) (fun p e s m args below meth c F => zM7_undo F h)

theorem zM7_wipe {r : Int32} {x1 : Int32} {σ : St} (F : Fx p s m args meth c cX7_wipe 4 RX7 (some .int) (rmL 8) 0 0 g a) (h : M7_wipe x1 σ = some (r, σ')) : Z p l e (rmL 8) s m args below meth c (MQ below (QiW g a r σ') args s 0 0 (Ad a)) 4 g a 0 0 σ 0 [(0, .ref (a 25)), (1, .int x1)] [] := by
  unfold M7_wipe at h
  refine z_iload_n (q := 1) F dX7_wipe_0 rfl rfl ?_
  refine z_iconst (v := 2) F dX7_wipe_1 rfl ?_
  obtain ⟨r1, σ1, hq1, h⟩ := bd_of h
  refine cl7_83 F hq1 ⟨Nat.le_of_ble_eq_true rfl, Nat.le_of_ble_eq_true rfl⟩ dX7_wipe_2 (Nat.le_of_ble_eq_true rfl) ?_
  refine z_if_ne (tgt := 11) F dX7_wipe_5 rfl (fun c2 => ?_) (fun c2 => ?_)
  · have h := ite_F c2 h
    refine z_aload_n (q := 0) F dX7_wipe_11 rfl rfl ?_
    refine z_iconst (v := 1) F dX7_wipe_12 rfl ?_
    refine pf7_48 F kdc_25 (by first | exact Or.inl rfl | exact Or.inr rfl) dX7_wipe_13 ?_
    refine z_let h (fun σ3 h => ?_)
    refine z_aload_n (q := 0) F dX7_wipe_16 rfl rfl ?_
    refine z_iload_n (q := 1) F dX7_wipe_17 rfl rfl ?_
    obtain ⟨r4, σ4, hq4, h⟩ := bd_of h
    obtain ⟨g5, h⟩ := gd_of h
    refine cl7_87 F hq4 ⟨Nat.le_of_ble_eq_true rfl, Nat.le_of_ble_eq_true rfl⟩ dX7_wipe_18 (Nat.le_of_ble_eq_true rfl) ?_
    refine z_astore_n (lv' := [(2, .ref (a r4)), (0, .ref (a 25)), (1, .int x1)]) F dX7_wipe_21 rfl (by decide) rfl ?_
    refine z_aload_n (q := 0) F dX7_wipe_22 rfl rfl ?_
    refine gf7_91 F g5 dX7_wipe_23 ?_
    refine z_letI h (fun v6 h => ?_)
    refine z_istore_n (lv' := [(3, .int v6), (2, .ref (a r4)), (0, .ref (a 25)), (1, .int x1)]) F dX7_wipe_26 rfl (by decide) rfl ?_
    refine z_aload_n (q := 1) F dX7_wipe_27 rfl rfl ?_
    refine z_iconst (v := 0) F dX7_wipe_28 rfl ?_
    obtain ⟨r7, σ7, hq7, h⟩ := bd_of h
    refine cl7_98 F g5 hq7 ⟨Nat.le_of_ble_eq_true rfl, Nat.le_of_ble_eq_true rfl⟩ dX7_wipe_29 (Nat.le_of_ble_eq_true rfl) ?_
    refine z_iload_n (q := 0) F dX7_wipe_32 rfl rfl ?_
    exact z_iret F h dX7_wipe_33
  · have h := ite_T c2 h
    refine z_bipush (v := (-2)) F dX7_wipe_8 rfl ?_
    exact z_iret F h dX7_wipe_10
theorem ct7_wipe {r : Int32} {x1 : Int32} {σ : St} (h : M7_wipe x1 σ = some (r, σ')) : Met l yX7_wipe (wsY yX7_wipe cX7_wipe 4 (some .int)) (rmL 8) (PcW g a [.ref (a 25), .int x1] σ) (QiW g a r σ') 0 0 (Ad a) :=
  ct_I (by decide) (Nat.le_of_ble_eq_true rfl) (fun p e s m args below meth c F => zM7_wipe F h)

theorem zM7_write_L65 {r : Int32} {x1 : Int32} {o3 : Nat} {o4 : Nat} {x5 : Int32} (F : Fx p s m args meth c cX7_write 7 RX7 (some .int) (rmL 4) 0 0 g a) (ko3 : kd o3 = 5) (ko4 : kd o4 = 1) {kx : St → Option (Int32 × St)} (hx : ∀ (σ : St), kx σ = some (r, σ') → Z p l e (rmL 4) s m args below meth c (MQ below (QiW g a r σ') args s 0 0 (Ad a)) 7 g a 0 0 σ 92 [(5, .int x5)] []) : ∀ (n : Nat) (x6 : Int32) (σ : St), M7_write_L65 x1 o3 o4 x5 kx n x6 σ = some (r, σ') → Z p l e (rmL 4) s m args below meth c (MQ below (QiW g a r σ') args s 0 0 (Ad a)) 7 g a 0 0 σ 65 [(1, .int x1), (3, .ref (a o3)), (4, .ref (a o4)), (5, .int x5), (6, .int x6)] [] := by
  intro n
  induction n with
  | zero => intro x6 σ h; rw [M7_write_L65] at h; cases h
  | succ n ih =>
    intro x6 σ h
    rw [M7_write_L65] at h
    refine z_iload (q := 4) F dX7_write_65 rfl ?_
    refine z_iload (q := 3) F dX7_write_67 rfl ?_
    refine z_icmp_ge (tgt := 92) F dX7_write_69 rfl (fun c10 => ?_) (fun c10 => ?_)
    · have h := ite_T c10 h
      refine z_sub (lv' := [(5, .int x5)]) [3] rfl ?_
      exact hx _ h
    · have h := ite_F c10 h
      refine z_aload_n (q := 1) F dX7_write_72 rfl rfl ?_
      refine z_iload (q := 4) F dX7_write_73 rfl ?_
      refine z_aload (q := 2) F dX7_write_75 rfl ?_
      refine z_iload_n (q := 0) F dX7_write_77 rfl rfl ?_
      refine z_iload (q := 4) F dX7_write_78 rfl ?_
      obtain ⟨r11, σ11, hq11, h⟩ := bd_of h
      refine cl7_302 F ko4 hq11 ⟨Nat.le_of_ble_eq_true rfl, Nat.le_of_ble_eq_true rfl⟩ dX7_write_80 (Nat.le_of_ble_eq_true rfl) ?_
      obtain ⟨r12, σ12, hq12, h⟩ := bd_of h
      refine cl7_281 F ko3 hq12 ⟨Nat.le_of_ble_eq_true rfl, Nat.le_of_ble_eq_true rfl⟩ dX7_write_83 (Nat.le_of_ble_eq_true rfl) ?_
      refine z_iinc (q := 4) (v := x6 + 1) (lv' := [(6, .int (x6 + 1)), (1, .int x1), (3, .ref (a o3)), (4, .ref (a o4)), (5, .int x5)]) F dX7_write_86 rfl rfl (by decide) rfl ?_
      refine z_letL (s0 := 6) (lv := [(1, .int x1), (3, .ref (a o3)), (4, .ref (a o4)), (5, .int x5)]) h (fun v13 h => ?_)
      refine z_goto (tgt := 65) F dX7_write_89 rfl ?_
      refine z_sub (lv' := [(1, .int x1), (3, .ref (a o3)), (4, .ref (a o4)), (5, .int x5), (6, .int v13)]) [1, 2, 3, 4, 0] rfl ?_
      exact ih _ _ h
theorem zM7_write {r : Int32} {x1 : Int32} {x2 : Int32} {σ : St} (F : Fx p s m args meth c cX7_write 7 RX7 (some .int) (rmL 4) 0 0 g a) (h : M7_write x1 x2 σ = some (r, σ')) : Z p l e (rmL 4) s m args below meth c (MQ below (QiW g a r σ') args s 0 0 (Ad a)) 7 g a 0 0 σ 0 [(0, .ref (a 25)), (1, .int x1), (2, .int x2)] [] := by
  unfold M7_write at h
  refine z_iload_n (q := 1) F dX7_write_0 rfl rfl ?_
  refine z_bipush (v := 40) F dX7_write_1 rfl ?_
  obtain ⟨r1, σ1, hq1, h⟩ := bd_of h
  refine cl7_83 F hq1 ⟨Nat.le_of_ble_eq_true rfl, Nat.le_of_ble_eq_true rfl⟩ dX7_write_3 (Nat.le_of_ble_eq_true rfl) ?_
  refine z_if_eq (tgt := 17) F dX7_write_6 rfl (fun c2 => ?_) (fun c2 => ?_)
  · have h := ite_T c2 h
    refine z_bipush (v := (-2)) F dX7_write_17 rfl ?_
    exact z_iret F h dX7_write_19
  · have h := ite_F c2 h
    refine z_iload_n (q := 2) F dX7_write_9 rfl rfl ?_
    refine z_iconst (v := 4) F dX7_write_10 rfl ?_
    obtain ⟨r3, σ3, hq3, h⟩ := bd_of h
    refine cl7_83 F hq3 ⟨Nat.le_of_ble_eq_true rfl, Nat.le_of_ble_eq_true rfl⟩ dX7_write_11 (Nat.le_of_ble_eq_true rfl) ?_
    refine z_if_ne (tgt := 20) F dX7_write_14 rfl (fun c4 => ?_) (fun c4 => ?_)
    · have h := ite_F c4 h
      refine z_aload_n (q := 0) F dX7_write_20 rfl rfl ?_
      refine gf7_71 F kdc_25 dX7_write_21 ?_
      refine z_iload_n (q := 2) F dX7_write_24 rfl rfl ?_
      obtain ⟨g5, h⟩ := gd_of h
      refine z_aldS F kdc_89 (inb_in g5) dX7_write_25 ?_
      refine z_astore_n (lv' := [(3, .ref (a (89 + 1 + 2 * x2.toNatClampNeg))), (0, .ref (a 25)), (1, .int x1), (2, .int x2)]) F dX7_write_26 rfl (by decide) rfl ?_
      refine z_aload_n (q := 0) F dX7_write_27 rfl rfl ?_
      refine gf7_146 F (kdS kdc_89 g5) dX7_write_28 ?_
      refine z_if_eq (tgt := 40) F dX7_write_31 rfl (fun c6 => ?_) (fun c6 => ?_)
      · have h := ite_T c6 h
        refine z_aload_n (q := 1) F dX7_write_40 rfl rfl ?_
        obtain ⟨r7, σ7, hq7, h⟩ := bd_of h
        obtain ⟨g8, h⟩ := gd_of h
        refine cl7_159 F hq7 ⟨Nat.le_of_ble_eq_true rfl, Nat.le_of_ble_eq_true rfl⟩ dX7_write_41 (Nat.le_of_ble_eq_true rfl) ?_
        refine z_astore (lv' := [(4, .ref (a r7)), (3, .ref (a (89 + 1 + 2 * x2.toNatClampNeg))), (0, .ref (a 25)), (1, .int x1), (2, .int x2)]) F dX7_write_44 (by decide) rfl ?_
        refine z_aload_n (q := 1) F dX7_write_46 rfl rfl ?_
        refine gf7_152 F (kdS kdc_89 g5) dX7_write_47 ?_
        refine z_aload_n (q := 2) F dX7_write_50 rfl rfl ?_
        refine gf7_16 F kdc_25 dX7_write_51 ?_
        refine gf7_190 F kdc_26 dX7_write_54 ?_
        refine z_mmin F (tbm 703 (by decide +kernel) rfl) (tbm 328 (by decide +kernel) rfl) (tbm 12 (by decide +kernel) rfl) (tbm 329 (by decide +kernel) rfl) (Nat.le_of_ble_eq_true rfl) (Nat.le_of_ble_eq_true rfl) dX7_write_57 ?_
        refine z_letI h (fun v9 h => ?_)
        refine z_istore (lv' := [(5, .int v9), (4, .ref (a r7)), (3, .ref (a (89 + 1 + 2 * x2.toNatClampNeg))), (0, .ref (a 25)), (1, .int x1), (2, .int x2)]) F dX7_write_60 (by decide) rfl ?_
        refine z_iconst (v := 0) F dX7_write_62 rfl ?_
        refine z_istore (lv' := [(6, .int 0), (5, .int v9), (4, .ref (a r7)), (3, .ref (a (89 + 1 + 2 * x2.toNatClampNeg))), (0, .ref (a 25)), (1, .int x1), (2, .int x2)]) F dX7_write_63 (by decide) rfl ?_
        refine z_sub (lv' := [(1, .int x1), (3, .ref (a (89 + 1 + 2 * x2.toNatClampNeg))), (4, .ref (a r7)), (5, .int v9), (6, .int 0)]) [5, 3, 2, 1, 0] rfl ?_
        refine zM7_write_L65 F (kdS kdc_89 g5) g8 ?_ _ _ _ h
        intro σ14 h
        refine z_iload (q := 0) F dX7_write_92 rfl ?_
        exact z_iret F h dX7_write_94
      · have h := ite_F c6 h
        refine z_aload_n (q := 1) F dX7_write_34 rfl rfl ?_
        refine z_iconst (v := 1) F dX7_write_35 rfl ?_
        obtain ⟨r15, σ15, hq15, h⟩ := bd_of h
        refine cl7_149 F hq15 ⟨Nat.le_of_ble_eq_true rfl, Nat.le_of_ble_eq_true rfl⟩ dX7_write_36 (Nat.le_of_ble_eq_true rfl) ?_
        exact z_iret F h dX7_write_39
    · have h := ite_T c4 h
      refine z_bipush (v := (-2)) F dX7_write_17 rfl ?_
      exact z_iret F h dX7_write_19
theorem ct7_write {r : Int32} {x1 : Int32} {x2 : Int32} {σ : St} (h : M7_write x1 x2 σ = some (r, σ')) : Met l yX7_write (wsY yX7_write cX7_write 7 (some .int)) (rmL 4) (PcW g a [.ref (a 25), .int x1, .int x2] σ) (QiW g a r σ') 0 0 (Ad a) :=
  ct_I (by decide) (Nat.le_of_ble_eq_true rfl) (fun p e s m args below meth c F => zM7_write F h)

end WalkZ
