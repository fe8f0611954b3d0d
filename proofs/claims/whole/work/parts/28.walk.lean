section WalkZ
variable {p : Program} {l : Launch} {e : Env} {R : Room} {s : State} {m : MethodId} {args : Array Value} {below : List Frame} {meth : Method} {c : Code} {Q : State → Prop} {cc : ByteArray} {nL : Nat} {own : String} {rt : Option FieldType} {g : Gd} {a : Nat → Nat} {cz sz : Nat} {σ σ1 σ' : St} {pc : Nat} {lv lv' : List (Nat × Value)} {st st0 rest : List Value}
theorem zM3_holeFor_J41 {r : Int32} {o0 : Nat} {x1 : Int32} {x2 : Int32} {x3 : Int32} {σ : St} (F : Fx p s m args meth c cX3_holeFor 5 RX3 (some .int) (rmL 1) 0 0 g a) (ko0 : kd o0 = 3) {kb : Int32 → Int32 → St → Option (Int32 × St)} (hb : ∀ (w2 : Int32) (w3 : Int32) (σ : St), kb w2 w3 σ = some (r, σ') → Z p l e (rmL 1) s m args below meth c (MQ below (QiW g a r σ') args s 0 0 (Ad a)) 5 g a 0 0 σ 4 [(0, .ref (a o0)), (1, .int x1), (2, .int w2), (3, .int w3)] []) (h : M3_holeFor_J41 kb o0 x1 x2 x3 σ = some (r, σ')) : Z p l e (rmL 1) s m args below meth c (MQ below (QiW g a r σ') args s 0 0 (Ad a)) 5 g a 0 0 σ 41 [(0, .ref (a o0)), (1, .int x1), (2, .int x2), (3, .int x3)] [] := by
  unfold M3_holeFor_J41 at h
  refine z_iinc (q := 3) (v := x3 + 1) (lv' := [(3, .int (x3 + 1)), (0, .ref (a o0)), (1, .int x1), (2, .int x2)]) F dX3_holeFor_41 rfl rfl (by decide) rfl ?_
  refine z_letL (s0 := 3) (lv := [(0, .ref (a o0)), (1, .int x1), (2, .int x2)]) h (fun v5 h => ?_)
  refine z_goto (tgt := 4) F dX3_holeFor_44 rfl ?_
  refine z_sub (lv' := [(0, .ref (a o0)), (1, .int x1), (2, .int x2), (3, .int v5)]) [1, 2, 3, 0] rfl ?_
  exact hb _ _ _ h
theorem zM3_holeFor_L4 {r : Int32} {o0 : Nat} {x1 : Int32} (F : Fx p s m args meth c cX3_holeFor 5 RX3 (some .int) (rmL 1) 0 0 g a) (ko0 : kd o0 = 3) {kx : St → Option (Int32 × St)} (hx : ∀ (σ : St), kx σ = some (r, σ') → Z p l e (rmL 1) s m args below meth c (MQ below (QiW g a r σ') args s 0 0 (Ad a)) 5 g a 0 0 σ 47 [] []) : ∀ (n : Nat) (x2 : Int32) (x3 : Int32) (σ : St), M3_holeFor_L4 o0 x1 kx n x2 x3 σ = some (r, σ') → Z p l e (rmL 1) s m args below meth c (MQ below (QiW g a r σ') args s 0 0 (Ad a)) 5 g a 0 0 σ 4 [(0, .ref (a o0)), (1, .int x1), (2, .int x2), (3, .int x3)] [] := by
  intro n
  induction n with
  | zero => intro x2 x3 σ h; rw [M3_holeFor_L4] at h; cases h
  | succ n ih =>
    intro x2 x3 σ h
    rw [M3_holeFor_L4] at h
    refine z_iload_n (q := 3) F dX3_holeFor_4 rfl rfl ?_
    refine z_aload_n (q := 0) F dX3_holeFor_5 rfl rfl ?_
    refine gf3_21 F ko0 dX3_holeFor_6 ?_
    refine z_icmp_ge (tgt := 47) F dX3_holeFor_9 rfl (fun c1 => ?_) (fun c1 => ?_)
    · have h := ite_T c1 h
      refine z_sub (lv' := []) [] rfl ?_
      exact hx _ h
    · have h := ite_F c1 h
      refine z_aload_n (q := 0) F dX3_holeFor_12 rfl rfl ?_
      refine z_iload_n (q := 3) F dX3_holeFor_13 rfl rfl ?_
      refine z_iload_n (q := 2) F dX3_holeFor_14 rfl rfl ?_
      obtain ⟨r2, σ2, hq2, h⟩ := bd_of h
      refine cl3_34 F ko0 hq2 ⟨Nat.le_of_ble_eq_true rfl, Nat.le_of_ble_eq_true rfl⟩ dX3_holeFor_15 (Nat.le_of_ble_eq_true rfl) ?_
      refine z_istore (lv' := [(4, .int r2), (0, .ref (a o0)), (1, .int x1), (2, .int x2), (3, .int x3)]) F dX3_holeFor_18 (by decide) rfl ?_
      refine z_iload_n (q := 4) F dX3_holeFor_20 rfl rfl ?_
      refine z_iload_n (q := 2) F dX3_holeFor_21 rfl rfl ?_
      refine z_icmp_ne (tgt := 28) F dX3_holeFor_22 rfl (fun c3 => ?_) (fun c3 => ?_)
      · have h := ite_F c3 h
        refine z_iload (q := 0) F dX3_holeFor_28 rfl ?_
        refine z_iconst (v := (-1)) F dX3_holeFor_30 rfl ?_
        refine z_icmp_eq (tgt := 41) F dX3_holeFor_31 rfl (fun c4 => ?_) (fun c4 => ?_)
        · have h := ite_T c4 h
          refine z_sub (lv' := [(0, .ref (a o0)), (1, .int x1), (2, .int x2), (3, .int x3)]) [1, 2, 3, 4] rfl ?_
          exact zM3_holeFor_J41 F ko0 ih h
        · have h := ite_F c4 h
          refine z_iload_n (q := 3) F dX3_holeFor_34 rfl rfl ?_
          refine z_iconst (v := 1) F dX3_holeFor_35 rfl ?_
          refine z_iload (q := 0) F dX3_holeFor_36 rfl ?_
          refine z_ishl F dX3_holeFor_38 ?_
          refine z_ior F dX3_holeFor_39 ?_
          refine z_letI h (fun v6 h => ?_)
          refine z_istore_n (lv' := [(2, .int v6), (4, .int r2), (0, .ref (a o0)), (1, .int x1), (3, .int x3)]) F dX3_holeFor_40 rfl (by decide) rfl ?_
          refine z_sub (lv' := [(0, .ref (a o0)), (1, .int x1), (2, .int v6), (3, .int x3)]) [2, 3, 0, 4] rfl ?_
          exact zM3_holeFor_J41 F ko0 ih h
      · have h := ite_T c3 h
        refine z_iload (q := 0) F dX3_holeFor_25 rfl ?_
        exact z_iret F h dX3_holeFor_27
theorem zM3_holeFor {r : Int32} {o0 : Nat} {x1 : Int32} {σ : St} (F : Fx p s m args meth c cX3_holeFor 5 RX3 (some .int) (rmL 1) 0 0 g a) (ko0 : kd o0 = 3) (h : M3_holeFor o0 x1 σ = some (r, σ')) : Z p l e (rmL 1) s m args below meth c (MQ below (QiW g a r σ') args s 0 0 (Ad a)) 5 g a 0 0 σ 0 [(0, .ref (a o0)), (1, .int x1)] [] := by
  unfold M3_holeFor at h
  refine z_iconst (v := 0) F dX3_holeFor_0 rfl ?_
  refine z_istore_n (lv' := [(2, .int 0), (0, .ref (a o0)), (1, .int x1)]) F dX3_holeFor_1 rfl (by decide) rfl ?_
  refine z_iconst (v := 0) F dX3_holeFor_2 rfl ?_
  refine z_istore_n (lv' := [(3, .int 0), (2, .int 0), (0, .ref (a o0)), (1, .int x1)]) F dX3_holeFor_3 rfl (by decide) rfl ?_
  refine z_sub (lv' := [(0, .ref (a o0)), (1, .int x1), (2, .int 0), (3, .int 0)]) [2, 3, 1, 0] rfl ?_
  refine zM3_holeFor_L4 F ko0 ?_ _ _ _ _ h
  intro σ7 h
  refine z_iconst (v := (-1)) F dX3_holeFor_47 rfl ?_
  exact z_iret F h dX3_holeFor_48
theorem ct3_holeFor {r : Int32} {o0 : Nat} {x1 : Int32} {σ : St} (ko0 : kd o0 = 3) (h : M3_holeFor o0 x1 σ = some (r, σ')) : Met l yX3_holeFor (wsY yX3_holeFor cX3_holeFor 5 (some .int)) (rmL 1) (PcW g a [.ref (a o0), .int x1] σ) (QiW g a r σ') 0 0 (Ad a) :=
  ct_I (by decide) (Nat.le_of_ble_eq_true rfl) (fun p e s m args below meth c F => zM3_holeFor F ko0 h)
theorem cl7_200 {r : Int32} {o0 : Nat} {x1 : Int32} (F : Fx p s m args meth c cc nL RX7 rt R cz sz g a) (ko0 : kd o0 = 3) (h : M3_holeFor o0 x1 σ = some (r, σ1)) (hR : 1 + 1 ≤ R.frames ∧ 8 + (5 + 11) + 34 * 1 ≤ R.locals) (d : decode cc pc = .ok (.invokevirtual 200, 3)) (hrm : (rest.map fun v => v.category).sum ≤ 8) (z : Z p l e R s m args below meth c Q nL g a cz sz σ1 (pc + 3) lv (.int r :: rest)) : Z p l e R s m args below meth c Q nL g a cz sz σ pc lv (.int x1 :: .ref (a o0) :: rest) :=
  z_callVNI (host := "HoleBank") (nA := 1) (As := [.int x1]) F (ct3_holeFor ko0 h) ⟨(nlm 607 (by decide +kernel) rfl), (tbm 609 (by decide +kernel) rfl), (tbs 38 (by decide +kernel) rfl), (tbm 7 (by decide +kernel) rfl), (tbm 610 (by decide +kernel) rfl)⟩ (by decide +kernel) rfl ko0 (by decide) rfl rfl rfl hR d rfl hrm z
theorem zM3_mostFrom_J87 {r : Int32} {o0 : Nat} {x1 : Int32} {x2 : Int32} {x3 : Int32} {x4 : Int32} {x5 : Int32} {σ : St} (F : Fx p s m args meth c cX3_mostFrom 6 RX3 (some .int) (rmL 1) 0 0 g a) (ko0 : kd o0 = 3) {kb : Int32 → Int32 → St → Option (Int32 × St)} (hb : ∀ (w3 : Int32) (w5 : Int32) (σ : St), kb w3 w5 σ = some (r, σ') → Z p l e (rmL 1) s m args below meth c (MQ below (QiW g a r σ') args s 0 0 (Ad a)) 6 g a 0 0 σ 30 [(0, .ref (a o0)), (1, .int x1), (2, .int x2), (3, .int w3), (4, .int x4), (5, .int w5)] []) (h : M3_mostFrom_J87 kb o0 x1 x2 x3 x4 x5 σ = some (r, σ')) : Z p l e (rmL 1) s m args below meth c (MQ below (QiW g a r σ') args s 0 0 (Ad a)) 6 g a 0 0 σ 87 [(0, .ref (a o0)), (1, .int x1), (2, .int x2), (3, .int x3), (4, .int x4), (5, .int x5)] [] := by
  unfold M3_mostFrom_J87 at h
  refine z_iinc (q := 5) (v := x5 + 1) (lv' := [(5, .int (x5 + 1)), (0, .ref (a o0)), (1, .int x1), (2, .int x2), (3, .int x3), (4, .int x4)]) F dX3_mostFrom_87 rfl rfl (by decide) rfl ?_
  refine z_letL (s0 := 5) (lv := [(0, .ref (a o0)), (1, .int x1), (2, .int x2), (3, .int x3), (4, .int x4)]) h (fun v8 h => ?_)
  refine z_goto (tgt := 30) F dX3_mostFrom_90 rfl ?_
  refine z_sub (lv' := [(0, .ref (a o0)), (1, .int x1), (2, .int x2), (3, .int x3), (4, .int x4), (5, .int v8)]) [1, 2, 3, 4, 5, 0] rfl ?_
  exact hb _ _ _ h
theorem zM3_mostFrom_L30 {r : Int32} {o0 : Nat} {x1 : Int32} {x2 : Int32} {x4 : Int32} (F : Fx p s m args meth c cX3_mostFrom 6 RX3 (some .int) (rmL 1) 0 0 g a) (ko0 : kd o0 = 3) {kx : Int32 → St → Option (Int32 × St)} (hx : ∀ (w3 : Int32) (σ : St), kx w3 σ = some (r, σ') → Z p l e (rmL 1) s m args below meth c (MQ below (QiW g a r σ') args s 0 0 (Ad a)) 6 g a 0 0 σ 93 [(3, .int w3)] []) : ∀ (n : Nat) (x3 : Int32) (x5 : Int32) (σ : St), M3_mostFrom_L30 o0 x1 x2 x4 kx n x3 x5 σ = some (r, σ') → Z p l e (rmL 1) s m args below meth c (MQ below (QiW g a r σ') args s 0 0 (Ad a)) 6 g a 0 0 σ 30 [(0, .ref (a o0)), (1, .int x1), (2, .int x2), (3, .int x3), (4, .int x4), (5, .int x5)] [] := by
  intro n
  induction n with
  | zero => intro x3 x5 σ h; rw [M3_mostFrom_L30] at h; cases h
  | succ n ih =>
    intro x3 x5 σ h
    rw [M3_mostFrom_L30] at h
    refine z_iload (q := 5) F dX3_mostFrom_30 rfl ?_
    refine z_bipush (v := 8) F dX3_mostFrom_32 rfl ?_
    refine z_icmp_ge (tgt := 93) F dX3_mostFrom_34 rfl (fun c5 => ?_) (fun c5 => ?_)
    · have h := ite_T c5 h
      refine z_sub (lv' := [(3, .int x3)]) [3] rfl ?_
      exact hx _ _ h
    · have h := ite_F c5 h
      refine z_iload (q := 4) F dX3_mostFrom_37 rfl ?_
      refine z_iload (q := 5) F dX3_mostFrom_39 rfl ?_
      refine z_ishr F dX3_mostFrom_41 ?_
      refine z_if_eq (tgt := 93) F dX3_mostFrom_42 rfl (fun c6 => ?_) (fun c6 => ?_)
      · have h := ite_T c6 h
        refine z_sub (lv' := [(3, .int x3)]) [3] rfl ?_
        exact hx _ _ h
      · have h := ite_F c6 h
        refine z_iload (q := 4) F dX3_mostFrom_45 rfl ?_
        refine z_iload (q := 5) F dX3_mostFrom_47 rfl ?_
        refine z_ishr F dX3_mostFrom_49 ?_
        refine z_iconst (v := 1) F dX3_mostFrom_50 rfl ?_
        refine z_iand F dX3_mostFrom_51 ?_
        refine z_iconst (v := 1) F dX3_mostFrom_52 rfl ?_
        refine z_icmp_ne (tgt := 87) F dX3_mostFrom_53 rfl (fun c7 => ?_) (fun c7 => ?_)
        · have h := ite_F c7 h
          refine z_sub (lv' := [(0, .ref (a o0)), (1, .int x1), (2, .int x2), (3, .int x3), (4, .int x4), (5, .int x5)]) [0, 1, 2, 3, 4, 5] rfl ?_
          exact zM3_mostFrom_J87 F ko0 ih h
        · have h := ite_T c7 h
          refine z_iload_n (q := 3) F dX3_mostFrom_56 rfl rfl ?_
          refine z_aload_n (q := 0) F dX3_mostFrom_57 rfl rfl ?_
          refine gf3_9 F ko0 dX3_mostFrom_58 ?_
          refine z_iload_n (q := 1) F dX3_mostFrom_61 rfl rfl ?_
          obtain ⟨g9, h⟩ := gd_of h
          refine z_iald F (kf_3_0 ko0) (inl (lf_3_0 ko0) g9) dX3_mostFrom_62 ?_
          refine z_aload_n (q := 0) F dX3_mostFrom_63 rfl rfl ?_
          refine gf3_18 F ko0 dX3_mostFrom_64 ?_
          refine z_iload_n (q := 1) F dX3_mostFrom_67 rfl rfl ?_
          refine z_iconst (v := 1) F dX3_mostFrom_68 rfl ?_
          refine z_iadd F dX3_mostFrom_69 ?_
          refine z_sipush (v := 256) F dX3_mostFrom_70 rfl ?_
          refine z_imul F dX3_mostFrom_73 ?_
          refine z_iload_n (q := 2) F dX3_mostFrom_74 rfl rfl ?_
          refine z_iconst (v := 1) F dX3_mostFrom_75 rfl ?_
          refine z_iload (q := 5) F dX3_mostFrom_76 rfl ?_
          refine z_ishl F dX3_mostFrom_78 ?_
          refine z_ior F dX3_mostFrom_79 ?_
          refine z_iadd F dX3_mostFrom_80 ?_
          obtain ⟨g10, h⟩ := gd_of h
          refine z_iald F (kf_3_2 ko0) (inl (lf_3_2 ko0) g10) dX3_mostFrom_81 ?_
          refine z_iadd F dX3_mostFrom_82 ?_
          refine z_mmax F (tbm 606 (by decide +kernel) rfl) (tbm 325 (by decide +kernel) rfl) (tbm 12 (by decide +kernel) rfl) (tbm 326 (by decide +kernel) rfl) (Nat.le_of_ble_eq_true rfl) (Nat.le_of_ble_eq_true rfl) dX3_mostFrom_83 ?_
          refine z_letI h (fun v11 h => ?_)
          refine z_istore_n (lv' := [(3, .int v11), (0, .ref (a o0)), (1, .int x1), (2, .int x2), (4, .int x4), (5, .int x5)]) F dX3_mostFrom_86 rfl (by decide) rfl ?_
          refine z_sub (lv' := [(0, .ref (a o0)), (1, .int x1), (2, .int x2), (3, .int v11), (4, .int x4), (5, .int x5)]) [1, 2, 3, 0, 4, 5] rfl ?_
          exact zM3_mostFrom_J87 F ko0 ih h
theorem zM3_mostFrom {r : Int32} {o0 : Nat} {x1 : Int32} {x2 : Int32} {σ : St} (F : Fx p s m args meth c cX3_mostFrom 6 RX3 (some .int) (rmL 1) 0 0 g a) (ko0 : kd o0 = 3) (h : M3_mostFrom o0 x1 x2 σ = some (r, σ')) : Z p l e (rmL 1) s m args below meth c (MQ below (QiW g a r σ') args s 0 0 (Ad a)) 6 g a 0 0 σ 0 [(0, .ref (a o0)), (1, .int x1), (2, .int x2)] [] := by
  unfold M3_mostFrom at h
  refine z_aload_n (q := 0) F dX3_mostFrom_0 rfl rfl ?_
  refine gf3_18 F ko0 dX3_mostFrom_1 ?_
  refine z_iload_n (q := 1) F dX3_mostFrom_4 rfl rfl ?_
  refine z_iconst (v := 1) F dX3_mostFrom_5 rfl ?_
  refine z_iadd F dX3_mostFrom_6 ?_
  refine z_sipush (v := 256) F dX3_mostFrom_7 rfl ?_
  refine z_imul F dX3_mostFrom_10 ?_
  refine z_iload_n (q := 2) F dX3_mostFrom_11 rfl rfl ?_
  refine z_iadd F dX3_mostFrom_12 ?_
  obtain ⟨g1, h⟩ := gd_of h
  refine z_iald F (kf_3_2 ko0) (inl (lf_3_2 ko0) g1) dX3_mostFrom_13 ?_
  refine z_letI h (fun v2 h => ?_)
  refine z_istore_n (lv' := [(3, .int v2), (0, .ref (a o0)), (1, .int x1), (2, .int x2)]) F dX3_mostFrom_14 rfl (by decide) rfl ?_
  refine z_aload_n (q := 1) F dX3_mostFrom_15 rfl rfl ?_
  refine gf3_15 F ko0 dX3_mostFrom_16 ?_
  refine z_iload_n (q := 2) F dX3_mostFrom_19 rfl rfl ?_
  obtain ⟨g3, h⟩ := gd_of h
  refine z_iald F (kf_3_1 ko0) (inl (lf_3_1 ko0) g3) dX3_mostFrom_20 ?_
  refine z_iload_n (q := 3) F dX3_mostFrom_21 rfl rfl ?_
  refine z_iconst (v := (-1)) F dX3_mostFrom_22 rfl ?_
  refine z_ixor F dX3_mostFrom_23 ?_
  refine z_iand F dX3_mostFrom_24 ?_
  refine z_letI h (fun v4 h => ?_)
  refine z_istore (lv' := [(4, .int v4), (3, .int v2), (0, .ref (a o0)), (1, .int x1), (2, .int x2)]) F dX3_mostFrom_25 (by decide) rfl ?_
  refine z_iconst (v := 0) F dX3_mostFrom_27 rfl ?_
  refine z_istore (lv' := [(5, .int 0), (4, .int v4), (3, .int v2), (0, .ref (a o0)), (1, .int x1), (2, .int x2)]) F dX3_mostFrom_28 (by decide) rfl ?_
  refine z_sub (lv' := [(0, .ref (a o0)), (1, .int x1), (2, .int x2), (3, .int v2), (4, .int v4), (5, .int 0)]) [3, 4, 5, 2, 1, 0] rfl ?_
  refine zM3_mostFrom_L30 F ko0 ?_ _ _ _ _ h
  intro v12 σ13 h
  refine z_iload_n (q := 0) F dX3_mostFrom_93 rfl rfl ?_
  exact z_iret F h dX3_mostFrom_94
theorem ct3_mostFrom {r : Int32} {o0 : Nat} {x1 : Int32} {x2 : Int32} {σ : St} (ko0 : kd o0 = 3) (h : M3_mostFrom o0 x1 x2 σ = some (r, σ')) : Met l yX3_mostFrom (wsY yX3_mostFrom cX3_mostFrom 6 (some .int)) (rmL 1) (PcW g a [.ref (a o0), .int x1, .int x2] σ) (QiW g a r σ') 0 0 (Ad a) :=
  ct_I (by decide) (Nat.le_of_ble_eq_true rfl) (fun p e s m args below meth c F => zM3_mostFrom F ko0 h)
theorem cl3_25 {r : Int32} {o0 : Nat} {x1 : Int32} {x2 : Int32} (F : Fx p s m args meth c cc nL RX3 rt R cz sz g a) (ko0 : kd o0 = 3) (h : M3_mostFrom o0 x1 x2 σ = some (r, σ1)) (hR : 1 + 1 ≤ R.frames ∧ 8 + (6 + 11) + 34 * 1 ≤ R.locals) (d : decode cc pc = .ok (.invokevirtual 25, 3)) (hrm : (rest.map fun v => v.category).sum ≤ 8) (z : Z p l e R s m args below meth c Q nL g a cz sz σ1 (pc + 3) lv (.int r :: rest)) : Z p l e R s m args below meth c Q nL g a cz sz σ pc lv (.int x2 :: .int x1 :: .ref (a o0) :: rest) :=
  z_callVI (nA := 2) (As := [.int x1, .int x2]) F (ct3_mostFrom ko0 h) ⟨(tbm 602 (by decide +kernel) rfl), (tbm 604 (by decide +kernel) rfl), (tbs 37 (by decide +kernel) rfl), (tbm 7 (by decide +kernel) rfl), (tbm 605 (by decide +kernel) rfl)⟩ (by decide +kernel) rfl ko0 (by decide) rfl rfl rfl hR d rfl hrm z
theorem zM3_set {r : Unit} {o0 : Nat} {x1 : Int32} {x2 : Int32} {x3 : Int32} {σ : St} (F : Fx p s m args meth c cX3_set 4 RX3 none (rmL 0) 0 0 g a) (ko0 : kd o0 = 3) (h : M3_set o0 x1 x2 x3 σ = some (r, σ')) : Z p l e (rmL 0) s m args below meth c (MQ below (QvW g a r σ') args s 0 0 (Ad a)) 4 g a 0 0 σ 0 [(0, .ref (a o0)), (1, .int x1), (2, .int x2), (3, .int x3)] [] := by
  unfold M3_set at h
  refine z_aload_n (q := 0) F dX3_set_0 rfl rfl ?_
  refine gf3_9 F ko0 dX3_set_1 ?_
  refine z_iload_n (q := 1) F dX3_set_4 rfl rfl ?_
  refine z_iload_n (q := 2) F dX3_set_5 rfl rfl ?_
  obtain ⟨g1, h⟩ := gd_of h
  refine z_iast F (kf_3_0 ko0) (inl (lf_3_0 ko0) g1) dX3_set_6 ?_
  refine z_let h (fun σ2 h => ?_)
  refine z_aload_n (q := 0) F dX3_set_7 rfl rfl ?_
  refine gf3_15 F ko0 dX3_set_8 ?_
  refine z_iload_n (q := 1) F dX3_set_11 rfl rfl ?_
  refine z_iload_n (q := 3) F dX3_set_12 rfl rfl ?_
  refine z_iast F (kf_3_1 ko0) (inl (lf_3_1 ko0) g1) dX3_set_13 ?_
  refine z_let h (fun σ4 h => ?_)
  exact z_vret F h dX3_set_14
theorem ct3_set {r : Unit} {o0 : Nat} {x1 : Int32} {x2 : Int32} {x3 : Int32} {σ : St} (ko0 : kd o0 = 3) (h : M3_set o0 x1 x2 x3 σ = some (r, σ')) : Met l yX3_set (wsY yX3_set cX3_set 4 none) (rmL 0) (PcW g a [.ref (a o0), .int x1, .int x2, .int x3] σ) (QvW g a r σ') 0 0 (Ad a) :=
  ct_V (by decide) (Nat.le_of_ble_eq_true rfl) (fun p e s m args below meth c F => zM3_set F ko0 h)
theorem cl7_373 {r : Unit} {o0 : Nat} {x1 : Int32} {x2 : Int32} {x3 : Int32} (F : Fx p s m args meth c cc nL RX7 rt R cz sz g a) (ko0 : kd o0 = 3) (h : M3_set o0 x1 x2 x3 σ = some (r, σ1)) (hR : 0 + 1 ≤ R.frames ∧ 8 + (4 + 11) + 34 * 0 ≤ R.locals) (d : decode cc pc = .ok (.invokevirtual 373, 3)) (hrm : (rest.map fun v => v.category).sum ≤ 8) (z : Z p l e R s m args below meth c Q nL g a cz sz σ1 (pc + 3) lv (rest)) : Z p l e R s m args below meth c Q nL g a cz sz σ pc lv (.int x3 :: .int x2 :: .int x1 :: .ref (a o0) :: rest) :=
  z_callVNV (host := "HoleBank") (nA := 3) (As := [.int x1, .int x2, .int x3]) F (ct3_set ko0 h) ⟨(nlm 594 (by decide +kernel) rfl), (tbm 596 (by decide +kernel) rfl), (tbs 35 (by decide +kernel) rfl), (tbm 7 (by decide +kernel) rfl), (tbm 597 (by decide +kernel) rfl)⟩ (by decide +kernel) rfl ko0 (by decide) rfl rfl rfl hR d rfl hrm z
theorem zM3_solve_L85 {r : Int32} {o0 : Nat} {x1 : Int32} {x2 : Int32} (F : Fx p s m args meth c cX3_solve 4 RX3 (some .int) (rmL 2) 0 0 g a) (ko0 : kd o0 = 3) {kx : St → Option (Int32 × St)} (hx : ∀ (σ : St), kx σ = some (r, σ') → Z p l e (rmL 2) s m args below meth c (MQ below (QiW g a r σ') args s 0 0 (Ad a)) 4 g a 0 0 σ 116 [(0, .ref (a o0)), (1, .int x1), (2, .int x2)] []) : ∀ (n : Nat) (x3 : Int32) (σ : St), M3_solve_L85 o0 x1 x2 kx n x3 σ = some (r, σ') → Z p l e (rmL 2) s m args below meth c (MQ below (QiW g a r σ') args s 0 0 (Ad a)) 4 g a 0 0 σ 85 [(0, .ref (a o0)), (1, .int x1), (2, .int x2), (3, .int x3)] [] := by
  intro n
  induction n with
  | zero => intro x3 σ h; rw [M3_solve_L85] at h; cases h
  | succ n ih =>
    intro x3 σ h
    rw [M3_solve_L85] at h
    refine z_iload_n (q := 3) F dX3_solve_85 rfl rfl ?_
    refine z_if_le (tgt := 116) F dX3_solve_86 rfl (fun c16 => ?_) (fun c16 => ?_)
    · have h := ite_T c16 h
      refine z_sub (lv' := [(0, .ref (a o0)), (1, .int x1), (2, .int x2)]) [0, 1, 2] rfl ?_
      exact hx _ h
    · have h := ite_F c16 h
      refine z_aload_n (q := 0) F dX3_solve_89 rfl rfl ?_
      refine gf3_18 F ko0 dX3_solve_90 ?_
      refine z_iload_n (q := 2) F dX3_solve_93 rfl rfl ?_
      refine z_sipush (v := 256) F dX3_solve_94 rfl ?_
      refine z_imul F dX3_solve_97 ?_
      refine z_iload_n (q := 3) F dX3_solve_98 rfl rfl ?_
      refine z_iadd F dX3_solve_99 ?_
      refine z_aload_n (q := 0) F dX3_solve_100 rfl rfl ?_
      refine z_iload_n (q := 2) F dX3_solve_101 rfl rfl ?_
      refine z_iload_n (q := 3) F dX3_solve_102 rfl rfl ?_
      obtain ⟨r17, σ17, hq17, h⟩ := bd_of h
      refine cl3_25 F ko0 hq17 ⟨Nat.le_of_ble_eq_true rfl, Nat.le_of_ble_eq_true rfl⟩ dX3_solve_103 (Nat.le_of_ble_eq_true rfl) ?_
      obtain ⟨g18, h⟩ := gd_of h
      refine z_iast F (kf_3_2 ko0) (inl (lf_3_2 ko0) g18) dX3_solve_106 ?_
      refine z_let h (fun σ19 h => ?_)
      refine z_iload_n (q := 3) F dX3_solve_107 rfl rfl ?_
      refine z_iconst (v := 1) F dX3_solve_108 rfl ?_
      refine z_isub F dX3_solve_109 ?_
      refine z_iload_n (q := 1) F dX3_solve_110 rfl rfl ?_
      refine z_iand F dX3_solve_111 ?_
      refine z_letI h (fun v20 h => ?_)
      refine z_istore_n (lv' := [(3, .int v20), (0, .ref (a o0)), (1, .int x1), (2, .int x2)]) F dX3_solve_112 rfl (by decide) rfl ?_
      refine z_goto (tgt := 85) F dX3_solve_113 rfl ?_
      refine z_sub (lv' := [(0, .ref (a o0)), (1, .int x1), (2, .int x2), (3, .int v20)]) [1, 2, 3, 0] rfl ?_
      exact ih _ _ h
theorem zM3_solve_L79 {r : Int32} {o0 : Nat} {x1 : Int32} (F : Fx p s m args meth c cX3_solve 4 RX3 (some .int) (rmL 2) 0 0 g a) (ko0 : kd o0 = 3) {kx : St → Option (Int32 × St)} (hx : ∀ (σ : St), kx σ = some (r, σ') → Z p l e (rmL 2) s m args below meth c (MQ below (QiW g a r σ') args s 0 0 (Ad a)) 4 g a 0 0 σ 138 [(0, .ref (a o0))] []) : ∀ (n : Nat) (x2 : Int32) (σ : St), M3_solve_L79 o0 x1 kx n x2 σ = some (r, σ') → Z p l e (rmL 2) s m args below meth c (MQ below (QiW g a r σ') args s 0 0 (Ad a)) 4 g a 0 0 σ 79 [(0, .ref (a o0)), (1, .int x1), (2, .int x2)] [] := by
  intro n
  induction n with
  | zero => intro x2 σ h; rw [M3_solve_L79] at h; cases h
  | succ n ih =>
    intro x2 σ h
    rw [M3_solve_L79] at h
    refine z_iload_n (q := 2) F dX3_solve_79 rfl rfl ?_
    refine z_if_lt (tgt := 138) F dX3_solve_80 rfl (fun c15 => ?_) (fun c15 => ?_)
    · have h := ite_T c15 h
      refine z_sub (lv' := [(0, .ref (a o0))]) [0] rfl ?_
      exact hx _ h
    · have h := ite_F c15 h
      refine z_iload_n (q := 1) F dX3_solve_83 rfl rfl ?_
      refine z_istore_n (lv' := [(3, .int x1), (0, .ref (a o0)), (1, .int x1), (2, .int x2)]) F dX3_solve_84 rfl (by decide) rfl ?_
      refine z_sub (lv' := [(0, .ref (a o0)), (1, .int x1), (2, .int x2), (3, .int x1)]) [1, 2, 3, 0] rfl ?_
      refine zM3_solve_L85 F ko0 ?_ _ _ _ h
      intro σ21 h
      refine z_aload_n (q := 0) F dX3_solve_116 rfl rfl ?_
      refine gf3_18 F ko0 dX3_solve_117 ?_
      refine z_iload_n (q := 2) F dX3_solve_120 rfl rfl ?_
      refine z_sipush (v := 256) F dX3_solve_121 rfl ?_
      refine z_imul F dX3_solve_124 ?_
      refine z_aload_n (q := 0) F dX3_solve_125 rfl rfl ?_
      refine z_iload_n (q := 2) F dX3_solve_126 rfl rfl ?_
      refine z_iconst (v := 0) F dX3_solve_127 rfl ?_
      obtain ⟨r22, σ22, hq22, h⟩ := bd_of h
      refine cl3_25 F ko0 hq22 ⟨Nat.le_of_ble_eq_true rfl, Nat.le_of_ble_eq_true rfl⟩ dX3_solve_128 (Nat.le_of_ble_eq_true rfl) ?_
      obtain ⟨g23, h⟩ := gd_of h
      refine z_iast F (kf_3_2 ko0) (inl (lf_3_2 ko0) g23) dX3_solve_131 ?_
      refine z_let h (fun σ24 h => ?_)
      refine z_iinc (q := 2) (v := x2 + (-1)) (lv' := [(2, .int (x2 + (-1))), (0, .ref (a o0)), (1, .int x1)]) F dX3_solve_132 rfl rfl (by decide) rfl ?_
      refine z_letL (s0 := 2) (lv := [(0, .ref (a o0)), (1, .int x1)]) h (fun v25 h => ?_)
      refine z_goto (tgt := 79) F dX3_solve_135 rfl ?_
      refine z_sub (lv' := [(0, .ref (a o0)), (1, .int x1), (2, .int v25)]) [1, 2, 0] rfl ?_
      exact ih _ _ h
theorem zM3_solve_L29 {r : Int32} {o0 : Nat} {x1 : Int32} (F : Fx p s m args meth c cX3_solve 4 RX3 (some .int) (rmL 2) 0 0 g a) (ko0 : kd o0 = 3) {kx : St → Option (Int32 × St)} (hx : ∀ (σ : St), kx σ = some (r, σ') → Z p l e (rmL 2) s m args below meth c (MQ below (QiW g a r σ') args s 0 0 (Ad a)) 4 g a 0 0 σ 58 [(0, .ref (a o0)), (1, .int x1)] []) : ∀ (n : Nat) (x2 : Int32) (σ : St), M3_solve_L29 o0 x1 kx n x2 σ = some (r, σ') → Z p l e (rmL 2) s m args below meth c (MQ below (QiW g a r σ') args s 0 0 (Ad a)) 4 g a 0 0 σ 29 [(0, .ref (a o0)), (1, .int x1), (2, .int x2)] [] := by
  intro n
  induction n with
  | zero => intro x2 σ h; rw [M3_solve_L29] at h; cases h
  | succ n ih =>
    intro x2 σ h
    rw [M3_solve_L29] at h
    refine z_iload_n (q := 2) F dX3_solve_29 rfl rfl ?_
    refine z_if_le (tgt := 58) F dX3_solve_30 rfl (fun c7 => ?_) (fun c7 => ?_)
    · have h := ite_T c7 h
      refine z_sub (lv' := [(0, .ref (a o0)), (1, .int x1)]) [0, 1] rfl ?_
      exact hx _ h
    · have h := ite_F c7 h
      refine z_aload_n (q := 0) F dX3_solve_33 rfl rfl ?_
      refine gf3_18 F ko0 dX3_solve_34 ?_
      refine z_aload_n (q := 0) F dX3_solve_37 rfl rfl ?_
      refine gf3_21 F ko0 dX3_solve_38 ?_
      refine z_sipush (v := 256) F dX3_solve_41 rfl ?_
      refine z_imul F dX3_solve_44 ?_
      refine z_iload_n (q := 2) F dX3_solve_45 rfl rfl ?_
      refine z_iadd F dX3_solve_46 ?_
      refine z_iconst (v := 0) F dX3_solve_47 rfl ?_
      obtain ⟨g8, h⟩ := gd_of h
      refine z_iast F (kf_3_2 ko0) (inl (lf_3_2 ko0) g8) dX3_solve_48 ?_
      refine z_let h (fun σ9 h => ?_)
      refine z_iload_n (q := 2) F dX3_solve_49 rfl rfl ?_
      refine z_iconst (v := 1) F dX3_solve_50 rfl ?_
      refine z_isub F dX3_solve_51 ?_
      refine z_iload_n (q := 1) F dX3_solve_52 rfl rfl ?_
      refine z_iand F dX3_solve_53 ?_
      refine z_letI h (fun v10 h => ?_)
      refine z_istore_n (lv' := [(2, .int v10), (0, .ref (a o0)), (1, .int x1)]) F dX3_solve_54 rfl (by decide) rfl ?_
      refine z_goto (tgt := 29) F dX3_solve_55 rfl ?_
      refine z_sub (lv' := [(0, .ref (a o0)), (1, .int x1), (2, .int v10)]) [1, 2, 0] rfl ?_
      exact ih _ _ h
theorem zM3_solve_L4 {r : Int32} {o0 : Nat} (F : Fx p s m args meth c cX3_solve 4 RX3 (some .int) (rmL 2) 0 0 g a) (ko0 : kd o0 = 3) {kx : Int32 → St → Option (Int32 × St)} (hx : ∀ (w1 : Int32) (σ : St), kx w1 σ = some (r, σ') → Z p l e (rmL 2) s m args below meth c (MQ below (QiW g a r σ') args s 0 0 (Ad a)) 4 g a 0 0 σ 27 [(0, .ref (a o0)), (1, .int w1)] []) : ∀ (n : Nat) (x1 : Int32) (x2 : Int32) (σ : St), M3_solve_L4 o0 kx n x1 x2 σ = some (r, σ') → Z p l e (rmL 2) s m args below meth c (MQ below (QiW g a r σ') args s 0 0 (Ad a)) 4 g a 0 0 σ 4 [(0, .ref (a o0)), (1, .int x1), (2, .int x2)] [] := by
  intro n
  induction n with
  | zero => intro x1 x2 σ h; rw [M3_solve_L4] at h; cases h
  | succ n ih =>
    intro x1 x2 σ h
    rw [M3_solve_L4] at h
    refine z_iload_n (q := 2) F dX3_solve_4 rfl rfl ?_
    refine z_aload_n (q := 0) F dX3_solve_5 rfl rfl ?_
    refine gf3_21 F ko0 dX3_solve_6 ?_
    refine z_icmp_ge (tgt := 27) F dX3_solve_9 rfl (fun c1 => ?_) (fun c1 => ?_)
    · have h := ite_T c1 h
      refine z_sub (lv' := [(0, .ref (a o0)), (1, .int x1)]) [0, 1] rfl ?_
      exact hx _ _ h
    · have h := ite_F c1 h
      refine z_iload_n (q := 1) F dX3_solve_12 rfl rfl ?_
      refine z_aload_n (q := 0) F dX3_solve_13 rfl rfl ?_
      refine gf3_15 F ko0 dX3_solve_14 ?_
      refine z_iload_n (q := 2) F dX3_solve_17 rfl rfl ?_
      obtain ⟨g2, h⟩ := gd_of h
      refine z_iald F (kf_3_1 ko0) (inl (lf_3_1 ko0) g2) dX3_solve_18 ?_
      refine z_ior F dX3_solve_19 ?_
      refine z_letI h (fun v3 h => ?_)
      refine z_istore_n (lv' := [(1, .int v3), (0, .ref (a o0)), (2, .int x2)]) F dX3_solve_20 rfl (by decide) rfl ?_
      refine z_iinc (q := 2) (v := x2 + 1) (lv' := [(2, .int (x2 + 1)), (1, .int v3), (0, .ref (a o0))]) F dX3_solve_21 rfl rfl (by decide) rfl ?_
      refine z_letL (s0 := 2) (lv := [(1, .int v3), (0, .ref (a o0))]) h (fun v4 h => ?_)
      refine z_goto (tgt := 4) F dX3_solve_24 rfl ?_
      refine z_sub (lv' := [(0, .ref (a o0)), (1, .int v3), (2, .int v4)]) [2, 1, 0] rfl ?_
      exact ih _ _ _ h
theorem zM3_solve {r : Int32} {o0 : Nat} {σ : St} (F : Fx p s m args meth c cX3_solve 4 RX3 (some .int) (rmL 2) 0 0 g a) (ko0 : kd o0 = 3) (h : M3_solve o0 σ = some (r, σ')) : Z p l e (rmL 2) s m args below meth c (MQ below (QiW g a r σ') args s 0 0 (Ad a)) 4 g a 0 0 σ 0 [(0, .ref (a o0))] [] := by
  unfold M3_solve at h
  refine z_iconst (v := 0) F dX3_solve_0 rfl ?_
  refine z_istore_n (lv' := [(1, .int 0), (0, .ref (a o0))]) F dX3_solve_1 rfl (by decide) rfl ?_
  refine z_iconst (v := 0) F dX3_solve_2 rfl ?_
  refine z_istore_n (lv' := [(2, .int 0), (1, .int 0), (0, .ref (a o0))]) F dX3_solve_3 rfl (by decide) rfl ?_
  refine z_sub (lv' := [(0, .ref (a o0)), (1, .int 0), (2, .int 0)]) [2, 1, 0] rfl ?_
  refine zM3_solve_L4 F ko0 ?_ _ _ _ _ h
  intro v5 σ6 h
  refine z_iload_n (q := 1) F dX3_solve_27 rfl rfl ?_
  refine z_istore_n (lv' := [(2, .int v5), (0, .ref (a o0)), (1, .int v5)]) F dX3_solve_28 rfl (by decide) rfl ?_
  refine z_sub (lv' := [(0, .ref (a o0)), (1, .int v5), (2, .int v5)]) [1, 2, 0] rfl ?_
  refine zM3_solve_L29 F ko0 ?_ _ _ _ h
  intro σ11 h
  refine z_aload_n (q := 0) F dX3_solve_58 rfl rfl ?_
  refine gf3_18 F ko0 dX3_solve_59 ?_
  refine z_aload_n (q := 0) F dX3_solve_62 rfl rfl ?_
  refine gf3_21 F ko0 dX3_solve_63 ?_
  refine z_sipush (v := 256) F dX3_solve_66 rfl ?_
  refine z_imul F dX3_solve_69 ?_
  refine z_iconst (v := 0) F dX3_solve_70 rfl ?_
  obtain ⟨g12, h⟩ := gd_of h
  refine z_iast F (kf_3_2 ko0) (inl (lf_3_2 ko0) g12) dX3_solve_71 ?_
  refine z_let h (fun σ13 h => ?_)
  refine z_aload_n (q := 0) F dX3_solve_72 rfl rfl ?_
  refine gf3_21 F ko0 dX3_solve_73 ?_
  refine z_iconst (v := 1) F dX3_solve_76 rfl ?_
  refine z_isub F dX3_solve_77 ?_
  refine z_letI h (fun v14 h => ?_)
  refine z_istore_n (lv' := [(2, .int v14), (0, .ref (a o0)), (1, .int v5)]) F dX3_solve_78 rfl (by decide) rfl ?_
  refine z_sub (lv' := [(0, .ref (a o0)), (1, .int v5), (2, .int v14)]) [1, 2, 0] rfl ?_
  refine zM3_solve_L79 F ko0 ?_ _ _ _ h
  intro σ26 h
  refine z_aload_n (q := 0) F dX3_solve_138 rfl rfl ?_
  refine gf3_18 F ko0 dX3_solve_139 ?_
  refine z_iconst (v := 0) F dX3_solve_142 rfl ?_
  refine z_ialdC (j := 0) F (kf_3_2 ko0) (inl (lf_3_2 ko0) (by decide)) (by decide) dX3_solve_143 ?_
  exact z_iret F h dX3_solve_144
theorem ct3_solve {r : Int32} {o0 : Nat} {σ : St} (ko0 : kd o0 = 3) (h : M3_solve o0 σ = some (r, σ')) : Met l yX3_solve (wsY yX3_solve cX3_solve 4 (some .int)) (rmL 2) (PcW g a [.ref (a o0)] σ) (QiW g a r σ') 0 0 (Ad a) :=
  ct_I (by decide) (Nat.le_of_ble_eq_true rfl) (fun p e s m args below meth c F => zM3_solve F ko0 h)
theorem cl7_377 {r : Int32} {o0 : Nat} (F : Fx p s m args meth c cc nL RX7 rt R cz sz g a) (ko0 : kd o0 = 3) (h : M3_solve o0 σ = some (r, σ1)) (hR : 2 + 1 ≤ R.frames ∧ 8 + (4 + 11) + 34 * 2 ≤ R.locals) (d : decode cc pc = .ok (.invokevirtual 377, 3)) (hrm : (rest.map fun v => v.category).sum ≤ 8) (z : Z p l e R s m args below meth c Q nL g a cz sz σ1 (pc + 3) lv (.int r :: rest)) : Z p l e R s m args below meth c Q nL g a cz sz σ pc lv (.ref (a o0) :: rest) :=
  z_callVNI (host := "HoleBank") (nA := 0) (As := []) F (ct3_solve ko0 h) ⟨(nlm 598 (by decide +kernel) rfl), (tbm 600 (by decide +kernel) rfl), (tbs 36 (by decide +kernel) rfl), (tbm 7 (by decide +kernel) rfl), (tbm 601 (by decide +kernel) rfl)⟩ (by decide +kernel) rfl ko0 (by decide) rfl rfl rfl hR d rfl hrm z
theorem zM4_add {r : Int32} {o0 : Nat} {x1 : Int32} {x2 : Int32} {x3 : Int32} {x4 : Int32} {σ : St} (F : Fx p s m args meth c cX4_add 6 RX4 (some .int) (rmL 0) 0 0 g a) (ko0 : kd o0 = 4) (h : M4_add o0 x1 x2 x3 x4 σ = some (r, σ')) : Z p l e (rmL 0) s m args below meth c (MQ below (QiW g a r σ') args s 0 0 (Ad a)) 6 g a 0 0 σ 0 [(0, .ref (a o0)), (1, .int x1), (2, .int x2), (3, .int x3), (4, .int x4)] [] := by
  unfold M4_add at h
  refine z_aload_n (q := 0) F dX4_add_0 rfl rfl ?_
  refine gf4_9 F ko0 dX4_add_1 ?_
  refine z_aload_n (q := 0) F dX4_add_4 rfl rfl ?_
  refine gf4_15 F ko0 dX4_add_5 ?_
  refine z_icmp_ge (tgt := 68) F dX4_add_8 rfl (fun c1 => ?_) (fun c1 => ?_)
  · have h := ite_T c1 h
    refine z_aload_n (q := 0) F dX4_add_68 rfl rfl ?_
    refine gf4_9 F ko0 dX4_add_69 ?_
    exact z_iret F h dX4_add_72
  · have h := ite_F c1 h
    refine z_aload_n (q := 0) F dX4_add_11 rfl rfl ?_
    refine gf4_9 F ko0 dX4_add_12 ?_
    refine z_iconst (v := 4) F dX4_add_15 rfl ?_
    refine z_imul F dX4_add_16 ?_
    refine z_letI h (fun v2 h => ?_)
    refine z_istore (lv' := [(5, .int v2), (0, .ref (a o0)), (1, .int x1), (2, .int x2), (3, .int x3), (4, .int x4)]) F dX4_add_17 (by decide) rfl ?_
    refine z_aload_n (q := 1) F dX4_add_19 rfl rfl ?_
    refine gf4_18 F ko0 dX4_add_20 ?_
    refine z_iload (q := 0) F dX4_add_23 rfl ?_
    refine z_iload_n (q := 2) F dX4_add_25 rfl rfl ?_
    obtain ⟨g3, h⟩ := gd_of h
    refine z_iast F (kf_4_1 ko0) (inl rfl g3) dX4_add_26 ?_
    refine z_let h (fun σ4 h => ?_)
    refine z_aload_n (q := 1) F dX4_add_27 rfl rfl ?_
    refine gf4_18 F ko0 dX4_add_28 ?_
    refine z_iload (q := 0) F dX4_add_31 rfl ?_
    refine z_iconst (v := 1) F dX4_add_33 rfl ?_
    refine z_iadd F dX4_add_34 ?_
    refine z_iload_n (q := 3) F dX4_add_35 rfl rfl ?_
    obtain ⟨g5, h⟩ := gd_of h
    refine z_iast F (kf_4_1 ko0) (inl rfl g5) dX4_add_36 ?_
    refine z_let h (fun σ6 h => ?_)
    refine z_aload_n (q := 1) F dX4_add_37 rfl rfl ?_
    refine gf4_18 F ko0 dX4_add_38 ?_
    refine z_iload (q := 0) F dX4_add_41 rfl ?_
    refine z_iconst (v := 2) F dX4_add_43 rfl ?_
    refine z_iadd F dX4_add_44 ?_
    refine z_iload_n (q := 4) F dX4_add_45 rfl rfl ?_
    obtain ⟨g7, h⟩ := gd_of h
    refine z_iast F (kf_4_1 ko0) (inl rfl g7) dX4_add_46 ?_
    refine z_let h (fun σ8 h => ?_)
    refine z_aload_n (q := 1) F dX4_add_47 rfl rfl ?_
    refine gf4_18 F ko0 dX4_add_48 ?_
    refine z_iload (q := 0) F dX4_add_51 rfl ?_
    refine z_iconst (v := 3) F dX4_add_53 rfl ?_
    refine z_iadd F dX4_add_54 ?_
    refine z_iload (q := 5) F dX4_add_55 rfl ?_
    obtain ⟨g9, h⟩ := gd_of h
    refine z_iast F (kf_4_1 ko0) (inl rfl g9) dX4_add_57 ?_
    refine z_let h (fun σ10 h => ?_)
    refine z_aload_n (q := 1) F dX4_add_58 rfl rfl ?_
    refine z_dup F dX4_add_59 rfl ?_
    refine gf4_9 F ko0 dX4_add_60 ?_
    refine z_iconst (v := 1) F dX4_add_63 rfl ?_
    refine z_iadd F dX4_add_64 ?_
    refine pf4_9 F ko0 dX4_add_65 ?_
    refine z_let h (fun σ11 h => ?_)
    refine z_aload_n (q := 1) F dX4_add_68 rfl rfl ?_
    refine gf4_9 F ko0 dX4_add_69 ?_
    exact z_iret F h dX4_add_72
theorem ct4_add {r : Int32} {o0 : Nat} {x1 : Int32} {x2 : Int32} {x3 : Int32} {x4 : Int32} {σ : St} (ko0 : kd o0 = 4) (h : M4_add o0 x1 x2 x3 x4 σ = some (r, σ')) : Met l yX4_add (wsY yX4_add cX4_add 6 (some .int)) (rmL 0) (PcW g a [.ref (a o0), .int x1, .int x2, .int x3, .int x4] σ) (QiW g a r σ') 0 0 (Ad a) :=
  ct_I (by decide) (Nat.le_of_ble_eq_true rfl) (fun p e s m args below meth c F => zM4_add F ko0 h)
theorem cl7_126 {r : Int32} {o0 : Nat} {x1 : Int32} {x2 : Int32} {x3 : Int32} {x4 : Int32} (F : Fx p s m args meth c cc nL RX7 rt R cz sz g a) (ko0 : kd o0 = 4) (h : M4_add o0 x1 x2 x3 x4 σ = some (r, σ1)) (hR : 0 + 1 ≤ R.frames ∧ 8 + (6 + 11) + 34 * 0 ≤ R.locals) (d : decode cc pc = .ok (.invokevirtual 126, 3)) (hrm : (rest.map fun v => v.category).sum ≤ 8) (z : Z p l e R s m args below meth c Q nL g a cz sz σ1 (pc + 3) lv (.int r :: rest)) : Z p l e R s m args below meth c Q nL g a cz sz σ pc lv (.int x4 :: .int x3 :: .int x2 :: .int x1 :: .ref (a o0) :: rest) :=
  z_callVNI (host := "HoleBank") (nA := 4) (As := [.int x1, .int x2, .int x3, .int x4]) F (ct4_add ko0 h) ⟨(nlm 432 (by decide +kernel) rfl), (tbm 434 (by decide +kernel) rfl), (tbs 10 (by decide +kernel) rfl), (tbm 4 (by decide +kernel) rfl), (tbm 435 (by decide +kernel) rfl)⟩ (by decide +kernel) rfl ko0 (by decide) rfl rfl rfl hR d rfl hrm z
theorem zM4_clear {r : Unit} {o0 : Nat} {σ : St} (F : Fx p s m args meth c cX4_clear 1 RX4 none (rmL 0) 0 0 g a) (ko0 : kd o0 = 4) (h : M4_clear o0 σ = some (r, σ')) : Z p l e (rmL 0) s m args below meth c (MQ below (QvW g a r σ') args s 0 0 (Ad a)) 1 g a 0 0 σ 0 [(0, .ref (a o0))] [] := by
  unfold M4_clear at h
  refine z_aload_n (q := 0) F dX4_clear_0 rfl rfl ?_
  refine z_iconst (v := 0) F dX4_clear_1 rfl ?_
  refine pf4_9 F ko0 dX4_clear_2 ?_
  refine z_let h (fun σ1 h => ?_)
  exact z_vret F h dX4_clear_5
theorem ct4_clear {r : Unit} {o0 : Nat} {σ : St} (ko0 : kd o0 = 4) (h : M4_clear o0 σ = some (r, σ')) : Met l yX4_clear (wsY yX4_clear cX4_clear 1 none) (rmL 0) (PcW g a [.ref (a o0)] σ) (QvW g a r σ') 0 0 (Ad a) :=
  ct_V (by decide) (Nat.le_of_ble_eq_true rfl) (fun p e s m args below meth c F => zM4_clear F ko0 h)
theorem cl7_215 {r : Unit} {o0 : Nat} (F : Fx p s m args meth c cc nL RX7 rt R cz sz g a) (ko0 : kd o0 = 4) (h : M4_clear o0 σ = some (r, σ1)) (hR : 0 + 1 ≤ R.frames ∧ 8 + (1 + 11) + 34 * 0 ≤ R.locals) (d : decode cc pc = .ok (.invokevirtual 215, 3)) (hrm : (rest.map fun v => v.category).sum ≤ 8) (z : Z p l e R s m args below meth c Q nL g a cz sz σ1 (pc + 3) lv (rest)) : Z p l e R s m args below meth c Q nL g a cz sz σ pc lv (.ref (a o0) :: rest) :=
  z_callVNV (host := "HoleBank") (nA := 0) (As := []) F (ct4_clear ko0 h) ⟨(nlm 657 (by decide +kernel) rfl), (tbm 659 (by decide +kernel) rfl), (tbs 46 (by decide +kernel) rfl), (tbm 4 (by decide +kernel) rfl), (tbm 660 (by decide +kernel) rfl)⟩ (by decide +kernel) rfl ko0 (by decide) rfl rfl rfl hR d rfl hrm z
theorem zM7_isBelow {r : Int32} {x0 : Int32} {x1 : Int32} {σ : St} (F : Fx p s m args meth c cX7_isBelow 2 RX7 (some .boolean) (rmL 0) 0 0 g a) (h : M7_isBelow x0 x1 σ = some (r, σ')) : Z p l e (rmL 0) s m args below meth c (MQ below (QiW g a r σ') args s 0 0 (Ad a)) 2 g a 0 0 σ 0 [(0, .int x0), (1, .int x1)] [] := by
  unfold M7_isBelow at h
  refine z_iload_n (q := 0) F dX7_isBelow_0 rfl rfl ?_
  refine z_if_lt (tgt := 13) F dX7_isBelow_1 rfl (fun c1 => ?_) (fun c1 => ?_)
  · try simp only [if_pos c1] at h
    refine z_iconst (v := 0) F dX7_isBelow_13 rfl ?_
    exact z_bret F (by first | exact Or.inl rfl | exact Or.inr rfl) h dX7_isBelow_14
  · try simp only [if_neg c1] at h
    refine z_iload_n (q := 0) F dX7_isBelow_4 rfl rfl ?_
    refine z_iload_n (q := 1) F dX7_isBelow_5 rfl rfl ?_
    refine z_icmp_ge (tgt := 13) F dX7_isBelow_6 rfl (fun c2 => ?_) (fun c2 => ?_)
    · try simp only [if_pos c2] at h
      refine z_iconst (v := 0) F dX7_isBelow_13 rfl ?_
      exact z_bret F (by first | exact Or.inl rfl | exact Or.inr rfl) h dX7_isBelow_14
    · try simp only [if_neg c2] at h
      refine z_iconst (v := 1) F dX7_isBelow_9 rfl ?_
      refine z_goto (tgt := 14) F dX7_isBelow_10 rfl ?_
      exact z_bret F (by first | exact Or.inl rfl | exact Or.inr rfl) h dX7_isBelow_14
theorem ct7_isBelow {r : Int32} {x0 : Int32} {x1 : Int32} {σ : St} (h : M7_isBelow x0 x1 σ = some (r, σ')) : Met l yX7_isBelow (wsY yX7_isBelow cX7_isBelow 2 (some .boolean)) (rmL 0) (PcW g a [.int x0, .int x1] σ) (QiW g a r σ') 0 0 (Ad a) :=
  ct_I (by decide) (Nat.le_of_ble_eq_true rfl) (fun p e s m args below meth c F => zM7_isBelow F h)
theorem cl4_22 {r : Int32} {x0 : Int32} {x1 : Int32} (F : Fx p s m args meth c cc nL RX4 rt R cz sz g a) (h : M7_isBelow x0 x1 σ = some (r, σ1)) (hR : 0 + 1 ≤ R.frames ∧ 8 + (2 + 11) + 34 * 0 ≤ R.locals) (d : decode cc pc = .ok (.invokestatic 22, 3)) (hrm : (rest.map fun v => v.category).sum ≤ 8) (z : Z p l e R s m args below meth c Q nL g a cz sz σ1 (pc + 3) lv (.int r :: rest)) : Z p l e R s m args below meth c Q nL g a cz sz σ pc lv (.int x1 :: .int x0 :: rest) :=
  z_callSNI (host := "HoleBank") (nA := 2) (As := [.int x0, .int x1]) F (ct7_isBelow h) ⟨(nlm 456 (by decide +kernel) rfl), (tbm 274 (by decide +kernel) rfl), (tbm 1 (by decide +kernel) rfl), (tbm 275 (by decide +kernel) rfl)⟩ (by decide +kernel) rfl hR d rfl hrm z
theorem cl5_32 {r : Int32} {x0 : Int32} {x1 : Int32} (F : Fx p s m args meth c cc nL RX5 rt R cz sz g a) (h : M7_isBelow x0 x1 σ = some (r, σ1)) (hR : 0 + 1 ≤ R.frames ∧ 8 + (2 + 11) + 34 * 0 ≤ R.locals) (d : decode cc pc = .ok (.invokestatic 32, 3)) (hrm : (rest.map fun v => v.category).sum ≤ 8) (z : Z p l e R s m args below meth c Q nL g a cz sz σ1 (pc + 3) lv (.int r :: rest)) : Z p l e R s m args below meth c Q nL g a cz sz σ pc lv (.int x1 :: .int x0 :: rest) :=
  z_callSNI (host := "HoleBank") (nA := 2) (As := [.int x0, .int x1]) F (ct7_isBelow h) ⟨(nlm 742 (by decide +kernel) rfl), (tbm 274 (by decide +kernel) rfl), (tbm 1 (by decide +kernel) rfl), (tbm 275 (by decide +kernel) rfl)⟩ (by decide +kernel) rfl hR d rfl hrm z
theorem cl7_83 {r : Int32} {x0 : Int32} {x1 : Int32} (F : Fx p s m args meth c cc nL RX7 rt R cz sz g a) (h : M7_isBelow x0 x1 σ = some (r, σ1)) (hR : 0 + 1 ≤ R.frames ∧ 8 + (2 + 11) + 34 * 0 ≤ R.locals) (d : decode cc pc = .ok (.invokestatic 83, 3)) (hrm : (rest.map fun v => v.category).sum ≤ 8) (z : Z p l e R s m args below meth c Q nL g a cz sz σ1 (pc + 3) lv (.int r :: rest)) : Z p l e R s m args below meth c Q nL g a cz sz σ pc lv (.int x1 :: .int x0 :: rest) :=
  z_callSI (nA := 2) (As := [.int x0, .int x1]) F (ct7_isBelow h) ⟨(tbm 273 (by decide +kernel) rfl), (tbm 274 (by decide +kernel) rfl), (tbm 1 (by decide +kernel) rfl), (tbm 275 (by decide +kernel) rfl)⟩ (by decide +kernel) rfl hR d rfl hrm z
theorem zM4_drop {r : Int32} {o0 : Nat} {x1 : Int32} {σ : St} (F : Fx p s m args meth c cX4_drop 3 RX4 (some .int) (rmL 1) 0 0 g a) (ko0 : kd o0 = 4) (h : M4_drop o0 x1 σ = some (r, σ')) : Z p l e (rmL 1) s m args below meth c (MQ below (QiW g a r σ') args s 0 0 (Ad a)) 3 g a 0 0 σ 0 [(0, .ref (a o0)), (1, .int x1)] [] := by
  unfold M4_drop at h
  refine z_iload_n (q := 1) F dX4_drop_0 rfl rfl ?_
  refine z_aload_n (q := 0) F dX4_drop_1 rfl rfl ?_
  refine gf4_9 F ko0 dX4_drop_2 ?_
  obtain ⟨r1, σ1, hq1, h⟩ := bd_of h
  refine cl4_22 F hq1 ⟨Nat.le_of_ble_eq_true rfl, Nat.le_of_ble_eq_true rfl⟩ dX4_drop_5 (Nat.le_of_ble_eq_true rfl) ?_
  refine z_if_eq (tgt := 50) F dX4_drop_8 rfl (fun c2 => ?_) (fun c2 => ?_)
  · have h := ite_T c2 h
    refine z_aload_n (q := 0) F dX4_drop_50 rfl rfl ?_
    refine gf4_9 F ko0 dX4_drop_51 ?_
    exact z_iret F h dX4_drop_54
  · have h := ite_F c2 h
    refine z_iload_n (q := 1) F dX4_drop_11 rfl rfl ?_
    refine z_iconst (v := 1) F dX4_drop_12 rfl ?_
    refine z_iadd F dX4_drop_13 ?_
    refine z_iconst (v := 4) F dX4_drop_14 rfl ?_
    refine z_imul F dX4_drop_15 ?_
    refine z_letI h (fun v3 h => ?_)
    refine z_istore_n (lv' := [(2, .int v3), (0, .ref (a o0)), (1, .int x1)]) F dX4_drop_16 rfl (by decide) rfl ?_
    refine z_aload_n (q := 1) F dX4_drop_17 rfl rfl ?_
    refine gf4_18 F ko0 dX4_drop_18 ?_
    refine z_iload_n (q := 0) F dX4_drop_21 rfl rfl ?_
    refine z_aload_n (q := 1) F dX4_drop_22 rfl rfl ?_
    refine gf4_18 F ko0 dX4_drop_23 ?_
    refine z_iload_n (q := 0) F dX4_drop_26 rfl rfl ?_
    refine z_iconst (v := 4) F dX4_drop_27 rfl ?_
    refine z_isub F dX4_drop_28 ?_
    refine z_aload_n (q := 1) F dX4_drop_29 rfl rfl ?_
    refine gf4_9 F ko0 dX4_drop_30 ?_
    refine z_iconst (v := 4) F dX4_drop_33 rfl ?_
    refine z_imul F dX4_drop_34 ?_
    refine z_iload_n (q := 0) F dX4_drop_35 rfl rfl ?_
    refine z_isub F dX4_drop_36 ?_
    obtain ⟨g4, h⟩ := gd_of h
    refine z_copy F (kf_4_1 ko0) (kf_4_1 ko0) g4 (tbm 457 (by decide +kernel) rfl) (tbm 459 (by decide +kernel) rfl) (tbm 458 (by decide +kernel) rfl) (tbm 16 (by decide +kernel) rfl) (Nat.le_of_ble_eq_true rfl) (Nat.le_of_ble_eq_true rfl) dX4_drop_37 ?_
    refine z_let h (fun σ5 h => ?_)
    refine z_aload_n (q := 1) F dX4_drop_40 rfl rfl ?_
    refine z_dup F dX4_drop_41 rfl ?_
    refine gf4_9 F ko0 dX4_drop_42 ?_
    refine z_iconst (v := 1) F dX4_drop_45 rfl ?_
    refine z_isub F dX4_drop_46 ?_
    refine pf4_9 F ko0 dX4_drop_47 ?_
    refine z_let h (fun σ6 h => ?_)
    refine z_aload_n (q := 1) F dX4_drop_50 rfl rfl ?_
    refine gf4_9 F ko0 dX4_drop_51 ?_
    exact z_iret F h dX4_drop_54
theorem ct4_drop {r : Int32} {o0 : Nat} {x1 : Int32} {σ : St} (ko0 : kd o0 = 4) (h : M4_drop o0 x1 σ = some (r, σ')) : Met l yX4_drop (wsY yX4_drop cX4_drop 3 (some .int)) (rmL 1) (PcW g a [.ref (a o0), .int x1] σ) (QiW g a r σ') 0 0 (Ad a) :=
  ct_I (by decide) (Nat.le_of_ble_eq_true rfl) (fun p e s m args below meth c F => zM4_drop F ko0 h)
theorem cl7_143 {r : Int32} {o0 : Nat} {x1 : Int32} (F : Fx p s m args meth c cc nL RX7 rt R cz sz g a) (ko0 : kd o0 = 4) (h : M4_drop o0 x1 σ = some (r, σ1)) (hR : 1 + 1 ≤ R.frames ∧ 8 + (3 + 11) + 34 * 1 ≤ R.locals) (d : decode cc pc = .ok (.invokevirtual 143, 3)) (hrm : (rest.map fun v => v.category).sum ≤ 8) (z : Z p l e R s m args below meth c Q nL g a cz sz σ1 (pc + 3) lv (.int r :: rest)) : Z p l e R s m args below meth c Q nL g a cz sz σ pc lv (.int x1 :: .ref (a o0) :: rest) :=
  z_callVNI (host := "HoleBank") (nA := 1) (As := [.int x1]) F (ct4_drop ko0 h) ⟨(nlm 452 (by decide +kernel) rfl), (tbm 454 (by decide +kernel) rfl), (tbs 12 (by decide +kernel) rfl), (tbm 4 (by decide +kernel) rfl), (tbm 455 (by decide +kernel) rfl)⟩ (by decide +kernel) rfl ko0 (by decide) rfl rfl rfl hR d rfl hrm z
theorem zM4_isFull {r : Int32} {o0 : Nat} {σ : St} (F : Fx p s m args meth c cX4_isFull 1 RX4 (some .boolean) (rmL 0) 0 0 g a) (ko0 : kd o0 = 4) (h : M4_isFull o0 σ = some (r, σ')) : Z p l e (rmL 0) s m args below meth c (MQ below (QiW g a r σ') args s 0 0 (Ad a)) 1 g a 0 0 σ 0 [(0, .ref (a o0))] [] := by
  unfold M4_isFull at h
  refine z_aload_n (q := 0) F dX4_isFull_0 rfl rfl ?_
  refine gf4_9 F ko0 dX4_isFull_1 ?_
  refine z_aload_n (q := 0) F dX4_isFull_4 rfl rfl ?_
  refine gf4_15 F ko0 dX4_isFull_5 ?_
  refine z_icmp_lt (tgt := 15) F dX4_isFull_8 rfl (fun c1 => ?_) (fun c1 => ?_)
  · try simp only [if_pos c1] at h
    refine z_iconst (v := 0) F dX4_isFull_15 rfl ?_
    exact z_bret F (by first | exact Or.inl rfl | exact Or.inr rfl) h dX4_isFull_16
  · try simp only [if_neg c1] at h
    refine z_iconst (v := 1) F dX4_isFull_11 rfl ?_
    refine z_goto (tgt := 16) F dX4_isFull_12 rfl ?_
    exact z_bret F (by first | exact Or.inl rfl | exact Or.inr rfl) h dX4_isFull_16
theorem ct4_isFull {r : Int32} {o0 : Nat} {σ : St} (ko0 : kd o0 = 4) (h : M4_isFull o0 σ = some (r, σ')) : Met l yX4_isFull (wsY yX4_isFull cX4_isFull 1 (some .boolean)) (rmL 0) (PcW g a [.ref (a o0)] σ) (QiW g a r σ') 0 0 (Ad a) :=
  ct_I (by decide) (Nat.le_of_ble_eq_true rfl) (fun p e s m args below meth c F => zM4_isFull F ko0 h)
theorem cl7_122 {r : Int32} {o0 : Nat} (F : Fx p s m args meth c cc nL RX7 rt R cz sz g a) (ko0 : kd o0 = 4) (h : M4_isFull o0 σ = some (r, σ1)) (hR : 0 + 1 ≤ R.frames ∧ 8 + (1 + 11) + 34 * 0 ≤ R.locals) (d : decode cc pc = .ok (.invokevirtual 122, 3)) (hrm : (rest.map fun v => v.category).sum ≤ 8) (z : Z p l e R s m args below meth c Q nL g a cz sz σ1 (pc + 3) lv (.int r :: rest)) : Z p l e R s m args below meth c Q nL g a cz sz σ pc lv (.ref (a o0) :: rest) :=
  z_callVNI (host := "HoleBank") (nA := 0) (As := []) F (ct4_isFull ko0 h) ⟨(nlm 428 (by decide +kernel) rfl), (tbm 430 (by decide +kernel) rfl), (tbs 9 (by decide +kernel) rfl), (tbm 4 (by decide +kernel) rfl), (tbm 431 (by decide +kernel) rfl)⟩ (by decide +kernel) rfl ko0 (by decide) rfl rfl rfl hR d rfl hrm z
theorem zM5_begin {r : Unit} {o0 : Nat} {x1 : Int32} {x2 : Int32} {σ : St} (F : Fx p s m args meth c cX5_begin 3 RX5 none (rmL 1) 0 0 g a) (ko0 : kd o0 = 5) (h : M5_begin o0 x1 x2 σ = some (r, σ')) : Z p l e (rmL 1) s m args below meth c (MQ below (QvW g a r σ') args s 0 0 (Ad a)) 3 g a 0 0 σ 0 [(0, .ref (a o0)), (1, .int x1), (2, .int x2)] [] := by
  unfold M5_begin at h
  refine z_aload_n (q := 0) F dX5_begin_0 rfl rfl ?_
  refine z_iconst (v := 0) F dX5_begin_1 rfl ?_
  refine pf5_15 F ko0 (by first | exact Or.inl rfl | exact Or.inr rfl) dX5_begin_2 ?_
  refine z_let h (fun σ1 h => ?_)
  refine z_aload_n (q := 0) F dX5_begin_5 rfl rfl ?_
  refine z_iload_n (q := 1) F dX5_begin_6 rfl rfl ?_
  refine pf5_19 F ko0 dX5_begin_7 ?_
  refine z_let h (fun σ2 h => ?_)
  refine z_aload_n (q := 0) F dX5_begin_10 rfl rfl ?_
  refine z_iload_n (q := 2) F dX5_begin_11 rfl rfl ?_
  refine pf5_23 F ko0 dX5_begin_12 ?_
  refine z_let h (fun σ3 h => ?_)
  refine z_aload_n (q := 0) F dX5_begin_15 rfl rfl ?_
  refine gf5_9 F ko0 dX5_begin_16 ?_
  refine z_iconst (v := 0) F dX5_begin_19 rfl ?_
  obtain ⟨r4, σ4, hq4, h⟩ := bd_of h
  refine cl5_26 F (kf_5_0 ko0) hq4 ⟨Nat.le_of_ble_eq_true rfl, Nat.le_of_ble_eq_true rfl⟩ dX5_begin_20 (Nat.le_of_ble_eq_true rfl) ?_
  exact z_vret F h dX5_begin_23
theorem ct5_begin {r : Unit} {o0 : Nat} {x1 : Int32} {x2 : Int32} {σ : St} (ko0 : kd o0 = 5) (h : M5_begin o0 x1 x2 σ = some (r, σ')) : Met l yX5_begin (wsY yX5_begin cX5_begin 3 none) (rmL 1) (PcW g a [.ref (a o0), .int x1, .int x2] σ) (QvW g a r σ') 0 0 (Ad a) :=
  ct_V (by decide) (Nat.le_of_ble_eq_true rfl) (fun p e s m args below meth c F => zM5_begin F ko0 h)
theorem cl7_274 {r : Unit} {o0 : Nat} {x1 : Int32} {x2 : Int32} (F : Fx p s m args meth c cc nL RX7 rt R cz sz g a) (ko0 : kd o0 = 5) (h : M5_begin o0 x1 x2 σ = some (r, σ1)) (hR : 1 + 1 ≤ R.frames ∧ 8 + (3 + 11) + 34 * 1 ≤ R.locals) (d : decode cc pc = .ok (.invokevirtual 274, 3)) (hrm : (rest.map fun v => v.category).sum ≤ 8) (z : Z p l e R s m args below meth c Q nL g a cz sz σ1 (pc + 3) lv (rest)) : Z p l e R s m args below meth c Q nL g a cz sz σ pc lv (.int x2 :: .int x1 :: .ref (a o0) :: rest) :=
  z_callVNV (host := "HoleBank") (nA := 2) (As := [.int x1, .int x2]) F (ct5_begin ko0 h) ⟨(nlm 725 (by decide +kernel) rfl), (tbm 727 (by decide +kernel) rfl), (tbs 55 (by decide +kernel) rfl), (tbm 8 (by decide +kernel) rfl), (tbm 728 (by decide +kernel) rfl)⟩ (by decide +kernel) rfl ko0 (by decide) rfl rfl rfl hR d rfl hrm z
theorem zM5_hasRange {r : Int32} {o0 : Nat} {x1 : Int32} {x2 : Int32} {σ : St} (F : Fx p s m args meth c cX5_hasRange 3 RX5 (some .boolean) (rmL 0) 0 0 g a) (ko0 : kd o0 = 5) (h : M5_hasRange o0 x1 x2 σ = some (r, σ')) : Z p l e (rmL 0) s m args below meth c (MQ below (QiW g a r σ') args s 0 0 (Ad a)) 3 g a 0 0 σ 0 [(0, .ref (a o0)), (1, .int x1), (2, .int x2)] [] := by
  unfold M5_hasRange at h
  refine z_iload_n (q := 1) F dX5_hasRange_0 rfl rfl ?_
  refine z_if_lt (tgt := 30) F dX5_hasRange_1 rfl (fun c1 => ?_) (fun c1 => ?_)
  · try simp only [if_pos c1] at h
    refine z_iconst (v := 0) F dX5_hasRange_30 rfl ?_
    exact z_bret F (by first | exact Or.inl rfl | exact Or.inr rfl) h dX5_hasRange_31
  · try simp only [if_neg c1] at h
    refine z_iload_n (q := 2) F dX5_hasRange_4 rfl rfl ?_
    refine z_if_lt (tgt := 30) F dX5_hasRange_5 rfl (fun c2 => ?_) (fun c2 => ?_)
    · try simp only [if_pos c2] at h
      refine z_iconst (v := 0) F dX5_hasRange_30 rfl ?_
      exact z_bret F (by first | exact Or.inl rfl | exact Or.inr rfl) h dX5_hasRange_31
    · try simp only [if_neg c2] at h
      refine z_iload_n (q := 1) F dX5_hasRange_8 rfl rfl ?_
      refine z_aload_n (q := 0) F dX5_hasRange_9 rfl rfl ?_
      refine gf5_23 F ko0 dX5_hasRange_10 ?_
      refine z_icmp_gt (tgt := 30) F dX5_hasRange_13 rfl (fun c3 => ?_) (fun c3 => ?_)
      · try simp only [if_pos c3] at h
        refine z_iconst (v := 0) F dX5_hasRange_30 rfl ?_
        exact z_bret F (by first | exact Or.inl rfl | exact Or.inr rfl) h dX5_hasRange_31
      · try simp only [if_neg c3] at h
        refine z_iload_n (q := 2) F dX5_hasRange_16 rfl rfl ?_
        refine z_aload_n (q := 0) F dX5_hasRange_17 rfl rfl ?_
        refine gf5_23 F ko0 dX5_hasRange_18 ?_
        refine z_iload_n (q := 1) F dX5_hasRange_21 rfl rfl ?_
        refine z_isub F dX5_hasRange_22 ?_
        refine z_icmp_gt (tgt := 30) F dX5_hasRange_23 rfl (fun c4 => ?_) (fun c4 => ?_)
        · try simp only [if_pos c4] at h
          refine z_iconst (v := 0) F dX5_hasRange_30 rfl ?_
          exact z_bret F (by first | exact Or.inl rfl | exact Or.inr rfl) h dX5_hasRange_31
        · try simp only [if_neg c4] at h
          refine z_iconst (v := 1) F dX5_hasRange_26 rfl ?_
          refine z_goto (tgt := 31) F dX5_hasRange_27 rfl ?_
          exact z_bret F (by first | exact Or.inl rfl | exact Or.inr rfl) h dX5_hasRange_31
theorem ct5_hasRange {r : Int32} {o0 : Nat} {x1 : Int32} {x2 : Int32} {σ : St} (ko0 : kd o0 = 5) (h : M5_hasRange o0 x1 x2 σ = some (r, σ')) : Met l yX5_hasRange (wsY yX5_hasRange cX5_hasRange 3 (some .boolean)) (rmL 0) (PcW g a [.ref (a o0), .int x1, .int x2] σ) (QiW g a r σ') 0 0 (Ad a) :=
  ct_I (by decide) (Nat.le_of_ble_eq_true rfl) (fun p e s m args below meth c F => zM5_hasRange F ko0 h)
theorem cl7_288 {r : Int32} {o0 : Nat} {x1 : Int32} {x2 : Int32} (F : Fx p s m args meth c cc nL RX7 rt R cz sz g a) (ko0 : kd o0 = 5) (h : M5_hasRange o0 x1 x2 σ = some (r, σ1)) (hR : 0 + 1 ≤ R.frames ∧ 8 + (3 + 11) + 34 * 0 ≤ R.locals) (d : decode cc pc = .ok (.invokevirtual 288, 3)) (hrm : (rest.map fun v => v.category).sum ≤ 8) (z : Z p l e R s m args below meth c Q nL g a cz sz σ1 (pc + 3) lv (.int r :: rest)) : Z p l e R s m args below meth c Q nL g a cz sz σ pc lv (.int x2 :: .int x1 :: .ref (a o0) :: rest) :=
  z_callVNI (host := "HoleBank") (nA := 2) (As := [.int x1, .int x2]) F (ct5_hasRange ko0 h) ⟨(nlm 756 (by decide +kernel) rfl), (tbm 758 (by decide +kernel) rfl), (tbs 58 (by decide +kernel) rfl), (tbm 8 (by decide +kernel) rfl), (tbm 759 (by decide +kernel) rfl)⟩ (by decide +kernel) rfl ko0 (by decide) rfl rfl rfl hR d rfl hrm z
theorem zM5_item {r : Int32} {o0 : Nat} {x1 : Int32} {σ : St} (F : Fx p s m args meth c cX5_item 2 RX5 (some .int) (rmL 0) 0 0 g a) (ko0 : kd o0 = 5) (h : M5_item o0 x1 σ = some (r, σ')) : Z p l e (rmL 0) s m args below meth c (MQ below (QiW g a r σ') args s 0 0 (Ad a)) 2 g a 0 0 σ 0 [(0, .ref (a o0)), (1, .int x1)] [] := by
  unfold M5_item at h
  refine z_aload_n (q := 0) F dX5_item_0 rfl rfl ?_
  refine gf5_9 F ko0 dX5_item_1 ?_
  refine z_iload_n (q := 1) F dX5_item_4 rfl rfl ?_
  obtain ⟨g1, h⟩ := gd_of h
  refine z_iald F (kf_5_0 ko0) (inl (lf_5_0 ko0) g1) dX5_item_5 ?_
  exact z_iret F h dX5_item_6
theorem ct5_item {r : Int32} {o0 : Nat} {x1 : Int32} {σ : St} (ko0 : kd o0 = 5) (h : M5_item o0 x1 σ = some (r, σ')) : Met l yX5_item (wsY yX5_item cX5_item 2 (some .int)) (rmL 0) (PcW g a [.ref (a o0), .int x1] σ) (QiW g a r σ') 0 0 (Ad a) :=
  ct_I (by decide) (Nat.le_of_ble_eq_true rfl) (fun p e s m args below meth c F => zM5_item F ko0 h)
theorem cl7_153 {r : Int32} {o0 : Nat} {x1 : Int32} (F : Fx p s m args meth c cc nL RX7 rt R cz sz g a) (ko0 : kd o0 = 5) (h : M5_item o0 x1 σ = some (r, σ1)) (hR : 0 + 1 ≤ R.frames ∧ 8 + (2 + 11) + 34 * 0 ≤ R.locals) (d : decode cc pc = .ok (.invokevirtual 153, 3)) (hrm : (rest.map fun v => v.category).sum ≤ 8) (z : Z p l e R s m args below meth c Q nL g a cz sz σ1 (pc + 3) lv (.int r :: rest)) : Z p l e R s m args below meth c Q nL g a cz sz σ pc lv (.int x1 :: .ref (a o0) :: rest) :=
  z_callVNI (host := "HoleBank") (nA := 1) (As := [.int x1]) F (ct5_item ko0 h) ⟨(nlm 468 (by decide +kernel) rfl), (tbm 470 (by decide +kernel) rfl), (tbs 14 (by decide +kernel) rfl), (tbm 8 (by decide +kernel) rfl), (tbm 471 (by decide +kernel) rfl)⟩ (by decide +kernel) rfl ko0 (by decide) rfl rfl rfl hR d rfl hrm z
theorem zM5_put {r : Unit} {o0 : Nat} {x1 : Int32} {x2 : Int32} {σ : St} (F : Fx p s m args meth c cX5_put 3 RX5 none (rmL 0) 0 0 g a) (ko0 : kd o0 = 5) (h : M5_put o0 x1 x2 σ = some (r, σ')) : Z p l e (rmL 0) s m args below meth c (MQ below (QvW g a r σ') args s 0 0 (Ad a)) 3 g a 0 0 σ 0 [(0, .ref (a o0)), (1, .int x1), (2, .int x2)] [] := by
  unfold M5_put at h
  refine z_aload_n (q := 0) F dX5_put_0 rfl rfl ?_
  refine gf5_9 F ko0 dX5_put_1 ?_
  refine z_iload_n (q := 1) F dX5_put_4 rfl rfl ?_
  refine z_aload_n (q := 0) F dX5_put_5 rfl rfl ?_
  refine gf5_19 F ko0 dX5_put_6 ?_
  refine z_if_ne (tgt := 17) F dX5_put_9 rfl (fun c1 => ?_) (fun c1 => ?_)
  · have h := ite_F c1 h
    refine z_aload_n (q := 0) F dX5_put_17 rfl rfl ?_
    refine gf5_19 F ko0 dX5_put_18 ?_
    refine z_iconst (v := 1) F dX5_put_21 rfl ?_
    refine z_icmp_ne (tgt := 30) F dX5_put_22 rfl (fun c2 => ?_) (fun c2 => ?_)
    · have h := ite_F c2 h
      refine z_iload_n (q := 2) F dX5_put_30 rfl rfl ?_
      obtain ⟨g3, h⟩ := gd_of h
      refine z_iast F (kf_5_0 ko0) (inl (lf_5_0 ko0) g3) dX5_put_31 ?_
      refine z_let h (fun σ4 h => ?_)
      exact z_vret F h dX5_put_32
    · have h := ite_T c2 h
      refine z_iload_n (q := 2) F dX5_put_25 rfl rfl ?_
      refine z_i2s F dX5_put_26 ?_
      refine z_goto (tgt := 31) F dX5_put_27 rfl ?_
      obtain ⟨g5, h⟩ := gd_of h
      refine z_iast F (kf_5_0 ko0) (inl (lf_5_0 ko0) g5) dX5_put_31 ?_
      refine z_let h (fun σ6 h => ?_)
      exact z_vret F h dX5_put_32
  · have h := ite_T c1 h
    refine z_iload_n (q := 2) F dX5_put_12 rfl rfl ?_
    refine z_i2b F dX5_put_13 ?_
    refine z_goto (tgt := 31) F dX5_put_14 rfl ?_
    obtain ⟨g7, h⟩ := gd_of h
    refine z_iast F (kf_5_0 ko0) (inl (lf_5_0 ko0) g7) dX5_put_31 ?_
    refine z_let h (fun σ8 h => ?_)
    exact z_vret F h dX5_put_32
theorem ct5_put {r : Unit} {o0 : Nat} {x1 : Int32} {x2 : Int32} {σ : St} (ko0 : kd o0 = 5) (h : M5_put o0 x1 x2 σ = some (r, σ')) : Met l yX5_put (wsY yX5_put cX5_put 3 none) (rmL 0) (PcW g a [.ref (a o0), .int x1, .int x2] σ) (QvW g a r σ') 0 0 (Ad a) :=
  ct_V (by decide) (Nat.le_of_ble_eq_true rfl) (fun p e s m args below meth c F => zM5_put F ko0 h)
theorem cl7_281 {r : Unit} {o0 : Nat} {x1 : Int32} {x2 : Int32} (F : Fx p s m args meth c cc nL RX7 rt R cz sz g a) (ko0 : kd o0 = 5) (h : M5_put o0 x1 x2 σ = some (r, σ1)) (hR : 0 + 1 ≤ R.frames ∧ 8 + (3 + 11) + 34 * 0 ≤ R.locals) (d : decode cc pc = .ok (.invokevirtual 281, 3)) (hrm : (rest.map fun v => v.category).sum ≤ 8) (z : Z p l e R s m args below meth c Q nL g a cz sz σ1 (pc + 3) lv (rest)) : Z p l e R s m args below meth c Q nL g a cz sz σ pc lv (.int x2 :: .int x1 :: .ref (a o0) :: rest) :=
  z_callVNV (host := "HoleBank") (nA := 2) (As := [.int x1, .int x2]) F (ct5_put ko0 h) ⟨(nlm 743 (by decide +kernel) rfl), (tbm 745 (by decide +kernel) rfl), (tbs 57 (by decide +kernel) rfl), (tbm 8 (by decide +kernel) rfl), (tbm 746 (by decide +kernel) rfl)⟩ (by decide +kernel) rfl ko0 (by decide) rfl rfl rfl hR d rfl hrm z
theorem zM5_refusal {r : Int32} {o0 : Nat} {x1 : Int32} {x2 : Int32} {σ : St} (F : Fx p s m args meth c cX5_refusal 3 RX5 (some .int) (rmL 1) 0 0 g a) (ko0 : kd o0 = 5) (h : M5_refusal o0 x1 x2 σ = some (r, σ')) : Z p l e (rmL 1) s m args below meth c (MQ below (QiW g a r σ') args s 0 0 (Ad a)) 3 g a 0 0 σ 0 [(0, .ref (a o0)), (1, .int x1), (2, .int x2)] [] := by
  unfold M5_refusal at h
  refine z_aload_n (q := 0) F dX5_refusal_0 rfl rfl ?_
  refine gf5_15 F ko0 dX5_refusal_1 ?_
  refine z_if_eq (tgt := 9) F dX5_refusal_4 rfl (fun c1 => ?_) (fun c1 => ?_)
  · have h := ite_T c1 h
    refine z_aload_n (q := 0) F dX5_refusal_9 rfl rfl ?_
    refine gf5_19 F ko0 dX5_refusal_10 ?_
    refine z_iload_n (q := 1) F dX5_refusal_13 rfl rfl ?_
    refine z_icmp_eq (tgt := 19) F dX5_refusal_14 rfl (fun c2 => ?_) (fun c2 => ?_)
    · have h := ite_T c2 h
      refine z_iload_n (q := 2) F dX5_refusal_19 rfl rfl ?_
      refine z_aload_n (q := 0) F dX5_refusal_20 rfl rfl ?_
      refine gf5_23 F ko0 dX5_refusal_21 ?_
      obtain ⟨r3, σ3, hq3, h⟩ := bd_of h
      refine cl5_32 F hq3 ⟨Nat.le_of_ble_eq_true rfl, Nat.le_of_ble_eq_true rfl⟩ dX5_refusal_24 (Nat.le_of_ble_eq_true rfl) ?_
      refine z_if_eq (tgt := 34) F dX5_refusal_27 rfl (fun c4 => ?_) (fun c4 => ?_)
      · try simp only [if_pos c4] at h
        refine z_iconst (v := 2) F dX5_refusal_34 rfl ?_
        exact z_iret F h dX5_refusal_35
      · try simp only [if_neg c4] at h
        refine z_iconst (v := 0) F dX5_refusal_30 rfl ?_
        refine z_goto (tgt := 35) F dX5_refusal_31 rfl ?_
        exact z_iret F h dX5_refusal_35
    · have h := ite_F c2 h
      refine z_iconst (v := 3) F dX5_refusal_17 rfl ?_
      exact z_iret F h dX5_refusal_18
  · have h := ite_F c1 h
    refine z_iconst (v := 1) F dX5_refusal_7 rfl ?_
    exact z_iret F h dX5_refusal_8
theorem ct5_refusal {r : Int32} {o0 : Nat} {x1 : Int32} {x2 : Int32} {σ : St} (ko0 : kd o0 = 5) (h : M5_refusal o0 x1 x2 σ = some (r, σ')) : Met l yX5_refusal (wsY yX5_refusal cX5_refusal 3 (some .int)) (rmL 1) (PcW g a [.ref (a o0), .int x1, .int x2] σ) (QiW g a r σ') 0 0 (Ad a) :=
  ct_I (by decide) (Nat.le_of_ble_eq_true rfl) (fun p e s m args below meth c F => zM5_refusal F ko0 h)
theorem cl7_278 {r : Int32} {o0 : Nat} {x1 : Int32} {x2 : Int32} (F : Fx p s m args meth c cc nL RX7 rt R cz sz g a) (ko0 : kd o0 = 5) (h : M5_refusal o0 x1 x2 σ = some (r, σ1)) (hR : 1 + 1 ≤ R.frames ∧ 8 + (3 + 11) + 34 * 1 ≤ R.locals) (d : decode cc pc = .ok (.invokevirtual 278, 3)) (hrm : (rest.map fun v => v.category).sum ≤ 8) (z : Z p l e R s m args below meth c Q nL g a cz sz σ1 (pc + 3) lv (.int r :: rest)) : Z p l e R s m args below meth c Q nL g a cz sz σ pc lv (.int x2 :: .int x1 :: .ref (a o0) :: rest) :=
  z_callVNI (host := "HoleBank") (nA := 2) (As := [.int x1, .int x2]) F (ct5_refusal ko0 h) ⟨(nlm 738 (by decide +kernel) rfl), (tbm 740 (by decide +kernel) rfl), (tbs 56 (by decide +kernel) rfl), (tbm 8 (by decide +kernel) rfl), (tbm 741 (by decide +kernel) rfl)⟩ (by decide +kernel) rfl ko0 (by decide) rfl rfl rfl hR d rfl hrm z
theorem zM6_isFigureFrom {r : Int32} {x0 : Int32} {x1 : Int32} {σ : St} (F : Fx p s m args meth c cX6_isFigureFrom 2 RX6 (some .boolean) (rmL 0) 0 0 g a) (h : M6_isFigureFrom x0 x1 σ = some (r, σ')) : Z p l e (rmL 0) s m args below meth c (MQ below (QiW g a r σ') args s 0 0 (Ad a)) 2 g a 0 0 σ 0 [(0, .int x0), (1, .int x1)] [] := by
  unfold M6_isFigureFrom at h
  refine z_iload_n (q := 1) F dX6_isFigureFrom_0 rfl rfl ?_
  refine z_bipush (v := 48) F dX6_isFigureFrom_1 rfl ?_
  refine z_iload_n (q := 0) F dX6_isFigureFrom_3 rfl rfl ?_
  refine z_iadd F dX6_isFigureFrom_4 ?_
  refine z_icmp_lt (tgt := 18) F dX6_isFigureFrom_5 rfl (fun c1 => ?_) (fun c1 => ?_)
  · try simp only [if_pos c1] at h
    refine z_iconst (v := 0) F dX6_isFigureFrom_18 rfl ?_
    exact z_bret F (by first | exact Or.inl rfl | exact Or.inr rfl) h dX6_isFigureFrom_19
  · try simp only [if_neg c1] at h
    refine z_iload_n (q := 1) F dX6_isFigureFrom_8 rfl rfl ?_
    refine z_bipush (v := 57) F dX6_isFigureFrom_9 rfl ?_
    refine z_icmp_gt (tgt := 18) F dX6_isFigureFrom_11 rfl (fun c2 => ?_) (fun c2 => ?_)
    · try simp only [if_pos c2] at h
      refine z_iconst (v := 0) F dX6_isFigureFrom_18 rfl ?_
      exact z_bret F (by first | exact Or.inl rfl | exact Or.inr rfl) h dX6_isFigureFrom_19
    · try simp only [if_neg c2] at h
      refine z_iconst (v := 1) F dX6_isFigureFrom_14 rfl ?_
      refine z_goto (tgt := 19) F dX6_isFigureFrom_15 rfl ?_
      exact z_bret F (by first | exact Or.inl rfl | exact Or.inr rfl) h dX6_isFigureFrom_19
theorem ct6_isFigureFrom {r : Int32} {x0 : Int32} {x1 : Int32} {σ : St} (h : M6_isFigureFrom x0 x1 σ = some (r, σ')) : Met l yX6_isFigureFrom (wsY yX6_isFigureFrom cX6_isFigureFrom 2 (some .boolean)) (rmL 0) (PcW g a [.int x0, .int x1] σ) (QiW g a r σ') 0 0 (Ad a) :=
  ct_I (by decide) (Nat.le_of_ble_eq_true rfl) (fun p e s m args below meth c F => zM6_isFigureFrom F h)
theorem cl6_55 {r : Int32} {x0 : Int32} {x1 : Int32} (F : Fx p s m args meth c cc nL RX6 rt R cz sz g a) (h : M6_isFigureFrom x0 x1 σ = some (r, σ1)) (hR : 0 + 1 ≤ R.frames ∧ 8 + (2 + 11) + 34 * 0 ≤ R.locals) (d : decode cc pc = .ok (.invokestatic 55, 3)) (hrm : (rest.map fun v => v.category).sum ≤ 8) (z : Z p l e R s m args below meth c Q nL g a cz sz σ1 (pc + 3) lv (.int r :: rest)) : Z p l e R s m args below meth c Q nL g a cz sz σ pc lv (.int x1 :: .int x0 :: rest) :=
  z_callSI (nA := 2) (As := [.int x0, .int x1]) F (ct6_isFigureFrom h) ⟨(tbm 382 (by decide +kernel) rfl), (tbm 383 (by decide +kernel) rfl), (tbm 2 (by decide +kernel) rfl), (tbm 384 (by decide +kernel) rfl)⟩ (by decide +kernel) rfl hR d rfl hrm z
theorem zM6_goesOnAt {r : Int32} {o0 : Nat} {x1 : Int32} {σ : St} (F : Fx p s m args meth c cX6_goesOnAt 3 RX6 (some .boolean) (rmL 4) 0 0 g a) (ko0 : kd o0 = 6) (h : M6_goesOnAt o0 x1 σ = some (r, σ')) : Z p l e (rmL 4) s m args below meth c (MQ below (QiW g a r σ') args s 0 0 (Ad a)) 3 g a 0 0 σ 0 [(0, .ref (a o0)), (1, .int x1)] [] := by
  unfold M6_goesOnAt at h
  refine z_aload_n (q := 0) F dX6_goesOnAt_0 rfl rfl ?_
  refine gf6_9 F ko0 dX6_goesOnAt_1 ?_
  refine z_iload_n (q := 1) F dX6_goesOnAt_4 rfl rfl ?_
  obtain ⟨g1, h⟩ := gd_of h
  refine z_iald F (kf_6_3 ko0) (inl (lf_6_3 ko0) g1) dX6_goesOnAt_5 ?_
  refine z_letI h (fun v2 h => ?_)
  refine z_istore_n (lv' := [(2, .int v2), (0, .ref (a o0)), (1, .int x1)]) F dX6_goesOnAt_6 rfl (by decide) rfl ?_
  refine z_iload_n (q := 2) F dX6_goesOnAt_7 rfl rfl ?_
  refine z_iconst (v := 5) F dX6_goesOnAt_8 rfl ?_
  refine z_irem F dX6_goesOnAt_9 (by decide) ?_
  by_cases c0_1 : (x1 - x1 / 5 * 5) = 0
  · have h := ite_T c0_1 h
    refine z_tabIn (off := 30) (tgt := 40) F dX6_goesOnAt_10 (by rw [c0_1]; decide) (by rw [c0_1]; decide) (by rw [c0_1]; rfl) rfl ?_
    refine z_aload_n (q := 1) F dX6_goesOnAt_40 rfl rfl ?_
    refine gf6_28 F ko0 dX6_goesOnAt_41 ?_
    refine z_iload_n (q := 0) F dX6_goesOnAt_44 rfl rfl ?_
    refine z_i2c F dX6_goesOnAt_45 ?_
    obtain ⟨r4, σ4, hq4, h⟩ := bd_of h
    refine cl6_45 F (kd_txt ko0) hq4 ⟨Nat.le_of_ble_eq_true rfl, Nat.le_of_ble_eq_true rfl⟩ dX6_goesOnAt_46 (Nat.le_of_ble_eq_true rfl) ?_
    refine z_if_lt (tgt := 56) F dX6_goesOnAt_49 rfl (fun c5 => ?_) (fun c5 => ?_)
    · try simp only [if_pos c5] at h
      refine z_iconst (v := 0) F dX6_goesOnAt_56 rfl ?_
      exact z_bret F (by first | exact Or.inl rfl | exact Or.inr rfl) h dX6_goesOnAt_57
    · try simp only [if_neg c5] at h
      refine z_iconst (v := 1) F dX6_goesOnAt_52 rfl ?_
      refine z_goto (tgt := 57) F dX6_goesOnAt_53 rfl ?_
      exact z_bret F (by first | exact Or.inl rfl | exact Or.inr rfl) h dX6_goesOnAt_57
  have h := ite_F c0_1 h
  by_cases c1_1 : (x1 - x1 / 5 * 5) = 1
  · have h := ite_T c1_1 h
    refine z_tabIn (off := 48) (tgt := 58) F dX6_goesOnAt_10 (by rw [c1_1]; decide) (by rw [c1_1]; decide) (by rw [c1_1]; rfl) rfl ?_
    refine z_iconst (v := 1) F dX6_goesOnAt_58 rfl ?_
    refine z_iload_n (q := 0) F dX6_goesOnAt_59 rfl rfl ?_
    obtain ⟨r6, σ6, hq6, h⟩ := bd_of h
    refine cl6_55 F hq6 ⟨Nat.le_of_ble_eq_true rfl, Nat.le_of_ble_eq_true rfl⟩ dX6_goesOnAt_60 (Nat.le_of_ble_eq_true rfl) ?_
    obtain ⟨g7, h⟩ := gd_of h
    exact z_bret F g7 h dX6_goesOnAt_63
  have h := ite_F c1_1 h
  by_cases c2_1 : (x1 - x1 / 5 * 5) = 2
  · have h := ite_T c2_1 h
    refine z_tabIn (off := 54) (tgt := 64) F dX6_goesOnAt_10 (by rw [c2_1]; decide) (by rw [c2_1]; decide) (by rw [c2_1]; rfl) rfl ?_
    refine z_aload_n (q := 1) F dX6_goesOnAt_64 rfl rfl ?_
    refine gf6_32 F ko0 dX6_goesOnAt_65 ?_
    refine z_iload_n (q := 0) F dX6_goesOnAt_68 rfl rfl ?_
    obtain ⟨r8, σ8, hq8, h⟩ := bd_of h
    refine cl6_55 F hq8 ⟨Nat.le_of_ble_eq_true rfl, Nat.le_of_ble_eq_true rfl⟩ dX6_goesOnAt_69 (Nat.le_of_ble_eq_true rfl) ?_
    obtain ⟨g9, h⟩ := gd_of h
    exact z_bret F g9 h dX6_goesOnAt_72
  have h := ite_F c2_1 h
  by_cases c3_1 : (x1 - x1 / 5 * 5) = 3
  · have h := ite_T c3_1 h
    refine z_tabIn (off := 63) (tgt := 73) F dX6_goesOnAt_10 (by rw [c3_1]; decide) (by rw [c3_1]; decide) (by rw [c3_1]; rfl) rfl ?_
    refine z_aload_n (q := 1) F dX6_goesOnAt_73 rfl rfl ?_
    refine gf6_35 F ko0 dX6_goesOnAt_74 ?_
    refine z_iload_n (q := 0) F dX6_goesOnAt_77 rfl rfl ?_
    obtain ⟨r10, σ10, hq10, h⟩ := bd_of h
    refine cl6_55 F hq10 ⟨Nat.le_of_ble_eq_true rfl, Nat.le_of_ble_eq_true rfl⟩ dX6_goesOnAt_78 (Nat.le_of_ble_eq_true rfl) ?_
    obtain ⟨g11, h⟩ := gd_of h
    exact z_bret F g11 h dX6_goesOnAt_81
  have h := ite_F c3_1 h
  refine z_tabOut (tgt := 82) F dX6_goesOnAt_10 (by have e0 := sw_ne (n := 0) c0_1 (by decide); have e1 := sw_ne (n := 1) c1_1 (by decide); have e2 := sw_ne (n := 2) c2_1 (by decide); have e3 := sw_ne (n := 3) c3_1 (by decide); omega) rfl ?_
  refine z_iload_n (q := 0) F dX6_goesOnAt_82 rfl rfl ?_
  refine z_bipush (v := 59) F dX6_goesOnAt_83 rfl ?_
  refine z_icmp_ne (tgt := 92) F dX6_goesOnAt_85 rfl (fun c12 => ?_) (fun c12 => ?_)
  · try simp only [if_neg c12] at h
    refine z_iconst (v := 0) F dX6_goesOnAt_92 rfl ?_
    exact z_bret F (by first | exact Or.inl rfl | exact Or.inr rfl) h dX6_goesOnAt_93
  · try simp only [if_pos c12] at h
    refine z_iconst (v := 1) F dX6_goesOnAt_88 rfl ?_
    refine z_goto (tgt := 93) F dX6_goesOnAt_89 rfl ?_
    exact z_bret F (by first | exact Or.inl rfl | exact Or.inr rfl) h dX6_goesOnAt_93
theorem ct6_goesOnAt {r : Int32} {o0 : Nat} {x1 : Int32} {σ : St} (ko0 : kd o0 = 6) (h : M6_goesOnAt o0 x1 σ = some (r, σ')) : Met l yX6_goesOnAt (wsY yX6_goesOnAt cX6_goesOnAt 3 (some .boolean)) (rmL 4) (PcW g a [.ref (a o0), .int x1] σ) (QiW g a r σ') 0 0 (Ad a) :=
  ct_I (by decide) (Nat.le_of_ble_eq_true rfl) (fun p e s m args below meth c F => zM6_goesOnAt F ko0 h)
theorem cl6_51 {r : Int32} {o0 : Nat} {x1 : Int32} (F : Fx p s m args meth c cc nL RX6 rt R cz sz g a) (ko0 : kd o0 = 6) (h : M6_goesOnAt o0 x1 σ = some (r, σ1)) (hR : 4 + 1 ≤ R.frames ∧ 8 + (3 + 11) + 34 * 4 ≤ R.locals) (d : decode cc pc = .ok (.invokevirtual 51, 3)) (hrm : (rest.map fun v => v.category).sum ≤ 8) (z : Z p l e R s m args below meth c Q nL g a cz sz σ1 (pc + 3) lv (.int r :: rest)) : Z p l e R s m args below meth c Q nL g a cz sz σ pc lv (.int x1 :: .ref (a o0) :: rest) :=
  z_callVI (nA := 1) (As := [.int x1]) F (ct6_goesOnAt ko0 h) ⟨(tbm 292 (by decide +kernel) rfl), (tbm 294 (by decide +kernel) rfl), (tbs 4 (by decide +kernel) rfl), (tbm 2 (by decide +kernel) rfl), (tbm 295 (by decide +kernel) rfl)⟩ (by decide +kernel) rfl ko0 (by decide) rfl rfl rfl hR d rfl hrm z
theorem zM6_firstFault_J43 {r : Int32} {σ : St} (F : Fx p s m args meth c cX6_firstFault 2 RX6 (some .int) (rmL 5) 0 0 g a) (h : M6_firstFault_J43 σ = some (r, σ')) : Z p l e (rmL 5) s m args below meth c (MQ below (QiW g a r σ') args s 0 0 (Ad a)) 2 g a 0 0 σ 43 [] [] := by
  unfold M6_firstFault_J43 at h
  refine z_iconst (v := (-1)) F dX6_firstFault_43 rfl ?_
  refine z_goto (tgt := 51) F dX6_firstFault_44 rfl ?_
  exact z_iret F h dX6_firstFault_51
theorem zM6_firstFault_L2 {r : Int32} {o0 : Nat} (F : Fx p s m args meth c cX6_firstFault 2 RX6 (some .int) (rmL 5) 0 0 g a) (ko0 : kd o0 = 6) {kx : St → Option (Int32 × St)} (hx : ∀ (σ : St), kx σ = some (r, σ') → Z p l e (rmL 5) s m args below meth c (MQ below (QiW g a r σ') args s 0 0 (Ad a)) 2 g a 0 0 σ 26 [(0, .ref (a o0))] []) : ∀ (n : Nat) (x1 : Int32) (σ : St), M6_firstFault_L2 o0 kx n x1 σ = some (r, σ') → Z p l e (rmL 5) s m args below meth c (MQ below (QiW g a r σ') args s 0 0 (Ad a)) 2 g a 0 0 σ 2 [(0, .ref (a o0)), (1, .int x1)] [] := by
  intro n
  induction n with
  | zero => intro x1 σ h; rw [M6_firstFault_L2] at h; cases h
  | succ n ih =>
    intro x1 σ h
    rw [M6_firstFault_L2] at h
    refine z_iload_n (q := 1) F dX6_firstFault_2 rfl rfl ?_
    refine z_aload_n (q := 0) F dX6_firstFault_3 rfl rfl ?_
    refine gf6_18 F ko0 dX6_firstFault_4 ?_
    refine z_icmp_ge (tgt := 26) F dX6_firstFault_7 rfl (fun c1 => ?_) (fun c1 => ?_)
    · have h := ite_T c1 h
      refine z_sub (lv' := [(0, .ref (a o0))]) [0] rfl ?_
      exact hx _ h
    · have h := ite_F c1 h
      refine z_aload_n (q := 0) F dX6_firstFault_10 rfl rfl ?_
      refine z_iload_n (q := 1) F dX6_firstFault_11 rfl rfl ?_
      obtain ⟨r2, σ2, hq2, h⟩ := bd_of h
      refine cl6_51 F ko0 hq2 ⟨Nat.le_of_ble_eq_true rfl, Nat.le_of_ble_eq_true rfl⟩ dX6_firstFault_12 (Nat.le_of_ble_eq_true rfl) ?_
      refine z_if_ne (tgt := 20) F dX6_firstFault_15 rfl (fun c3 => ?_) (fun c3 => ?_)
      · have h := ite_F c3 h
        refine z_iinc (q := 1) (v := x1 + 1) (lv' := [(1, .int (x1 + 1)), (0, .ref (a o0))]) F dX6_firstFault_20 rfl rfl (by decide) rfl ?_
        refine z_letL (s0 := 1) (lv := [(0, .ref (a o0))]) h (fun v4 h => ?_)
        refine z_goto (tgt := 2) F dX6_firstFault_23 rfl ?_
        refine z_sub (lv' := [(0, .ref (a o0)), (1, .int v4)]) [1, 0] rfl ?_
        exact ih _ _ h
      · have h := ite_T c3 h
        refine z_iload_n (q := 1) F dX6_firstFault_18 rfl rfl ?_
        exact z_iret F h dX6_firstFault_19
theorem zM6_firstFault {r : Int32} {o0 : Nat} {σ : St} (F : Fx p s m args meth c cX6_firstFault 2 RX6 (some .int) (rmL 5) 0 0 g a) (ko0 : kd o0 = 6) (h : M6_firstFault o0 σ = some (r, σ')) : Z p l e (rmL 5) s m args below meth c (MQ below (QiW g a r σ') args s 0 0 (Ad a)) 2 g a 0 0 σ 0 [(0, .ref (a o0))] [] := by
  unfold M6_firstFault at h
  refine z_iconst (v := 0) F dX6_firstFault_0 rfl ?_
  refine z_istore_n (lv' := [(1, .int 0), (0, .ref (a o0))]) F dX6_firstFault_1 rfl (by decide) rfl ?_
  refine z_sub (lv' := [(0, .ref (a o0)), (1, .int 0)]) [1, 0] rfl ?_
  refine zM6_firstFault_L2 F ko0 ?_ _ _ _ h
  intro σ5 h
  refine z_aload_n (q := 0) F dX6_firstFault_26 rfl rfl ?_
  refine gf6_18 F ko0 dX6_firstFault_27 ?_
  refine z_if_eq (tgt := 43) F dX6_firstFault_30 rfl (fun c6 => ?_) (fun c6 => ?_)
  · have h := ite_T c6 h
    refine z_sub (lv' := []) [] rfl ?_
    exact zM6_firstFault_J43 F h
  · have h := ite_F c6 h
    refine z_aload_n (q := 0) F dX6_firstFault_33 rfl rfl ?_
    refine gf6_18 F ko0 dX6_firstFault_34 ?_
    refine z_iconst (v := 5) F dX6_firstFault_37 rfl ?_
    refine z_irem F dX6_firstFault_38 (by decide) ?_
    refine z_iconst (v := 4) F dX6_firstFault_39 rfl ?_
    refine z_icmp_ne (tgt := 47) F dX6_firstFault_40 rfl (fun c8 => ?_) (fun c8 => ?_)
    · have h := ite_F c8 h
      refine z_aload_n (q := 0) F dX6_firstFault_47 rfl rfl ?_
      refine gf6_18 F ko0 dX6_firstFault_48 ?_
      exact z_iret F h dX6_firstFault_51
    · have h := ite_T c8 h
      refine z_sub (lv' := []) [] rfl ?_
      exact zM6_firstFault_J43 F h
theorem ct6_firstFault {r : Int32} {o0 : Nat} {σ : St} (ko0 : kd o0 = 6) (h : M6_firstFault o0 σ = some (r, σ')) : Met l yX6_firstFault (wsY yX6_firstFault cX6_firstFault 2 (some .int)) (rmL 5) (PcW g a [.ref (a o0)] σ) (QiW g a r σ') 0 0 (Ad a) :=
  ct_I (by decide) (Nat.le_of_ble_eq_true rfl) (fun p e s m args below meth c F => zM6_firstFault F ko0 h)
theorem cl6_41 {r : Int32} {o0 : Nat} (F : Fx p s m args meth c cc nL RX6 rt R cz sz g a) (ko0 : kd o0 = 6) (h : M6_firstFault o0 σ = some (r, σ1)) (hR : 5 + 1 ≤ R.frames ∧ 8 + (2 + 11) + 34 * 5 ≤ R.locals) (d : decode cc pc = .ok (.invokevirtual 41, 3)) (hrm : (rest.map fun v => v.category).sum ≤ 8) (z : Z p l e R s m args below meth c Q nL g a cz sz σ1 (pc + 3) lv (.int r :: rest)) : Z p l e R s m args below meth c Q nL g a cz sz σ pc lv (.ref (a o0) :: rest) :=
  z_callVI (nA := 0) (As := []) F (ct6_firstFault ko0 h) ⟨(tbm 288 (by decide +kernel) rfl), (tbm 290 (by decide +kernel) rfl), (tbs 3 (by decide +kernel) rfl), (tbm 2 (by decide +kernel) rfl), (tbm 291 (by decide +kernel) rfl)⟩ (by decide +kernel) rfl ko0 (by decide) rfl rfl rfl hR d rfl hrm z
theorem zM6_parse_L70 {r : Unit} {o0 : Nat} {x1 : Int32} (F : Fx p s m args meth c cX6_parse 3 RX6 none (rmL 6) 0 0 g a) (ko0 : kd o0 = 6) {kx : St → Option (Unit × St)} (hx : ∀ (σ : St), kx σ = some (r, σ') → Z p l e (rmL 6) s m args below meth c (MQ below (QvW g a r σ') args s 0 0 (Ad a)) 3 g a 0 0 σ 104 [(0, .ref (a o0)), (1, .int x1)] []) : ∀ (n : Nat) (x2 : Int32) (σ : St), M6_parse_L70 o0 x1 kx n x2 σ = some (r, σ') → Z p l e (rmL 6) s m args below meth c (MQ below (QvW g a r σ') args s 0 0 (Ad a)) 3 g a 0 0 σ 70 [(0, .ref (a o0)), (1, .int x1), (2, .int x2)] [] := by
  intro n
  induction n with
  | zero => intro x2 σ h; rw [M6_parse_L70] at h; cases h
  | succ n ih =>
    intro x2 σ h
    rw [M6_parse_L70] at h
    refine z_iload_n (q := 2) F dX6_parse_70 rfl rfl ?_
    refine z_iconst (v := 4) F dX6_parse_71 rfl ?_
    refine z_icmp_ge (tgt := 104) F dX6_parse_72 rfl (fun c10 => ?_) (fun c10 => ?_)
    · have h := ite_T c10 h
      refine z_sub (lv' := [(0, .ref (a o0)), (1, .int x1)]) [0, 1] rfl ?_
      exact hx _ h
    · have h := ite_F c10 h
      refine z_aload_n (q := 0) F dX6_parse_75 rfl rfl ?_
      refine gf6_15 F ko0 dX6_parse_76 ?_
      refine z_iload_n (q := 1) F dX6_parse_79 rfl rfl ?_
      refine z_iconst (v := 4) F dX6_parse_80 rfl ?_
      refine z_imul F dX6_parse_81 ?_
      refine z_iload_n (q := 2) F dX6_parse_82 rfl rfl ?_
      refine z_iadd F dX6_parse_83 ?_
      refine z_aload_n (q := 0) F dX6_parse_84 rfl rfl ?_
      refine gf6_9 F ko0 dX6_parse_85 ?_
      refine z_iload_n (q := 1) F dX6_parse_88 rfl rfl ?_
      refine z_iconst (v := 5) F dX6_parse_89 rfl ?_
      refine z_imul F dX6_parse_90 ?_
      refine z_iload_n (q := 2) F dX6_parse_91 rfl rfl ?_
      refine z_iadd F dX6_parse_92 ?_
      obtain ⟨g11, h⟩ := gd_of h
      refine z_iald F (kf_6_3 ko0) (inl (lf_6_3 ko0) g11) dX6_parse_93 ?_
      refine z_bipush (v := 48) F dX6_parse_94 rfl ?_
      refine z_isub F dX6_parse_96 ?_
      obtain ⟨g12, h⟩ := gd_of h
      refine z_iast F (kf_6_4 ko0) (inl (lf_6_4 ko0) g12) dX6_parse_97 ?_
      refine z_let h (fun σ13 h => ?_)
      refine z_iinc (q := 2) (v := x2 + 1) (lv' := [(2, .int (x2 + 1)), (0, .ref (a o0)), (1, .int x1)]) F dX6_parse_98 rfl rfl (by decide) rfl ?_
      refine z_letL (s0 := 2) (lv := [(0, .ref (a o0)), (1, .int x1)]) h (fun v14 h => ?_)
      refine z_goto (tgt := 70) F dX6_parse_101 rfl ?_
      refine z_sub (lv' := [(0, .ref (a o0)), (1, .int x1), (2, .int v14)]) [1, 2, 0] rfl ?_
      exact ih _ _ h
theorem zM6_parse_L34 {r : Unit} {o0 : Nat} (F : Fx p s m args meth c cX6_parse 3 RX6 none (rmL 6) 0 0 g a) (ko0 : kd o0 = 6) {kx : St → Option (Unit × St)} (hx : ∀ (σ : St), kx σ = some (r, σ') → Z p l e (rmL 6) s m args below meth c (MQ below (QvW g a r σ') args s 0 0 (Ad a)) 3 g a 0 0 σ 110 [] []) : ∀ (n : Nat) (x1 : Int32) (σ : St), M6_parse_L34 o0 kx n x1 σ = some (r, σ') → Z p l e (rmL 6) s m args below meth c (MQ below (QvW g a r σ') args s 0 0 (Ad a)) 3 g a 0 0 σ 34 [(0, .ref (a o0)), (1, .int x1)] [] := by
  intro n
  induction n with
  | zero => intro x1 σ h; rw [M6_parse_L34] at h; cases h
  | succ n ih =>
    intro x1 σ h
    rw [M6_parse_L34] at h
    refine z_iload_n (q := 1) F dX6_parse_34 rfl rfl ?_
    refine z_aload_n (q := 0) F dX6_parse_35 rfl rfl ?_
    refine gf6_25 F ko0 dX6_parse_36 ?_
    refine z_icmp_ge (tgt := 110) F dX6_parse_39 rfl (fun c5 => ?_) (fun c5 => ?_)
    · have h := ite_T c5 h
      refine z_sub (lv' := []) [] rfl ?_
      exact hx _ h
    · have h := ite_F c5 h
      refine z_aload_n (q := 0) F dX6_parse_42 rfl rfl ?_
      refine gf6_15 F ko0 dX6_parse_43 ?_
      refine z_iload_n (q := 1) F dX6_parse_46 rfl rfl ?_
      refine z_iconst (v := 4) F dX6_parse_47 rfl ?_
      refine z_imul F dX6_parse_48 ?_
      refine z_iconst (v := 0) F dX6_parse_49 rfl ?_
      refine z_iadd F dX6_parse_50 ?_
      refine z_aload_n (q := 0) F dX6_parse_51 rfl rfl ?_
      refine gf6_28 F ko0 dX6_parse_52 ?_
      refine z_aload_n (q := 0) F dX6_parse_55 rfl rfl ?_
      refine gf6_9 F ko0 dX6_parse_56 ?_
      refine z_iload_n (q := 1) F dX6_parse_59 rfl rfl ?_
      refine z_iconst (v := 5) F dX6_parse_60 rfl ?_
      refine z_imul F dX6_parse_61 ?_
      obtain ⟨g6, h⟩ := gd_of h
      refine z_iald F (kf_6_3 ko0) (inl (lf_6_3 ko0) g6) dX6_parse_62 ?_
      refine z_i2c F dX6_parse_63 ?_
      obtain ⟨r7, σ7, hq7, h⟩ := bd_of h
      refine cl6_45 F (kd_txt ko0) hq7 ⟨Nat.le_of_ble_eq_true rfl, Nat.le_of_ble_eq_true rfl⟩ dX6_parse_64 (Nat.le_of_ble_eq_true rfl) ?_
      obtain ⟨g8, h⟩ := gd_of h
      refine z_iast F (kf_6_4 ko0) (inl (lf_6_4 ko0) g8) dX6_parse_67 ?_
      refine z_let h (fun σ9 h => ?_)
      refine z_iconst (v := 1) F dX6_parse_68 rfl ?_
      refine z_istore_n (lv' := [(2, .int 1), (0, .ref (a o0)), (1, .int x1)]) F dX6_parse_69 rfl (by decide) rfl ?_
      refine z_sub (lv' := [(0, .ref (a o0)), (1, .int x1), (2, .int 1)]) [1, 2, 0] rfl ?_
      refine zM6_parse_L70 F ko0 ?_ _ _ _ h
      intro σ15 h
      refine z_iinc (q := 1) (v := x1 + 1) (lv' := [(1, .int (x1 + 1)), (0, .ref (a o0))]) F dX6_parse_104 rfl rfl (by decide) rfl ?_
      refine z_letL (s0 := 1) (lv := [(0, .ref (a o0))]) h (fun v16 h => ?_)
      refine z_goto (tgt := 34) F dX6_parse_107 rfl ?_
      refine z_sub (lv' := [(0, .ref (a o0)), (1, .int v16)]) [1, 0] rfl ?_
      exact ih _ _ h
theorem zM6_parse_J29 {r : Unit} {o0 : Nat} {y0 : Int32} {y1 : Nat} {σ : St} (F : Fx p s m args meth c cX6_parse 3 RX6 none (rmL 6) 0 0 g a) (ko0 : kd o0 = 6) (ky1 : kd y1 = 6) (h : M6_parse_J29 o0 y0 y1 σ = some (r, σ')) : Z p l e (rmL 6) s m args below meth c (MQ below (QvW g a r σ') args s 0 0 (Ad a)) 3 g a 0 0 σ 29 [(0, .ref (a o0))] [.int y0, .ref (a y1)] := by
  unfold M6_parse_J29 at h
  refine pf6_25 F ky1 dX6_parse_29 ?_
  refine z_let h (fun σ4 h => ?_)
  refine z_iconst (v := 0) F dX6_parse_32 rfl ?_
  refine z_istore_n (lv' := [(1, .int 0), (0, .ref (a o0))]) F dX6_parse_33 rfl (by decide) rfl ?_
  refine z_sub (lv' := [(0, .ref (a o0)), (1, .int 0)]) [1, 0] rfl ?_
  refine zM6_parse_L34 F ko0 ?_ _ _ _ h
  intro σ17 h
  exact z_vret F h dX6_parse_110
theorem zM6_parse {r : Unit} {o0 : Nat} {σ : St} (F : Fx p s m args meth c cX6_parse 3 RX6 none (rmL 6) 0 0 g a) (ko0 : kd o0 = 6) (h : M6_parse o0 σ = some (r, σ')) : Z p l e (rmL 6) s m args below meth c (MQ below (QvW g a r σ') args s 0 0 (Ad a)) 3 g a 0 0 σ 0 [(0, .ref (a o0))] [] := by
  unfold M6_parse at h
  refine z_aload_n (q := 0) F dX6_parse_0 rfl rfl ?_
  refine z_aload_n (q := 0) F dX6_parse_1 rfl rfl ?_
  obtain ⟨r1, σ1, hq1, h⟩ := bd_of h
  refine cl6_41 F ko0 hq1 ⟨Nat.le_of_ble_eq_true rfl, Nat.le_of_ble_eq_true rfl⟩ dX6_parse_2 (Nat.le_of_ble_eq_true rfl) ?_
  refine pf6_22 F ko0 dX6_parse_5 ?_
  refine z_let h (fun σ2 h => ?_)
  refine z_aload_n (q := 0) F dX6_parse_8 rfl rfl ?_
  refine z_aload_n (q := 0) F dX6_parse_9 rfl rfl ?_
  refine gf6_22 F ko0 dX6_parse_10 ?_
  refine z_iconst (v := (-1)) F dX6_parse_13 rfl ?_
  refine z_icmp_ne (tgt := 28) F dX6_parse_14 rfl (fun c3 => ?_) (fun c3 => ?_)
  · try simp only [if_neg c3] at h
    refine z_iconst (v := 0) F dX6_parse_28 rfl ?_
    refine z_sub (lv' := [(0, .ref (a o0))]) [0] rfl ?_
    exact zM6_parse_J29 F ko0 ko0 h
  · try simp only [if_pos c3] at h
    refine z_aload_n (q := 0) F dX6_parse_17 rfl rfl ?_
    refine gf6_18 F ko0 dX6_parse_18 ?_
    refine z_iconst (v := 1) F dX6_parse_21 rfl ?_
    refine z_iadd F dX6_parse_22 ?_
    refine z_iconst (v := 5) F dX6_parse_23 rfl ?_
    refine z_idiv F dX6_parse_24 (by decide) ?_
    refine z_goto (tgt := 29) F dX6_parse_25 rfl ?_
    refine z_sub (lv' := [(0, .ref (a o0))]) [0] rfl ?_
    exact zM6_parse_J29 F ko0 ko0 h
theorem ct6_parse {r : Unit} {o0 : Nat} {σ : St} (ko0 : kd o0 = 6) (h : M6_parse o0 σ = some (r, σ')) : Met l yX6_parse (wsY yX6_parse cX6_parse 3 none) (rmL 6) (PcW g a [.ref (a o0)] σ) (QvW g a r σ') 0 0 (Ad a) :=
  ct_V (by decide) (Nat.le_of_ble_eq_true rfl) (fun p e s m args below meth c F => zM6_parse F ko0 h)
theorem cl6_38 {r : Unit} {o0 : Nat} (F : Fx p s m args meth c cc nL RX6 rt R cz sz g a) (ko0 : kd o0 = 6) (h : M6_parse o0 σ = some (r, σ1)) (hR : 6 + 1 ≤ R.frames ∧ 8 + (3 + 11) + 34 * 6 ≤ R.locals) (d : decode cc pc = .ok (.invokevirtual 38, 3)) (hrm : (rest.map fun v => v.category).sum ≤ 8) (z : Z p l e R s m args below meth c Q nL g a cz sz σ1 (pc + 3) lv (rest)) : Z p l e R s m args below meth c Q nL g a cz sz σ pc lv (.ref (a o0) :: rest) :=
  z_callVV (nA := 0) (As := []) F (ct6_parse ko0 h) ⟨(tbm 284 (by decide +kernel) rfl), (tbm 286 (by decide +kernel) rfl), (tbs 2 (by decide +kernel) rfl), (tbm 2 (by decide +kernel) rfl), (tbm 287 (by decide +kernel) rfl)⟩ (by decide +kernel) rfl ko0 (by decide) rfl rfl rfl hR d rfl hrm z
end WalkZ
