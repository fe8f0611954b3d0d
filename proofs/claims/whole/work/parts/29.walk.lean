section WalkZ
variable {p : Program} {l : Launch} {e : Env} {R : Room} {s : State} {m : MethodId} {args : Array Value} {below : List Frame} {meth : Method} {c : Code} {Q : State → Prop} {cc : ByteArray} {nL : Nat} {own : String} {rt : Option FieldType} {g : Gd} {a : Nat → Nat} {cz sz : Nat} {σ σ1 σ' : St} {pc : Nat} {lv lv' : List (Nat × Value)} {st st0 rest : List Value}
theorem zM6_append {r : Int32} {o0 : Nat} {x1 : Int32} {σ : St} (F : Fx p s m args meth c cX6_append 2 RX6 (some .int) (rmL 7) 0 0 g a) (ko0 : kd o0 = 6) (h : M6_append o0 x1 σ = some (r, σ')) : Z p l e (rmL 7) s m args below meth c (MQ below (QiW g a r σ') args s 0 0 (Ad a)) 2 g a 0 0 σ 0 [(0, .ref (a o0)), (1, .int x1)] [] := by
  unfold M6_append at h
  refine z_aload_n (q := 0) F dX6_append_0 rfl rfl ?_
  refine gf6_18 F ko0 dX6_append_1 ?_
  refine z_bipush (v := 39) F dX6_append_4 rfl ?_
  refine z_icmp_ge (tgt := 33) F dX6_append_6 rfl (fun c1 => ?_) (fun c1 => ?_)
  · have h := ite_T c1 h
    refine z_aload_n (q := 0) F dX6_append_33 rfl rfl ?_
    refine gf6_18 F ko0 dX6_append_34 ?_
    exact z_iret F h dX6_append_37
  · have h := ite_F c1 h
    refine z_aload_n (q := 0) F dX6_append_9 rfl rfl ?_
    refine gf6_9 F ko0 dX6_append_10 ?_
    refine z_aload_n (q := 0) F dX6_append_13 rfl rfl ?_
    refine gf6_18 F ko0 dX6_append_14 ?_
    refine z_iload_n (q := 1) F dX6_append_17 rfl rfl ?_
    obtain ⟨g2, h⟩ := gd_of h
    refine z_iast F (kf_6_3 ko0) (inl (lf_6_3 ko0) g2) dX6_append_18 ?_
    refine z_let h (fun σ3 h => ?_)
    refine z_aload_n (q := 0) F dX6_append_19 rfl rfl ?_
    refine z_dup F dX6_append_20 rfl ?_
    refine gf6_18 F ko0 dX6_append_21 ?_
    refine z_iconst (v := 1) F dX6_append_24 rfl ?_
    refine z_iadd F dX6_append_25 ?_
    refine pf6_18 F ko0 dX6_append_26 ?_
    refine z_let h (fun σ4 h => ?_)
    refine z_aload_n (q := 0) F dX6_append_29 rfl rfl ?_
    obtain ⟨r5, σ5, hq5, h⟩ := bd_of h
    refine cl6_38 F ko0 hq5 ⟨Nat.le_of_ble_eq_true rfl, Nat.le_of_ble_eq_true rfl⟩ dX6_append_30 (Nat.le_of_ble_eq_true rfl) ?_
    refine z_aload_n (q := 0) F dX6_append_33 rfl rfl ?_
    refine gf6_18 F ko0 dX6_append_34 ?_
    exact z_iret F h dX6_append_37
theorem ct6_append {r : Int32} {o0 : Nat} {x1 : Int32} {σ : St} (ko0 : kd o0 = 6) (h : M6_append o0 x1 σ = some (r, σ')) : Met l yX6_append (wsY yX6_append cX6_append 2 (some .int)) (rmL 7) (PcW g a [.ref (a o0), .int x1] σ) (QiW g a r σ') 0 0 (Ad a) :=
  ct_I (by decide) (Nat.le_of_ble_eq_true rfl) (fun p e s m args below meth c F => zM6_append F ko0 h)
theorem cl7_94 {r : Int32} {o0 : Nat} {x1 : Int32} (F : Fx p s m args meth c cc nL RX7 rt R cz sz g a) (ko0 : kd o0 = 6) (h : M6_append o0 x1 σ = some (r, σ1)) (hR : 7 + 1 ≤ R.frames ∧ 8 + (2 + 11) + 34 * 7 ≤ R.locals) (d : decode cc pc = .ok (.invokevirtual 94, 3)) (hrm : (rest.map fun v => v.category).sum ≤ 8) (z : Z p l e R s m args below meth c Q nL g a cz sz σ1 (pc + 3) lv (.int r :: rest)) : Z p l e R s m args below meth c Q nL g a cz sz σ pc lv (.int x1 :: .ref (a o0) :: rest) :=
  z_callVNI (host := "HoleBank") (nA := 1) (As := [.int x1]) F (ct6_append ko0 h) ⟨(nlm 280 (by decide +kernel) rfl), (tbm 282 (by decide +kernel) rfl), (tbs 1 (by decide +kernel) rfl), (tbm 2 (by decide +kernel) rfl), (tbm 283 (by decide +kernel) rfl)⟩ (by decide +kernel) rfl ko0 (by decide) rfl rfl rfl hR d rfl hrm z
theorem zM6_shorten {r : Unit} {o0 : Nat} {x1 : Int32} {σ : St} (F : Fx p s m args meth c cX6_shorten 2 RX6 none (rmL 7) 0 0 g a) (ko0 : kd o0 = 6) (h : M6_shorten o0 x1 σ = some (r, σ')) : Z p l e (rmL 7) s m args below meth c (MQ below (QvW g a r σ') args s 0 0 (Ad a)) 2 g a 0 0 σ 0 [(0, .ref (a o0)), (1, .int x1)] [] := by
  unfold M6_shorten at h
  refine z_aload_n (q := 0) F dX6_shorten_0 rfl rfl ?_
  refine z_iload_n (q := 1) F dX6_shorten_1 rfl rfl ?_
  refine pf6_18 F ko0 dX6_shorten_2 ?_
  refine z_let h (fun σ1 h => ?_)
  refine z_aload_n (q := 0) F dX6_shorten_5 rfl rfl ?_
  obtain ⟨r2, σ2, hq2, h⟩ := bd_of h
  refine cl6_38 F ko0 hq2 ⟨Nat.le_of_ble_eq_true rfl, Nat.le_of_ble_eq_true rfl⟩ dX6_shorten_6 (Nat.le_of_ble_eq_true rfl) ?_
  exact z_vret F h dX6_shorten_9
theorem ct6_shorten {r : Unit} {o0 : Nat} {x1 : Int32} {σ : St} (ko0 : kd o0 = 6) (h : M6_shorten o0 x1 σ = some (r, σ')) : Met l yX6_shorten (wsY yX6_shorten cX6_shorten 2 none) (rmL 7) (PcW g a [.ref (a o0), .int x1] σ) (QvW g a r σ') 0 0 (Ad a) :=
  ct_V (by decide) (Nat.le_of_ble_eq_true rfl) (fun p e s m args below meth c F => zM6_shorten F ko0 h)
theorem cl7_98 {r : Unit} {o0 : Nat} {x1 : Int32} (F : Fx p s m args meth c cc nL RX7 rt R cz sz g a) (ko0 : kd o0 = 6) (h : M6_shorten o0 x1 σ = some (r, σ1)) (hR : 7 + 1 ≤ R.frames ∧ 8 + (2 + 11) + 34 * 7 ≤ R.locals) (d : decode cc pc = .ok (.invokevirtual 98, 3)) (hrm : (rest.map fun v => v.category).sum ≤ 8) (z : Z p l e R s m args below meth c Q nL g a cz sz σ1 (pc + 3) lv (rest)) : Z p l e R s m args below meth c Q nL g a cz sz σ pc lv (.int x1 :: .ref (a o0) :: rest) :=
  z_callVNV (host := "HoleBank") (nA := 1) (As := [.int x1]) F (ct6_shorten ko0 h) ⟨(nlm 389 (by decide +kernel) rfl), (tbm 391 (by decide +kernel) rfl), (tbs 5 (by decide +kernel) rfl), (tbm 2 (by decide +kernel) rfl), (tbm 392 (by decide +kernel) rfl)⟩ (by decide +kernel) rfl ko0 (by decide) rfl rfl rfl hR d rfl hrm z
theorem zM7_addToAlike_L2 {r : Unit} {o1 : Nat} {x2 : Int32} (F : Fx p s m args meth c cX7_addToAlike 4 RX7 none (rmL 2) 0 0 g a) (ko1 : kd o1 = 1) {kx : St → Option (Unit × St)} (hx : ∀ (σ : St), kx σ = some (r, σ') → Z p l e (rmL 2) s m args below meth c (MQ below (QvW g a r σ') args s 0 0 (Ad a)) 4 g a 0 0 σ 39 [] []) : ∀ (n : Nat) (x3 : Int32) (σ : St), M7_addToAlike_L2 o1 x2 kx n x3 σ = some (r, σ') → Z p l e (rmL 2) s m args below meth c (MQ below (QvW g a r σ') args s 0 0 (Ad a)) 4 g a 0 0 σ 2 [(0, .ref (a 25)), (1, .ref (a o1)), (2, .int x2), (3, .int x3)] [] := by
  intro n
  induction n with
  | zero => intro x3 σ h; rw [M7_addToAlike_L2] at h; cases h
  | succ n ih =>
    intro x3 σ h
    rw [M7_addToAlike_L2] at h
    refine z_iload_n (q := 3) F dX7_addToAlike_2 rfl rfl ?_
    refine z_aload_n (q := 0) F dX7_addToAlike_3 rfl rfl ?_
    refine gf7_16 F kdc_25 dX7_addToAlike_4 ?_
    refine gf7_190 F kdc_26 dX7_addToAlike_7 ?_
    refine z_icmp_ge (tgt := 39) F dX7_addToAlike_10 rfl (fun c1 => ?_) (fun c1 => ?_)
    · have h := ite_T c1 h
      refine z_sub (lv' := []) [] rfl ?_
      exact hx _ h
    · have h := ite_F c1 h
      refine z_aload_n (q := 0) F dX7_addToAlike_13 rfl rfl ?_
      refine gf7_65 F kdc_25 dX7_addToAlike_14 ?_
      refine z_iload_n (q := 3) F dX7_addToAlike_17 rfl rfl ?_
      refine z_bipush (v := 10) F dX7_addToAlike_18 rfl ?_
      refine z_imul F dX7_addToAlike_20 ?_
      refine z_aload_n (q := 1) F dX7_addToAlike_21 rfl rfl ?_
      refine z_iload_n (q := 2) F dX7_addToAlike_22 rfl rfl ?_
      refine z_iload_n (q := 3) F dX7_addToAlike_23 rfl rfl ?_
      obtain ⟨r2, σ2, hq2, h⟩ := bd_of h
      refine cl7_302 F ko1 hq2 ⟨Nat.le_of_ble_eq_true rfl, Nat.le_of_ble_eq_true rfl⟩ dX7_addToAlike_24 (Nat.le_of_ble_eq_true rfl) ?_
      refine z_iadd F dX7_addToAlike_27 ?_
      refine z_dup2 F dX7_addToAlike_28 rfl rfl ?_
      obtain ⟨g3, h⟩ := gd_of h
      refine z_iald F kdc_88 (inl lnc_88 g3) dX7_addToAlike_29 ?_
      refine z_iconst (v := 1) F dX7_addToAlike_30 rfl ?_
      refine z_iadd F dX7_addToAlike_31 ?_
      refine z_iast F kdc_88 (inl lnc_88 g3) dX7_addToAlike_32 ?_
      refine z_let h (fun σ5 h => ?_)
      refine z_iinc (q := 3) (v := x3 + 1) (lv' := [(3, .int (x3 + 1)), (0, .ref (a 25)), (1, .ref (a o1)), (2, .int x2)]) F dX7_addToAlike_33 rfl rfl (by decide) rfl ?_
      refine z_letL (s0 := 3) (lv := [(0, .ref (a 25)), (1, .ref (a o1)), (2, .int x2)]) h (fun v6 h => ?_)
      refine z_goto (tgt := 2) F dX7_addToAlike_36 rfl ?_
      refine z_sub (lv' := [(0, .ref (a 25)), (1, .ref (a o1)), (2, .int x2), (3, .int v6)]) [1, 2, 3, 0] rfl ?_
      exact ih _ _ h
theorem zM7_addToAlike {r : Unit} {o1 : Nat} {x2 : Int32} {σ : St} (F : Fx p s m args meth c cX7_addToAlike 4 RX7 none (rmL 2) 0 0 g a) (ko1 : kd o1 = 1) (h : M7_addToAlike o1 x2 σ = some (r, σ')) : Z p l e (rmL 2) s m args below meth c (MQ below (QvW g a r σ') args s 0 0 (Ad a)) 4 g a 0 0 σ 0 [(0, .ref (a 25)), (1, .ref (a o1)), (2, .int x2)] [] := by
  unfold M7_addToAlike at h
  refine z_iconst (v := 0) F dX7_addToAlike_0 rfl ?_
  refine z_istore_n (lv' := [(3, .int 0), (0, .ref (a 25)), (1, .ref (a o1)), (2, .int x2)]) F dX7_addToAlike_1 rfl (by decide) rfl ?_
  refine z_sub (lv' := [(0, .ref (a 25)), (1, .ref (a o1)), (2, .int x2), (3, .int 0)]) [1, 2, 3, 0] rfl ?_
  refine zM7_addToAlike_L2 F ko1 ?_ _ _ _ h
  intro σ7 h
  exact z_vret F h dX7_addToAlike_39
theorem ct7_addToAlike {r : Unit} {o1 : Nat} {x2 : Int32} {σ : St} (ko1 : kd o1 = 1) (h : M7_addToAlike o1 x2 σ = some (r, σ')) : Met l yX7_addToAlike (wsY yX7_addToAlike cX7_addToAlike 4 none) (rmL 2) (PcW g a [.ref (a 25), .ref (a o1), .int x2] σ) (QvW g a r σ') 0 0 (Ad a) :=
  ct_V (by decide) (Nat.le_of_ble_eq_true rfl) (fun p e s m args below meth c F => zM7_addToAlike F ko1 h)
theorem cl7_240 {r : Unit} {o1 : Nat} {x2 : Int32} (F : Fx p s m args meth c cc nL RX7 rt R cz sz g a) (ko1 : kd o1 = 1) (h : M7_addToAlike o1 x2 σ = some (r, σ1)) (hR : 2 + 1 ≤ R.frames ∧ 8 + (4 + 11) + 34 * 2 ≤ R.locals) (d : decode cc pc = .ok (.invokevirtual 240, 3)) (hrm : (rest.map fun v => v.category).sum ≤ 8) (z : Z p l e R s m args below meth c Q nL g a cz sz σ1 (pc + 3) lv (rest)) : Z p l e R s m args below meth c Q nL g a cz sz σ pc lv (.int x2 :: .ref (a o1) :: .ref (a 25) :: rest) :=
  z_callVV (nA := 2) (As := [.ref (a o1), .int x2]) F (ct7_addToAlike ko1 h) ⟨(tbm 686 (by decide +kernel) rfl), (tbm 688 (by decide +kernel) rfl), (tbs 51 (by decide +kernel) rfl), (tbm 1 (by decide +kernel) rfl), (tbm 689 (by decide +kernel) rfl)⟩ (by decide +kernel) rfl kdc_25 (by decide) rfl rfl rfl hR d rfl hrm z
theorem zM7_back_J47 {r : Int32} {y0 : Nat} {σ : St} (F : Fx p s m args meth c cX7_back 3 RX7 (some .int) (rmL 2) 0 0 g a) (ky0 : kd y0 = 4) (h : M7_back_J47 y0 σ = some (r, σ')) : Z p l e (rmL 2) s m args below meth c (MQ below (QiW g a r σ') args s 0 0 (Ad a)) 3 g a 0 0 σ 47 [(0, .ref (a 25))] [.ref (a y0)] := by
  unfold M7_back_J47 at h
  refine z_astore_n (lv' := [(2, .ref (a y0)), (0, .ref (a 25))]) F dX7_back_47 rfl (by decide) rfl ?_
  refine z_aload_n (q := 0) F dX7_back_48 rfl rfl ?_
  refine gf7_140 F ky0 dX7_back_49 ?_
  refine z_if_ne (tgt := 58) F dX7_back_52 rfl (fun c5 => ?_) (fun c5 => ?_)
  · have h := ite_F c5 h
    refine z_aload_n (q := 1) F dX7_back_58 rfl rfl ?_
    refine z_iconst (v := 1) F dX7_back_59 rfl ?_
    refine pf7_48 F kdc_25 (by first | exact Or.inl rfl | exact Or.inr rfl) dX7_back_60 ?_
    refine z_let h (fun σ6 h => ?_)
    refine z_aload_n (q := 0) F dX7_back_63 rfl rfl ?_
    refine z_aload_n (q := 0) F dX7_back_64 rfl rfl ?_
    refine gf7_140 F ky0 dX7_back_65 ?_
    refine z_iconst (v := 1) F dX7_back_68 rfl ?_
    refine z_isub F dX7_back_69 ?_
    obtain ⟨r7, σ7, hq7, h⟩ := bd_of h
    refine cl7_143 F ky0 hq7 ⟨Nat.le_of_ble_eq_true rfl, Nat.le_of_ble_eq_true rfl⟩ dX7_back_70 (Nat.le_of_ble_eq_true rfl) ?_
    exact z_iret F h dX7_back_73
  · have h := ite_T c5 h
    refine z_bipush (v := (-3)) F dX7_back_55 rfl ?_
    exact z_iret F h dX7_back_57
theorem zM7_back {r : Int32} {x1 : Int32} {σ : St} (F : Fx p s m args meth c cX7_back 3 RX7 (some .int) (rmL 2) 0 0 g a) (h : M7_back x1 σ = some (r, σ')) : Z p l e (rmL 2) s m args below meth c (MQ below (QiW g a r σ') args s 0 0 (Ad a)) 3 g a 0 0 σ 0 [(0, .ref (a 25)), (1, .int x1)] [] := by
  unfold M7_back at h
  refine z_iload_n (q := 1) F dX7_back_0 rfl rfl ?_
  refine z_iconst (v := 3) F dX7_back_1 rfl ?_
  obtain ⟨r1, σ1, hq1, h⟩ := bd_of h
  refine cl7_83 F hq1 ⟨Nat.le_of_ble_eq_true rfl, Nat.le_of_ble_eq_true rfl⟩ dX7_back_2 (Nat.le_of_ble_eq_true rfl) ?_
  refine z_if_ne (tgt := 11) F dX7_back_5 rfl (fun c2 => ?_) (fun c2 => ?_)
  · have h := ite_F c2 h
    refine z_iload_n (q := 1) F dX7_back_11 rfl rfl ?_
    refine z_if_ne (tgt := 25) F dX7_back_12 rfl (fun c3 => ?_) (fun c3 => ?_)
    · try simp only [if_neg c3] at h
      refine z_iload_n (q := 1) F dX7_back_25 rfl rfl ?_
      refine z_iconst (v := 1) F dX7_back_26 rfl ?_
      refine z_icmp_ne (tgt := 40) F dX7_back_27 rfl (fun c4 => ?_) (fun c4 => ?_)
      · try simp only [if_neg c4] at h
        refine z_aload_n (q := 0) F dX7_back_40 rfl rfl ?_
        refine gf7_30 F kdc_25 dX7_back_41 ?_
        refine gf7_137 F kdc_32 dX7_back_44 ?_
        refine z_sub (lv' := [(0, .ref (a 25))]) [0] rfl ?_
        exact zM7_back_J47 F kdc_37 h
      · try simp only [if_pos c4] at h
        refine z_aload_n (q := 0) F dX7_back_30 rfl rfl ?_
        refine gf7_30 F kdc_25 dX7_back_31 ?_
        refine gf7_130 F kdc_32 dX7_back_34 ?_
        refine z_goto (tgt := 47) F dX7_back_37 rfl ?_
        refine z_sub (lv' := [(0, .ref (a 25))]) [0] rfl ?_
        exact zM7_back_J47 F kdc_35 h
    · try simp only [if_pos c3] at h
      refine z_aload_n (q := 0) F dX7_back_15 rfl rfl ?_
      refine gf7_30 F kdc_25 dX7_back_16 ?_
      refine gf7_119 F kdc_32 dX7_back_19 ?_
      refine z_goto (tgt := 47) F dX7_back_22 rfl ?_
      refine z_sub (lv' := [(0, .ref (a 25))]) [0] rfl ?_
      exact zM7_back_J47 F kdc_33 h
  · have h := ite_T c2 h
    refine z_bipush (v := (-2)) F dX7_back_8 rfl ?_
    exact z_iret F h dX7_back_10
theorem ct7_back {r : Int32} {x1 : Int32} {σ : St} (h : M7_back x1 σ = some (r, σ')) : Met l yX7_back (wsY yX7_back cX7_back 3 (some .int)) (rmL 2) (PcW g a [.ref (a 25), .int x1] σ) (QiW g a r σ') 0 0 (Ad a) :=
  ct_I (by decide) (Nat.le_of_ble_eq_true rfl) (fun p e s m args below meth c F => zM7_back F h)

theorem zM7_toldCourse {r : Nat} {σ : St} (F : Fx p s m args meth c cX7_toldCourse 1 RX7 (some (.object "HoleBank$Course")) (rmL 3) 0 0 g a) (h : M7_toldCourse σ = some (r, σ')) : Z p l e (rmL 3) s m args below meth c (MQ below (QrW g a r σ') args s 0 0 (Ad a)) 1 g a 0 0 σ 0 [(0, .ref (a 25))] [] := by
  unfold M7_toldCourse at h
  refine z_aload_n (q := 0) F dX7_toldCourse_0 rfl rfl ?_
  refine gf7_48 F kdc_25 dX7_toldCourse_1 ?_
  refine z_if_eq (tgt := 29) F dX7_toldCourse_4 rfl (fun c1 => ?_) (fun c1 => ?_)
  · have h := ite_T c1 h
    refine z_aload_n (q := 0) F dX7_toldCourse_29 rfl rfl ?_
    refine gf7_44 F kdc_25 dX7_toldCourse_30 ?_
    exact z_aret F h dX7_toldCourse_33
  · have h := ite_F c1 h
    refine z_aload_n (q := 0) F dX7_toldCourse_7 rfl rfl ?_
    refine gf7_44 F kdc_25 dX7_toldCourse_8 ?_
    refine z_aload_n (q := 0) F dX7_toldCourse_11 rfl rfl ?_
    refine gf7_16 F kdc_25 dX7_toldCourse_12 ?_
    refine z_aload_n (q := 0) F dX7_toldCourse_15 rfl rfl ?_
    refine gf7_30 F kdc_25 dX7_toldCourse_16 ?_
    refine z_bipush (v := 39) F dX7_toldCourse_19 rfl ?_
    obtain ⟨r2, σ2, hq2, h⟩ := bd_of h
    refine cl7_267 F kdc_48 kdc_26 kdc_32 hq2 ⟨Nat.le_of_ble_eq_true rfl, Nat.le_of_ble_eq_true rfl⟩ dX7_toldCourse_21 (Nat.le_of_ble_eq_true rfl) ?_
    refine z_aload_n (q := 0) F dX7_toldCourse_24 rfl rfl ?_
    refine z_iconst (v := 0) F dX7_toldCourse_25 rfl ?_
    refine pf7_48 F kdc_25 (by first | exact Or.inl rfl | exact Or.inr rfl) dX7_toldCourse_26 ?_
    refine z_let h (fun σ3 h => ?_)
    refine z_aload_n (q := 0) F dX7_toldCourse_29 rfl rfl ?_
    refine gf7_44 F kdc_25 dX7_toldCourse_30 ?_
    exact z_aret F h dX7_toldCourse_33
theorem ct7_toldCourse {r : Nat} {σ : St} (h : M7_toldCourse σ = some (r, σ')) : Met l yX7_toldCourse (wsY yX7_toldCourse cX7_toldCourse 1 (some (.object "HoleBank$Course"))) (rmL 3) (PcW g a [.ref (a 25)] σ) (QrW g a r σ') 0 0 (Ad a) :=
  ct_R (by decide) (Nat.le_of_ble_eq_true rfl) (fun p e s m args below meth c F => zM7_toldCourse F h)
theorem cl7_159 {r : Nat} (F : Fx p s m args meth c cc nL RX7 rt R cz sz g a) (h : M7_toldCourse σ = some (r, σ1)) (hR : 3 + 1 ≤ R.frames ∧ 8 + (1 + 11) + 34 * 3 ≤ R.locals) (d : decode cc pc = .ok (.invokevirtual 159, 3)) (hrm : (rest.map fun v => v.category).sum ≤ 8) (z : Z p l e R s m args below meth c Q nL g a cz sz σ1 (pc + 3) lv (.ref (a r) :: rest)) : Z p l e R s m args below meth c Q nL g a cz sz σ pc lv (.ref (a 25) :: rest) :=
  z_callVR (nA := 0) (As := []) F (ct7_toldCourse h) ⟨(tbm 481 (by decide +kernel) rfl), (tbm 483 (by decide +kernel) rfl), (tbs 15 (by decide +kernel) rfl), (tbm 1 (by decide +kernel) rfl), (tbm 484 (by decide +kernel) rfl)⟩ (by decide +kernel) rfl kdc_25 (by decide) rfl rfl rfl hR d rfl hrm z
theorem zM7_behind {r : Int32} {x1 : Int32} {x2 : Int32} {σ : St} (F : Fx p s m args meth c cX7_behind 4 RX7 (some .int) (rmL 4) 0 0 g a) (h : M7_behind x1 x2 σ = some (r, σ')) : Z p l e (rmL 4) s m args below meth c (MQ below (QiW g a r σ') args s 0 0 (Ad a)) 4 g a 0 0 σ 0 [(0, .ref (a 25)), (1, .int x1), (2, .int x2)] [] := by
  unfold M7_behind at h
  refine z_iload_n (q := 1) F dX7_behind_0 rfl rfl ?_
  refine z_bipush (v := 40) F dX7_behind_1 rfl ?_
  obtain ⟨r1, σ1, hq1, h⟩ := bd_of h
  refine cl7_83 F hq1 ⟨Nat.le_of_ble_eq_true rfl, Nat.le_of_ble_eq_true rfl⟩ dX7_behind_3 (Nat.le_of_ble_eq_true rfl) ?_
  refine z_if_eq (tgt := 17) F dX7_behind_6 rfl (fun c2 => ?_) (fun c2 => ?_)
  · have h := ite_T c2 h
    refine z_bipush (v := (-2)) F dX7_behind_17 rfl ?_
    exact z_iret F h dX7_behind_19
  · have h := ite_F c2 h
    refine z_iload_n (q := 2) F dX7_behind_9 rfl rfl ?_
    refine z_iconst (v := 2) F dX7_behind_10 rfl ?_
    obtain ⟨r3, σ3, hq3, h⟩ := bd_of h
    refine cl7_83 F hq3 ⟨Nat.le_of_ble_eq_true rfl, Nat.le_of_ble_eq_true rfl⟩ dX7_behind_11 (Nat.le_of_ble_eq_true rfl) ?_
    refine z_if_ne (tgt := 20) F dX7_behind_14 rfl (fun c4 => ?_) (fun c4 => ?_)
    · have h := ite_F c4 h
      refine z_aload_n (q := 0) F dX7_behind_20 rfl rfl ?_
      obtain ⟨r5, σ5, hq5, h⟩ := bd_of h
      obtain ⟨g6, h⟩ := gd_of h
      refine cl7_159 F hq5 ⟨Nat.le_of_ble_eq_true rfl, Nat.le_of_ble_eq_true rfl⟩ dX7_behind_21 (Nat.le_of_ble_eq_true rfl) ?_
      refine z_astore_n (lv' := [(3, .ref (a r5)), (0, .ref (a 25)), (1, .int x1), (2, .int x2)]) F dX7_behind_24 rfl (by decide) rfl ?_
      refine z_iload_n (q := 3) F dX7_behind_25 rfl rfl ?_
      refine z_if_ne (tgt := 37) F dX7_behind_26 rfl (fun c7 => ?_) (fun c7 => ?_)
      · have h := ite_F c7 h
        refine z_aload_n (q := 0) F dX7_behind_37 rfl rfl ?_
        refine gf7_178 F g6 dX7_behind_38 ?_
        refine z_iload_n (q := 2) F dX7_behind_41 rfl rfl ?_
        obtain ⟨g8, h⟩ := gd_of h
        refine z_iald F (kf_1_5 g6) (inl (lf_1_5 g6) g8) dX7_behind_42 ?_
        exact z_iret F h dX7_behind_43
      · have h := ite_T c7 h
        refine z_aload_n (q := 0) F dX7_behind_29 rfl rfl ?_
        refine z_iload_n (q := 2) F dX7_behind_30 rfl rfl ?_
        obtain ⟨r9, σ9, hq9, h⟩ := bd_of h
        refine cl7_175 F g6 hq9 ⟨Nat.le_of_ble_eq_true rfl, Nat.le_of_ble_eq_true rfl⟩ dX7_behind_31 (Nat.le_of_ble_eq_true rfl) ?_
        refine z_goto (tgt := 43) F dX7_behind_34 rfl ?_
        exact z_iret F h dX7_behind_43
    · have h := ite_T c4 h
      refine z_bipush (v := (-2)) F dX7_behind_17 rfl ?_
      exact z_iret F h dX7_behind_19
theorem ct7_behind {r : Int32} {x1 : Int32} {x2 : Int32} {σ : St} (h : M7_behind x1 x2 σ = some (r, σ')) : Met l yX7_behind (wsY yX7_behind cX7_behind 4 (some .int)) (rmL 4) (PcW g a [.ref (a 25), .int x1, .int x2] σ) (QiW g a r σ') 0 0 (Ad a) :=
  ct_I (by decide) (Nat.le_of_ble_eq_true rfl) (fun p e s m args below meth c F => zM7_behind F h)
theorem cl7_359 {r : Int32} {x1 : Int32} {x2 : Int32} (F : Fx p s m args meth c cc nL RX7 rt R cz sz g a) (h : M7_behind x1 x2 σ = some (r, σ1)) (hR : 4 + 1 ≤ R.frames ∧ 8 + (4 + 11) + 34 * 4 ≤ R.locals) (d : decode cc pc = .ok (.invokevirtual 359, 3)) (hrm : (rest.map fun v => v.category).sum ≤ 8) (z : Z p l e R s m args below meth c Q nL g a cz sz σ1 (pc + 3) lv (.int r :: rest)) : Z p l e R s m args below meth c Q nL g a cz sz σ pc lv (.int x2 :: .int x1 :: .ref (a 25) :: rest) :=
  z_callVI (nA := 2) (As := [.int x1, .int x2]) F (ct7_behind h) ⟨(tbm 796 (by decide +kernel) rfl), (tbm 552 (by decide +kernel) rfl), (tbm 553 (by decide +kernel) rfl), (tbm 1 (by decide +kernel) rfl), (tbm 554 (by decide +kernel) rfl)⟩ (by decide +kernel) rfl kdc_25 (by decide) rfl rfl rfl hR d rfl hrm z
theorem zM7_suits_J42 {r : Int32} {x1 : Int32} {x3 : Int32} {x4 : Int32} {x6 : Int32} {σ : St} (F : Fx p s m args meth c cX7_suits 7 RX7 (some .boolean) (rmL 1) 0 0 g a) (h : M7_suits_J42 x1 x3 x4 x6 σ = some (r, σ')) : Z p l e (rmL 1) s m args below meth c (MQ below (QiW g a r σ') args s 0 0 (Ad a)) 7 g a 0 0 σ 42 [(0, .ref (a 25)), (1, .int x1), (3, .int x3), (4, .int x4), (6, .int x6)] [] := by
  unfold M7_suits_J42 at h
  refine z_iload_n (q := 2) F dX7_suits_42 rfl rfl ?_
  refine z_iload (q := 4) F dX7_suits_43 rfl ?_
  refine z_icmp_lt (tgt := 77) F dX7_suits_45 rfl (fun c4 => ?_) (fun c4 => ?_)
  · have h := ite_T c4 h
    refine z_iconst (v := 0) F dX7_suits_77 rfl ?_
    exact z_bret F (by first | exact Or.inl rfl | exact Or.inr rfl) h dX7_suits_78
  · have h := ite_F c4 h
    refine z_iload_n (q := 2) F dX7_suits_48 rfl rfl ?_
    refine z_iload (q := 4) F dX7_suits_49 rfl ?_
    refine z_aload_n (q := 0) F dX7_suits_51 rfl rfl ?_
    refine gf7_75 F kdc_25 dX7_suits_52 ?_
    refine z_iadd F dX7_suits_55 ?_
    refine z_icmp_gt (tgt := 77) F dX7_suits_56 rfl (fun c5 => ?_) (fun c5 => ?_)
    · have h := ite_T c5 h
      refine z_iconst (v := 0) F dX7_suits_77 rfl ?_
      exact z_bret F (by first | exact Or.inl rfl | exact Or.inr rfl) h dX7_suits_78
    · have h := ite_F c5 h
      refine z_iload (q := 3) F dX7_suits_59 rfl ?_
      refine z_aload_n (q := 0) F dX7_suits_61 rfl rfl ?_
      refine gf7_22 F kdc_25 dX7_suits_62 ?_
      refine z_iload_n (q := 1) F dX7_suits_65 rfl rfl ?_
      refine z_iconst (v := 2) F dX7_suits_66 rfl ?_
      obtain ⟨r6, σ6, hq6, h⟩ := bd_of h
      refine cl7_108 F kdc_29 hq6 ⟨Nat.le_of_ble_eq_true rfl, Nat.le_of_ble_eq_true rfl⟩ dX7_suits_67 (Nat.le_of_ble_eq_true rfl) ?_
      refine z_icmp_lt (tgt := 77) F dX7_suits_70 rfl (fun c7 => ?_) (fun c7 => ?_)
      · try simp only [if_pos c7] at h
        refine z_iconst (v := 0) F dX7_suits_77 rfl ?_
        exact z_bret F (by first | exact Or.inl rfl | exact Or.inr rfl) h dX7_suits_78
      · try simp only [if_neg c7] at h
        refine z_iconst (v := 1) F dX7_suits_73 rfl ?_
        refine z_goto (tgt := 78) F dX7_suits_74 rfl ?_
        exact z_bret F (by first | exact Or.inl rfl | exact Or.inr rfl) h dX7_suits_78
theorem zM7_suits {r : Int32} {x1 : Int32} {x2 : Int32} {x3 : Int32} {x4 : Int32} {σ : St} (F : Fx p s m args meth c cX7_suits 7 RX7 (some .boolean) (rmL 1) 0 0 g a) (h : M7_suits x1 x2 x3 x4 σ = some (r, σ')) : Z p l e (rmL 1) s m args below meth c (MQ below (QiW g a r σ') args s 0 0 (Ad a)) 7 g a 0 0 σ 0 [(0, .ref (a 25)), (1, .int x1), (2, .int x2), (3, .int x3), (4, .int x4)] [] := by
  unfold M7_suits at h
  refine z_aload_n (q := 0) F dX7_suits_0 rfl rfl ?_
  refine gf7_22 F kdc_25 dX7_suits_1 ?_
  refine z_iload_n (q := 1) F dX7_suits_4 rfl rfl ?_
  refine z_iconst (v := 0) F dX7_suits_5 rfl ?_
  obtain ⟨r1, σ1, hq1, h⟩ := bd_of h
  refine cl7_108 F kdc_29 hq1 ⟨Nat.le_of_ble_eq_true rfl, Nat.le_of_ble_eq_true rfl⟩ dX7_suits_6 (Nat.le_of_ble_eq_true rfl) ?_
  refine z_istore (lv' := [(5, .int r1), (0, .ref (a 25)), (1, .int x1), (2, .int x2), (3, .int x3), (4, .int x4)]) F dX7_suits_9 (by decide) rfl ?_
  refine z_aload_n (q := 1) F dX7_suits_11 rfl rfl ?_
  refine gf7_22 F kdc_25 dX7_suits_12 ?_
  refine z_iload_n (q := 2) F dX7_suits_15 rfl rfl ?_
  refine z_iconst (v := 1) F dX7_suits_16 rfl ?_
  obtain ⟨r2, σ2, hq2, h⟩ := bd_of h
  refine cl7_108 F kdc_29 hq2 ⟨Nat.le_of_ble_eq_true rfl, Nat.le_of_ble_eq_true rfl⟩ dX7_suits_17 (Nat.le_of_ble_eq_true rfl) ?_
  refine z_istore (lv' := [(6, .int r2), (5, .int r1), (0, .ref (a 25)), (1, .int x1), (2, .int x2), (3, .int x3), (4, .int x4)]) F dX7_suits_20 (by decide) rfl ?_
  refine z_iload (q := 1) F dX7_suits_22 rfl ?_
  refine z_iconst (v := 3) F dX7_suits_24 rfl ?_
  refine z_icmp_eq (tgt := 42) F dX7_suits_25 rfl (fun c3 => ?_) (fun c3 => ?_)
  · have h := ite_T c3 h
    refine z_sub (lv' := [(0, .ref (a 25)), (1, .int x1), (3, .int x3), (4, .int x4), (6, .int r2)]) [2, 3, 5, 6, 0] rfl ?_
    exact zM7_suits_J42 F h
  · have h := ite_F c3 h
    refine z_iload (q := 1) F dX7_suits_28 rfl ?_
    refine z_aload_n (q := 2) F dX7_suits_30 rfl rfl ?_
    refine gf7_16 F kdc_25 dX7_suits_31 ?_
    refine z_iload_n (q := 4) F dX7_suits_34 rfl rfl ?_
    refine z_iconst (v := 0) F dX7_suits_35 rfl ?_
    obtain ⟨r8, σ8, hq8, h⟩ := bd_of h
    refine cl7_108 F kdc_26 hq8 ⟨Nat.le_of_ble_eq_true rfl, Nat.le_of_ble_eq_true rfl⟩ dX7_suits_36 (Nat.le_of_ble_eq_true rfl) ?_
    refine z_icmp_ne (tgt := 77) F dX7_suits_39 rfl (fun c9 => ?_) (fun c9 => ?_)
    · have h := ite_F c9 h
      refine z_iconst (v := 0) F dX7_suits_77 rfl ?_
      exact z_bret F (by first | exact Or.inl rfl | exact Or.inr rfl) h dX7_suits_78
    · have h := ite_T c9 h
      refine z_sub (lv' := [(0, .ref (a 25)), (1, .int x1), (3, .int x3), (4, .int x4), (6, .int r2)]) [2, 3, 5, 6, 0] rfl ?_
      exact zM7_suits_J42 F h
theorem ct7_suits {r : Int32} {x1 : Int32} {x2 : Int32} {x3 : Int32} {x4 : Int32} {σ : St} (h : M7_suits x1 x2 x3 x4 σ = some (r, σ')) : Met l yX7_suits (wsY yX7_suits cX7_suits 7 (some .boolean)) (rmL 1) (PcW g a [.ref (a 25), .int x1, .int x2, .int x3, .int x4] σ) (QiW g a r σ') 0 0 (Ad a) :=
  ct_I (by decide) (Nat.le_of_ble_eq_true rfl) (fun p e s m args below meth c F => zM7_suits F h)
theorem cl7_193 {r : Int32} {x1 : Int32} {x2 : Int32} {x3 : Int32} {x4 : Int32} (F : Fx p s m args meth c cc nL RX7 rt R cz sz g a) (h : M7_suits x1 x2 x3 x4 σ = some (r, σ1)) (hR : 1 + 1 ≤ R.frames ∧ 8 + (7 + 11) + 34 * 1 ≤ R.locals) (d : decode cc pc = .ok (.invokevirtual 193, 3)) (hrm : (rest.map fun v => v.category).sum ≤ 8) (z : Z p l e R s m args below meth c Q nL g a cz sz σ1 (pc + 3) lv (.int r :: rest)) : Z p l e R s m args below meth c Q nL g a cz sz σ pc lv (.int x4 :: .int x3 :: .int x2 :: .int x1 :: .ref (a 25) :: rest) :=
  z_callVI (nA := 4) (As := [.int x1, .int x2, .int x3, .int x4]) F (ct7_suits h) ⟨(tbm 578 (by decide +kernel) rfl), (tbm 580 (by decide +kernel) rfl), (tbs 32 (by decide +kernel) rfl), (tbm 1 (by decide +kernel) rfl), (tbm 581 (by decide +kernel) rfl)⟩ (by decide +kernel) rfl kdc_25 (by decide) rfl rfl rfl hR d rfl hrm z
theorem zM7_mostWorth_J89 {r : Int32} {o1 : Nat} {x2 : Int32} {x3 : Int32} {x4 : Int32} {x5 : Int32} {σ : St} (F : Fx p s m args meth c cX7_mostWorth 6 RX7 (some .int) (rmL 3) 0 0 g a) (ko1 : kd o1 = 1) {kb : Int32 → Int32 → St → Option (Int32 × St)} (hb : ∀ (w4 : Int32) (w5 : Int32) (σ : St), kb w4 w5 σ = some (r, σ') → Z p l e (rmL 3) s m args below meth c (MQ below (QiW g a r σ') args s 0 0 (Ad a)) 6 g a 0 0 σ 33 [(0, .ref (a 25)), (1, .ref (a o1)), (2, .int x2), (3, .int x3), (4, .int w4), (5, .int w5)] []) (h : M7_mostWorth_J89 kb o1 x2 x3 x4 x5 σ = some (r, σ')) : Z p l e (rmL 3) s m args below meth c (MQ below (QiW g a r σ') args s 0 0 (Ad a)) 6 g a 0 0 σ 89 [(0, .ref (a 25)), (1, .ref (a o1)), (2, .int x2), (3, .int x3), (4, .int x4), (5, .int x5)] [] := by
  unfold M7_mostWorth_J89 at h
  refine z_iinc (q := 5) (v := x5 + 1) (lv' := [(5, .int (x5 + 1)), (0, .ref (a 25)), (1, .ref (a o1)), (2, .int x2), (3, .int x3), (4, .int x4)]) F dX7_mostWorth_89 rfl rfl (by decide) rfl ?_
  refine z_letL (s0 := 5) (lv := [(0, .ref (a 25)), (1, .ref (a o1)), (2, .int x2), (3, .int x3), (4, .int x4)]) h (fun v6 h => ?_)
  refine z_goto (tgt := 33) F dX7_mostWorth_92 rfl ?_
  refine z_sub (lv' := [(0, .ref (a 25)), (1, .ref (a o1)), (2, .int x2), (3, .int x3), (4, .int x4), (5, .int v6)]) [1, 2, 3, 4, 5, 0] rfl ?_
  exact hb _ _ _ h
theorem zM7_mostWorth_L33 {r : Int32} {o1 : Nat} {x2 : Int32} {x3 : Int32} (F : Fx p s m args meth c cX7_mostWorth 6 RX7 (some .int) (rmL 3) 0 0 g a) (ko1 : kd o1 = 1) {kx : Int32 → St → Option (Int32 × St)} (hx : ∀ (w4 : Int32) (σ : St), kx w4 σ = some (r, σ') → Z p l e (rmL 3) s m args below meth c (MQ below (QiW g a r σ') args s 0 0 (Ad a)) 6 g a 0 0 σ 95 [(0, .ref (a 25)), (1, .ref (a o1)), (2, .int x2), (3, .int x3), (4, .int w4)] []) : ∀ (n : Nat) (x4 : Int32) (x5 : Int32) (σ : St), M7_mostWorth_L33 o1 x2 x3 kx n x4 x5 σ = some (r, σ') → Z p l e (rmL 3) s m args below meth c (MQ below (QiW g a r σ') args s 0 0 (Ad a)) 6 g a 0 0 σ 33 [(0, .ref (a 25)), (1, .ref (a o1)), (2, .int x2), (3, .int x3), (4, .int x4), (5, .int x5)] [] := by
  intro n
  induction n with
  | zero => intro x4 x5 σ h; rw [M7_mostWorth_L33] at h; cases h
  | succ n ih =>
    intro x4 x5 σ h
    rw [M7_mostWorth_L33] at h
    refine z_iload (q := 5) F dX7_mostWorth_33 rfl ?_
    refine z_aload_n (q := 0) F dX7_mostWorth_35 rfl rfl ?_
    refine gf7_16 F kdc_25 dX7_mostWorth_36 ?_
    refine gf7_190 F kdc_26 dX7_mostWorth_39 ?_
    refine z_icmp_ge (tgt := 95) F dX7_mostWorth_42 rfl (fun c3 => ?_) (fun c3 => ?_)
    · have h := ite_T c3 h
      refine z_sub (lv' := [(0, .ref (a 25)), (1, .ref (a o1)), (2, .int x2), (3, .int x3), (4, .int x4)]) [0, 1, 2, 3, 4] rfl ?_
      exact hx _ _ h
    · have h := ite_F c3 h
      refine z_aload_n (q := 1) F dX7_mostWorth_45 rfl rfl ?_
      refine z_iload_n (q := 2) F dX7_mostWorth_46 rfl rfl ?_
      refine z_iload (q := 5) F dX7_mostWorth_47 rfl ?_
      obtain ⟨r4, σ4, hq4, h⟩ := bd_of h
      refine cl7_169 F ko1 hq4 ⟨Nat.le_of_ble_eq_true rfl, Nat.le_of_ble_eq_true rfl⟩ dX7_mostWorth_49 (Nat.le_of_ble_eq_true rfl) ?_
      refine z_iconst (v := (-1)) F dX7_mostWorth_52 rfl ?_
      refine z_icmp_ne (tgt := 89) F dX7_mostWorth_53 rfl (fun c5 => ?_) (fun c5 => ?_)
      · have h := ite_F c5 h
        refine z_sub (lv' := [(0, .ref (a 25)), (1, .ref (a o1)), (2, .int x2), (3, .int x3), (4, .int x4), (5, .int x5)]) [0, 1, 2, 3, 4, 5] rfl ?_
        exact zM7_mostWorth_J89 F ko1 ih h
      · have h := ite_T c5 h
        refine z_aload_n (q := 0) F dX7_mostWorth_56 rfl rfl ?_
        refine z_iload_n (q := 3) F dX7_mostWorth_57 rfl rfl ?_
        refine z_iload (q := 5) F dX7_mostWorth_58 rfl ?_
        refine z_aload_n (q := 1) F dX7_mostWorth_60 rfl rfl ?_
        refine z_iload_n (q := 2) F dX7_mostWorth_61 rfl rfl ?_
        refine z_iload (q := 5) F dX7_mostWorth_62 rfl ?_
        obtain ⟨r7, σ7, hq7, h⟩ := bd_of h
        refine cl7_163 F ko1 hq7 ⟨Nat.le_of_ble_eq_true rfl, Nat.le_of_ble_eq_true rfl⟩ dX7_mostWorth_64 (Nat.le_of_ble_eq_true rfl) ?_
        refine z_aload_n (q := 1) F dX7_mostWorth_67 rfl rfl ?_
        refine z_iload_n (q := 2) F dX7_mostWorth_68 rfl rfl ?_
        refine z_iload (q := 5) F dX7_mostWorth_69 rfl ?_
        obtain ⟨r8, σ8, hq8, h⟩ := bd_of h
        refine cl7_166 F ko1 hq8 ⟨Nat.le_of_ble_eq_true rfl, Nat.le_of_ble_eq_true rfl⟩ dX7_mostWorth_71 (Nat.le_of_ble_eq_true rfl) ?_
        obtain ⟨r9, σ9, hq9, h⟩ := bd_of h
        refine cl7_193 F hq9 ⟨Nat.le_of_ble_eq_true rfl, Nat.le_of_ble_eq_true rfl⟩ dX7_mostWorth_74 (Nat.le_of_ble_eq_true rfl) ?_
        refine z_if_eq (tgt := 89) F dX7_mostWorth_77 rfl (fun c10 => ?_) (fun c10 => ?_)
        · have h := ite_T c10 h
          refine z_sub (lv' := [(0, .ref (a 25)), (1, .ref (a o1)), (2, .int x2), (3, .int x3), (4, .int x4), (5, .int x5)]) [0, 1, 2, 3, 4, 5] rfl ?_
          exact zM7_mostWorth_J89 F ko1 ih h
        · have h := ite_F c10 h
          refine z_iload (q := 4) F dX7_mostWorth_80 rfl ?_
          refine z_iconst (v := 1) F dX7_mostWorth_82 rfl ?_
          refine z_iload (q := 5) F dX7_mostWorth_83 rfl ?_
          refine z_ishl F dX7_mostWorth_85 ?_
          refine z_ior F dX7_mostWorth_86 ?_
          refine z_letI h (fun v11 h => ?_)
          refine z_istore (lv' := [(4, .int v11), (0, .ref (a 25)), (1, .ref (a o1)), (2, .int x2), (3, .int x3), (5, .int x5)]) F dX7_mostWorth_87 (by decide) rfl ?_
          refine z_sub (lv' := [(0, .ref (a 25)), (1, .ref (a o1)), (2, .int x2), (3, .int x3), (4, .int v11), (5, .int x5)]) [1, 2, 3, 4, 0, 5] rfl ?_
          exact zM7_mostWorth_J89 F ko1 ih h
theorem zM7_mostWorth_L16 {r : Int32} {o1 : Nat} {x2 : Int32} (F : Fx p s m args meth c cX7_mostWorth 6 RX7 (some .int) (rmL 3) 0 0 g a) (ko1 : kd o1 = 1) {kx : St → Option (Int32 × St)} (hx : ∀ (σ : St), kx σ = some (r, σ') → Z p l e (rmL 3) s m args below meth c (MQ below (QiW g a r σ') args s 0 0 (Ad a)) 6 g a 0 0 σ 120 [(0, .ref (a 25))] []) : ∀ (n : Nat) (x3 : Int32) (σ : St), M7_mostWorth_L16 o1 x2 kx n x3 σ = some (r, σ') → Z p l e (rmL 3) s m args below meth c (MQ below (QiW g a r σ') args s 0 0 (Ad a)) 6 g a 0 0 σ 16 [(0, .ref (a 25)), (1, .ref (a o1)), (2, .int x2), (3, .int x3)] [] := by
  intro n
  induction n with
  | zero => intro x3 σ h; rw [M7_mostWorth_L16] at h; cases h
  | succ n ih =>
    intro x3 σ h
    rw [M7_mostWorth_L16] at h
    refine z_iload_n (q := 3) F dX7_mostWorth_16 rfl rfl ?_
    refine z_aload_n (q := 0) F dX7_mostWorth_17 rfl rfl ?_
    refine gf7_22 F kdc_25 dX7_mostWorth_18 ?_
    refine gf7_190 F kdc_29 dX7_mostWorth_21 ?_
    refine z_icmp_ge (tgt := 120) F dX7_mostWorth_24 rfl (fun c2 => ?_) (fun c2 => ?_)
    · have h := ite_T c2 h
      refine z_sub (lv' := [(0, .ref (a 25))]) [0] rfl ?_
      exact hx _ h
    · have h := ite_F c2 h
      refine z_iconst (v := 0) F dX7_mostWorth_27 rfl ?_
      refine z_istore (lv' := [(4, .int 0), (0, .ref (a 25)), (1, .ref (a o1)), (2, .int x2), (3, .int x3)]) F dX7_mostWorth_28 (by decide) rfl ?_
      refine z_iconst (v := 0) F dX7_mostWorth_30 rfl ?_
      refine z_istore (lv' := [(5, .int 0), (4, .int 0), (0, .ref (a 25)), (1, .ref (a o1)), (2, .int x2), (3, .int x3)]) F dX7_mostWorth_31 (by decide) rfl ?_
      refine z_sub (lv' := [(0, .ref (a 25)), (1, .ref (a o1)), (2, .int x2), (3, .int x3), (4, .int 0), (5, .int 0)]) [2, 3, 4, 5, 1, 0] rfl ?_
      refine zM7_mostWorth_L33 F ko1 ?_ _ _ _ _ h
      intro v12 σ13 h
      refine z_aload_n (q := 0) F dX7_mostWorth_95 rfl rfl ?_
      refine gf7_61 F kdc_25 dX7_mostWorth_96 ?_
      refine z_iload_n (q := 3) F dX7_mostWorth_99 rfl rfl ?_
      refine z_aload_n (q := 0) F dX7_mostWorth_100 rfl rfl ?_
      refine gf7_22 F kdc_25 dX7_mostWorth_101 ?_
      refine z_iload_n (q := 3) F dX7_mostWorth_104 rfl rfl ?_
      refine z_iconst (v := 3) F dX7_mostWorth_105 rfl ?_
      obtain ⟨r14, σ14, hq14, h⟩ := bd_of h
      refine cl7_108 F kdc_29 hq14 ⟨Nat.le_of_ble_eq_true rfl, Nat.le_of_ble_eq_true rfl⟩ dX7_mostWorth_106 (Nat.le_of_ble_eq_true rfl) ?_
      refine z_iload (q := 4) F dX7_mostWorth_109 rfl ?_
      obtain ⟨r15, σ15, hq15, h⟩ := bd_of h
      refine cl7_373 F kdc_84 hq15 ⟨Nat.le_of_ble_eq_true rfl, Nat.le_of_ble_eq_true rfl⟩ dX7_mostWorth_111 (Nat.le_of_ble_eq_true rfl) ?_
      refine z_iinc (q := 3) (v := x3 + 1) (lv' := [(3, .int (x3 + 1)), (0, .ref (a 25)), (1, .ref (a o1)), (2, .int x2), (4, .int v12)]) F dX7_mostWorth_114 rfl rfl (by decide) rfl ?_
      refine z_letL (s0 := 3) (lv := [(0, .ref (a 25)), (1, .ref (a o1)), (2, .int x2), (4, .int v12)]) h (fun v16 h => ?_)
      refine z_goto (tgt := 16) F dX7_mostWorth_117 rfl ?_
      refine z_sub (lv' := [(0, .ref (a 25)), (1, .ref (a o1)), (2, .int x2), (3, .int v16)]) [1, 2, 3, 0] rfl ?_
      exact ih _ _ h
theorem zM7_mostWorth {r : Int32} {o1 : Nat} {x2 : Int32} {σ : St} (F : Fx p s m args meth c cX7_mostWorth 6 RX7 (some .int) (rmL 3) 0 0 g a) (ko1 : kd o1 = 1) (h : M7_mostWorth o1 x2 σ = some (r, σ')) : Z p l e (rmL 3) s m args below meth c (MQ below (QiW g a r σ') args s 0 0 (Ad a)) 6 g a 0 0 σ 0 [(0, .ref (a 25)), (1, .ref (a o1)), (2, .int x2)] [] := by
  unfold M7_mostWorth at h
  refine z_aload_n (q := 0) F dX7_mostWorth_0 rfl rfl ?_
  refine gf7_61 F kdc_25 dX7_mostWorth_1 ?_
  refine z_aload_n (q := 0) F dX7_mostWorth_4 rfl rfl ?_
  refine gf7_22 F kdc_25 dX7_mostWorth_5 ?_
  refine gf7_190 F kdc_29 dX7_mostWorth_8 ?_
  obtain ⟨r1, σ1, hq1, h⟩ := bd_of h
  refine cl7_371 F kdc_84 hq1 ⟨Nat.le_of_ble_eq_true rfl, Nat.le_of_ble_eq_true rfl⟩ dX7_mostWorth_11 (Nat.le_of_ble_eq_true rfl) ?_
  refine z_iconst (v := 0) F dX7_mostWorth_14 rfl ?_
  refine z_istore_n (lv' := [(3, .int 0), (0, .ref (a 25)), (1, .ref (a o1)), (2, .int x2)]) F dX7_mostWorth_15 rfl (by decide) rfl ?_
  refine z_sub (lv' := [(0, .ref (a 25)), (1, .ref (a o1)), (2, .int x2), (3, .int 0)]) [1, 2, 3, 0] rfl ?_
  refine zM7_mostWorth_L16 F ko1 ?_ _ _ _ h
  intro σ17 h
  refine z_aload_n (q := 0) F dX7_mostWorth_120 rfl rfl ?_
  refine gf7_61 F kdc_25 dX7_mostWorth_121 ?_
  obtain ⟨r18, σ18, hq18, h⟩ := bd_of h
  refine cl7_377 F kdc_84 hq18 ⟨Nat.le_of_ble_eq_true rfl, Nat.le_of_ble_eq_true rfl⟩ dX7_mostWorth_124 (Nat.le_of_ble_eq_true rfl) ?_
  exact z_iret F h dX7_mostWorth_127
theorem ct7_mostWorth {r : Int32} {o1 : Nat} {x2 : Int32} {σ : St} (ko1 : kd o1 = 1) (h : M7_mostWorth o1 x2 σ = some (r, σ')) : Met l yX7_mostWorth (wsY yX7_mostWorth cX7_mostWorth 6 (some .int)) (rmL 3) (PcW g a [.ref (a 25), .ref (a o1), .int x2] σ) (QiW g a r σ') 0 0 (Ad a) :=
  ct_I (by decide) (Nat.le_of_ble_eq_true rfl) (fun p e s m args below meth c F => zM7_mostWorth F ko1 h)
theorem cl7_196 {r : Int32} {o1 : Nat} {x2 : Int32} (F : Fx p s m args meth c cc nL RX7 rt R cz sz g a) (ko1 : kd o1 = 1) (h : M7_mostWorth o1 x2 σ = some (r, σ1)) (hR : 3 + 1 ≤ R.frames ∧ 8 + (6 + 11) + 34 * 3 ≤ R.locals) (d : decode cc pc = .ok (.invokevirtual 196, 3)) (hrm : (rest.map fun v => v.category).sum ≤ 8) (z : Z p l e R s m args below meth c Q nL g a cz sz σ1 (pc + 3) lv (.int r :: rest)) : Z p l e R s m args below meth c Q nL g a cz sz σ pc lv (.int x2 :: .ref (a o1) :: .ref (a 25) :: rest) :=
  z_callVI (nA := 2) (As := [.ref (a o1), .int x2]) F (ct7_mostWorth ko1 h) ⟨(tbm 586 (by decide +kernel) rfl), (tbm 588 (by decide +kernel) rfl), (tbs 33 (by decide +kernel) rfl), (tbm 1 (by decide +kernel) rfl), (tbm 589 (by decide +kernel) rfl)⟩ (by decide +kernel) rfl kdc_25 (by decide) rfl rfl rfl hR d rfl hrm z
theorem zM7_best_J26 {r : Int32} {x1 : Int32} {x2 : Int32} {σ : St} (F : Fx p s m args meth c cX7_best 4 RX7 (some .int) (rmL 4) 0 0 g a) (h : M7_best_J26 x1 x2 σ = some (r, σ')) : Z p l e (rmL 4) s m args below meth c (MQ below (QiW g a r σ') args s 0 0 (Ad a)) 4 g a 0 0 σ 26 [(0, .ref (a 25)), (1, .int x1), (2, .int x2)] [] := by
  unfold M7_best_J26 at h
  refine z_aload_n (q := 0) F dX7_best_26 rfl rfl ?_
  refine z_aload_n (q := 0) F dX7_best_27 rfl rfl ?_
  obtain ⟨r4, σ4, hq4, h⟩ := bd_of h
  obtain ⟨g5, h⟩ := gd_of h
  refine cl7_159 F hq4 ⟨Nat.le_of_ble_eq_true rfl, Nat.le_of_ble_eq_true rfl⟩ dX7_best_28 (Nat.le_of_ble_eq_true rfl) ?_
  refine z_iload_n (q := 1) F dX7_best_31 rfl rfl ?_
  obtain ⟨r6, σ6, hq6, h⟩ := bd_of h
  refine cl7_196 F g5 hq6 ⟨Nat.le_of_ble_eq_true rfl, Nat.le_of_ble_eq_true rfl⟩ dX7_best_32 (Nat.le_of_ble_eq_true rfl) ?_
  refine z_istore_n (lv' := [(3, .int r6), (0, .ref (a 25)), (1, .int x1), (2, .int x2)]) F dX7_best_35 rfl (by decide) rfl ?_
  refine z_iload_n (q := 3) F dX7_best_36 rfl rfl ?_
  refine z_iconst (v := (-1)) F dX7_best_37 rfl ?_
  refine z_icmp_ne (tgt := 45) F dX7_best_38 rfl (fun c7 => ?_) (fun c7 => ?_)
  · have h := ite_F c7 h
    refine z_aload_n (q := 1) F dX7_best_45 rfl rfl ?_
    refine gf7_61 F kdc_25 dX7_best_46 ?_
    refine z_iload_n (q := 3) F dX7_best_49 rfl rfl ?_
    obtain ⟨r8, σ8, hq8, h⟩ := bd_of h
    refine cl7_200 F kdc_84 hq8 ⟨Nat.le_of_ble_eq_true rfl, Nat.le_of_ble_eq_true rfl⟩ dX7_best_50 (Nat.le_of_ble_eq_true rfl) ?_
    exact z_iret F h dX7_best_53
  · have h := ite_T c7 h
    refine z_iload_n (q := 0) F dX7_best_41 rfl rfl ?_
    refine z_goto (tgt := 53) F dX7_best_42 rfl ?_
    exact z_iret F h dX7_best_53
theorem zM7_best {r : Int32} {x1 : Int32} {x2 : Int32} {σ : St} (F : Fx p s m args meth c cX7_best 4 RX7 (some .int) (rmL 4) 0 0 g a) (h : M7_best x1 x2 σ = some (r, σ')) : Z p l e (rmL 4) s m args below meth c (MQ below (QiW g a r σ') args s 0 0 (Ad a)) 4 g a 0 0 σ 0 [(0, .ref (a 25)), (1, .int x1), (2, .int x2)] [] := by
  unfold M7_best at h
  refine z_iload_n (q := 1) F dX7_best_0 rfl rfl ?_
  refine z_bipush (v := 40) F dX7_best_1 rfl ?_
  obtain ⟨r1, σ1, hq1, h⟩ := bd_of h
  refine cl7_83 F hq1 ⟨Nat.le_of_ble_eq_true rfl, Nat.le_of_ble_eq_true rfl⟩ dX7_best_3 (Nat.le_of_ble_eq_true rfl) ?_
  refine z_if_eq (tgt := 23) F dX7_best_6 rfl (fun c2 => ?_) (fun c2 => ?_)
  · have h := ite_T c2 h
    refine z_bipush (v := (-2)) F dX7_best_23 rfl ?_
    exact z_iret F h dX7_best_25
  · have h := ite_F c2 h
    refine z_iload_n (q := 2) F dX7_best_9 rfl rfl ?_
    refine z_iconst (v := (-1)) F dX7_best_10 rfl ?_
    refine z_icmp_eq (tgt := 26) F dX7_best_11 rfl (fun c3 => ?_) (fun c3 => ?_)
    · have h := ite_T c3 h
      refine z_sub (lv' := [(0, .ref (a 25)), (1, .int x1), (2, .int x2)]) [0, 1, 2] rfl ?_
      exact zM7_best_J26 F h
    · have h := ite_F c3 h
      refine z_iload_n (q := 2) F dX7_best_14 rfl rfl ?_
      refine z_bipush (v := 8) F dX7_best_15 rfl ?_
      obtain ⟨r9, σ9, hq9, h⟩ := bd_of h
      refine cl7_83 F hq9 ⟨Nat.le_of_ble_eq_true rfl, Nat.le_of_ble_eq_true rfl⟩ dX7_best_17 (Nat.le_of_ble_eq_true rfl) ?_
      refine z_if_ne (tgt := 26) F dX7_best_20 rfl (fun c10 => ?_) (fun c10 => ?_)
      · have h := ite_F c10 h
        refine z_sub (lv' := [(0, .ref (a 25)), (1, .int x1), (2, .int x2)]) [0, 1, 2] rfl ?_
        exact zM7_best_J26 F h
      · have h := ite_T c10 h
        refine z_bipush (v := (-2)) F dX7_best_23 rfl ?_
        exact z_iret F h dX7_best_25
theorem ct7_best {r : Int32} {x1 : Int32} {x2 : Int32} {σ : St} (h : M7_best x1 x2 σ = some (r, σ')) : Met l yX7_best (wsY yX7_best cX7_best 4 (some .int)) (rmL 4) (PcW g a [.ref (a 25), .int x1, .int x2] σ) (QiW g a r σ') 0 0 (Ad a) :=
  ct_I (by decide) (Nat.le_of_ble_eq_true rfl) (fun p e s m args below meth c F => zM7_best F h)
theorem cl7_362 {r : Int32} {x1 : Int32} {x2 : Int32} (F : Fx p s m args meth c cc nL RX7 rt R cz sz g a) (h : M7_best x1 x2 σ = some (r, σ1)) (hR : 4 + 1 ≤ R.frames ∧ 8 + (4 + 11) + 34 * 4 ≤ R.locals) (d : decode cc pc = .ok (.invokevirtual 362, 3)) (hrm : (rest.map fun v => v.category).sum ≤ 8) (z : Z p l e R s m args below meth c Q nL g a cz sz σ1 (pc + 3) lv (.int r :: rest)) : Z p l e R s m args below meth c Q nL g a cz sz σ pc lv (.int x2 :: .int x1 :: .ref (a 25) :: rest) :=
  z_callVI (nA := 2) (As := [.int x1, .int x2]) F (ct7_best h) ⟨(tbm 797 (by decide +kernel) rfl), (tbm 583 (by decide +kernel) rfl), (tbm 584 (by decide +kernel) rfl), (tbm 1 (by decide +kernel) rfl), (tbm 585 (by decide +kernel) rfl)⟩ (by decide +kernel) rfl kdc_25 (by decide) rfl rfl rfl hR d rfl hrm z
theorem zM7_breaches_J68 {r : Int32} {x1 : Int32} {o2 : Nat} {x3 : Int32} {x4 : Int32} {σ : St} (F : Fx p s m args meth c cX7_breaches 5 RX7 (some .int) (rmL 4) 0 0 g a) (ko2 : kd o2 = 1) {kb : Int32 → Int32 → St → Option (Int32 × St)} (hb : ∀ (w3 : Int32) (w4 : Int32) (σ : St), kb w3 w4 σ = some (r, σ') → Z p l e (rmL 4) s m args below meth c (MQ below (QiW g a r σ') args s 0 0 (Ad a)) 5 g a 0 0 σ 22 [(0, .ref (a 25)), (1, .int x1), (2, .ref (a o2)), (3, .int w3), (4, .int w4)] []) (h : M7_breaches_J68 kb x1 o2 x3 x4 σ = some (r, σ')) : Z p l e (rmL 4) s m args below meth c (MQ below (QiW g a r σ') args s 0 0 (Ad a)) 5 g a 0 0 σ 68 [(0, .ref (a 25)), (1, .int x1), (2, .ref (a o2)), (3, .int x3), (4, .int x4)] [] := by
  unfold M7_breaches_J68 at h
  refine z_iinc (q := 4) (v := x4 + 1) (lv' := [(4, .int (x4 + 1)), (0, .ref (a 25)), (1, .int x1), (2, .ref (a o2)), (3, .int x3)]) F dX7_breaches_68 rfl rfl (by decide) rfl ?_
  refine z_letL (s0 := 4) (lv := [(0, .ref (a 25)), (1, .int x1), (2, .ref (a o2)), (3, .int x3)]) h (fun v8 h => ?_)
  refine z_goto (tgt := 22) F dX7_breaches_71 rfl ?_
  refine z_sub (lv' := [(0, .ref (a 25)), (1, .int x1), (2, .ref (a o2)), (3, .int x3), (4, .int v8)]) [1, 2, 3, 4, 0] rfl ?_
  exact hb _ _ _ h
theorem zM7_breaches_L22 {r : Int32} {x1 : Int32} {o2 : Nat} (F : Fx p s m args meth c cX7_breaches 5 RX7 (some .int) (rmL 4) 0 0 g a) (ko2 : kd o2 = 1) {kx : Int32 → St → Option (Int32 × St)} (hx : ∀ (w3 : Int32) (σ : St), kx w3 σ = some (r, σ') → Z p l e (rmL 4) s m args below meth c (MQ below (QiW g a r σ') args s 0 0 (Ad a)) 5 g a 0 0 σ 74 [(3, .int w3)] []) : ∀ (n : Nat) (x3 : Int32) (x4 : Int32) (σ : St), M7_breaches_L22 x1 o2 kx n x3 x4 σ = some (r, σ') → Z p l e (rmL 4) s m args below meth c (MQ below (QiW g a r σ') args s 0 0 (Ad a)) 5 g a 0 0 σ 22 [(0, .ref (a 25)), (1, .int x1), (2, .ref (a o2)), (3, .int x3), (4, .int x4)] [] := by
  intro n
  induction n with
  | zero => intro x3 x4 σ h; rw [M7_breaches_L22] at h; cases h
  | succ n ih =>
    intro x3 x4 σ h
    rw [M7_breaches_L22] at h
    refine z_iload (q := 4) F dX7_breaches_22 rfl ?_
    refine z_aload_n (q := 0) F dX7_breaches_24 rfl rfl ?_
    refine gf7_30 F kdc_25 dX7_breaches_25 ?_
    refine gf7_119 F kdc_32 dX7_breaches_28 ?_
    refine gf7_140 F kdc_33 dX7_breaches_31 ?_
    refine z_icmp_ge (tgt := 74) F dX7_breaches_34 rfl (fun c5 => ?_) (fun c5 => ?_)
    · have h := ite_T c5 h
      refine z_sub (lv' := [(3, .int x3)]) [3] rfl ?_
      exact hx _ _ h
    · have h := ite_F c5 h
      refine z_aload_n (q := 2) F dX7_breaches_37 rfl rfl ?_
      refine gf7_184 F ko2 dX7_breaches_38 ?_
      refine z_iload (q := 4) F dX7_breaches_41 rfl ?_
      obtain ⟨g6, h⟩ := gd_of h
      refine z_iald F (kf_1_7 ko2) (inl (lf_1_7 ko2) g6) dX7_breaches_43 ?_
      refine z_iconst (v := (-1)) F dX7_breaches_44 rfl ?_
      refine z_icmp_eq (tgt := 68) F dX7_breaches_45 rfl (fun c7 => ?_) (fun c7 => ?_)
      · have h := ite_T c7 h
        refine z_sub (lv' := [(0, .ref (a 25)), (1, .int x1), (2, .ref (a o2)), (3, .int x3), (4, .int x4)]) [0, 1, 2, 3, 4] rfl ?_
        exact zM7_breaches_J68 F ko2 ih h
      · have h := ite_F c7 h
        refine z_aload_n (q := 0) F dX7_breaches_48 rfl rfl ?_
        refine gf7_30 F kdc_25 dX7_breaches_49 ?_
        refine gf7_119 F kdc_32 dX7_breaches_52 ?_
        refine z_iload (q := 4) F dX7_breaches_55 rfl ?_
        refine z_iconst (v := 2) F dX7_breaches_57 rfl ?_
        obtain ⟨r9, σ9, hq9, h⟩ := bd_of h
        refine cl7_172 F kdc_33 hq9 ⟨Nat.le_of_ble_eq_true rfl, Nat.le_of_ble_eq_true rfl⟩ dX7_breaches_58 (Nat.le_of_ble_eq_true rfl) ?_
        refine z_iload_n (q := 1) F dX7_breaches_61 rfl rfl ?_
        refine z_icmp_ne (tgt := 68) F dX7_breaches_62 rfl (fun c10 => ?_) (fun c10 => ?_)
        · have h := ite_F c10 h
          refine z_sub (lv' := [(0, .ref (a 25)), (1, .int x1), (2, .ref (a o2)), (3, .int x3), (4, .int x4)]) [0, 1, 2, 3, 4] rfl ?_
          exact zM7_breaches_J68 F ko2 ih h
        · have h := ite_T c10 h
          refine z_iinc (q := 3) (v := x3 + 1) (lv' := [(3, .int (x3 + 1)), (0, .ref (a 25)), (1, .int x1), (2, .ref (a o2)), (4, .int x4)]) F dX7_breaches_65 rfl rfl (by decide) rfl ?_
          refine z_letL (s0 := 3) (lv := [(0, .ref (a 25)), (1, .int x1), (2, .ref (a o2)), (4, .int x4)]) h (fun v11 h => ?_)
          refine z_sub (lv' := [(0, .ref (a 25)), (1, .int x1), (2, .ref (a o2)), (3, .int v11), (4, .int x4)]) [1, 2, 3, 0, 4] rfl ?_
          exact zM7_breaches_J68 F ko2 ih h
theorem zM7_breaches {r : Int32} {x1 : Int32} {σ : St} (F : Fx p s m args meth c cX7_breaches 5 RX7 (some .int) (rmL 4) 0 0 g a) (h : M7_breaches x1 σ = some (r, σ')) : Z p l e (rmL 4) s m args below meth c (MQ below (QiW g a r σ') args s 0 0 (Ad a)) 5 g a 0 0 σ 0 [(0, .ref (a 25)), (1, .int x1)] [] := by
  unfold M7_breaches at h
  refine z_iload_n (q := 1) F dX7_breaches_0 rfl rfl ?_
  refine z_bipush (v := 6) F dX7_breaches_1 rfl ?_
  obtain ⟨r1, σ1, hq1, h⟩ := bd_of h
  refine cl7_83 F hq1 ⟨Nat.le_of_ble_eq_true rfl, Nat.le_of_ble_eq_true rfl⟩ dX7_breaches_3 (Nat.le_of_ble_eq_true rfl) ?_
  refine z_if_ne (tgt := 12) F dX7_breaches_6 rfl (fun c2 => ?_) (fun c2 => ?_)
  · have h := ite_F c2 h
    refine z_aload_n (q := 0) F dX7_breaches_12 rfl rfl ?_
    obtain ⟨r3, σ3, hq3, h⟩ := bd_of h
    obtain ⟨g4, h⟩ := gd_of h
    refine cl7_159 F hq3 ⟨Nat.le_of_ble_eq_true rfl, Nat.le_of_ble_eq_true rfl⟩ dX7_breaches_13 (Nat.le_of_ble_eq_true rfl) ?_
    refine z_astore_n (lv' := [(2, .ref (a r3)), (0, .ref (a 25)), (1, .int x1)]) F dX7_breaches_16 rfl (by decide) rfl ?_
    refine z_iconst (v := 0) F dX7_breaches_17 rfl ?_
    refine z_istore_n (lv' := [(3, .int 0), (2, .ref (a r3)), (0, .ref (a 25)), (1, .int x1)]) F dX7_breaches_18 rfl (by decide) rfl ?_
    refine z_iconst (v := 0) F dX7_breaches_19 rfl ?_
    refine z_istore (lv' := [(4, .int 0), (3, .int 0), (2, .ref (a r3)), (0, .ref (a 25)), (1, .int x1)]) F dX7_breaches_20 (by decide) rfl ?_
    refine z_sub (lv' := [(0, .ref (a 25)), (1, .int x1), (2, .ref (a r3)), (3, .int 0), (4, .int 0)]) [3, 4, 2, 1, 0] rfl ?_
    refine zM7_breaches_L22 F g4 ?_ _ _ _ _ h
    intro v12 σ13 h
    refine z_iload_n (q := 0) F dX7_breaches_74 rfl rfl ?_
    exact z_iret F h dX7_breaches_75
  · have h := ite_T c2 h
    refine z_bipush (v := (-2)) F dX7_breaches_9 rfl ?_
    exact z_iret F h dX7_breaches_11
theorem ct7_breaches {r : Int32} {x1 : Int32} {σ : St} (h : M7_breaches x1 σ = some (r, σ')) : Met l yX7_breaches (wsY yX7_breaches cX7_breaches 5 (some .int)) (rmL 4) (PcW g a [.ref (a 25), .int x1] σ) (QiW g a r σ') 0 0 (Ad a) :=
  ct_I (by decide) (Nat.le_of_ble_eq_true rfl) (fun p e s m args below meth c F => zM7_breaches F h)
theorem cl7_327 {r : Int32} {x1 : Int32} (F : Fx p s m args meth c cc nL RX7 rt R cz sz g a) (h : M7_breaches x1 σ = some (r, σ1)) (hR : 4 + 1 ≤ R.frames ∧ 8 + (5 + 11) + 34 * 4 ≤ R.locals) (d : decode cc pc = .ok (.invokevirtual 327, 3)) (hrm : (rest.map fun v => v.category).sum ≤ 8) (z : Z p l e R s m args below meth c Q nL g a cz sz σ1 (pc + 3) lv (.int r :: rest)) : Z p l e R s m args below meth c Q nL g a cz sz σ pc lv (.int x1 :: .ref (a 25) :: rest) :=
  z_callVI (nA := 1) (As := [.int x1]) F (ct7_breaches h) ⟨(tbm 800 (by decide +kernel) rfl), (tbm 567 (by decide +kernel) rfl), (tbm 568 (by decide +kernel) rfl), (tbm 1 (by decide +kernel) rfl), (tbm 569 (by decide +kernel) rfl)⟩ (by decide +kernel) rfl kdc_25 (by decide) rfl rfl rfl hR d rfl hrm z
theorem zM7_courseWithoutLoan {r : Nat} {x1 : Int32} {x2 : Int32} {σ : St} (F : Fx p s m args meth c cX7_courseWithoutLoan 3 RX7 (some (.object "HoleBank$Course")) (rmL 3) 0 0 g a) (h : M7_courseWithoutLoan x1 x2 σ = some (r, σ')) : Z p l e (rmL 3) s m args below meth c (MQ below (QrW g a r σ') args s 0 0 (Ad a)) 3 g a 0 0 σ 0 [(0, .ref (a 25)), (1, .int x1), (2, .int x2)] [] := by
  unfold M7_courseWithoutLoan at h
  refine z_aload_n (q := 0) F dX7_courseWithoutLoan_0 rfl rfl ?_
  refine gf7_52 F kdc_25 dX7_courseWithoutLoan_1 ?_
  refine z_aload_n (q := 0) F dX7_courseWithoutLoan_4 rfl rfl ?_
  refine gf7_30 F kdc_25 dX7_courseWithoutLoan_5 ?_
  obtain ⟨r1, σ1, hq1, h⟩ := bd_of h
  refine cl7_257 F kdc_39 kdc_32 hq1 ⟨Nat.le_of_ble_eq_true rfl, Nat.le_of_ble_eq_true rfl⟩ dX7_courseWithoutLoan_8 (Nat.le_of_ble_eq_true rfl) ?_
  refine z_aload_n (q := 0) F dX7_courseWithoutLoan_11 rfl rfl ?_
  refine gf7_52 F kdc_25 dX7_courseWithoutLoan_12 ?_
  refine gf7_119 F kdc_39 dX7_courseWithoutLoan_15 ?_
  refine z_iload_n (q := 1) F dX7_courseWithoutLoan_18 rfl rfl ?_
  obtain ⟨r2, σ2, hq2, h⟩ := bd_of h
  refine cl7_143 F kdc_40 hq2 ⟨Nat.le_of_ble_eq_true rfl, Nat.le_of_ble_eq_true rfl⟩ dX7_courseWithoutLoan_19 (Nat.le_of_ble_eq_true rfl) ?_
  refine z_pop F dX7_courseWithoutLoan_22 rfl ?_
  refine z_aload_n (q := 0) F dX7_courseWithoutLoan_23 rfl rfl ?_
  refine gf7_55 F kdc_25 dX7_courseWithoutLoan_24 ?_
  refine z_aload_n (q := 0) F dX7_courseWithoutLoan_27 rfl rfl ?_
  refine gf7_16 F kdc_25 dX7_courseWithoutLoan_28 ?_
  refine z_aload_n (q := 0) F dX7_courseWithoutLoan_31 rfl rfl ?_
  refine gf7_52 F kdc_25 dX7_courseWithoutLoan_32 ?_
  refine z_iload_n (q := 2) F dX7_courseWithoutLoan_35 rfl rfl ?_
  obtain ⟨r3, σ3, hq3, h⟩ := bd_of h
  refine cl7_267 F kdc_66 kdc_26 kdc_39 hq3 ⟨Nat.le_of_ble_eq_true rfl, Nat.le_of_ble_eq_true rfl⟩ dX7_courseWithoutLoan_36 (Nat.le_of_ble_eq_true rfl) ?_
  refine z_aload_n (q := 0) F dX7_courseWithoutLoan_39 rfl rfl ?_
  refine gf7_55 F kdc_25 dX7_courseWithoutLoan_40 ?_
  exact z_aret F h dX7_courseWithoutLoan_43
theorem ct7_courseWithoutLoan {r : Nat} {x1 : Int32} {x2 : Int32} {σ : St} (h : M7_courseWithoutLoan x1 x2 σ = some (r, σ')) : Met l yX7_courseWithoutLoan (wsY yX7_courseWithoutLoan cX7_courseWithoutLoan 3 (some (.object "HoleBank$Course"))) (rmL 3) (PcW g a [.ref (a 25), .int x1, .int x2] σ) (QrW g a r σ') 0 0 (Ad a) :=
  ct_R (by decide) (Nat.le_of_ble_eq_true rfl) (fun p e s m args below meth c F => zM7_courseWithoutLoan F h)
theorem cl7_211 {r : Nat} {x1 : Int32} {x2 : Int32} (F : Fx p s m args meth c cc nL RX7 rt R cz sz g a) (h : M7_courseWithoutLoan x1 x2 σ = some (r, σ1)) (hR : 3 + 1 ≤ R.frames ∧ 8 + (3 + 11) + 34 * 3 ≤ R.locals) (d : decode cc pc = .ok (.invokevirtual 211, 3)) (hrm : (rest.map fun v => v.category).sum ≤ 8) (z : Z p l e R s m args below meth c Q nL g a cz sz σ1 (pc + 3) lv (.ref (a r) :: rest)) : Z p l e R s m args below meth c Q nL g a cz sz σ pc lv (.int x2 :: .int x1 :: .ref (a 25) :: rest) :=
  z_callVR (nA := 2) (As := [.int x1, .int x2]) F (ct7_courseWithoutLoan h) ⟨(tbm 636 (by decide +kernel) rfl), (tbm 638 (by decide +kernel) rfl), (tbs 43 (by decide +kernel) rfl), (tbm 1 (by decide +kernel) rfl), (tbm 639 (by decide +kernel) rfl)⟩ (by decide +kernel) rfl kdc_25 (by decide) rfl rfl rfl hR d rfl hrm z
theorem zM7_call_J113 {r : Int32} {x1 : Int32} {x2 : Int32} {o3 : Nat} {x4 : Int32} {x5 : Int32} {x6 : Int32} {x7 : Int32} {σ : St} (F : Fx p s m args meth c cX7_call 9 RX7 (some .int) (rmL 4) 0 0 g a) (ko3 : kd o3 = 1) {kb : Int32 → Int32 → Int32 → St → Option (Int32 × St)} (hb : ∀ (w5 : Int32) (w6 : Int32) (w7 : Int32) (σ : St), kb w5 w6 w7 σ = some (r, σ') → Z p l e (rmL 4) s m args below meth c (MQ below (QiW g a r σ') args s 0 0 (Ad a)) 9 g a 0 0 σ 43 [(0, .ref (a 25)), (1, .int x1), (2, .int x2), (3, .ref (a o3)), (4, .int x4), (5, .int w5), (6, .int w6), (7, .int w7)] []) (h : M7_call_J113 kb x1 x2 o3 x4 x5 x6 x7 σ = some (r, σ')) : Z p l e (rmL 4) s m args below meth c (MQ below (QiW g a r σ') args s 0 0 (Ad a)) 9 g a 0 0 σ 113 [(0, .ref (a 25)), (1, .int x1), (2, .int x2), (3, .ref (a o3)), (4, .int x4), (5, .int x5), (6, .int x6), (7, .int x7)] [] := by
  unfold M7_call_J113 at h
  refine z_iinc (q := 7) (v := x7 + 1) (lv' := [(7, .int (x7 + 1)), (0, .ref (a 25)), (1, .int x1), (2, .int x2), (3, .ref (a o3)), (4, .int x4), (5, .int x5), (6, .int x6)]) F dX7_call_113 rfl rfl (by decide) rfl ?_
  refine z_letL (s0 := 7) (lv := [(0, .ref (a 25)), (1, .int x1), (2, .int x2), (3, .ref (a o3)), (4, .int x4), (5, .int x5), (6, .int x6)]) h (fun v16 h => ?_)
  refine z_goto (tgt := 43) F dX7_call_116 rfl ?_
  refine z_sub (lv' := [(0, .ref (a 25)), (1, .int x1), (2, .int x2), (3, .ref (a o3)), (4, .int x4), (5, .int x5), (6, .int x6), (7, .int v16)]) [1, 2, 3, 4, 5, 6, 7, 0] rfl ?_
  exact hb _ _ _ _ h
theorem zM7_call_L43 {r : Int32} {x1 : Int32} {x2 : Int32} {o3 : Nat} {x4 : Int32} (F : Fx p s m args meth c cX7_call 9 RX7 (some .int) (rmL 4) 0 0 g a) (ko3 : kd o3 = 1) {kx : Int32 → Int32 → St → Option (Int32 × St)} (hx : ∀ (w5 : Int32) (w6 : Int32) (σ : St), kx w5 w6 σ = some (r, σ') → Z p l e (rmL 4) s m args below meth c (MQ below (QiW g a r σ') args s 0 0 (Ad a)) 9 g a 0 0 σ 119 [(2, .int x2), (4, .int x4), (5, .int w5), (6, .int w6)] []) : ∀ (n : Nat) (x5 : Int32) (x6 : Int32) (x7 : Int32) (σ : St), M7_call_L43 x1 x2 o3 x4 kx n x5 x6 x7 σ = some (r, σ') → Z p l e (rmL 4) s m args below meth c (MQ below (QiW g a r σ') args s 0 0 (Ad a)) 9 g a 0 0 σ 43 [(0, .ref (a 25)), (1, .int x1), (2, .int x2), (3, .ref (a o3)), (4, .int x4), (5, .int x5), (6, .int x6), (7, .int x7)] [] := by
  intro n
  induction n with
  | zero => intro x5 x6 x7 σ h; rw [M7_call_L43] at h; cases h
  | succ n ih =>
    intro x5 x6 x7 σ h
    rw [M7_call_L43] at h
    refine z_iload (q := 7) F dX7_call_43 rfl ?_
    refine z_aload_n (q := 0) F dX7_call_45 rfl rfl ?_
    refine gf7_30 F kdc_25 dX7_call_46 ?_
    refine gf7_119 F kdc_32 dX7_call_49 ?_
    refine gf7_140 F kdc_33 dX7_call_52 ?_
    refine z_icmp_ge (tgt := 119) F dX7_call_55 rfl (fun c8 => ?_) (fun c8 => ?_)
    · have h := ite_T c8 h
      refine z_sub (lv' := [(2, .int x2), (4, .int x4), (5, .int x5), (6, .int x6)]) [2, 4, 5, 6] rfl ?_
      exact hx _ _ _ h
    · have h := ite_F c8 h
      refine z_aload_n (q := 3) F dX7_call_58 rfl rfl ?_
      refine z_iload_n (q := 1) F dX7_call_59 rfl rfl ?_
      refine z_aload_n (q := 0) F dX7_call_60 rfl rfl ?_
      refine gf7_30 F kdc_25 dX7_call_61 ?_
      refine gf7_119 F kdc_32 dX7_call_64 ?_
      refine z_iload (q := 7) F dX7_call_67 rfl ?_
      refine z_iconst (v := 1) F dX7_call_69 rfl ?_
      obtain ⟨r9, σ9, hq9, h⟩ := bd_of h
      refine cl7_172 F kdc_33 hq9 ⟨Nat.le_of_ble_eq_true rfl, Nat.le_of_ble_eq_true rfl⟩ dX7_call_70 (Nat.le_of_ble_eq_true rfl) ?_
      refine z_iload (q := 7) F dX7_call_73 rfl ?_
      obtain ⟨r10, σ10, hq10, h⟩ := bd_of h
      refine cl7_207 F ko3 hq10 ⟨Nat.le_of_ble_eq_true rfl, Nat.le_of_ble_eq_true rfl⟩ dX7_call_75 (Nat.le_of_ble_eq_true rfl) ?_
      refine z_if_ne (tgt := 84) F dX7_call_78 rfl (fun c11 => ?_) (fun c11 => ?_)
      · have h := ite_F c11 h
        refine z_aload_n (q := 0) F dX7_call_84 rfl rfl ?_
        refine z_aload_n (q := 0) F dX7_call_85 rfl rfl ?_
        refine z_iload (q := 7) F dX7_call_86 rfl ?_
        refine z_iload_n (q := 1) F dX7_call_88 rfl rfl ?_
        obtain ⟨r12, σ12, hq12, h⟩ := bd_of h
        obtain ⟨g13, h⟩ := gd_of h
        refine cl7_211 F hq12 ⟨Nat.le_of_ble_eq_true rfl, Nat.le_of_ble_eq_true rfl⟩ dX7_call_89 (Nat.le_of_ble_eq_true rfl) ?_
        refine z_iload_n (q := 1) F dX7_call_92 rfl rfl ?_
        obtain ⟨r14, σ14, hq14, h⟩ := bd_of h
        refine cl7_196 F g13 hq14 ⟨Nat.le_of_ble_eq_true rfl, Nat.le_of_ble_eq_true rfl⟩ dX7_call_93 (Nat.le_of_ble_eq_true rfl) ?_
        refine z_istore (lv' := [(8, .int r14), (0, .ref (a 25)), (1, .int x1), (2, .int x2), (3, .ref (a o3)), (4, .int x4), (5, .int x5), (6, .int x6), (7, .int x7)]) F dX7_call_96 (by decide) rfl ?_
        refine z_iload (q := 0) F dX7_call_98 rfl ?_
        refine z_iload (q := 7) F dX7_call_100 rfl ?_
        refine z_icmp_le (tgt := 113) F dX7_call_102 rfl (fun c15 => ?_) (fun c15 => ?_)
        · try simp only [if_pos c15] at h
          refine z_sub (lv' := [(0, .ref (a 25)), (1, .int x1), (2, .int x2), (3, .ref (a o3)), (4, .int x4), (5, .int x5), (6, .int x6), (7, .int x7)]) [1, 2, 3, 4, 5, 6, 7, 8] rfl ?_
          exact zM7_call_J113 F ko3 ih h
        · try simp only [if_neg c15] at h
          refine z_iload (q := 8) F dX7_call_105 rfl ?_
          refine z_istore (lv' := [(5, .int x7), (8, .int r14), (0, .ref (a 25)), (1, .int x1), (2, .int x2), (3, .ref (a o3)), (4, .int x4), (6, .int x6), (7, .int x7)]) F dX7_call_107 (by decide) rfl ?_
          refine z_iload (q := 1) F dX7_call_109 rfl ?_
          refine z_istore (lv' := [(6, .int r14), (5, .int x7), (8, .int r14), (0, .ref (a 25)), (1, .int x1), (2, .int x2), (3, .ref (a o3)), (4, .int x4), (7, .int x7)]) F dX7_call_111 (by decide) rfl ?_
          refine z_sub (lv' := [(0, .ref (a 25)), (1, .int x1), (2, .int x2), (3, .ref (a o3)), (4, .int x4), (5, .int x7), (6, .int r14), (7, .int x7)]) [3, 4, 5, 6, 7, 1, 0, 8] rfl ?_
          exact zM7_call_J113 F ko3 ih h
      · have h := ite_T c11 h
        refine z_goto (tgt := 113) F dX7_call_81 rfl ?_
        refine z_sub (lv' := [(0, .ref (a 25)), (1, .int x1), (2, .int x2), (3, .ref (a o3)), (4, .int x4), (5, .int x5), (6, .int x6), (7, .int x7)]) [0, 1, 2, 3, 4, 5, 6, 7] rfl ?_
        exact zM7_call_J113 F ko3 ih h
theorem zM7_call {r : Int32} {x1 : Int32} {x2 : Int32} {σ : St} (F : Fx p s m args meth c cX7_call 9 RX7 (some .int) (rmL 4) 0 0 g a) (h : M7_call x1 x2 σ = some (r, σ')) : Z p l e (rmL 4) s m args below meth c (MQ below (QiW g a r σ') args s 0 0 (Ad a)) 9 g a 0 0 σ 0 [(0, .ref (a 25)), (1, .int x1), (2, .int x2)] [] := by
  unfold M7_call at h
  refine z_iload_n (q := 1) F dX7_call_0 rfl rfl ?_
  refine z_bipush (v := 40) F dX7_call_1 rfl ?_
  obtain ⟨r1, σ1, hq1, h⟩ := bd_of h
  refine cl7_83 F hq1 ⟨Nat.le_of_ble_eq_true rfl, Nat.le_of_ble_eq_true rfl⟩ dX7_call_3 (Nat.le_of_ble_eq_true rfl) ?_
  refine z_if_eq (tgt := 17) F dX7_call_6 rfl (fun c2 => ?_) (fun c2 => ?_)
  · have h := ite_T c2 h
    refine z_sipush (v := (-1002)) F dX7_call_17 rfl ?_
    exact z_iret F h dX7_call_20
  · have h := ite_F c2 h
    refine z_iload_n (q := 2) F dX7_call_9 rfl rfl ?_
    refine z_iconst (v := 2) F dX7_call_10 rfl ?_
    obtain ⟨r3, σ3, hq3, h⟩ := bd_of h
    refine cl7_83 F hq3 ⟨Nat.le_of_ble_eq_true rfl, Nat.le_of_ble_eq_true rfl⟩ dX7_call_11 (Nat.le_of_ble_eq_true rfl) ?_
    refine z_if_ne (tgt := 21) F dX7_call_14 rfl (fun c4 => ?_) (fun c4 => ?_)
    · have h := ite_F c4 h
      refine z_aload_n (q := 0) F dX7_call_21 rfl rfl ?_
      obtain ⟨r5, σ5, hq5, h⟩ := bd_of h
      obtain ⟨g6, h⟩ := gd_of h
      refine cl7_159 F hq5 ⟨Nat.le_of_ble_eq_true rfl, Nat.le_of_ble_eq_true rfl⟩ dX7_call_22 (Nat.le_of_ble_eq_true rfl) ?_
      refine z_astore_n (lv' := [(3, .ref (a r5)), (0, .ref (a 25)), (1, .int x1), (2, .int x2)]) F dX7_call_25 rfl (by decide) rfl ?_
      refine z_aload_n (q := 1) F dX7_call_26 rfl rfl ?_
      refine z_aload_n (q := 0) F dX7_call_27 rfl rfl ?_
      refine z_iload_n (q := 2) F dX7_call_28 rfl rfl ?_
      obtain ⟨r7, σ7, hq7, h⟩ := bd_of h
      refine cl7_196 F g6 hq7 ⟨Nat.le_of_ble_eq_true rfl, Nat.le_of_ble_eq_true rfl⟩ dX7_call_29 (Nat.le_of_ble_eq_true rfl) ?_
      refine z_istore (lv' := [(4, .int r7), (3, .ref (a r5)), (0, .ref (a 25)), (1, .int x1), (2, .int x2)]) F dX7_call_32 (by decide) rfl ?_
      refine z_iconst (v := (-1)) F dX7_call_34 rfl ?_
      refine z_istore (lv' := [(5, .int ((-1))), (4, .int r7), (3, .ref (a r5)), (0, .ref (a 25)), (1, .int x1), (2, .int x2)]) F dX7_call_35 (by decide) rfl ?_
      refine z_iconst (v := (-1)) F dX7_call_37 rfl ?_
      refine z_istore (lv' := [(6, .int ((-1))), (5, .int ((-1))), (4, .int r7), (3, .ref (a r5)), (0, .ref (a 25)), (1, .int x1), (2, .int x2)]) F dX7_call_38 (by decide) rfl ?_
      refine z_iconst (v := 0) F dX7_call_40 rfl ?_
      refine z_istore (lv' := [(7, .int 0), (6, .int ((-1))), (5, .int ((-1))), (4, .int r7), (3, .ref (a r5)), (0, .ref (a 25)), (1, .int x1), (2, .int x2)]) F dX7_call_41 (by decide) rfl ?_
      refine z_sub (lv' := [(0, .ref (a 25)), (1, .int x1), (2, .int x2), (3, .ref (a r5)), (4, .int r7), (5, .int ((-1))), (6, .int ((-1))), (7, .int 0)]) [5, 6, 7, 4, 3, 2, 1, 0] rfl ?_
      refine zM7_call_L43 F g6 ?_ _ _ _ _ _ h
      intro v17 v18 σ19 h
      refine z_iload (q := 2) F dX7_call_119 rfl ?_
      refine z_iconst (v := (-1)) F dX7_call_121 rfl ?_
      refine z_icmp_ne (tgt := 129) F dX7_call_122 rfl (fun c20 => ?_) (fun c20 => ?_)
      · try simp only [if_neg c20] at h
        refine z_iload_n (q := 0) F dX7_call_129 rfl rfl ?_
        refine z_if_ne (tgt := 138) F dX7_call_130 rfl (fun c21 => ?_) (fun c21 => ?_)
        · try simp only [if_neg c21] at h
          refine z_iload (q := 3) F dX7_call_138 rfl ?_
          refine z_iload (q := 1) F dX7_call_140 rfl ?_
          refine z_isub F dX7_call_142 ?_
          exact z_iret F h dX7_call_143
        · try simp only [if_pos c21] at h
          refine z_iload (q := 2) F dX7_call_133 rfl ?_
          refine z_goto (tgt := 143) F dX7_call_135 rfl ?_
          exact z_iret F h dX7_call_143
      · try simp only [if_pos c20] at h
        refine z_iconst (v := (-1)) F dX7_call_125 rfl ?_
        refine z_goto (tgt := 143) F dX7_call_126 rfl ?_
        exact z_iret F h dX7_call_143
    · have h := ite_T c4 h
      refine z_sipush (v := (-1002)) F dX7_call_17 rfl ?_
      exact z_iret F h dX7_call_20
theorem ct7_call {r : Int32} {x1 : Int32} {x2 : Int32} {σ : St} (h : M7_call x1 x2 σ = some (r, σ')) : Met l yX7_call (wsY yX7_call cX7_call 9 (some .int)) (rmL 4) (PcW g a [.ref (a 25), .int x1, .int x2] σ) (QiW g a r σ') 0 0 (Ad a) :=
  ct_I (by decide) (Nat.le_of_ble_eq_true rfl) (fun p e s m args below meth c F => zM7_call F h)
theorem cl7_365 {r : Int32} {x1 : Int32} {x2 : Int32} (F : Fx p s m args meth c cc nL RX7 rt R cz sz g a) (h : M7_call x1 x2 σ = some (r, σ1)) (hR : 4 + 1 ≤ R.frames ∧ 8 + (9 + 11) + 34 * 4 ≤ R.locals) (d : decode cc pc = .ok (.invokevirtual 365, 3)) (hrm : (rest.map fun v => v.category).sum ≤ 8) (z : Z p l e R s m args below meth c Q nL g a cz sz σ1 (pc + 3) lv (.int r :: rest)) : Z p l e R s m args below meth c Q nL g a cz sz σ pc lv (.int x2 :: .int x1 :: .ref (a 25) :: rest) :=
  z_callVI (nA := 2) (As := [.int x1, .int x2]) F (ct7_call h) ⟨(tbm 798 (by decide +kernel) rfl), (tbm 629 (by decide +kernel) rfl), (tbm 630 (by decide +kernel) rfl), (tbm 1 (by decide +kernel) rfl), (tbm 631 (by decide +kernel) rfl)⟩ (by decide +kernel) rfl kdc_25 (by decide) rfl rfl rfl hR d rfl hrm z
theorem zM7_came {r : Int32} {x1 : Int32} {x2 : Int32} {σ : St} (F : Fx p s m args meth c cX7_came 4 RX7 (some .int) (rmL 4) 0 0 g a) (h : M7_came x1 x2 σ = some (r, σ')) : Z p l e (rmL 4) s m args below meth c (MQ below (QiW g a r σ') args s 0 0 (Ad a)) 4 g a 0 0 σ 0 [(0, .ref (a 25)), (1, .int x1), (2, .int x2)] [] := by
  unfold M7_came at h
  refine z_iload_n (q := 1) F dX7_came_0 rfl rfl ?_
  refine z_aload_n (q := 0) F dX7_came_1 rfl rfl ?_
  refine gf7_30 F kdc_25 dX7_came_2 ?_
  refine gf7_119 F kdc_32 dX7_came_5 ?_
  refine gf7_140 F kdc_33 dX7_came_8 ?_
  obtain ⟨r1, σ1, hq1, h⟩ := bd_of h
  refine cl7_83 F hq1 ⟨Nat.le_of_ble_eq_true rfl, Nat.le_of_ble_eq_true rfl⟩ dX7_came_11 (Nat.le_of_ble_eq_true rfl) ?_
  refine z_if_eq (tgt := 25) F dX7_came_14 rfl (fun c2 => ?_) (fun c2 => ?_)
  · have h := ite_T c2 h
    refine z_sipush (v := (-1002)) F dX7_came_25 rfl ?_
    exact z_iret F h dX7_came_28
  · have h := ite_F c2 h
    refine z_iload_n (q := 2) F dX7_came_17 rfl rfl ?_
    refine z_iconst (v := 3) F dX7_came_18 rfl ?_
    obtain ⟨r3, σ3, hq3, h⟩ := bd_of h
    refine cl7_83 F hq3 ⟨Nat.le_of_ble_eq_true rfl, Nat.le_of_ble_eq_true rfl⟩ dX7_came_19 (Nat.le_of_ble_eq_true rfl) ?_
    refine z_if_ne (tgt := 29) F dX7_came_22 rfl (fun c4 => ?_) (fun c4 => ?_)
    · have h := ite_F c4 h
      refine z_aload_n (q := 0) F dX7_came_29 rfl rfl ?_
      obtain ⟨r5, σ5, hq5, h⟩ := bd_of h
      obtain ⟨g6, h⟩ := gd_of h
      refine cl7_159 F hq5 ⟨Nat.le_of_ble_eq_true rfl, Nat.le_of_ble_eq_true rfl⟩ dX7_came_30 (Nat.le_of_ble_eq_true rfl) ?_
      refine z_astore_n (lv' := [(3, .ref (a r5)), (0, .ref (a 25)), (1, .int x1), (2, .int x2)]) F dX7_came_33 rfl (by decide) rfl ?_
      refine z_iload_n (q := 3) F dX7_came_34 rfl rfl ?_
      refine z_if_ne (tgt := 45) F dX7_came_35 rfl (fun c7 => ?_) (fun c7 => ?_)
      · have h := ite_F c7 h
        refine z_iload_n (q := 3) F dX7_came_45 rfl rfl ?_
        refine z_iconst (v := 1) F dX7_came_46 rfl ?_
        refine z_icmp_ne (tgt := 66) F dX7_came_47 rfl (fun c8 => ?_) (fun c8 => ?_)
        · have h := ite_F c8 h
          refine z_aload_n (q := 0) F dX7_came_66 rfl rfl ?_
          refine gf7_187 F g6 dX7_came_67 ?_
          refine z_iload_n (q := 2) F dX7_came_70 rfl rfl ?_
          obtain ⟨g9, h⟩ := gd_of h
          refine z_iald F (kf_1_8 g6) (inl (lf_1_8 g6) g9) dX7_came_71 ?_
          exact z_iret F h dX7_came_72
        · have h := ite_T c8 h
          refine z_aload_n (q := 0) F dX7_came_50 rfl rfl ?_
          refine gf7_184 F g6 dX7_came_51 ?_
          refine z_iload_n (q := 2) F dX7_came_54 rfl rfl ?_
          obtain ⟨g10, h⟩ := gd_of h
          refine z_iald F (kf_1_7 g6) (inl (lf_1_7 g6) g10) dX7_came_55 ?_
          refine z_iconst (v := (-1)) F dX7_came_56 rfl ?_
          refine z_icmp_ne (tgt := 64) F dX7_came_57 rfl (fun c11 => ?_) (fun c11 => ?_)
          · try simp only [if_neg c11] at h
            refine z_iconst (v := 1) F dX7_came_64 rfl ?_
            exact z_iret F h dX7_came_65
          · try simp only [if_pos c11] at h
            refine z_iconst (v := 0) F dX7_came_60 rfl ?_
            refine z_goto (tgt := 65) F dX7_came_61 rfl ?_
            exact z_iret F h dX7_came_65
      · have h := ite_T c7 h
        refine z_aload_n (q := 0) F dX7_came_38 rfl rfl ?_
        refine gf7_181 F g6 dX7_came_39 ?_
        refine z_iload_n (q := 2) F dX7_came_42 rfl rfl ?_
        obtain ⟨g12, h⟩ := gd_of h
        refine z_iald F (kf_1_6 g6) (inl (lf_1_6 g6) g12) dX7_came_43 ?_
        exact z_iret F h dX7_came_44
    · have h := ite_T c4 h
      refine z_sipush (v := (-1002)) F dX7_came_25 rfl ?_
      exact z_iret F h dX7_came_28
theorem ct7_came {r : Int32} {x1 : Int32} {x2 : Int32} {σ : St} (h : M7_came x1 x2 σ = some (r, σ')) : Met l yX7_came (wsY yX7_came cX7_came 4 (some .int)) (rmL 4) (PcW g a [.ref (a 25), .int x1, .int x2] σ) (QiW g a r σ') 0 0 (Ad a) :=
  ct_I (by decide) (Nat.le_of_ble_eq_true rfl) (fun p e s m args below meth c F => zM7_came F h)
theorem cl7_321 {r : Int32} {x1 : Int32} {x2 : Int32} (F : Fx p s m args meth c cc nL RX7 rt R cz sz g a) (h : M7_came x1 x2 σ = some (r, σ1)) (hR : 4 + 1 ≤ R.frames ∧ 8 + (4 + 11) + 34 * 4 ≤ R.locals) (d : decode cc pc = .ok (.invokevirtual 321, 3)) (hrm : (rest.map fun v => v.category).sum ≤ 8) (z : Z p l e R s m args below meth c Q nL g a cz sz σ1 (pc + 3) lv (.int r :: rest)) : Z p l e R s m args below meth c Q nL g a cz sz σ pc lv (.int x2 :: .int x1 :: .ref (a 25) :: rest) :=
  z_callVI (nA := 2) (As := [.int x1, .int x2]) F (ct7_came h) ⟨(tbm 791 (by decide +kernel) rfl), (tbm 563 (by decide +kernel) rfl), (tbm 564 (by decide +kernel) rfl), (tbm 1 (by decide +kernel) rfl), (tbm 565 (by decide +kernel) rfl)⟩ (by decide +kernel) rfl kdc_25 (by decide) rfl rfl rfl hR d rfl hrm z
theorem zM7_isHole {r : Int32} {x1 : Int32} {σ : St} (F : Fx p s m args meth c cX7_isHole 2 RX7 (some .boolean) (rmL 1) 0 0 g a) (h : M7_isHole x1 σ = some (r, σ')) : Z p l e (rmL 1) s m args below meth c (MQ below (QiW g a r σ') args s 0 0 (Ad a)) 2 g a 0 0 σ 0 [(0, .ref (a 25)), (1, .int x1)] [] := by
  unfold M7_isHole at h
  refine z_iload_n (q := 1) F dX7_isHole_0 rfl rfl ?_
  refine z_aload_n (q := 0) F dX7_isHole_1 rfl rfl ?_
  refine gf7_16 F kdc_25 dX7_isHole_2 ?_
  refine gf7_190 F kdc_26 dX7_isHole_5 ?_
  obtain ⟨r1, σ1, hq1, h⟩ := bd_of h
  refine cl7_83 F hq1 ⟨Nat.le_of_ble_eq_true rfl, Nat.le_of_ble_eq_true rfl⟩ dX7_isHole_8 (Nat.le_of_ble_eq_true rfl) ?_
  obtain ⟨g2, h⟩ := gd_of h
  exact z_bret F g2 h dX7_isHole_11
theorem ct7_isHole {r : Int32} {x1 : Int32} {σ : St} (h : M7_isHole x1 σ = some (r, σ')) : Met l yX7_isHole (wsY yX7_isHole cX7_isHole 2 (some .boolean)) (rmL 1) (PcW g a [.ref (a 25), .int x1] σ) (QiW g a r σ') 0 0 (Ad a) :=
  ct_I (by decide) (Nat.le_of_ble_eq_true rfl) (fun p e s m args below meth c F => zM7_isHole F h)
theorem cl7_104 {r : Int32} {x1 : Int32} (F : Fx p s m args meth c cc nL RX7 rt R cz sz g a) (h : M7_isHole x1 σ = some (r, σ1)) (hR : 1 + 1 ≤ R.frames ∧ 8 + (2 + 11) + 34 * 1 ≤ R.locals) (d : decode cc pc = .ok (.invokevirtual 104, 3)) (hrm : (rest.map fun v => v.category).sum ≤ 8) (z : Z p l e R s m args below meth c Q nL g a cz sz σ1 (pc + 3) lv (.int r :: rest)) : Z p l e R s m args below meth c Q nL g a cz sz σ pc lv (.int x1 :: .ref (a 25) :: rest) :=
  z_callVI (nA := 1) (As := [.int x1]) F (ct7_isHole h) ⟨(tbm 405 (by decide +kernel) rfl), (tbm 407 (by decide +kernel) rfl), (tbs 6 (by decide +kernel) rfl), (tbm 1 (by decide +kernel) rfl), (tbm 408 (by decide +kernel) rfl)⟩ (by decide +kernel) rfl kdc_25 (by decide) rfl rfl rfl hR d rfl hrm z
theorem zM7_comesOutAsSeen_L2 {r : Int32} {o1 : Nat} (F : Fx p s m args meth c cX7_comesOutAsSeen 4 RX7 (some .boolean) (rmL 2) 0 0 g a) (ko1 : kd o1 = 1) {kx : St → Option (Int32 × St)} (hx : ∀ (σ : St), kx σ = some (r, σ') → Z p l e (rmL 2) s m args below meth c (MQ below (QiW g a r σ') args s 0 0 (Ad a)) 4 g a 0 0 σ 65 [] []) : ∀ (n : Nat) (x2 : Int32) (σ : St), M7_comesOutAsSeen_L2 o1 kx n x2 σ = some (r, σ') → Z p l e (rmL 2) s m args below meth c (MQ below (QiW g a r σ') args s 0 0 (Ad a)) 4 g a 0 0 σ 2 [(0, .ref (a 25)), (1, .ref (a o1)), (2, .int x2)] [] := by
  intro n
  induction n with
  | zero => intro x2 σ h; rw [M7_comesOutAsSeen_L2] at h; cases h
  | succ n ih =>
    intro x2 σ h
    rw [M7_comesOutAsSeen_L2] at h
    refine z_iload_n (q := 2) F dX7_comesOutAsSeen_2 rfl rfl ?_
    refine z_aload_n (q := 0) F dX7_comesOutAsSeen_3 rfl rfl ?_
    refine gf7_37 F kdc_25 dX7_comesOutAsSeen_4 ?_
    refine gf7_140 F kdc_46 dX7_comesOutAsSeen_7 ?_
    refine z_icmp_ge (tgt := 65) F dX7_comesOutAsSeen_10 rfl (fun c1 => ?_) (fun c1 => ?_)
    · have h := ite_T c1 h
      refine z_sub (lv' := []) [] rfl ?_
      exact hx _ h
    · have h := ite_F c1 h
      refine z_aload_n (q := 0) F dX7_comesOutAsSeen_13 rfl rfl ?_
      refine gf7_37 F kdc_25 dX7_comesOutAsSeen_14 ?_
      refine z_iload_n (q := 2) F dX7_comesOutAsSeen_17 rfl rfl ?_
      refine z_iconst (v := 1) F dX7_comesOutAsSeen_18 rfl ?_
      obtain ⟨r2, σ2, hq2, h⟩ := bd_of h
      refine cl7_172 F kdc_46 hq2 ⟨Nat.le_of_ble_eq_true rfl, Nat.le_of_ble_eq_true rfl⟩ dX7_comesOutAsSeen_19 (Nat.le_of_ble_eq_true rfl) ?_
      refine z_istore_n (lv' := [(3, .int r2), (0, .ref (a 25)), (1, .ref (a o1)), (2, .int x2)]) F dX7_comesOutAsSeen_22 rfl (by decide) rfl ?_
      refine z_aload_n (q := 1) F dX7_comesOutAsSeen_23 rfl rfl ?_
      refine z_iload_n (q := 0) F dX7_comesOutAsSeen_24 rfl rfl ?_
      obtain ⟨r3, σ3, hq3, h⟩ := bd_of h
      refine cl7_104 F hq3 ⟨Nat.le_of_ble_eq_true rfl, Nat.le_of_ble_eq_true rfl⟩ dX7_comesOutAsSeen_25 (Nat.le_of_ble_eq_true rfl) ?_
      refine z_if_eq (tgt := 57) F dX7_comesOutAsSeen_28 rfl (fun c4 => ?_) (fun c4 => ?_)
      · have h := ite_T c4 h
        refine z_iconst (v := 0) F dX7_comesOutAsSeen_57 rfl ?_
        exact z_bret F (by first | exact Or.inl rfl | exact Or.inr rfl) h dX7_comesOutAsSeen_58
      · have h := ite_F c4 h
        refine z_aload_n (q := 2) F dX7_comesOutAsSeen_31 rfl rfl ?_
        refine z_aload_n (q := 1) F dX7_comesOutAsSeen_32 rfl rfl ?_
        refine gf7_37 F kdc_25 dX7_comesOutAsSeen_33 ?_
        refine z_iload_n (q := 3) F dX7_comesOutAsSeen_36 rfl rfl ?_
        refine z_iconst (v := 0) F dX7_comesOutAsSeen_37 rfl ?_
        obtain ⟨r5, σ5, hq5, h⟩ := bd_of h
        refine cl7_172 F kdc_46 hq5 ⟨Nat.le_of_ble_eq_true rfl, Nat.le_of_ble_eq_true rfl⟩ dX7_comesOutAsSeen_38 (Nat.le_of_ble_eq_true rfl) ?_
        refine z_iload_n (q := 0) F dX7_comesOutAsSeen_41 rfl rfl ?_
        obtain ⟨r6, σ6, hq6, h⟩ := bd_of h
        refine cl7_302 F ko1 hq6 ⟨Nat.le_of_ble_eq_true rfl, Nat.le_of_ble_eq_true rfl⟩ dX7_comesOutAsSeen_42 (Nat.le_of_ble_eq_true rfl) ?_
        refine z_aload_n (q := 1) F dX7_comesOutAsSeen_45 rfl rfl ?_
        refine gf7_37 F kdc_25 dX7_comesOutAsSeen_46 ?_
        refine z_iload_n (q := 3) F dX7_comesOutAsSeen_49 rfl rfl ?_
        refine z_iconst (v := 2) F dX7_comesOutAsSeen_50 rfl ?_
        obtain ⟨r7, σ7, hq7, h⟩ := bd_of h
        refine cl7_172 F kdc_46 hq7 ⟨Nat.le_of_ble_eq_true rfl, Nat.le_of_ble_eq_true rfl⟩ dX7_comesOutAsSeen_51 (Nat.le_of_ble_eq_true rfl) ?_
        refine z_icmp_eq (tgt := 59) F dX7_comesOutAsSeen_54 rfl (fun c8 => ?_) (fun c8 => ?_)
        · have h := ite_T c8 h
          refine z_iinc (q := 3) (v := x2 + 1) (lv' := [(2, .int (x2 + 1)), (3, .int r2), (0, .ref (a 25)), (1, .ref (a o1))]) F dX7_comesOutAsSeen_59 rfl rfl (by decide) rfl ?_
          refine z_letL (s0 := 2) (lv := [(3, .int r2), (0, .ref (a 25)), (1, .ref (a o1))]) h (fun v9 h => ?_)
          refine z_goto (tgt := 2) F dX7_comesOutAsSeen_62 rfl ?_
          refine z_sub (lv' := [(0, .ref (a 25)), (1, .ref (a o1)), (2, .int v9)]) [2, 3, 0] rfl ?_
          exact ih _ _ h
        · have h := ite_F c8 h
          refine z_iconst (v := 0) F dX7_comesOutAsSeen_57 rfl ?_
          exact z_bret F (by first | exact Or.inl rfl | exact Or.inr rfl) h dX7_comesOutAsSeen_58
theorem zM7_comesOutAsSeen {r : Int32} {o1 : Nat} {σ : St} (F : Fx p s m args meth c cX7_comesOutAsSeen 4 RX7 (some .boolean) (rmL 2) 0 0 g a) (ko1 : kd o1 = 1) (h : M7_comesOutAsSeen o1 σ = some (r, σ')) : Z p l e (rmL 2) s m args below meth c (MQ below (QiW g a r σ') args s 0 0 (Ad a)) 4 g a 0 0 σ 0 [(0, .ref (a 25)), (1, .ref (a o1))] [] := by
  unfold M7_comesOutAsSeen at h
  refine z_iconst (v := 0) F dX7_comesOutAsSeen_0 rfl ?_
  refine z_istore_n (lv' := [(2, .int 0), (0, .ref (a 25)), (1, .ref (a o1))]) F dX7_comesOutAsSeen_1 rfl (by decide) rfl ?_
  refine z_sub (lv' := [(0, .ref (a 25)), (1, .ref (a o1)), (2, .int 0)]) [1, 2, 0] rfl ?_
  refine zM7_comesOutAsSeen_L2 F ko1 ?_ _ _ _ h
  intro σ10 h
  refine z_iconst (v := 1) F dX7_comesOutAsSeen_65 rfl ?_
  exact z_bret F (by first | exact Or.inl rfl | exact Or.inr rfl) h dX7_comesOutAsSeen_66
theorem ct7_comesOutAsSeen {r : Int32} {o1 : Nat} {σ : St} (ko1 : kd o1 = 1) (h : M7_comesOutAsSeen o1 σ = some (r, σ')) : Met l yX7_comesOutAsSeen (wsY yX7_comesOutAsSeen cX7_comesOutAsSeen 4 (some .boolean)) (rmL 2) (PcW g a [.ref (a 25), .ref (a o1)] σ) (QiW g a r σ') 0 0 (Ad a) :=
  ct_I (by decide) (Nat.le_of_ble_eq_true rfl) (fun p e s m args below meth c F => zM7_comesOutAsSeen F ko1 h)
theorem cl7_225 {r : Int32} {o1 : Nat} (F : Fx p s m args meth c cc nL RX7 rt R cz sz g a) (ko1 : kd o1 = 1) (h : M7_comesOutAsSeen o1 σ = some (r, σ1)) (hR : 2 + 1 ≤ R.frames ∧ 8 + (4 + 11) + 34 * 2 ≤ R.locals) (d : decode cc pc = .ok (.invokevirtual 225, 3)) (hrm : (rest.map fun v => v.category).sum ≤ 8) (z : Z p l e R s m args below meth c Q nL g a cz sz σ1 (pc + 3) lv (.int r :: rest)) : Z p l e R s m args below meth c Q nL g a cz sz σ pc lv (.ref (a o1) :: .ref (a 25) :: rest) :=
  z_callVI (nA := 1) (As := [.ref (a o1)]) F (ct7_comesOutAsSeen ko1 h) ⟨(tbm 673 (by decide +kernel) rfl), (tbm 675 (by decide +kernel) rfl), (tbs 49 (by decide +kernel) rfl), (tbm 1 (by decide +kernel) rfl), (tbm 676 (by decide +kernel) rfl)⟩ (by decide +kernel) rfl kdc_25 (by decide) rfl rfl rfl hR d rfl hrm z
theorem zM7_found {r : Int32} {x1 : Int32} {σ : St} (F : Fx p s m args meth c cX7_found 2 RX7 (some .int) (rmL 0) 0 0 g a) (h : M7_found x1 σ = some (r, σ')) : Z p l e (rmL 0) s m args below meth c (MQ below (QiW g a r σ') args s 0 0 (Ad a)) 2 g a 0 0 σ 0 [(0, .ref (a 25)), (1, .int x1)] [] := by
  unfold M7_found at h
  refine z_aload_n (q := 0) F dX7_found_0 rfl rfl ?_
  refine z_iload_n (q := 1) F dX7_found_1 rfl rfl ?_
  refine pf7_79 F kdc_25 dX7_found_2 ?_
  refine z_let h (fun σ1 h => ?_)
  refine z_bipush (v := (-10)) F dX7_found_5 rfl ?_
  refine z_iload_n (q := 1) F dX7_found_7 rfl rfl ?_
  refine z_isub F dX7_found_8 ?_
  exact z_iret F h dX7_found_9
theorem ct7_found {r : Int32} {x1 : Int32} {σ : St} (h : M7_found x1 σ = some (r, σ')) : Met l yX7_found (wsY yX7_found cX7_found 2 (some .int)) (rmL 0) (PcW g a [.ref (a 25), .int x1] σ) (QiW g a r σ') 0 0 (Ad a) :=
  ct_I (by decide) (Nat.le_of_ble_eq_true rfl) (fun p e s m args below meth c F => zM7_found F h)
theorem cl7_149 {r : Int32} {x1 : Int32} (F : Fx p s m args meth c cc nL RX7 rt R cz sz g a) (h : M7_found x1 σ = some (r, σ1)) (hR : 0 + 1 ≤ R.frames ∧ 8 + (2 + 11) + 34 * 0 ≤ R.locals) (d : decode cc pc = .ok (.invokevirtual 149, 3)) (hrm : (rest.map fun v => v.category).sum ≤ 8) (z : Z p l e R s m args below meth c Q nL g a cz sz σ1 (pc + 3) lv (.int r :: rest)) : Z p l e R s m args below meth c Q nL g a cz sz σ pc lv (.int x1 :: .ref (a 25) :: rest) :=
  z_callVI (nA := 1) (As := [.int x1]) F (ct7_found h) ⟨(tbm 464 (by decide +kernel) rfl), (tbm 466 (by decide +kernel) rfl), (tbs 13 (by decide +kernel) rfl), (tbm 1 (by decide +kernel) rfl), (tbm 467 (by decide +kernel) rfl)⟩ (by decide +kernel) rfl kdc_25 (by decide) rfl rfl rfl hR d rfl hrm z
theorem zM7_copy_J99 {r : Int32} {σ : St} (F : Fx p s m args meth c cX7_copy 8 RX7 (some .int) (rmL 1) 0 0 g a) (h : M7_copy_J99 σ = some (r, σ')) : Z p l e (rmL 1) s m args below meth c (MQ below (QiW g a r σ') args s 0 0 (Ad a)) 8 g a 0 0 σ 99 [(0, .ref (a 25))] [] := by
  unfold M7_copy_J99 at h
  refine z_aload_n (q := 0) F dX7_copy_99 rfl rfl ?_
  refine z_iconst (v := 2) F dX7_copy_100 rfl ?_
  obtain ⟨r13, σ13, hq13, h⟩ := bd_of h
  refine cl7_149 F hq13 ⟨Nat.le_of_ble_eq_true rfl, Nat.le_of_ble_eq_true rfl⟩ dX7_copy_101 (Nat.le_of_ble_eq_true rfl) ?_
  exact z_iret F h dX7_copy_104
theorem zM7_copy_J51 {r : Int32} {σ : St} (F : Fx p s m args meth c cX7_copy 8 RX7 (some .int) (rmL 1) 0 0 g a) (h : M7_copy_J51 σ = some (r, σ')) : Z p l e (rmL 1) s m args below meth c (MQ below (QiW g a r σ') args s 0 0 (Ad a)) 8 g a 0 0 σ 51 [(0, .ref (a 25))] [] := by
  unfold M7_copy_J51 at h
  refine z_aload_n (q := 0) F dX7_copy_51 rfl rfl ?_
  refine z_iconst (v := 1) F dX7_copy_52 rfl ?_
  obtain ⟨r8, σ8, hq8, h⟩ := bd_of h
  refine cl7_149 F hq8 ⟨Nat.le_of_ble_eq_true rfl, Nat.le_of_ble_eq_true rfl⟩ dX7_copy_53 (Nat.le_of_ble_eq_true rfl) ?_
  exact z_iret F h dX7_copy_56
theorem zM7_copy {r : Int32} {x1 : Int32} {x2 : Int32} {x3 : Int32} {x4 : Int32} {x5 : Int32} {σ : St} (F : Fx p s m args meth c cX7_copy 8 RX7 (some .int) (rmL 1) 0 0 g a) (h : M7_copy x1 x2 x3 x4 x5 σ = some (r, σ')) : Z p l e (rmL 1) s m args below meth c (MQ below (QiW g a r σ') args s 0 0 (Ad a)) 8 g a 0 0 σ 0 [(0, .ref (a 25)), (1, .int x1), (2, .int x2), (3, .int x3), (4, .int x4), (5, .int x5)] [] := by
  unfold M7_copy at h
  refine z_iload_n (q := 1) F dX7_copy_0 rfl rfl ?_
  refine z_iconst (v := 4) F dX7_copy_1 rfl ?_
  obtain ⟨r1, σ1, hq1, h⟩ := bd_of h
  refine cl7_83 F hq1 ⟨Nat.le_of_ble_eq_true rfl, Nat.le_of_ble_eq_true rfl⟩ dX7_copy_2 (Nat.le_of_ble_eq_true rfl) ?_
  refine z_if_eq (tgt := 16) F dX7_copy_5 rfl (fun c2 => ?_) (fun c2 => ?_)
  · have h := ite_T c2 h
    refine z_bipush (v := (-2)) F dX7_copy_16 rfl ?_
    exact z_iret F h dX7_copy_18
  · have h := ite_F c2 h
    refine z_iload_n (q := 3) F dX7_copy_8 rfl rfl ?_
    refine z_iconst (v := 4) F dX7_copy_9 rfl ?_
    obtain ⟨r3, σ3, hq3, h⟩ := bd_of h
    refine cl7_83 F hq3 ⟨Nat.le_of_ble_eq_true rfl, Nat.le_of_ble_eq_true rfl⟩ dX7_copy_10 (Nat.le_of_ble_eq_true rfl) ?_
    refine z_if_ne (tgt := 19) F dX7_copy_13 rfl (fun c4 => ?_) (fun c4 => ?_)
    · have h := ite_F c4 h
      refine z_aload_n (q := 0) F dX7_copy_19 rfl rfl ?_
      refine gf7_71 F kdc_25 dX7_copy_20 ?_
      refine z_iload_n (q := 1) F dX7_copy_23 rfl rfl ?_
      obtain ⟨g5, h⟩ := gd_of h
      refine z_aldS F kdc_89 (inb_in g5) dX7_copy_24 ?_
      refine z_astore (lv' := [(6, .ref (a (89 + 1 + 2 * x1.toNatClampNeg))), (0, .ref (a 25)), (1, .int x1), (2, .int x2), (3, .int x3), (4, .int x4), (5, .int x5)]) F dX7_copy_25 (by decide) rfl ?_
      refine z_aload_n (q := 1) F dX7_copy_27 rfl rfl ?_
      refine gf7_71 F kdc_25 dX7_copy_28 ?_
      refine z_iload_n (q := 4) F dX7_copy_31 rfl rfl ?_
      obtain ⟨g6, h⟩ := gd_of h
      refine z_aldS F kdc_89 (inb_in g6) dX7_copy_32 ?_
      refine z_astore (lv' := [(7, .ref (a (89 + 1 + 2 * x3.toNatClampNeg))), (6, .ref (a (89 + 1 + 2 * x1.toNatClampNeg))), (0, .ref (a 25)), (1, .int x1), (2, .int x2), (3, .int x3), (4, .int x4), (5, .int x5)]) F dX7_copy_33 (by decide) rfl ?_
      refine z_aload (q := 1) F dX7_copy_35 rfl ?_
      refine gf7_146 F (kdS kdc_89 g5) dX7_copy_37 ?_
      refine z_if_ne (tgt := 51) F dX7_copy_40 rfl (fun c7 => ?_) (fun c7 => ?_)
      · have h := ite_F c7 h
        refine z_sub (lv' := [(0, .ref (a 25))]) [2] rfl ?_
        exact zM7_copy_J51 F h
      · have h := ite_T c7 h
        refine z_aload (q := 0) F dX7_copy_43 rfl ?_
        refine gf7_146 F (kdS kdc_89 g6) dX7_copy_45 ?_
        refine z_if_eq (tgt := 57) F dX7_copy_48 rfl (fun c9 => ?_) (fun c9 => ?_)
        · have h := ite_T c9 h
          refine z_aload (q := 1) F dX7_copy_57 rfl ?_
          refine gf7_285 F (kdS kdc_89 g5) dX7_copy_59 ?_
          refine z_aload (q := 0) F dX7_copy_62 rfl ?_
          refine gf7_285 F (kdS kdc_89 g6) dX7_copy_64 ?_
          refine z_icmp_eq (tgt := 76) F dX7_copy_67 rfl (fun c10 => ?_) (fun c10 => ?_)
          · have h := ite_T c10 h
            refine z_aload (q := 1) F dX7_copy_76 rfl ?_
            refine z_iload_n (q := 4) F dX7_copy_78 rfl rfl ?_
            refine z_iload (q := 7) F dX7_copy_79 rfl ?_
            obtain ⟨r11, σ11, hq11, h⟩ := bd_of h
            refine cl7_288 F (kdS kdc_89 g5) hq11 ⟨Nat.le_of_ble_eq_true rfl, Nat.le_of_ble_eq_true rfl⟩ dX7_copy_81 (Nat.le_of_ble_eq_true rfl) ?_
            refine z_if_eq (tgt := 99) F dX7_copy_84 rfl (fun c12 => ?_) (fun c12 => ?_)
            · have h := ite_T c12 h
              refine z_sub (lv' := [(0, .ref (a 25))]) [2] rfl ?_
              exact zM7_copy_J99 F h
            · have h := ite_F c12 h
              refine z_aload (q := 0) F dX7_copy_87 rfl ?_
              refine z_iload (q := 6) F dX7_copy_89 rfl ?_
              refine z_iload (q := 7) F dX7_copy_91 rfl ?_
              obtain ⟨r14, σ14, hq14, h⟩ := bd_of h
              refine cl7_288 F (kdS kdc_89 g6) hq14 ⟨Nat.le_of_ble_eq_true rfl, Nat.le_of_ble_eq_true rfl⟩ dX7_copy_93 (Nat.le_of_ble_eq_true rfl) ?_
              refine z_if_ne (tgt := 105) F dX7_copy_96 rfl (fun c15 => ?_) (fun c15 => ?_)
              · have h := ite_F c15 h
                refine z_aload (q := 1) F dX7_copy_105 rfl ?_
                refine gf7_291 F (kdS kdc_89 g5) dX7_copy_107 ?_
                refine z_iload_n (q := 4) F dX7_copy_110 rfl rfl ?_
                refine z_aload (q := 0) F dX7_copy_111 rfl ?_
                refine gf7_291 F (kdS kdc_89 g6) dX7_copy_113 ?_
                refine z_iload (q := 6) F dX7_copy_116 rfl ?_
                refine z_iload (q := 7) F dX7_copy_118 rfl ?_
                obtain ⟨g16, h⟩ := gd_of h
                refine z_copy F (kf_5_0 (kdS kdc_89 g5)) (kf_5_0 (kdS kdc_89 g6)) g16 (tbm 760 (by decide +kernel) rfl) (tbm 459 (by decide +kernel) rfl) (tbm 458 (by decide +kernel) rfl) (tbm 16 (by decide +kernel) rfl) (Nat.le_of_ble_eq_true rfl) (Nat.le_of_ble_eq_true rfl) dX7_copy_120 ?_
                refine z_let h (fun σ17 h => ?_)
                refine z_iconst (v := 1) F dX7_copy_123 rfl ?_
                exact z_iret F h dX7_copy_124
              · have h := ite_T c15 h
                refine z_sub (lv' := [(0, .ref (a 25))]) [2] rfl ?_
                exact zM7_copy_J99 F h
          · have h := ite_F c10 h
            refine z_aload_n (q := 2) F dX7_copy_70 rfl rfl ?_
            refine z_iconst (v := 4) F dX7_copy_71 rfl ?_
            obtain ⟨r18, σ18, hq18, h⟩ := bd_of h
            refine cl7_149 F hq18 ⟨Nat.le_of_ble_eq_true rfl, Nat.le_of_ble_eq_true rfl⟩ dX7_copy_72 (Nat.le_of_ble_eq_true rfl) ?_
            exact z_iret F h dX7_copy_75
        · have h := ite_F c9 h
          refine z_sub (lv' := [(0, .ref (a 25))]) [2] rfl ?_
          exact zM7_copy_J51 F h
    · have h := ite_T c4 h
      refine z_bipush (v := (-2)) F dX7_copy_16 rfl ?_
      exact z_iret F h dX7_copy_18
theorem ct7_copy {r : Int32} {x1 : Int32} {x2 : Int32} {x3 : Int32} {x4 : Int32} {x5 : Int32} {σ : St} (h : M7_copy x1 x2 x3 x4 x5 σ = some (r, σ')) : Met l yX7_copy (wsY yX7_copy cX7_copy 8 (some .int)) (rmL 1) (PcW g a [.ref (a 25), .int x1, .int x2, .int x3, .int x4, .int x5] σ) (QiW g a r σ') 0 0 (Ad a) :=
  ct_I (by decide) (Nat.le_of_ble_eq_true rfl) (fun p e s m args below meth c F => zM7_copy F h)

end WalkZ
