section WalkZ
variable {p : Program} {l : Launch} {e : Env} {R : Room} {s : State} {m : MethodId} {args : Array Value} {below : List Frame} {meth : Method} {c : Code} {Q : State → Prop} {cc : ByteArray} {nL : Nat} {own : String} {rt : Option FieldType} {g : Gd} {a : Nat → Nat} {cz sz : Nat} {σ σ1 σ' : St} {pc : Nat} {lv lv' : List (Nat × Value)} {st st0 rest : List Value}
theorem zM7_count {r : Int32} {x1 : Int32} {σ : St} (F : Fx p s m args meth c cX7_count 2 RX7 (some .int) (rmL 4) 0 0 g a) (h : M7_count x1 σ = some (r, σ')) : Z p l e (rmL 4) s m args below meth c (MQ below (QiW g a r σ') args s 0 0 (Ad a)) 2 g a 0 0 σ 0 [(0, .ref (a 25)), (1, .int x1)] [] := by
  unfold M7_count at h
  refine z_iload_n (q := 1) F dX7_count_0 rfl rfl ?_
  by_cases c0_1 : x1 = 0
  · have h := ite_T c0_1 h
    refine z_tabIn (off := 51) (tgt := 52) F dX7_count_1 (by rw [c0_1]; decide) (by rw [c0_1]; decide) (by rw [c0_1]; rfl) rfl ?_
    refine z_aload_n (q := 0) F dX7_count_52 rfl rfl ?_
    refine gf7_16 F kdc_25 dX7_count_53 ?_
    refine gf7_190 F kdc_26 dX7_count_56 ?_
    exact z_iret F h dX7_count_59
  have h := ite_F c0_1 h
  by_cases c1_1 : x1 = 1
  · have h := ite_T c1_1 h
    refine z_tabIn (off := 59) (tgt := 60) F dX7_count_1 (by rw [c1_1]; decide) (by rw [c1_1]; decide) (by rw [c1_1]; rfl) rfl ?_
    refine z_aload_n (q := 0) F dX7_count_60 rfl rfl ?_
    refine gf7_22 F kdc_25 dX7_count_61 ?_
    refine gf7_190 F kdc_29 dX7_count_64 ?_
    exact z_iret F h dX7_count_67
  have h := ite_F c1_1 h
  by_cases c2_1 : x1 = 2
  · have h := ite_T c2_1 h
    refine z_tabIn (off := 67) (tgt := 68) F dX7_count_1 (by rw [c2_1]; decide) (by rw [c2_1]; decide) (by rw [c2_1]; rfl) rfl ?_
    refine z_aload_n (q := 0) F dX7_count_68 rfl rfl ?_
    refine gf7_16 F kdc_25 dX7_count_69 ?_
    refine gf7_91 F kdc_26 dX7_count_72 ?_
    exact z_iret F h dX7_count_75
  have h := ite_F c2_1 h
  by_cases c3_1 : x1 = 3
  · have h := ite_T c3_1 h
    refine z_tabIn (off := 75) (tgt := 76) F dX7_count_1 (by rw [c3_1]; decide) (by rw [c3_1]; decide) (by rw [c3_1]; rfl) rfl ?_
    refine z_aload_n (q := 0) F dX7_count_76 rfl rfl ?_
    refine gf7_22 F kdc_25 dX7_count_77 ?_
    refine gf7_91 F kdc_29 dX7_count_80 ?_
    exact z_iret F h dX7_count_83
  have h := ite_F c3_1 h
  by_cases c4_1 : x1 = 4
  · have h := ite_T c4_1 h
    refine z_tabIn (off := 83) (tgt := 84) F dX7_count_1 (by rw [c4_1]; decide) (by rw [c4_1]; decide) (by rw [c4_1]; rfl) rfl ?_
    refine z_aload_n (q := 0) F dX7_count_84 rfl rfl ?_
    refine gf7_30 F kdc_25 dX7_count_85 ?_
    refine gf7_119 F kdc_32 dX7_count_88 ?_
    refine gf7_140 F kdc_33 dX7_count_91 ?_
    exact z_iret F h dX7_count_94
  have h := ite_F c4_1 h
  by_cases c5_1 : x1 = 5
  · have h := ite_T c5_1 h
    refine z_tabIn (off := 94) (tgt := 95) F dX7_count_1 (by rw [c5_1]; decide) (by rw [c5_1]; decide) (by rw [c5_1]; rfl) rfl ?_
    refine z_aload_n (q := 0) F dX7_count_95 rfl rfl ?_
    obtain ⟨r1, σ1, hq1, h⟩ := bd_of h
    obtain ⟨g2, h⟩ := gd_of h
    refine cl7_159 F hq1 ⟨Nat.le_of_ble_eq_true rfl, Nat.le_of_ble_eq_true rfl⟩ dX7_count_96 (Nat.le_of_ble_eq_true rfl) ?_
    refine z_iconst (v := 0) F dX7_count_99 rfl ?_
    refine z_aload_n (q := 0) F dX7_count_100 rfl rfl ?_
    refine gf7_30 F kdc_25 dX7_count_101 ?_
    refine gf7_119 F kdc_32 dX7_count_104 ?_
    refine gf7_140 F kdc_33 dX7_count_107 ?_
    obtain ⟨r3, σ3, hq3, h⟩ := bd_of h
    refine cl7_271 F g2 hq3 ⟨Nat.le_of_ble_eq_true rfl, Nat.le_of_ble_eq_true rfl⟩ dX7_count_110 (Nat.le_of_ble_eq_true rfl) ?_
    exact z_iret F h dX7_count_113
  have h := ite_F c5_1 h
  by_cases c6_1 : x1 = 6
  · have h := ite_T c6_1 h
    refine z_tabIn (off := 113) (tgt := 114) F dX7_count_1 (by rw [c6_1]; decide) (by rw [c6_1]; decide) (by rw [c6_1]; rfl) rfl ?_
    refine z_aload_n (q := 0) F dX7_count_114 rfl rfl ?_
    refine gf7_30 F kdc_25 dX7_count_115 ?_
    refine gf7_130 F kdc_32 dX7_count_118 ?_
    refine gf7_140 F kdc_35 dX7_count_121 ?_
    refine z_aload_n (q := 0) F dX7_count_124 rfl rfl ?_
    refine gf7_30 F kdc_25 dX7_count_125 ?_
    refine gf7_137 F kdc_32 dX7_count_128 ?_
    refine gf7_140 F kdc_37 dX7_count_131 ?_
    refine z_iadd F dX7_count_134 ?_
    exact z_iret F h dX7_count_135
  have h := ite_F c6_1 h
  by_cases c7_1 : x1 = 7
  · have h := ite_T c7_1 h
    refine z_tabIn (off := 135) (tgt := 136) F dX7_count_1 (by rw [c7_1]; decide) (by rw [c7_1]; decide) (by rw [c7_1]; rfl) rfl ?_
    refine z_aload_n (q := 0) F dX7_count_136 rfl rfl ?_
    refine gf7_37 F kdc_25 dX7_count_137 ?_
    refine gf7_140 F kdc_46 dX7_count_140 ?_
    exact z_iret F h dX7_count_143
  have h := ite_F c7_1 h
  by_cases c8_1 : x1 = 8
  · have h := ite_T c8_1 h
    refine z_tabIn (off := 143) (tgt := 144) F dX7_count_1 (by rw [c8_1]; decide) (by rw [c8_1]; decide) (by rw [c8_1]; rfl) rfl ?_
    refine z_aload_n (q := 0) F dX7_count_144 rfl rfl ?_
    refine gf7_79 F kdc_25 dX7_count_145 ?_
    exact z_iret F h dX7_count_148
  have h := ite_F c8_1 h
  refine z_tabOut (tgt := 149) F dX7_count_1 (by have e0 := sw_ne (n := 0) c0_1 (by decide); have e1 := sw_ne (n := 1) c1_1 (by decide); have e2 := sw_ne (n := 2) c2_1 (by decide); have e3 := sw_ne (n := 3) c3_1 (by decide); have e4 := sw_ne (n := 4) c4_1 (by decide); have e5 := sw_ne (n := 5) c5_1 (by decide); have e6 := sw_ne (n := 6) c6_1 (by decide); have e7 := sw_ne (n := 7) c7_1 (by decide); have e8 := sw_ne (n := 8) c8_1 (by decide); omega) rfl ?_
  refine z_bipush (v := (-2)) F dX7_count_149 rfl ?_
  exact z_iret F h dX7_count_151
theorem ct7_count {r : Int32} {x1 : Int32} {σ : St} (h : M7_count x1 σ = some (r, σ')) : Met l yX7_count (wsY yX7_count cX7_count 2 (some .int)) (rmL 4) (PcW g a [.ref (a 25), .int x1] σ) (QiW g a r σ') 0 0 (Ad a) :=
  ct_I (by decide) (Nat.le_of_ble_eq_true rfl) (fun p e s m args below meth c F => zM7_count F h)
theorem cl7_309 {r : Int32} {x1 : Int32} (F : Fx p s m args meth c cc nL RX7 rt R cz sz g a) (h : M7_count x1 σ = some (r, σ1)) (hR : 4 + 1 ≤ R.frames ∧ 8 + (2 + 11) + 34 * 4 ≤ R.locals) (d : decode cc pc = .ok (.invokevirtual 309, 3)) (hrm : (rest.map fun v => v.category).sum ≤ 8) (z : Z p l e R s m args below meth c Q nL g a cz sz σ1 (pc + 3) lv (.int r :: rest)) : Z p l e R s m args below meth c Q nL g a cz sz σ pc lv (.int x1 :: .ref (a 25) :: rest) :=
  z_callVI (nA := 1) (As := [.int x1]) F (ct7_count h) ⟨(tbm 775 (by decide +kernel) rfl), (tbm 766 (by decide +kernel) rfl), (tbm 767 (by decide +kernel) rfl), (tbm 1 (by decide +kernel) rfl), (tbm 768 (by decide +kernel) rfl)⟩ (by decide +kernel) rfl kdc_25 (by decide) rfl rfl rfl hR d rfl hrm z
theorem zM7_courseWithoutPatch {r : Nat} {x1 : Int32} {x2 : Int32} {σ : St} (F : Fx p s m args meth c cX7_courseWithoutPatch 3 RX7 (some (.object "HoleBank$Course")) (rmL 3) 0 0 g a) (h : M7_courseWithoutPatch x1 x2 σ = some (r, σ')) : Z p l e (rmL 3) s m args below meth c (MQ below (QrW g a r σ') args s 0 0 (Ad a)) 3 g a 0 0 σ 0 [(0, .ref (a 25)), (1, .int x1), (2, .int x2)] [] := by
  unfold M7_courseWithoutPatch at h
  refine z_aload_n (q := 0) F dX7_courseWithoutPatch_0 rfl rfl ?_
  refine gf7_52 F kdc_25 dX7_courseWithoutPatch_1 ?_
  refine z_aload_n (q := 0) F dX7_courseWithoutPatch_4 rfl rfl ?_
  refine gf7_30 F kdc_25 dX7_courseWithoutPatch_5 ?_
  obtain ⟨r1, σ1, hq1, h⟩ := bd_of h
  refine cl7_257 F kdc_39 kdc_32 hq1 ⟨Nat.le_of_ble_eq_true rfl, Nat.le_of_ble_eq_true rfl⟩ dX7_courseWithoutPatch_8 (Nat.le_of_ble_eq_true rfl) ?_
  refine z_aload_n (q := 0) F dX7_courseWithoutPatch_11 rfl rfl ?_
  refine gf7_52 F kdc_25 dX7_courseWithoutPatch_12 ?_
  refine gf7_137 F kdc_39 dX7_courseWithoutPatch_15 ?_
  refine z_iload_n (q := 1) F dX7_courseWithoutPatch_18 rfl rfl ?_
  obtain ⟨r2, σ2, hq2, h⟩ := bd_of h
  refine cl7_143 F kdc_44 hq2 ⟨Nat.le_of_ble_eq_true rfl, Nat.le_of_ble_eq_true rfl⟩ dX7_courseWithoutPatch_19 (Nat.le_of_ble_eq_true rfl) ?_
  refine z_pop F dX7_courseWithoutPatch_22 rfl ?_
  refine z_aload_n (q := 0) F dX7_courseWithoutPatch_23 rfl rfl ?_
  refine gf7_55 F kdc_25 dX7_courseWithoutPatch_24 ?_
  refine z_aload_n (q := 0) F dX7_courseWithoutPatch_27 rfl rfl ?_
  refine gf7_16 F kdc_25 dX7_courseWithoutPatch_28 ?_
  refine z_aload_n (q := 0) F dX7_courseWithoutPatch_31 rfl rfl ?_
  refine gf7_52 F kdc_25 dX7_courseWithoutPatch_32 ?_
  refine z_iload_n (q := 2) F dX7_courseWithoutPatch_35 rfl rfl ?_
  obtain ⟨r3, σ3, hq3, h⟩ := bd_of h
  refine cl7_267 F kdc_66 kdc_26 kdc_39 hq3 ⟨Nat.le_of_ble_eq_true rfl, Nat.le_of_ble_eq_true rfl⟩ dX7_courseWithoutPatch_36 (Nat.le_of_ble_eq_true rfl) ?_
  refine z_aload_n (q := 0) F dX7_courseWithoutPatch_39 rfl rfl ?_
  refine gf7_55 F kdc_25 dX7_courseWithoutPatch_40 ?_
  exact z_aret F h dX7_courseWithoutPatch_43
theorem ct7_courseWithoutPatch {r : Nat} {x1 : Int32} {x2 : Int32} {σ : St} (h : M7_courseWithoutPatch x1 x2 σ = some (r, σ')) : Met l yX7_courseWithoutPatch (wsY yX7_courseWithoutPatch cX7_courseWithoutPatch 3 (some (.object "HoleBank$Course"))) (rmL 3) (PcW g a [.ref (a 25), .int x1, .int x2] σ) (QrW g a r σ') 0 0 (Ad a) :=
  ct_R (by decide) (Nat.le_of_ble_eq_true rfl) (fun p e s m args below meth c F => zM7_courseWithoutPatch F h)
theorem cl7_222 {r : Nat} {x1 : Int32} {x2 : Int32} (F : Fx p s m args meth c cc nL RX7 rt R cz sz g a) (h : M7_courseWithoutPatch x1 x2 σ = some (r, σ1)) (hR : 3 + 1 ≤ R.frames ∧ 8 + (3 + 11) + 34 * 3 ≤ R.locals) (d : decode cc pc = .ok (.invokevirtual 222, 3)) (hrm : (rest.map fun v => v.category).sum ≤ 8) (z : Z p l e R s m args below meth c Q nL g a cz sz σ1 (pc + 3) lv (.ref (a r) :: rest)) : Z p l e R s m args below meth c Q nL g a cz sz σ pc lv (.int x2 :: .int x1 :: .ref (a 25) :: rest) :=
  z_callVR (nA := 2) (As := [.int x1, .int x2]) F (ct7_courseWithoutPatch h) ⟨(tbm 669 (by decide +kernel) rfl), (tbm 671 (by decide +kernel) rfl), (tbs 48 (by decide +kernel) rfl), (tbm 1 (by decide +kernel) rfl), (tbm 672 (by decide +kernel) rfl)⟩ (by decide +kernel) rfl kdc_25 (by decide) rfl rfl rfl hR d rfl hrm z
theorem zM7_greatestAlike_L4 {r : Int32} {x1 : Int32} (F : Fx p s m args meth c cX7_greatestAlike 4 RX7 (some .int) (rmL 1) 0 0 g a) {kx : Int32 → St → Option (Int32 × St)} (hx : ∀ (w2 : Int32) (σ : St), kx w2 σ = some (r, σ') → Z p l e (rmL 1) s m args below meth c (MQ below (QiW g a r σ') args s 0 0 (Ad a)) 4 g a 0 0 σ 32 [(2, .int w2)] []) : ∀ (n : Nat) (x2 : Int32) (x3 : Int32) (σ : St), M7_greatestAlike_L4 x1 kx n x2 x3 σ = some (r, σ') → Z p l e (rmL 1) s m args below meth c (MQ below (QiW g a r σ') args s 0 0 (Ad a)) 4 g a 0 0 σ 4 [(0, .ref (a 25)), (1, .int x1), (2, .int x2), (3, .int x3)] [] := by
  intro n
  induction n with
  | zero => intro x2 x3 σ h; rw [M7_greatestAlike_L4] at h; cases h
  | succ n ih =>
    intro x2 x3 σ h
    rw [M7_greatestAlike_L4] at h
    refine z_iload_n (q := 3) F dX7_greatestAlike_4 rfl rfl ?_
    refine z_bipush (v := 9) F dX7_greatestAlike_5 rfl ?_
    refine z_icmp_gt (tgt := 32) F dX7_greatestAlike_7 rfl (fun c1 => ?_) (fun c1 => ?_)
    · have h := ite_T c1 h
      refine z_sub (lv' := [(2, .int x2)]) [2] rfl ?_
      exact hx _ _ h
    · have h := ite_F c1 h
      refine z_iload_n (q := 2) F dX7_greatestAlike_10 rfl rfl ?_
      refine z_aload_n (q := 0) F dX7_greatestAlike_11 rfl rfl ?_
      refine gf7_65 F kdc_25 dX7_greatestAlike_12 ?_
      refine z_iload_n (q := 1) F dX7_greatestAlike_15 rfl rfl ?_
      refine z_bipush (v := 10) F dX7_greatestAlike_16 rfl ?_
      refine z_imul F dX7_greatestAlike_18 ?_
      refine z_iload_n (q := 3) F dX7_greatestAlike_19 rfl rfl ?_
      refine z_iadd F dX7_greatestAlike_20 ?_
      obtain ⟨g2, h⟩ := gd_of h
      refine z_iald F kdc_88 (inl lnc_88 g2) dX7_greatestAlike_21 ?_
      refine z_mmax F (tbm 627 (by decide +kernel) rfl) (tbm 325 (by decide +kernel) rfl) (tbm 12 (by decide +kernel) rfl) (tbm 326 (by decide +kernel) rfl) (Nat.le_of_ble_eq_true rfl) (Nat.le_of_ble_eq_true rfl) dX7_greatestAlike_22 ?_
      refine z_letI h (fun v3 h => ?_)
      refine z_istore_n (lv' := [(2, .int v3), (0, .ref (a 25)), (1, .int x1), (3, .int x3)]) F dX7_greatestAlike_25 rfl (by decide) rfl ?_
      refine z_iinc (q := 3) (v := x3 + 1) (lv' := [(3, .int (x3 + 1)), (2, .int v3), (0, .ref (a 25)), (1, .int x1)]) F dX7_greatestAlike_26 rfl rfl (by decide) rfl ?_
      refine z_letL (s0 := 3) (lv := [(2, .int v3), (0, .ref (a 25)), (1, .int x1)]) h (fun v4 h => ?_)
      refine z_goto (tgt := 4) F dX7_greatestAlike_29 rfl ?_
      refine z_sub (lv' := [(0, .ref (a 25)), (1, .int x1), (2, .int v3), (3, .int v4)]) [2, 3, 1, 0] rfl ?_
      exact ih _ _ _ h
theorem zM7_greatestAlike {r : Int32} {x1 : Int32} {σ : St} (F : Fx p s m args meth c cX7_greatestAlike 4 RX7 (some .int) (rmL 1) 0 0 g a) (h : M7_greatestAlike x1 σ = some (r, σ')) : Z p l e (rmL 1) s m args below meth c (MQ below (QiW g a r σ') args s 0 0 (Ad a)) 4 g a 0 0 σ 0 [(0, .ref (a 25)), (1, .int x1)] [] := by
  unfold M7_greatestAlike at h
  refine z_iconst (v := 0) F dX7_greatestAlike_0 rfl ?_
  refine z_istore_n (lv' := [(2, .int 0), (0, .ref (a 25)), (1, .int x1)]) F dX7_greatestAlike_1 rfl (by decide) rfl ?_
  refine z_iconst (v := 0) F dX7_greatestAlike_2 rfl ?_
  refine z_istore_n (lv' := [(3, .int 0), (2, .int 0), (0, .ref (a 25)), (1, .int x1)]) F dX7_greatestAlike_3 rfl (by decide) rfl ?_
  refine z_sub (lv' := [(0, .ref (a 25)), (1, .int x1), (2, .int 0), (3, .int 0)]) [2, 3, 1, 0] rfl ?_
  refine zM7_greatestAlike_L4 F ?_ _ _ _ _ h
  intro v5 σ6 h
  refine z_iload_n (q := 0) F dX7_greatestAlike_32 rfl rfl ?_
  exact z_iret F h dX7_greatestAlike_33
theorem ct7_greatestAlike {r : Int32} {x1 : Int32} {σ : St} (h : M7_greatestAlike x1 σ = some (r, σ')) : Met l yX7_greatestAlike (wsY yX7_greatestAlike cX7_greatestAlike 4 (some .int)) (rmL 1) (PcW g a [.ref (a 25), .int x1] σ) (QiW g a r σ') 0 0 (Ad a) :=
  ct_I (by decide) (Nat.le_of_ble_eq_true rfl) (fun p e s m args below meth c F => zM7_greatestAlike F h)
theorem cl7_244 {r : Int32} {x1 : Int32} (F : Fx p s m args meth c cc nL RX7 rt R cz sz g a) (h : M7_greatestAlike x1 σ = some (r, σ1)) (hR : 1 + 1 ≤ R.frames ∧ 8 + (4 + 11) + 34 * 1 ≤ R.locals) (d : decode cc pc = .ok (.invokevirtual 244, 3)) (hrm : (rest.map fun v => v.category).sum ≤ 8) (z : Z p l e R s m args below meth c Q nL g a cz sz σ1 (pc + 3) lv (.int r :: rest)) : Z p l e R s m args below meth c Q nL g a cz sz σ pc lv (.int x1 :: .ref (a 25) :: rest) :=
  z_callVI (nA := 1) (As := [.int x1]) F (ct7_greatestAlike h) ⟨(tbm 690 (by decide +kernel) rfl), (tbm 692 (by decide +kernel) rfl), (tbs 52 (by decide +kernel) rfl), (tbm 1 (by decide +kernel) rfl), (tbm 693 (by decide +kernel) rfl)⟩ (by decide +kernel) rfl kdc_25 (by decide) rfl rfl rfl hR d rfl hrm z
theorem zM7_lastSightDay_L4 {r : Int32} (F : Fx p s m args meth c cX7_lastSightDay 3 RX7 (some .int) (rmL 1) 0 0 g a) {kx : Int32 → St → Option (Int32 × St)} (hx : ∀ (w1 : Int32) (σ : St), kx w1 σ = some (r, σ') → Z p l e (rmL 1) s m args below meth c (MQ below (QiW g a r σ') args s 0 0 (Ad a)) 3 g a 0 0 σ 35 [(1, .int w1)] []) : ∀ (n : Nat) (x1 : Int32) (x2 : Int32) (σ : St), M7_lastSightDay_L4 kx n x1 x2 σ = some (r, σ') → Z p l e (rmL 1) s m args below meth c (MQ below (QiW g a r σ') args s 0 0 (Ad a)) 3 g a 0 0 σ 4 [(0, .ref (a 25)), (1, .int x1), (2, .int x2)] [] := by
  intro n
  induction n with
  | zero => intro x1 x2 σ h; rw [M7_lastSightDay_L4] at h; cases h
  | succ n ih =>
    intro x1 x2 σ h
    rw [M7_lastSightDay_L4] at h
    refine z_iload_n (q := 2) F dX7_lastSightDay_4 rfl rfl ?_
    refine z_aload_n (q := 0) F dX7_lastSightDay_5 rfl rfl ?_
    refine gf7_37 F kdc_25 dX7_lastSightDay_6 ?_
    refine gf7_140 F kdc_46 dX7_lastSightDay_9 ?_
    refine z_icmp_ge (tgt := 35) F dX7_lastSightDay_12 rfl (fun c1 => ?_) (fun c1 => ?_)
    · have h := ite_T c1 h
      refine z_sub (lv' := [(1, .int x1)]) [1] rfl ?_
      exact hx _ _ h
    · have h := ite_F c1 h
      refine z_iload_n (q := 1) F dX7_lastSightDay_15 rfl rfl ?_
      refine z_aload_n (q := 0) F dX7_lastSightDay_16 rfl rfl ?_
      refine gf7_37 F kdc_25 dX7_lastSightDay_17 ?_
      refine z_iload_n (q := 2) F dX7_lastSightDay_20 rfl rfl ?_
      refine z_iconst (v := 0) F dX7_lastSightDay_21 rfl ?_
      obtain ⟨r2, σ2, hq2, h⟩ := bd_of h
      refine cl7_172 F kdc_46 hq2 ⟨Nat.le_of_ble_eq_true rfl, Nat.le_of_ble_eq_true rfl⟩ dX7_lastSightDay_22 (Nat.le_of_ble_eq_true rfl) ?_
      refine z_mmax F (tbm 627 (by decide +kernel) rfl) (tbm 325 (by decide +kernel) rfl) (tbm 12 (by decide +kernel) rfl) (tbm 326 (by decide +kernel) rfl) (Nat.le_of_ble_eq_true rfl) (Nat.le_of_ble_eq_true rfl) dX7_lastSightDay_25 ?_
      refine z_letI h (fun v3 h => ?_)
      refine z_istore_n (lv' := [(1, .int v3), (0, .ref (a 25)), (2, .int x2)]) F dX7_lastSightDay_28 rfl (by decide) rfl ?_
      refine z_iinc (q := 2) (v := x2 + 1) (lv' := [(2, .int (x2 + 1)), (1, .int v3), (0, .ref (a 25))]) F dX7_lastSightDay_29 rfl rfl (by decide) rfl ?_
      refine z_letL (s0 := 2) (lv := [(1, .int v3), (0, .ref (a 25))]) h (fun v4 h => ?_)
      refine z_goto (tgt := 4) F dX7_lastSightDay_32 rfl ?_
      refine z_sub (lv' := [(0, .ref (a 25)), (1, .int v3), (2, .int v4)]) [2, 1, 0] rfl ?_
      exact ih _ _ _ h
theorem zM7_lastSightDay {r : Int32} {σ : St} (F : Fx p s m args meth c cX7_lastSightDay 3 RX7 (some .int) (rmL 1) 0 0 g a) (h : M7_lastSightDay σ = some (r, σ')) : Z p l e (rmL 1) s m args below meth c (MQ below (QiW g a r σ') args s 0 0 (Ad a)) 3 g a 0 0 σ 0 [(0, .ref (a 25))] [] := by
  unfold M7_lastSightDay at h
  refine z_iconst (v := 0) F dX7_lastSightDay_0 rfl ?_
  refine z_istore_n (lv' := [(1, .int 0), (0, .ref (a 25))]) F dX7_lastSightDay_1 rfl (by decide) rfl ?_
  refine z_iconst (v := 0) F dX7_lastSightDay_2 rfl ?_
  refine z_istore_n (lv' := [(2, .int 0), (1, .int 0), (0, .ref (a 25))]) F dX7_lastSightDay_3 rfl (by decide) rfl ?_
  refine z_sub (lv' := [(0, .ref (a 25)), (1, .int 0), (2, .int 0)]) [2, 1, 0] rfl ?_
  refine zM7_lastSightDay_L4 F ?_ _ _ _ _ h
  intro v5 σ6 h
  refine z_iload_n (q := 0) F dX7_lastSightDay_35 rfl rfl ?_
  exact z_iret F h dX7_lastSightDay_36
theorem ct7_lastSightDay {r : Int32} {σ : St} (h : M7_lastSightDay σ = some (r, σ')) : Met l yX7_lastSightDay (wsY yX7_lastSightDay cX7_lastSightDay 3 (some .int)) (rmL 1) (PcW g a [.ref (a 25)] σ) (QiW g a r σ') 0 0 (Ad a) :=
  ct_I (by decide) (Nat.le_of_ble_eq_true rfl) (fun p e s m args below meth c F => zM7_lastSightDay F h)
theorem cl7_218 {r : Int32} (F : Fx p s m args meth c cc nL RX7 rt R cz sz g a) (h : M7_lastSightDay σ = some (r, σ1)) (hR : 1 + 1 ≤ R.frames ∧ 8 + (3 + 11) + 34 * 1 ≤ R.locals) (d : decode cc pc = .ok (.invokevirtual 218, 3)) (hrm : (rest.map fun v => v.category).sum ≤ 8) (z : Z p l e R s m args below meth c Q nL g a cz sz σ1 (pc + 3) lv (.int r :: rest)) : Z p l e R s m args below meth c Q nL g a cz sz σ pc lv (.ref (a 25) :: rest) :=
  z_callVI (nA := 0) (As := []) F (ct7_lastSightDay h) ⟨(tbm 665 (by decide +kernel) rfl), (tbm 667 (by decide +kernel) rfl), (tbs 47 (by decide +kernel) rfl), (tbm 1 (by decide +kernel) rfl), (tbm 668 (by decide +kernel) rfl)⟩ (by decide +kernel) rfl kdc_25 (by decide) rfl rfl rfl hR d rfl hrm z
theorem zM7_look_J118 {r : Int32} {x3 : Int32} {x4 : Int32} {x5 : Int32} {σ : St} (F : Fx p s m args meth c cX7_look 7 RX7 (some .int) (rmL 4) 0 0 g a) {kb : Int32 → Int32 → Int32 → St → Option (Int32 × St)} (hb : ∀ (w3 : Int32) (w4 : Int32) (w5 : Int32) (σ : St), kb w3 w4 w5 σ = some (r, σ') → Z p l e (rmL 4) s m args below meth c (MQ below (QiW g a r σ') args s 0 0 (Ad a)) 7 g a 0 0 σ 84 [(0, .ref (a 25)), (3, .int w3), (4, .int w4), (5, .int w5)] []) (h : M7_look_J118 kb x3 x4 x5 σ = some (r, σ')) : Z p l e (rmL 4) s m args below meth c (MQ below (QiW g a r σ') args s 0 0 (Ad a)) 7 g a 0 0 σ 118 [(0, .ref (a 25)), (3, .int x3), (4, .int x4), (5, .int x5)] [] := by
  unfold M7_look_J118 at h
  refine z_iinc (q := 3) (v := x5 + 1) (lv' := [(5, .int (x5 + 1)), (0, .ref (a 25)), (3, .int x3), (4, .int x4)]) F dX7_look_118 rfl rfl (by decide) rfl ?_
  refine z_letL (s0 := 5) (lv := [(0, .ref (a 25)), (3, .int x3), (4, .int x4)]) h (fun v17 h => ?_)
  refine z_goto (tgt := 84) F dX7_look_121 rfl ?_
  refine z_sub (lv' := [(0, .ref (a 25)), (3, .int x3), (4, .int x4), (5, .int v17)]) [1, 2, 3, 0] rfl ?_
  exact hb _ _ _ _ h
theorem zM7_look_L84 {r : Int32} (F : Fx p s m args meth c cX7_look 7 RX7 (some .int) (rmL 4) 0 0 g a) {kx : Int32 → St → Option (Int32 × St)} (hx : ∀ (w3 : Int32) (σ : St), kx w3 σ = some (r, σ') → Z p l e (rmL 4) s m args below meth c (MQ below (QiW g a r σ') args s 0 0 (Ad a)) 7 g a 0 0 σ 124 [(3, .int w3)] []) : ∀ (n : Nat) (x3 : Int32) (x4 : Int32) (x5 : Int32) (σ : St), M7_look_L84 kx n x3 x4 x5 σ = some (r, σ') → Z p l e (rmL 4) s m args below meth c (MQ below (QiW g a r σ') args s 0 0 (Ad a)) 7 g a 0 0 σ 84 [(0, .ref (a 25)), (3, .int x3), (4, .int x4), (5, .int x5)] [] := by
  intro n
  induction n with
  | zero => intro x3 x4 x5 σ h; rw [M7_look_L84] at h; cases h
  | succ n ih =>
    intro x3 x4 x5 σ h
    rw [M7_look_L84] at h
    refine z_iload (q := 3) F dX7_look_84 rfl ?_
    refine z_aload_n (q := 0) F dX7_look_86 rfl rfl ?_
    refine gf7_16 F kdc_25 dX7_look_87 ?_
    refine gf7_190 F kdc_26 dX7_look_90 ?_
    refine z_icmp_ge (tgt := 124) F dX7_look_93 rfl (fun c14 => ?_) (fun c14 => ?_)
    · have h := ite_T c14 h
      refine z_sub (lv' := [(3, .int x3)]) [1] rfl ?_
      exact hx _ _ h
    · have h := ite_F c14 h
      refine z_aload_n (q := 0) F dX7_look_96 rfl rfl ?_
      refine z_iload (q := 3) F dX7_look_97 rfl ?_
      obtain ⟨r15, σ15, hq15, h⟩ := bd_of h
      refine cl7_244 F hq15 ⟨Nat.le_of_ble_eq_true rfl, Nat.le_of_ble_eq_true rfl⟩ dX7_look_99 (Nat.le_of_ble_eq_true rfl) ?_
      refine z_istore (lv' := [(6, .int r15), (0, .ref (a 25)), (3, .int x3), (4, .int x4), (5, .int x5)]) F dX7_look_102 (by decide) rfl ?_
      refine z_iload (q := 0) F dX7_look_104 rfl ?_
      refine z_iload (q := 3) F dX7_look_106 rfl ?_
      refine z_icmp_ge (tgt := 118) F dX7_look_108 rfl (fun c16 => ?_) (fun c16 => ?_)
      · try simp only [if_pos c16] at h
        refine z_sub (lv' := [(0, .ref (a 25)), (3, .int x3), (4, .int x4), (5, .int x5)]) [1, 2, 3, 4] rfl ?_
        exact zM7_look_J118 F ih h
      · try simp only [if_neg c16] at h
        refine z_iload (q := 4) F dX7_look_111 rfl ?_
        refine z_istore_n (lv' := [(3, .int x5), (6, .int r15), (0, .ref (a 25)), (4, .int x4), (5, .int x5)]) F dX7_look_113 rfl (by decide) rfl ?_
        refine z_iload (q := 1) F dX7_look_114 rfl ?_
        refine z_istore (lv' := [(4, .int r15), (3, .int x5), (6, .int r15), (0, .ref (a 25)), (5, .int x5)]) F dX7_look_116 (by decide) rfl ?_
        refine z_sub (lv' := [(0, .ref (a 25)), (3, .int x5), (4, .int r15), (5, .int x5)]) [3, 1, 0, 4] rfl ?_
        exact zM7_look_J118 F ih h
theorem zM7_look_J69 {r : Int32} {x1 : Int32} {x2 : Int32} {x3 : Int32} {σ : St} (F : Fx p s m args meth c cX7_look 7 RX7 (some .int) (rmL 4) 0 0 g a) {kb : Int32 → St → Option (Int32 × St)} (hb : ∀ (w3 : Int32) (σ : St), kb w3 σ = some (r, σ') → Z p l e (rmL 4) s m args below meth c (MQ below (QiW g a r σ') args s 0 0 (Ad a)) 7 g a 0 0 σ 31 [(0, .ref (a 25)), (1, .int x1), (2, .int x2), (3, .int w3)] []) (h : M7_look_J69 kb x1 x2 x3 σ = some (r, σ')) : Z p l e (rmL 4) s m args below meth c (MQ below (QiW g a r σ') args s 0 0 (Ad a)) 7 g a 0 0 σ 69 [(0, .ref (a 25)), (1, .int x1), (2, .int x2), (3, .int x3)] [] := by
  unfold M7_look_J69 at h
  refine z_iinc (q := 3) (v := x3 + 1) (lv' := [(3, .int (x3 + 1)), (0, .ref (a 25)), (1, .int x1), (2, .int x2)]) F dX7_look_69 rfl rfl (by decide) rfl ?_
  refine z_letL (s0 := 3) (lv := [(0, .ref (a 25)), (1, .int x1), (2, .int x2)]) h (fun v11 h => ?_)
  refine z_goto (tgt := 31) F dX7_look_72 rfl ?_
  refine z_sub (lv' := [(0, .ref (a 25)), (1, .int x1), (2, .int x2), (3, .int v11)]) [1, 2, 3, 0] rfl ?_
  exact hb _ _ h
theorem zM7_look_L31 {r : Int32} {x1 : Int32} {x2 : Int32} (F : Fx p s m args meth c cX7_look 7 RX7 (some .int) (rmL 4) 0 0 g a) {kx : St → Option (Int32 × St)} (hx : ∀ (σ : St), kx σ = some (r, σ') → Z p l e (rmL 4) s m args below meth c (MQ below (QiW g a r σ') args s 0 0 (Ad a)) 7 g a 0 0 σ 75 [(0, .ref (a 25))] []) : ∀ (n : Nat) (x3 : Int32) (σ : St), M7_look_L31 x1 x2 kx n x3 σ = some (r, σ') → Z p l e (rmL 4) s m args below meth c (MQ below (QiW g a r σ') args s 0 0 (Ad a)) 7 g a 0 0 σ 31 [(0, .ref (a 25)), (1, .int x1), (2, .int x2), (3, .int x3)] [] := by
  intro n
  induction n with
  | zero => intro x3 σ h; rw [M7_look_L31] at h; cases h
  | succ n ih =>
    intro x3 σ h
    rw [M7_look_L31] at h
    refine z_iload_n (q := 3) F dX7_look_31 rfl rfl ?_
    refine z_aload_n (q := 0) F dX7_look_32 rfl rfl ?_
    refine gf7_30 F kdc_25 dX7_look_33 ?_
    refine gf7_119 F kdc_32 dX7_look_36 ?_
    refine gf7_140 F kdc_33 dX7_look_39 ?_
    refine z_icmp_ge (tgt := 75) F dX7_look_42 rfl (fun c6 => ?_) (fun c6 => ?_)
    · have h := ite_T c6 h
      refine z_sub (lv' := [(0, .ref (a 25))]) [0] rfl ?_
      exact hx _ h
    · have h := ite_F c6 h
      refine z_aload_n (q := 0) F dX7_look_45 rfl rfl ?_
      refine z_iload_n (q := 3) F dX7_look_46 rfl rfl ?_
      refine z_iload_n (q := 2) F dX7_look_47 rfl rfl ?_
      obtain ⟨r7, σ7, hq7, h⟩ := bd_of h
      obtain ⟨g8, h⟩ := gd_of h
      refine cl7_211 F hq7 ⟨Nat.le_of_ble_eq_true rfl, Nat.le_of_ble_eq_true rfl⟩ dX7_look_48 (Nat.le_of_ble_eq_true rfl) ?_
      refine z_astore (lv' := [(4, .ref (a r7)), (0, .ref (a 25)), (1, .int x1), (2, .int x2), (3, .int x3)]) F dX7_look_51 (by decide) rfl ?_
      refine z_aload_n (q := 1) F dX7_look_53 rfl rfl ?_
      refine z_aload (q := 0) F dX7_look_54 rfl ?_
      obtain ⟨r9, σ9, hq9, h⟩ := bd_of h
      refine cl7_225 F g8 hq9 ⟨Nat.le_of_ble_eq_true rfl, Nat.le_of_ble_eq_true rfl⟩ dX7_look_56 (Nat.le_of_ble_eq_true rfl) ?_
      refine z_if_eq (tgt := 69) F dX7_look_59 rfl (fun c10 => ?_) (fun c10 => ?_)
      · have h := ite_T c10 h
        refine z_sub (lv' := [(0, .ref (a 25)), (1, .int x1), (2, .int x2), (3, .int x3)]) [1, 2, 3, 4] rfl ?_
        exact zM7_look_J69 F ih h
      · have h := ite_F c10 h
        refine z_aload_n (q := 1) F dX7_look_62 rfl rfl ?_
        refine z_aload (q := 0) F dX7_look_63 rfl ?_
        refine z_iload_n (q := 2) F dX7_look_65 rfl rfl ?_
        obtain ⟨r12, σ12, hq12, h⟩ := bd_of h
        refine cl7_240 F g8 hq12 ⟨Nat.le_of_ble_eq_true rfl, Nat.le_of_ble_eq_true rfl⟩ dX7_look_66 (Nat.le_of_ble_eq_true rfl) ?_
        refine z_sub (lv' := [(0, .ref (a 25)), (1, .int x1), (2, .int x2), (3, .int x3)]) [1, 2, 3, 4] rfl ?_
        exact zM7_look_J69 F ih h
theorem zM7_look {r : Int32} {x1 : Int32} {σ : St} (F : Fx p s m args meth c cX7_look 7 RX7 (some .int) (rmL 4) 0 0 g a) (h : M7_look x1 σ = some (r, σ')) : Z p l e (rmL 4) s m args below meth c (MQ below (QiW g a r σ') args s 0 0 (Ad a)) 7 g a 0 0 σ 0 [(0, .ref (a 25)), (1, .int x1)] [] := by
  unfold M7_look at h
  refine z_iload_n (q := 1) F dX7_look_0 rfl rfl ?_
  refine z_bipush (v := 40) F dX7_look_1 rfl ?_
  obtain ⟨r1, σ1, hq1, h⟩ := bd_of h
  refine cl7_83 F hq1 ⟨Nat.le_of_ble_eq_true rfl, Nat.le_of_ble_eq_true rfl⟩ dX7_look_3 (Nat.le_of_ble_eq_true rfl) ?_
  refine z_if_ne (tgt := 12) F dX7_look_6 rfl (fun c2 => ?_) (fun c2 => ?_)
  · have h := ite_F c2 h
    refine z_aload_n (q := 0) F dX7_look_12 rfl rfl ?_
    refine gf7_65 F kdc_25 dX7_look_13 ?_
    refine z_iconst (v := 0) F dX7_look_16 rfl ?_
    obtain ⟨r3, σ3, hq3, h⟩ := bd_of h
    refine cl7_229 F kdc_88 hq3 ⟨Nat.le_of_ble_eq_true rfl, Nat.le_of_ble_eq_true rfl⟩ dX7_look_17 (Nat.le_of_ble_eq_true rfl) ?_
    refine z_iload_n (q := 1) F dX7_look_20 rfl rfl ?_
    refine z_aload_n (q := 0) F dX7_look_21 rfl rfl ?_
    obtain ⟨r4, σ4, hq4, h⟩ := bd_of h
    refine cl7_218 F hq4 ⟨Nat.le_of_ble_eq_true rfl, Nat.le_of_ble_eq_true rfl⟩ dX7_look_22 (Nat.le_of_ble_eq_true rfl) ?_
    refine z_mmax F (tbm 627 (by decide +kernel) rfl) (tbm 325 (by decide +kernel) rfl) (tbm 12 (by decide +kernel) rfl) (tbm 326 (by decide +kernel) rfl) (Nat.le_of_ble_eq_true rfl) (Nat.le_of_ble_eq_true rfl) dX7_look_25 ?_
    refine z_letI h (fun v5 h => ?_)
    refine z_istore_n (lv' := [(2, .int v5), (0, .ref (a 25)), (1, .int x1)]) F dX7_look_28 rfl (by decide) rfl ?_
    refine z_iconst (v := 0) F dX7_look_29 rfl ?_
    refine z_istore_n (lv' := [(3, .int 0), (2, .int v5), (0, .ref (a 25)), (1, .int x1)]) F dX7_look_30 rfl (by decide) rfl ?_
    refine z_sub (lv' := [(0, .ref (a 25)), (1, .int x1), (2, .int v5), (3, .int 0)]) [2, 3, 1, 0] rfl ?_
    refine zM7_look_L31 F ?_ _ _ _ h
    intro σ13 h
    refine z_iconst (v := (-1)) F dX7_look_75 rfl ?_
    refine z_istore_n (lv' := [(3, .int ((-1))), (0, .ref (a 25))]) F dX7_look_76 rfl (by decide) rfl ?_
    refine z_bipush (v := 13) F dX7_look_77 rfl ?_
    refine z_istore (lv' := [(4, .int 13), (3, .int ((-1))), (0, .ref (a 25))]) F dX7_look_79 (by decide) rfl ?_
    refine z_iconst (v := 0) F dX7_look_81 rfl ?_
    refine z_istore (lv' := [(5, .int 0), (4, .int 13), (3, .int ((-1))), (0, .ref (a 25))]) F dX7_look_82 (by decide) rfl ?_
    refine z_sub (lv' := [(0, .ref (a 25)), (3, .int ((-1))), (4, .int 13), (5, .int 0)]) [3, 2, 1, 0] rfl ?_
    refine zM7_look_L84 F ?_ _ _ _ _ _ h
    intro v18 σ19 h
    refine z_iload_n (q := 0) F dX7_look_124 rfl rfl ?_
    exact z_iret F h dX7_look_125
  · have h := ite_T c2 h
    refine z_bipush (v := (-2)) F dX7_look_9 rfl ?_
    exact z_iret F h dX7_look_11
theorem ct7_look {r : Int32} {x1 : Int32} {σ : St} (h : M7_look x1 σ = some (r, σ')) : Met l yX7_look (wsY yX7_look cX7_look 7 (some .int)) (rmL 4) (PcW g a [.ref (a 25), .int x1] σ) (QiW g a r σ') 0 0 (Ad a) :=
  ct_I (by decide) (Nat.le_of_ble_eq_true rfl) (fun p e s m args below meth c F => zM7_look F h)
theorem cl7_368 {r : Int32} {x1 : Int32} (F : Fx p s m args meth c cc nL RX7 rt R cz sz g a) (h : M7_look x1 σ = some (r, σ1)) (hR : 4 + 1 ≤ R.frames ∧ 8 + (7 + 11) + 34 * 4 ≤ R.locals) (d : decode cc pc = .ok (.invokevirtual 368, 3)) (hrm : (rest.map fun v => v.category).sum ≤ 8) (z : Z p l e R s m args below meth c Q nL g a cz sz σ1 (pc + 3) lv (.int r :: rest)) : Z p l e R s m args below meth c Q nL g a cz sz σ pc lv (.int x1 :: .ref (a 25) :: rest) :=
  z_callVI (nA := 1) (As := [.int x1]) F (ct7_look h) ⟨(tbm 799 (by decide +kernel) rfl), (tbm 682 (by decide +kernel) rfl), (tbm 683 (by decide +kernel) rfl), (tbm 1 (by decide +kernel) rfl), (tbm 684 (by decide +kernel) rfl)⟩ (by decide +kernel) rfl kdc_25 (by decide) rfl rfl rfl hR d rfl hrm z
theorem zM7_digestDay {r : Int64} {x1 : Int64} {x3 : Int32} {σ : St} (F : Fx p s m args meth c cX7_digestDay 6 RX7 (some .long) (rmL 5) 0 0 g a) (h : M7_digestDay x1 x3 σ = some (r, σ')) : Z p l e (rmL 5) s m args below meth c (MQ below (QlW g a r σ') args s 0 0 (Ad a)) 6 g a 0 0 σ 0 [(0, .ref (a 25)), (1, .long x1), (3, .int x3)] [] := by
  unfold M7_digestDay at h
  refine z_lload_n (q := 1) F dX7_digestDay_0 rfl rfl ?_
  refine z_lstore (lv' := [(4, .long x1), (0, .ref (a 25)), (1, .long x1), (3, .int x3)]) F dX7_digestDay_1 (by decide) rfl ?_
  refine z_ldc2 (v := 31) F dX7_digestDay_3 (tbm 774 (by decide +kernel) rfl) ?_
  refine z_lload (q := 0) F dX7_digestDay_6 rfl ?_
  refine z_lmul F dX7_digestDay_8 ?_
  refine z_aload_n (q := 1) F dX7_digestDay_9 rfl rfl ?_
  refine z_iload_n (q := 3) F dX7_digestDay_10 rfl rfl ?_
  refine z_iconst (v := 0) F dX7_digestDay_11 rfl ?_
  obtain ⟨r1, σ1, hq1, h⟩ := bd_of h
  refine cl7_359 F hq1 ⟨Nat.le_of_ble_eq_true rfl, Nat.le_of_ble_eq_true rfl⟩ dX7_digestDay_12 (Nat.le_of_ble_eq_true rfl) ?_
  refine z_i2l F dX7_digestDay_15 ?_
  refine z_ladd F dX7_digestDay_16 ?_
  refine z_letJ h (fun v2 h => ?_)
  refine z_lstore (lv' := [(4, .long v2), (0, .ref (a 25)), (1, .long x1), (3, .int x3)]) F dX7_digestDay_17 (by decide) rfl ?_
  refine z_ldc2 (v := 31) F dX7_digestDay_19 (tbm 774 (by decide +kernel) rfl) ?_
  refine z_lload (q := 0) F dX7_digestDay_22 rfl ?_
  refine z_lmul F dX7_digestDay_24 ?_
  refine z_aload_n (q := 1) F dX7_digestDay_25 rfl rfl ?_
  refine z_iload_n (q := 3) F dX7_digestDay_26 rfl rfl ?_
  refine z_iconst (v := 1) F dX7_digestDay_27 rfl ?_
  obtain ⟨r3, σ3, hq3, h⟩ := bd_of h
  refine cl7_359 F hq3 ⟨Nat.le_of_ble_eq_true rfl, Nat.le_of_ble_eq_true rfl⟩ dX7_digestDay_28 (Nat.le_of_ble_eq_true rfl) ?_
  refine z_i2l F dX7_digestDay_31 ?_
  refine z_ladd F dX7_digestDay_32 ?_
  refine z_letJ h (fun v4 h => ?_)
  refine z_lstore (lv' := [(4, .long v4), (0, .ref (a 25)), (1, .long x1), (3, .int x3)]) F dX7_digestDay_33 (by decide) rfl ?_
  refine z_ldc2 (v := 31) F dX7_digestDay_35 (tbm 774 (by decide +kernel) rfl) ?_
  refine z_lload (q := 0) F dX7_digestDay_38 rfl ?_
  refine z_lmul F dX7_digestDay_40 ?_
  refine z_aload_n (q := 1) F dX7_digestDay_41 rfl rfl ?_
  refine z_iload_n (q := 3) F dX7_digestDay_42 rfl rfl ?_
  refine z_iconst (v := (-1)) F dX7_digestDay_43 rfl ?_
  obtain ⟨r5, σ5, hq5, h⟩ := bd_of h
  refine cl7_362 F hq5 ⟨Nat.le_of_ble_eq_true rfl, Nat.le_of_ble_eq_true rfl⟩ dX7_digestDay_44 (Nat.le_of_ble_eq_true rfl) ?_
  refine z_i2l F dX7_digestDay_47 ?_
  refine z_ladd F dX7_digestDay_48 ?_
  refine z_letJ h (fun v6 h => ?_)
  refine z_lstore (lv' := [(4, .long v6), (0, .ref (a 25)), (1, .long x1), (3, .int x3)]) F dX7_digestDay_49 (by decide) rfl ?_
  refine z_ldc2 (v := 31) F dX7_digestDay_51 (tbm 774 (by decide +kernel) rfl) ?_
  refine z_lload (q := 0) F dX7_digestDay_54 rfl ?_
  refine z_lmul F dX7_digestDay_56 ?_
  refine z_aload_n (q := 1) F dX7_digestDay_57 rfl rfl ?_
  refine z_iload_n (q := 3) F dX7_digestDay_58 rfl rfl ?_
  refine z_iconst (v := 0) F dX7_digestDay_59 rfl ?_
  obtain ⟨r7, σ7, hq7, h⟩ := bd_of h
  refine cl7_362 F hq7 ⟨Nat.le_of_ble_eq_true rfl, Nat.le_of_ble_eq_true rfl⟩ dX7_digestDay_60 (Nat.le_of_ble_eq_true rfl) ?_
  refine z_i2l F dX7_digestDay_63 ?_
  refine z_ladd F dX7_digestDay_64 ?_
  refine z_letJ h (fun v8 h => ?_)
  refine z_lstore (lv' := [(4, .long v8), (0, .ref (a 25)), (1, .long x1), (3, .int x3)]) F dX7_digestDay_65 (by decide) rfl ?_
  refine z_ldc2 (v := 31) F dX7_digestDay_67 (tbm 774 (by decide +kernel) rfl) ?_
  refine z_lload (q := 0) F dX7_digestDay_70 rfl ?_
  refine z_lmul F dX7_digestDay_72 ?_
  refine z_aload_n (q := 1) F dX7_digestDay_73 rfl rfl ?_
  refine z_iload_n (q := 3) F dX7_digestDay_74 rfl rfl ?_
  refine z_iconst (v := 0) F dX7_digestDay_75 rfl ?_
  obtain ⟨r9, σ9, hq9, h⟩ := bd_of h
  refine cl7_365 F hq9 ⟨Nat.le_of_ble_eq_true rfl, Nat.le_of_ble_eq_true rfl⟩ dX7_digestDay_76 (Nat.le_of_ble_eq_true rfl) ?_
  refine z_i2l F dX7_digestDay_79 ?_
  refine z_ladd F dX7_digestDay_80 ?_
  refine z_letJ h (fun v10 h => ?_)
  refine z_lstore (lv' := [(4, .long v10), (0, .ref (a 25)), (1, .long x1), (3, .int x3)]) F dX7_digestDay_81 (by decide) rfl ?_
  refine z_ldc2 (v := 31) F dX7_digestDay_83 (tbm 774 (by decide +kernel) rfl) ?_
  refine z_lload (q := 0) F dX7_digestDay_86 rfl ?_
  refine z_lmul F dX7_digestDay_88 ?_
  refine z_aload_n (q := 1) F dX7_digestDay_89 rfl rfl ?_
  refine z_iload_n (q := 3) F dX7_digestDay_90 rfl rfl ?_
  refine z_iconst (v := 1) F dX7_digestDay_91 rfl ?_
  obtain ⟨r11, σ11, hq11, h⟩ := bd_of h
  refine cl7_365 F hq11 ⟨Nat.le_of_ble_eq_true rfl, Nat.le_of_ble_eq_true rfl⟩ dX7_digestDay_92 (Nat.le_of_ble_eq_true rfl) ?_
  refine z_i2l F dX7_digestDay_95 ?_
  refine z_ladd F dX7_digestDay_96 ?_
  refine z_letJ h (fun v12 h => ?_)
  refine z_lstore (lv' := [(4, .long v12), (0, .ref (a 25)), (1, .long x1), (3, .int x3)]) F dX7_digestDay_97 (by decide) rfl ?_
  refine z_ldc2 (v := 31) F dX7_digestDay_99 (tbm 774 (by decide +kernel) rfl) ?_
  refine z_lload (q := 0) F dX7_digestDay_102 rfl ?_
  refine z_lmul F dX7_digestDay_104 ?_
  refine z_aload_n (q := 1) F dX7_digestDay_105 rfl rfl ?_
  refine z_iload_n (q := 3) F dX7_digestDay_106 rfl rfl ?_
  obtain ⟨r13, σ13, hq13, h⟩ := bd_of h
  refine cl7_368 F hq13 ⟨Nat.le_of_ble_eq_true rfl, Nat.le_of_ble_eq_true rfl⟩ dX7_digestDay_107 (Nat.le_of_ble_eq_true rfl) ?_
  refine z_i2l F dX7_digestDay_110 ?_
  refine z_ladd F dX7_digestDay_111 ?_
  exact z_lret F h dX7_digestDay_112
theorem ct7_digestDay {r : Int64} {x1 : Int64} {x3 : Int32} {σ : St} (h : M7_digestDay x1 x3 σ = some (r, σ')) : Met l yX7_digestDay (wsY yX7_digestDay cX7_digestDay 6 (some .long)) (rmL 5) (PcW g a [.ref (a 25), .long x1, .int x3] σ) (QlW g a r σ') 0 0 (Ad a) :=
  ct_L (by decide) (Nat.le_of_ble_eq_true rfl) (fun p e s m args below meth c F => zM7_digestDay F h)
theorem cl7_324 {r : Int64} {x1 : Int64} {x3 : Int32} (F : Fx p s m args meth c cc nL RX7 rt R cz sz g a) (h : M7_digestDay x1 x3 σ = some (r, σ1)) (hR : 5 + 1 ≤ R.frames ∧ 8 + (6 + 11) + 34 * 5 ≤ R.locals) (d : decode cc pc = .ok (.invokevirtual 324, 3)) (hrm : (rest.map fun v => v.category).sum ≤ 8) (z : Z p l e R s m args below meth c Q nL g a cz sz σ1 (pc + 3) lv (.long r :: rest)) : Z p l e R s m args below meth c Q nL g a cz sz σ pc lv (.int x3 :: .long x1 :: .ref (a 25) :: rest) :=
  z_callVL (nA := 2) (As := [.long x1, .int x3]) F (ct7_digestDay h) ⟨(tbm 792 (by decide +kernel) rfl), (tbm 794 (by decide +kernel) rfl), (tbs 61 (by decide +kernel) rfl), (tbm 1 (by decide +kernel) rfl), (tbm 795 (by decide +kernel) rfl)⟩ (by decide +kernel) rfl kdc_25 (by decide) rfl rfl rfl hR d rfl hrm z
theorem zM7_hole {r : Int32} {x1 : Int32} {x2 : Int32} {σ : St} (F : Fx p s m args meth c cX7_hole 3 RX7 (some .int) (rmL 2) 0 0 g a) (h : M7_hole x1 x2 σ = some (r, σ')) : Z p l e (rmL 2) s m args below meth c (MQ below (QiW g a r σ') args s 0 0 (Ad a)) 3 g a 0 0 σ 0 [(0, .ref (a 25)), (1, .int x1), (2, .int x2)] [] := by
  unfold M7_hole at h
  refine z_aload_n (q := 0) F dX7_hole_0 rfl rfl ?_
  refine z_iload_n (q := 1) F dX7_hole_1 rfl rfl ?_
  obtain ⟨r1, σ1, hq1, h⟩ := bd_of h
  refine cl7_104 F hq1 ⟨Nat.le_of_ble_eq_true rfl, Nat.le_of_ble_eq_true rfl⟩ dX7_hole_2 (Nat.le_of_ble_eq_true rfl) ?_
  refine z_if_eq (tgt := 28) F dX7_hole_5 rfl (fun c2 => ?_) (fun c2 => ?_)
  · have h := ite_T c2 h
    refine z_bipush (v := (-2)) F dX7_hole_28 rfl ?_
    exact z_iret F h dX7_hole_30
  · have h := ite_F c2 h
    refine z_iload_n (q := 2) F dX7_hole_8 rfl rfl ?_
    refine z_iconst (v := 4) F dX7_hole_9 rfl ?_
    obtain ⟨r3, σ3, hq3, h⟩ := bd_of h
    refine cl7_83 F hq3 ⟨Nat.le_of_ble_eq_true rfl, Nat.le_of_ble_eq_true rfl⟩ dX7_hole_10 (Nat.le_of_ble_eq_true rfl) ?_
    refine z_if_eq (tgt := 28) F dX7_hole_13 rfl (fun c4 => ?_) (fun c4 => ?_)
    · have h := ite_T c4 h
      refine z_bipush (v := (-2)) F dX7_hole_28 rfl ?_
      exact z_iret F h dX7_hole_30
    · have h := ite_F c4 h
      refine z_aload_n (q := 0) F dX7_hole_16 rfl rfl ?_
      refine gf7_16 F kdc_25 dX7_hole_17 ?_
      refine z_iload_n (q := 1) F dX7_hole_20 rfl rfl ?_
      refine z_iload_n (q := 2) F dX7_hole_21 rfl rfl ?_
      obtain ⟨r5, σ5, hq5, h⟩ := bd_of h
      refine cl7_108 F kdc_26 hq5 ⟨Nat.le_of_ble_eq_true rfl, Nat.le_of_ble_eq_true rfl⟩ dX7_hole_22 (Nat.le_of_ble_eq_true rfl) ?_
      refine z_goto (tgt := 30) F dX7_hole_25 rfl ?_
      exact z_iret F h dX7_hole_30
theorem ct7_hole {r : Int32} {x1 : Int32} {x2 : Int32} {σ : St} (h : M7_hole x1 x2 σ = some (r, σ')) : Met l yX7_hole (wsY yX7_hole cX7_hole 3 (some .int)) (rmL 2) (PcW g a [.ref (a 25), .int x1, .int x2] σ) (QiW g a r σ') 0 0 (Ad a) :=
  ct_I (by decide) (Nat.le_of_ble_eq_true rfl) (fun p e s m args below meth c F => zM7_hole F h)
theorem cl7_340 {r : Int32} {x1 : Int32} {x2 : Int32} (F : Fx p s m args meth c cc nL RX7 rt R cz sz g a) (h : M7_hole x1 x2 σ = some (r, σ1)) (hR : 2 + 1 ≤ R.frames ∧ 8 + (3 + 11) + 34 * 2 ≤ R.locals) (d : decode cc pc = .ok (.invokevirtual 340, 3)) (hrm : (rest.map fun v => v.category).sum ≤ 8) (z : Z p l e R s m args below meth c Q nL g a cz sz σ1 (pc + 3) lv (.int r :: rest)) : Z p l e R s m args below meth c Q nL g a cz sz σ pc lv (.int x2 :: .int x1 :: .ref (a 25) :: rest) :=
  z_callVI (nA := 2) (As := [.int x1, .int x2]) F (ct7_hole h) ⟨(tbm 781 (by decide +kernel) rfl), (tbm 402 (by decide +kernel) rfl), (tbm 403 (by decide +kernel) rfl), (tbm 1 (by decide +kernel) rfl), (tbm 404 (by decide +kernel) rfl)⟩ (by decide +kernel) rfl kdc_25 (by decide) rfl rfl rfl hR d rfl hrm z
theorem zM7_is {r : Int32} {x1 : Int32} {x2 : Int32} {x3 : Int32} {σ : St} (F : Fx p s m args meth c cX7_is 6 RX7 (some .int) (rmL 4) 0 0 g a) (h : M7_is x1 x2 x3 σ = some (r, σ')) : Z p l e (rmL 4) s m args below meth c (MQ below (QiW g a r σ') args s 0 0 (Ad a)) 6 g a 0 0 σ 0 [(0, .ref (a 25)), (1, .int x1), (2, .int x2), (3, .int x3)] [] := by
  unfold M7_is at h
  refine z_iload_n (q := 1) F dX7_is_0 rfl rfl ?_
  refine z_bipush (v := 40) F dX7_is_1 rfl ?_
  obtain ⟨r1, σ1, hq1, h⟩ := bd_of h
  refine cl7_83 F hq1 ⟨Nat.le_of_ble_eq_true rfl, Nat.le_of_ble_eq_true rfl⟩ dX7_is_3 (Nat.le_of_ble_eq_true rfl) ?_
  refine z_if_eq (tgt := 25) F dX7_is_6 rfl (fun c2 => ?_) (fun c2 => ?_)
  · have h := ite_T c2 h
    refine z_bipush (v := (-2)) F dX7_is_25 rfl ?_
    exact z_iret F h dX7_is_27
  · have h := ite_F c2 h
    refine z_aload_n (q := 0) F dX7_is_9 rfl rfl ?_
    refine z_iload_n (q := 2) F dX7_is_10 rfl rfl ?_
    obtain ⟨r3, σ3, hq3, h⟩ := bd_of h
    refine cl7_104 F hq3 ⟨Nat.le_of_ble_eq_true rfl, Nat.le_of_ble_eq_true rfl⟩ dX7_is_11 (Nat.le_of_ble_eq_true rfl) ?_
    refine z_if_eq (tgt := 25) F dX7_is_14 rfl (fun c4 => ?_) (fun c4 => ?_)
    · have h := ite_T c4 h
      refine z_bipush (v := (-2)) F dX7_is_25 rfl ?_
      exact z_iret F h dX7_is_27
    · have h := ite_F c4 h
      refine z_iload_n (q := 3) F dX7_is_17 rfl rfl ?_
      refine z_iconst (v := 3) F dX7_is_18 rfl ?_
      obtain ⟨r5, σ5, hq5, h⟩ := bd_of h
      refine cl7_83 F hq5 ⟨Nat.le_of_ble_eq_true rfl, Nat.le_of_ble_eq_true rfl⟩ dX7_is_19 (Nat.le_of_ble_eq_true rfl) ?_
      refine z_if_ne (tgt := 28) F dX7_is_22 rfl (fun c6 => ?_) (fun c6 => ?_)
      · have h := ite_F c6 h
        refine z_aload_n (q := 0) F dX7_is_28 rfl rfl ?_
        obtain ⟨r7, σ7, hq7, h⟩ := bd_of h
        obtain ⟨g8, h⟩ := gd_of h
        refine cl7_159 F hq7 ⟨Nat.le_of_ble_eq_true rfl, Nat.le_of_ble_eq_true rfl⟩ dX7_is_29 (Nat.le_of_ble_eq_true rfl) ?_
        refine z_astore (lv' := [(4, .ref (a r7)), (0, .ref (a 25)), (1, .int x1), (2, .int x2), (3, .int x3)]) F dX7_is_32 (by decide) rfl ?_
        refine z_iload_n (q := 4) F dX7_is_34 rfl rfl ?_
        refine z_if_ne (tgt := 46) F dX7_is_35 rfl (fun c9 => ?_) (fun c9 => ?_)
        · have h := ite_F c9 h
          refine z_iload_n (q := 4) F dX7_is_46 rfl rfl ?_
          refine z_iconst (v := 1) F dX7_is_47 rfl ?_
          refine z_icmp_ne (tgt := 59) F dX7_is_48 rfl (fun c10 => ?_) (fun c10 => ?_)
          · have h := ite_F c10 h
            refine z_aload (q := 0) F dX7_is_59 rfl ?_
            refine z_iload_n (q := 2) F dX7_is_61 rfl rfl ?_
            refine z_iload_n (q := 3) F dX7_is_62 rfl rfl ?_
            obtain ⟨r11, σ11, hq11, h⟩ := bd_of h
            refine cl7_169 F g8 hq11 ⟨Nat.le_of_ble_eq_true rfl, Nat.le_of_ble_eq_true rfl⟩ dX7_is_63 (Nat.le_of_ble_eq_true rfl) ?_
            refine z_istore (lv' := [(5, .int r11), (4, .ref (a r7)), (0, .ref (a 25)), (1, .int x1), (2, .int x2), (3, .int x3)]) F dX7_is_66 (by decide) rfl ?_
            refine z_iload (q := 0) F dX7_is_68 rfl ?_
            refine z_iconst (v := (-1)) F dX7_is_70 rfl ?_
            refine z_icmp_ne (tgt := 78) F dX7_is_71 rfl (fun c12 => ?_) (fun c12 => ?_)
            · have h := ite_F c12 h
              refine z_aload_n (q := 2) F dX7_is_78 rfl rfl ?_
              refine gf7_30 F kdc_25 dX7_is_79 ?_
              refine gf7_119 F kdc_32 dX7_is_82 ?_
              refine z_iload (q := 0) F dX7_is_85 rfl ?_
              refine z_iconst (v := 2) F dX7_is_87 rfl ?_
              obtain ⟨r13, σ13, hq13, h⟩ := bd_of h
              refine cl7_172 F kdc_33 hq13 ⟨Nat.le_of_ble_eq_true rfl, Nat.le_of_ble_eq_true rfl⟩ dX7_is_88 (Nat.le_of_ble_eq_true rfl) ?_
              exact z_iret F h dX7_is_91
            · have h := ite_T c12 h
              refine z_iconst (v := (-1)) F dX7_is_74 rfl ?_
              refine z_goto (tgt := 91) F dX7_is_75 rfl ?_
              exact z_iret F h dX7_is_91
          · have h := ite_T c10 h
            refine z_aload (q := 0) F dX7_is_51 rfl ?_
            refine z_iload_n (q := 2) F dX7_is_53 rfl rfl ?_
            refine z_iload_n (q := 3) F dX7_is_54 rfl rfl ?_
            obtain ⟨r14, σ14, hq14, h⟩ := bd_of h
            refine cl7_166 F g8 hq14 ⟨Nat.le_of_ble_eq_true rfl, Nat.le_of_ble_eq_true rfl⟩ dX7_is_55 (Nat.le_of_ble_eq_true rfl) ?_
            exact z_iret F h dX7_is_58
        · have h := ite_T c9 h
          refine z_aload (q := 0) F dX7_is_38 rfl ?_
          refine z_iload_n (q := 2) F dX7_is_40 rfl rfl ?_
          refine z_iload_n (q := 3) F dX7_is_41 rfl rfl ?_
          obtain ⟨r15, σ15, hq15, h⟩ := bd_of h
          refine cl7_163 F g8 hq15 ⟨Nat.le_of_ble_eq_true rfl, Nat.le_of_ble_eq_true rfl⟩ dX7_is_42 (Nat.le_of_ble_eq_true rfl) ?_
          exact z_iret F h dX7_is_45
      · have h := ite_T c6 h
        refine z_bipush (v := (-2)) F dX7_is_25 rfl ?_
        exact z_iret F h dX7_is_27
theorem ct7_is {r : Int32} {x1 : Int32} {x2 : Int32} {x3 : Int32} {σ : St} (h : M7_is x1 x2 x3 σ = some (r, σ')) : Met l yX7_is (wsY yX7_is cX7_is 6 (some .int)) (rmL 4) (PcW g a [.ref (a 25), .int x1, .int x2, .int x3] σ) (QiW g a r σ') 0 0 (Ad a) :=
  ct_I (by decide) (Nat.le_of_ble_eq_true rfl) (fun p e s m args below meth c F => zM7_is F h)
theorem cl7_343 {r : Int32} {x1 : Int32} {x2 : Int32} {x3 : Int32} (F : Fx p s m args meth c cc nL RX7 rt R cz sz g a) (h : M7_is x1 x2 x3 σ = some (r, σ1)) (hR : 4 + 1 ≤ R.frames ∧ 8 + (6 + 11) + 34 * 4 ≤ R.locals) (d : decode cc pc = .ok (.invokevirtual 343, 3)) (hrm : (rest.map fun v => v.category).sum ≤ 8) (z : Z p l e R s m args below meth c Q nL g a cz sz σ1 (pc + 3) lv (.int r :: rest)) : Z p l e R s m args below meth c Q nL g a cz sz σ pc lv (.int x3 :: .int x2 :: .int x1 :: .ref (a 25) :: rest) :=
  z_callVI (nA := 3) (As := [.int x1, .int x2, .int x3]) F (ct7_is h) ⟨(tbm 782 (by decide +kernel) rfl), (tbm 478 (by decide +kernel) rfl), (tbm 479 (by decide +kernel) rfl), (tbm 1 (by decide +kernel) rfl), (tbm 480 (by decide +kernel) rfl)⟩ (by decide +kernel) rfl kdc_25 (by decide) rfl rfl rfl hR d rfl hrm z
theorem zM7_serves_J74 {r : Int32} {x1 : Int32} {x2 : Int32} {o3 : Nat} {x4 : Int32} {x5 : Int32} {σ : St} (F : Fx p s m args meth c cX7_serves 6 RX7 (some .int) (rmL 4) 0 0 g a) (ko3 : kd o3 = 1) {kb : Int32 → Int32 → St → Option (Int32 × St)} (hb : ∀ (w4 : Int32) (w5 : Int32) (σ : St), kb w4 w5 σ = some (r, σ') → Z p l e (rmL 4) s m args below meth c (MQ below (QiW g a r σ') args s 0 0 (Ad a)) 6 g a 0 0 σ 31 [(0, .ref (a 25)), (1, .int x1), (2, .int x2), (3, .ref (a o3)), (4, .int w4), (5, .int w5)] []) (h : M7_serves_J74 kb x1 x2 o3 x4 x5 σ = some (r, σ')) : Z p l e (rmL 4) s m args below meth c (MQ below (QiW g a r σ') args s 0 0 (Ad a)) 6 g a 0 0 σ 74 [(0, .ref (a 25)), (1, .int x1), (2, .int x2), (3, .ref (a o3)), (4, .int x4), (5, .int x5)] [] := by
  unfold M7_serves_J74 at h
  refine z_iinc (q := 5) (v := x5 + 1) (lv' := [(5, .int (x5 + 1)), (0, .ref (a 25)), (1, .int x1), (2, .int x2), (3, .ref (a o3)), (4, .int x4)]) F dX7_serves_74 rfl rfl (by decide) rfl ?_
  refine z_letL (s0 := 5) (lv := [(0, .ref (a 25)), (1, .int x1), (2, .int x2), (3, .ref (a o3)), (4, .int x4)]) h (fun v12 h => ?_)
  refine z_goto (tgt := 31) F dX7_serves_77 rfl ?_
  refine z_sub (lv' := [(0, .ref (a 25)), (1, .int x1), (2, .int x2), (3, .ref (a o3)), (4, .int x4), (5, .int v12)]) [1, 2, 3, 4, 5, 0] rfl ?_
  exact hb _ _ _ h
theorem zM7_serves_L31 {r : Int32} {x1 : Int32} {x2 : Int32} {o3 : Nat} (F : Fx p s m args meth c cX7_serves 6 RX7 (some .int) (rmL 4) 0 0 g a) (ko3 : kd o3 = 1) {kx : Int32 → St → Option (Int32 × St)} (hx : ∀ (w4 : Int32) (σ : St), kx w4 σ = some (r, σ') → Z p l e (rmL 4) s m args below meth c (MQ below (QiW g a r σ') args s 0 0 (Ad a)) 6 g a 0 0 σ 80 [(4, .int w4)] []) : ∀ (n : Nat) (x4 : Int32) (x5 : Int32) (σ : St), M7_serves_L31 x1 x2 o3 kx n x4 x5 σ = some (r, σ') → Z p l e (rmL 4) s m args below meth c (MQ below (QiW g a r σ') args s 0 0 (Ad a)) 6 g a 0 0 σ 31 [(0, .ref (a 25)), (1, .int x1), (2, .int x2), (3, .ref (a o3)), (4, .int x4), (5, .int x5)] [] := by
  intro n
  induction n with
  | zero => intro x4 x5 σ h; rw [M7_serves_L31] at h; cases h
  | succ n ih =>
    intro x4 x5 σ h
    rw [M7_serves_L31] at h
    refine z_iload (q := 5) F dX7_serves_31 rfl ?_
    refine z_aload_n (q := 0) F dX7_serves_33 rfl rfl ?_
    refine gf7_22 F kdc_25 dX7_serves_34 ?_
    refine gf7_190 F kdc_29 dX7_serves_37 ?_
    refine z_icmp_ge (tgt := 80) F dX7_serves_40 rfl (fun c7 => ?_) (fun c7 => ?_)
    · have h := ite_T c7 h
      refine z_sub (lv' := [(4, .int x4)]) [4] rfl ?_
      exact hx _ _ h
    · have h := ite_F c7 h
      refine z_aload_n (q := 0) F dX7_serves_43 rfl rfl ?_
      refine z_iload (q := 5) F dX7_serves_44 rfl ?_
      refine z_iload_n (q := 2) F dX7_serves_46 rfl rfl ?_
      refine z_aload_n (q := 3) F dX7_serves_47 rfl rfl ?_
      refine z_iload_n (q := 1) F dX7_serves_48 rfl rfl ?_
      refine z_iload_n (q := 2) F dX7_serves_49 rfl rfl ?_
      obtain ⟨r8, σ8, hq8, h⟩ := bd_of h
      refine cl7_163 F ko3 hq8 ⟨Nat.le_of_ble_eq_true rfl, Nat.le_of_ble_eq_true rfl⟩ dX7_serves_50 (Nat.le_of_ble_eq_true rfl) ?_
      refine z_aload_n (q := 3) F dX7_serves_53 rfl rfl ?_
      refine z_iload_n (q := 1) F dX7_serves_54 rfl rfl ?_
      refine z_iload_n (q := 2) F dX7_serves_55 rfl rfl ?_
      obtain ⟨r9, σ9, hq9, h⟩ := bd_of h
      refine cl7_166 F ko3 hq9 ⟨Nat.le_of_ble_eq_true rfl, Nat.le_of_ble_eq_true rfl⟩ dX7_serves_56 (Nat.le_of_ble_eq_true rfl) ?_
      obtain ⟨r10, σ10, hq10, h⟩ := bd_of h
      refine cl7_193 F hq10 ⟨Nat.le_of_ble_eq_true rfl, Nat.le_of_ble_eq_true rfl⟩ dX7_serves_59 (Nat.le_of_ble_eq_true rfl) ?_
      refine z_if_eq (tgt := 74) F dX7_serves_62 rfl (fun c11 => ?_) (fun c11 => ?_)
      · have h := ite_T c11 h
        refine z_sub (lv' := [(0, .ref (a 25)), (1, .int x1), (2, .int x2), (3, .ref (a o3)), (4, .int x4), (5, .int x5)]) [0, 1, 2, 3, 4, 5] rfl ?_
        exact zM7_serves_J74 F ko3 ih h
      · have h := ite_F c11 h
        refine z_iload (q := 4) F dX7_serves_65 rfl ?_
        refine z_iconst (v := 1) F dX7_serves_67 rfl ?_
        refine z_iload (q := 5) F dX7_serves_68 rfl ?_
        refine z_ishl F dX7_serves_70 ?_
        refine z_ior F dX7_serves_71 ?_
        refine z_letI h (fun v13 h => ?_)
        refine z_istore (lv' := [(4, .int v13), (0, .ref (a 25)), (1, .int x1), (2, .int x2), (3, .ref (a o3)), (5, .int x5)]) F dX7_serves_72 (by decide) rfl ?_
        refine z_sub (lv' := [(0, .ref (a 25)), (1, .int x1), (2, .int x2), (3, .ref (a o3)), (4, .int v13), (5, .int x5)]) [1, 2, 3, 4, 0, 5] rfl ?_
        exact zM7_serves_J74 F ko3 ih h
theorem zM7_serves {r : Int32} {x1 : Int32} {x2 : Int32} {σ : St} (F : Fx p s m args meth c cX7_serves 6 RX7 (some .int) (rmL 4) 0 0 g a) (h : M7_serves x1 x2 σ = some (r, σ')) : Z p l e (rmL 4) s m args below meth c (MQ below (QiW g a r σ') args s 0 0 (Ad a)) 6 g a 0 0 σ 0 [(0, .ref (a 25)), (1, .int x1), (2, .int x2)] [] := by
  unfold M7_serves at h
  refine z_iload_n (q := 1) F dX7_serves_0 rfl rfl ?_
  refine z_bipush (v := 40) F dX7_serves_1 rfl ?_
  obtain ⟨r1, σ1, hq1, h⟩ := bd_of h
  refine cl7_83 F hq1 ⟨Nat.le_of_ble_eq_true rfl, Nat.le_of_ble_eq_true rfl⟩ dX7_serves_3 (Nat.le_of_ble_eq_true rfl) ?_
  refine z_if_eq (tgt := 17) F dX7_serves_6 rfl (fun c2 => ?_) (fun c2 => ?_)
  · have h := ite_T c2 h
    refine z_bipush (v := (-2)) F dX7_serves_17 rfl ?_
    exact z_iret F h dX7_serves_19
  · have h := ite_F c2 h
    refine z_aload_n (q := 0) F dX7_serves_9 rfl rfl ?_
    refine z_iload_n (q := 2) F dX7_serves_10 rfl rfl ?_
    obtain ⟨r3, σ3, hq3, h⟩ := bd_of h
    refine cl7_104 F hq3 ⟨Nat.le_of_ble_eq_true rfl, Nat.le_of_ble_eq_true rfl⟩ dX7_serves_11 (Nat.le_of_ble_eq_true rfl) ?_
    refine z_if_ne (tgt := 20) F dX7_serves_14 rfl (fun c4 => ?_) (fun c4 => ?_)
    · have h := ite_F c4 h
      refine z_aload_n (q := 0) F dX7_serves_20 rfl rfl ?_
      obtain ⟨r5, σ5, hq5, h⟩ := bd_of h
      obtain ⟨g6, h⟩ := gd_of h
      refine cl7_159 F hq5 ⟨Nat.le_of_ble_eq_true rfl, Nat.le_of_ble_eq_true rfl⟩ dX7_serves_21 (Nat.le_of_ble_eq_true rfl) ?_
      refine z_astore_n (lv' := [(3, .ref (a r5)), (0, .ref (a 25)), (1, .int x1), (2, .int x2)]) F dX7_serves_24 rfl (by decide) rfl ?_
      refine z_iconst (v := 0) F dX7_serves_25 rfl ?_
      refine z_istore (lv' := [(4, .int 0), (3, .ref (a r5)), (0, .ref (a 25)), (1, .int x1), (2, .int x2)]) F dX7_serves_26 (by decide) rfl ?_
      refine z_iconst (v := 0) F dX7_serves_28 rfl ?_
      refine z_istore (lv' := [(5, .int 0), (4, .int 0), (3, .ref (a r5)), (0, .ref (a 25)), (1, .int x1), (2, .int x2)]) F dX7_serves_29 (by decide) rfl ?_
      refine z_sub (lv' := [(0, .ref (a 25)), (1, .int x1), (2, .int x2), (3, .ref (a r5)), (4, .int 0), (5, .int 0)]) [3, 4, 5, 2, 1, 0] rfl ?_
      refine zM7_serves_L31 F g6 ?_ _ _ _ _ h
      intro v14 σ15 h
      refine z_iload (q := 0) F dX7_serves_80 rfl ?_
      exact z_iret F h dX7_serves_82
    · have h := ite_T c4 h
      refine z_bipush (v := (-2)) F dX7_serves_17 rfl ?_
      exact z_iret F h dX7_serves_19
theorem ct7_serves {r : Int32} {x1 : Int32} {x2 : Int32} {σ : St} (h : M7_serves x1 x2 σ = some (r, σ')) : Met l yX7_serves (wsY yX7_serves cX7_serves 6 (some .int)) (rmL 4) (PcW g a [.ref (a 25), .int x1, .int x2] σ) (QiW g a r σ') 0 0 (Ad a) :=
  ct_I (by decide) (Nat.le_of_ble_eq_true rfl) (fun p e s m args below meth c F => zM7_serves F h)
theorem cl7_346 {r : Int32} {x1 : Int32} {x2 : Int32} (F : Fx p s m args meth c cc nL RX7 rt R cz sz g a) (h : M7_serves x1 x2 σ = some (r, σ1)) (hR : 4 + 1 ≤ R.frames ∧ 8 + (6 + 11) + 34 * 4 ≤ R.locals) (d : decode cc pc = .ok (.invokevirtual 346, 3)) (hrm : (rest.map fun v => v.category).sum ≤ 8) (z : Z p l e R s m args below meth c Q nL g a cz sz σ1 (pc + 3) lv (.int r :: rest)) : Z p l e R s m args below meth c Q nL g a cz sz σ pc lv (.int x2 :: .int x1 :: .ref (a 25) :: rest) :=
  z_callVI (nA := 2) (As := [.int x1, .int x2]) F (ct7_serves h) ⟨(tbm 783 (by decide +kernel) rfl), (tbm 575 (by decide +kernel) rfl), (tbm 576 (by decide +kernel) rfl), (tbm 1 (by decide +kernel) rfl), (tbm 577 (by decide +kernel) rfl)⟩ (by decide +kernel) rfl kdc_25 (by decide) rfl rfl rfl hR d rfl hrm z
theorem zM7_digestHole_L71 {r : Int64} {x3 : Int32} (F : Fx p s m args meth c cX7_digestHole 7 RX7 (some .long) (rmL 5) 0 0 g a) {kx : Int64 → St → Option (Int64 × St)} (hx : ∀ (w4 : Int64) (σ : St), kx w4 σ = some (r, σ') → Z p l e (rmL 5) s m args below meth c (MQ below (QlW g a r σ') args s 0 0 (Ad a)) 7 g a 0 0 σ 102 [(0, .ref (a 25)), (3, .int x3), (4, .long w4)] []) : ∀ (n : Nat) (x4 : Int64) (x6 : Int32) (σ : St), M7_digestHole_L71 x3 kx n x4 x6 σ = some (r, σ') → Z p l e (rmL 5) s m args below meth c (MQ below (QlW g a r σ') args s 0 0 (Ad a)) 7 g a 0 0 σ 71 [(0, .ref (a 25)), (3, .int x3), (4, .long x4), (6, .int x6)] [] := by
  intro n
  induction n with
  | zero => intro x4 x6 σ h; rw [M7_digestHole_L71] at h; cases h
  | succ n ih =>
    intro x4 x6 σ h
    rw [M7_digestHole_L71] at h
    refine z_iload (q := 3) F dX7_digestHole_71 rfl ?_
    refine z_iconst (v := 3) F dX7_digestHole_73 rfl ?_
    refine z_icmp_ge (tgt := 102) F dX7_digestHole_74 rfl (fun c13 => ?_) (fun c13 => ?_)
    · have h := ite_T c13 h
      refine z_sub (lv' := [(0, .ref (a 25)), (3, .int x3), (4, .long x4)]) [0, 1, 2] rfl ?_
      exact hx _ _ h
    · have h := ite_F c13 h
      refine z_ldc2 (v := 31) F dX7_digestHole_77 (tbm 774 (by decide +kernel) rfl) ?_
      refine z_lload (q := 2) F dX7_digestHole_80 rfl ?_
      refine z_lmul F dX7_digestHole_82 ?_
      refine z_aload_n (q := 0) F dX7_digestHole_83 rfl rfl ?_
      refine z_bipush (v := 39) F dX7_digestHole_84 rfl ?_
      refine z_iload_n (q := 1) F dX7_digestHole_86 rfl rfl ?_
      refine z_iload (q := 3) F dX7_digestHole_87 rfl ?_
      obtain ⟨r14, σ14, hq14, h⟩ := bd_of h
      refine cl7_343 F hq14 ⟨Nat.le_of_ble_eq_true rfl, Nat.le_of_ble_eq_true rfl⟩ dX7_digestHole_89 (Nat.le_of_ble_eq_true rfl) ?_
      refine z_i2l F dX7_digestHole_92 ?_
      refine z_ladd F dX7_digestHole_93 ?_
      refine z_letJ h (fun v15 h => ?_)
      refine z_lstore (lv' := [(4, .long v15), (0, .ref (a 25)), (3, .int x3), (6, .int x6)]) F dX7_digestHole_94 (by decide) rfl ?_
      refine z_iinc (q := 3) (v := x6 + 1) (lv' := [(6, .int (x6 + 1)), (4, .long v15), (0, .ref (a 25)), (3, .int x3)]) F dX7_digestHole_96 rfl rfl (by decide) rfl ?_
      refine z_letL (s0 := 6) (lv := [(4, .long v15), (0, .ref (a 25)), (3, .int x3)]) h (fun v16 h => ?_)
      refine z_goto (tgt := 71) F dX7_digestHole_99 rfl ?_
      refine z_sub (lv' := [(0, .ref (a 25)), (3, .int x3), (4, .long v15), (6, .int v16)]) [2, 3, 1, 0] rfl ?_
      exact ih _ _ _ h
theorem zM7_digestHole_L38 {r : Int64} {x3 : Int32} (F : Fx p s m args meth c cX7_digestHole 7 RX7 (some .long) (rmL 5) 0 0 g a) {kx : Int64 → St → Option (Int64 × St)} (hx : ∀ (w4 : Int64) (σ : St), kx w4 σ = some (r, σ') → Z p l e (rmL 5) s m args below meth c (MQ below (QlW g a r σ') args s 0 0 (Ad a)) 7 g a 0 0 σ 68 [(0, .ref (a 25)), (3, .int x3), (4, .long w4)] []) : ∀ (n : Nat) (x4 : Int64) (x6 : Int32) (σ : St), M7_digestHole_L38 x3 kx n x4 x6 σ = some (r, σ') → Z p l e (rmL 5) s m args below meth c (MQ below (QlW g a r σ') args s 0 0 (Ad a)) 7 g a 0 0 σ 38 [(0, .ref (a 25)), (3, .int x3), (4, .long x4), (6, .int x6)] [] := by
  intro n
  induction n with
  | zero => intro x4 x6 σ h; rw [M7_digestHole_L38] at h; cases h
  | succ n ih =>
    intro x4 x6 σ h
    rw [M7_digestHole_L38] at h
    refine z_iload (q := 3) F dX7_digestHole_38 rfl ?_
    refine z_iconst (v := 3) F dX7_digestHole_40 rfl ?_
    refine z_icmp_ge (tgt := 68) F dX7_digestHole_41 rfl (fun c7 => ?_) (fun c7 => ?_)
    · have h := ite_T c7 h
      refine z_sub (lv' := [(0, .ref (a 25)), (3, .int x3), (4, .long x4)]) [0, 1, 2] rfl ?_
      exact hx _ _ h
    · have h := ite_F c7 h
      refine z_ldc2 (v := 31) F dX7_digestHole_44 (tbm 774 (by decide +kernel) rfl) ?_
      refine z_lload (q := 2) F dX7_digestHole_47 rfl ?_
      refine z_lmul F dX7_digestHole_49 ?_
      refine z_aload_n (q := 0) F dX7_digestHole_50 rfl rfl ?_
      refine z_iconst (v := 5) F dX7_digestHole_51 rfl ?_
      refine z_iload_n (q := 1) F dX7_digestHole_52 rfl rfl ?_
      refine z_iload (q := 3) F dX7_digestHole_53 rfl ?_
      obtain ⟨r8, σ8, hq8, h⟩ := bd_of h
      refine cl7_343 F hq8 ⟨Nat.le_of_ble_eq_true rfl, Nat.le_of_ble_eq_true rfl⟩ dX7_digestHole_55 (Nat.le_of_ble_eq_true rfl) ?_
      refine z_i2l F dX7_digestHole_58 ?_
      refine z_ladd F dX7_digestHole_59 ?_
      refine z_letJ h (fun v9 h => ?_)
      refine z_lstore (lv' := [(4, .long v9), (0, .ref (a 25)), (3, .int x3), (6, .int x6)]) F dX7_digestHole_60 (by decide) rfl ?_
      refine z_iinc (q := 3) (v := x6 + 1) (lv' := [(6, .int (x6 + 1)), (4, .long v9), (0, .ref (a 25)), (3, .int x3)]) F dX7_digestHole_62 rfl rfl (by decide) rfl ?_
      refine z_letL (s0 := 6) (lv := [(4, .long v9), (0, .ref (a 25)), (3, .int x3)]) h (fun v10 h => ?_)
      refine z_goto (tgt := 38) F dX7_digestHole_65 rfl ?_
      refine z_sub (lv' := [(0, .ref (a 25)), (3, .int x3), (4, .long v9), (6, .int v10)]) [2, 3, 1, 0] rfl ?_
      exact ih _ _ _ h
theorem zM7_digestHole_L6 {r : Int64} {x3 : Int32} (F : Fx p s m args meth c cX7_digestHole 7 RX7 (some .long) (rmL 5) 0 0 g a) {kx : Int64 → St → Option (Int64 × St)} (hx : ∀ (w4 : Int64) (σ : St), kx w4 σ = some (r, σ') → Z p l e (rmL 5) s m args below meth c (MQ below (QlW g a r σ') args s 0 0 (Ad a)) 7 g a 0 0 σ 35 [(0, .ref (a 25)), (3, .int x3), (4, .long w4)] []) : ∀ (n : Nat) (x4 : Int64) (x6 : Int32) (σ : St), M7_digestHole_L6 x3 kx n x4 x6 σ = some (r, σ') → Z p l e (rmL 5) s m args below meth c (MQ below (QlW g a r σ') args s 0 0 (Ad a)) 7 g a 0 0 σ 6 [(0, .ref (a 25)), (3, .int x3), (4, .long x4), (6, .int x6)] [] := by
  intro n
  induction n with
  | zero => intro x4 x6 σ h; rw [M7_digestHole_L6] at h; cases h
  | succ n ih =>
    intro x4 x6 σ h
    rw [M7_digestHole_L6] at h
    refine z_iload (q := 3) F dX7_digestHole_6 rfl ?_
    refine z_iconst (v := 4) F dX7_digestHole_8 rfl ?_
    refine z_icmp_ge (tgt := 35) F dX7_digestHole_9 rfl (fun c1 => ?_) (fun c1 => ?_)
    · have h := ite_T c1 h
      refine z_sub (lv' := [(0, .ref (a 25)), (3, .int x3), (4, .long x4)]) [0, 1, 2] rfl ?_
      exact hx _ _ h
    · have h := ite_F c1 h
      refine z_ldc2 (v := 31) F dX7_digestHole_12 (tbm 774 (by decide +kernel) rfl) ?_
      refine z_lload (q := 2) F dX7_digestHole_15 rfl ?_
      refine z_lmul F dX7_digestHole_17 ?_
      refine z_aload_n (q := 0) F dX7_digestHole_18 rfl rfl ?_
      refine z_iload_n (q := 1) F dX7_digestHole_19 rfl rfl ?_
      refine z_iload (q := 3) F dX7_digestHole_20 rfl ?_
      obtain ⟨r2, σ2, hq2, h⟩ := bd_of h
      refine cl7_340 F hq2 ⟨Nat.le_of_ble_eq_true rfl, Nat.le_of_ble_eq_true rfl⟩ dX7_digestHole_22 (Nat.le_of_ble_eq_true rfl) ?_
      refine z_i2l F dX7_digestHole_25 ?_
      refine z_ladd F dX7_digestHole_26 ?_
      refine z_letJ h (fun v3 h => ?_)
      refine z_lstore (lv' := [(4, .long v3), (0, .ref (a 25)), (3, .int x3), (6, .int x6)]) F dX7_digestHole_27 (by decide) rfl ?_
      refine z_iinc (q := 3) (v := x6 + 1) (lv' := [(6, .int (x6 + 1)), (4, .long v3), (0, .ref (a 25)), (3, .int x3)]) F dX7_digestHole_29 rfl rfl (by decide) rfl ?_
      refine z_letL (s0 := 6) (lv := [(4, .long v3), (0, .ref (a 25)), (3, .int x3)]) h (fun v4 h => ?_)
      refine z_goto (tgt := 6) F dX7_digestHole_32 rfl ?_
      refine z_sub (lv' := [(0, .ref (a 25)), (3, .int x3), (4, .long v3), (6, .int v4)]) [2, 3, 1, 0] rfl ?_
      exact ih _ _ _ h
theorem zM7_digestHole {r : Int64} {x1 : Int64} {x3 : Int32} {σ : St} (F : Fx p s m args meth c cX7_digestHole 7 RX7 (some .long) (rmL 5) 0 0 g a) (h : M7_digestHole x1 x3 σ = some (r, σ')) : Z p l e (rmL 5) s m args below meth c (MQ below (QlW g a r σ') args s 0 0 (Ad a)) 7 g a 0 0 σ 0 [(0, .ref (a 25)), (1, .long x1), (3, .int x3)] [] := by
  unfold M7_digestHole at h
  refine z_lload_n (q := 1) F dX7_digestHole_0 rfl rfl ?_
  refine z_lstore (lv' := [(4, .long x1), (0, .ref (a 25)), (1, .long x1), (3, .int x3)]) F dX7_digestHole_1 (by decide) rfl ?_
  refine z_iconst (v := 0) F dX7_digestHole_3 rfl ?_
  refine z_istore (lv' := [(6, .int 0), (4, .long x1), (0, .ref (a 25)), (1, .long x1), (3, .int x3)]) F dX7_digestHole_4 (by decide) rfl ?_
  refine z_sub (lv' := [(0, .ref (a 25)), (3, .int x3), (4, .long x1), (6, .int 0)]) [2, 4, 1, 0] rfl ?_
  refine zM7_digestHole_L6 F ?_ _ _ _ _ h
  intro v5 σ6 h
  refine z_iconst (v := 0) F dX7_digestHole_35 rfl ?_
  refine z_istore (lv' := [(6, .int 0), (0, .ref (a 25)), (3, .int x3), (4, .long v5)]) F dX7_digestHole_36 (by decide) rfl ?_
  refine z_sub (lv' := [(0, .ref (a 25)), (3, .int x3), (4, .long v5), (6, .int 0)]) [1, 2, 3, 0] rfl ?_
  refine zM7_digestHole_L38 F ?_ _ _ _ _ h
  intro v11 σ12 h
  refine z_iconst (v := 0) F dX7_digestHole_68 rfl ?_
  refine z_istore (lv' := [(6, .int 0), (0, .ref (a 25)), (3, .int x3), (4, .long v11)]) F dX7_digestHole_69 (by decide) rfl ?_
  refine z_sub (lv' := [(0, .ref (a 25)), (3, .int x3), (4, .long v11), (6, .int 0)]) [1, 2, 3, 0] rfl ?_
  refine zM7_digestHole_L71 F ?_ _ _ _ _ h
  intro v17 σ18 h
  refine z_ldc2 (v := 31) F dX7_digestHole_102 (tbm 774 (by decide +kernel) rfl) ?_
  refine z_lload (q := 2) F dX7_digestHole_105 rfl ?_
  refine z_lmul F dX7_digestHole_107 ?_
  refine z_aload_n (q := 0) F dX7_digestHole_108 rfl rfl ?_
  refine z_iconst (v := 5) F dX7_digestHole_109 rfl ?_
  refine z_iload_n (q := 1) F dX7_digestHole_110 rfl rfl ?_
  obtain ⟨r19, σ19, hq19, h⟩ := bd_of h
  refine cl7_346 F hq19 ⟨Nat.le_of_ble_eq_true rfl, Nat.le_of_ble_eq_true rfl⟩ dX7_digestHole_111 (Nat.le_of_ble_eq_true rfl) ?_
  refine z_i2l F dX7_digestHole_114 ?_
  refine z_ladd F dX7_digestHole_115 ?_
  exact z_lret F h dX7_digestHole_116
theorem ct7_digestHole {r : Int64} {x1 : Int64} {x3 : Int32} {σ : St} (h : M7_digestHole x1 x3 σ = some (r, σ')) : Met l yX7_digestHole (wsY yX7_digestHole cX7_digestHole 7 (some .long)) (rmL 5) (PcW g a [.ref (a 25), .long x1, .int x3] σ) (QlW g a r σ') 0 0 (Ad a) :=
  ct_L (by decide) (Nat.le_of_ble_eq_true rfl) (fun p e s m args below meth c F => zM7_digestHole F h)
theorem cl7_314 {r : Int64} {x1 : Int64} {x3 : Int32} (F : Fx p s m args meth c cc nL RX7 rt R cz sz g a) (h : M7_digestHole x1 x3 σ = some (r, σ1)) (hR : 5 + 1 ≤ R.frames ∧ 8 + (7 + 11) + 34 * 5 ≤ R.locals) (d : decode cc pc = .ok (.invokevirtual 314, 3)) (hrm : (rest.map fun v => v.category).sum ≤ 8) (z : Z p l e R s m args below meth c Q nL g a cz sz σ1 (pc + 3) lv (.long r :: rest)) : Z p l e R s m args below meth c Q nL g a cz sz σ pc lv (.int x3 :: .long x1 :: .ref (a 25) :: rest) :=
  z_callVL (nA := 2) (As := [.long x1, .int x3]) F (ct7_digestHole h) ⟨(tbm 777 (by decide +kernel) rfl), (tbm 779 (by decide +kernel) rfl), (tbs 59 (by decide +kernel) rfl), (tbm 1 (by decide +kernel) rfl), (tbm 780 (by decide +kernel) rfl)⟩ (by decide +kernel) rfl kdc_25 (by decide) rfl rfl rfl hR d rfl hrm z
theorem zM7_holeMendedBy_J81 {r : Int32} {o1 : Nat} {x2 : Int32} {x3 : Int32} {x4 : Int32} {x5 : Int32} {σ : St} (F : Fx p s m args meth c cX7_holeMendedBy 7 RX7 (some .int) (rmL 2) 0 0 g a) (ko1 : kd o1 = 1) {kb : Int32 → St → Option (Int32 × St)} (hb : ∀ (w5 : Int32) (σ : St), kb w5 σ = some (r, σ') → Z p l e (rmL 2) s m args below meth c (MQ below (QiW g a r σ') args s 0 0 (Ad a)) 7 g a 0 0 σ 3 [(0, .ref (a 25)), (1, .ref (a o1)), (2, .int x2), (3, .int x3), (4, .int x4), (5, .int w5)] []) (h : M7_holeMendedBy_J81 kb o1 x2 x3 x4 x5 σ = some (r, σ')) : Z p l e (rmL 2) s m args below meth c (MQ below (QiW g a r σ') args s 0 0 (Ad a)) 7 g a 0 0 σ 81 [(0, .ref (a 25)), (1, .ref (a o1)), (2, .int x2), (3, .int x3), (4, .int x4), (5, .int x5)] [] := by
  unfold M7_holeMendedBy_J81 at h
  refine z_iinc (q := 5) (v := x5 + 1) (lv' := [(5, .int (x5 + 1)), (0, .ref (a 25)), (1, .ref (a o1)), (2, .int x2), (3, .int x3), (4, .int x4)]) F dX7_holeMendedBy_81 rfl rfl (by decide) rfl ?_
  refine z_letL (s0 := 5) (lv := [(0, .ref (a 25)), (1, .ref (a o1)), (2, .int x2), (3, .int x3), (4, .int x4)]) h (fun v10 h => ?_)
  refine z_goto (tgt := 3) F dX7_holeMendedBy_84 rfl ?_
  refine z_sub (lv' := [(0, .ref (a 25)), (1, .ref (a o1)), (2, .int x2), (3, .int x3), (4, .int x4), (5, .int v10)]) [1, 2, 3, 4, 5, 0] rfl ?_
  exact hb _ _ h
theorem zM7_holeMendedBy_J59 {r : Int32} {o1 : Nat} {x2 : Int32} {x3 : Int32} {x4 : Int32} {x5 : Int32} {x6 : Int32} {σ : St} (F : Fx p s m args meth c cX7_holeMendedBy 7 RX7 (some .int) (rmL 2) 0 0 g a) (ko1 : kd o1 = 1) {kb : Int32 → St → Option (Int32 × St)} (hb : ∀ (w5 : Int32) (σ : St), kb w5 σ = some (r, σ') → Z p l e (rmL 2) s m args below meth c (MQ below (QiW g a r σ') args s 0 0 (Ad a)) 7 g a 0 0 σ 3 [(0, .ref (a 25)), (1, .ref (a o1)), (2, .int x2), (3, .int x3), (4, .int x4), (5, .int w5)] []) (h : M7_holeMendedBy_J59 kb o1 x2 x3 x4 x5 x6 σ = some (r, σ')) : Z p l e (rmL 2) s m args below meth c (MQ below (QiW g a r σ') args s 0 0 (Ad a)) 7 g a 0 0 σ 59 [(0, .ref (a 25)), (1, .ref (a o1)), (2, .int x2), (3, .int x3), (4, .int x4), (5, .int x5), (6, .int x6)] [] := by
  unfold M7_holeMendedBy_J59 at h
  refine z_aload_n (q := 0) F dX7_holeMendedBy_59 rfl rfl ?_
  refine z_iload_n (q := 2) F dX7_holeMendedBy_60 rfl rfl ?_
  refine z_iload (q := 5) F dX7_holeMendedBy_61 rfl ?_
  refine z_iload (q := 6) F dX7_holeMendedBy_63 rfl ?_
  refine z_aload_n (q := 1) F dX7_holeMendedBy_65 rfl rfl ?_
  refine z_iload_n (q := 3) F dX7_holeMendedBy_66 rfl rfl ?_
  refine z_iload (q := 5) F dX7_holeMendedBy_67 rfl ?_
  obtain ⟨r7, σ7, hq7, h⟩ := bd_of h
  refine cl7_166 F ko1 hq7 ⟨Nat.le_of_ble_eq_true rfl, Nat.le_of_ble_eq_true rfl⟩ dX7_holeMendedBy_69 (Nat.le_of_ble_eq_true rfl) ?_
  obtain ⟨r8, σ8, hq8, h⟩ := bd_of h
  refine cl7_193 F hq8 ⟨Nat.le_of_ble_eq_true rfl, Nat.le_of_ble_eq_true rfl⟩ dX7_holeMendedBy_72 (Nat.le_of_ble_eq_true rfl) ?_
  refine z_if_eq (tgt := 81) F dX7_holeMendedBy_75 rfl (fun c9 => ?_) (fun c9 => ?_)
  · have h := ite_T c9 h
    refine z_sub (lv' := [(0, .ref (a 25)), (1, .ref (a o1)), (2, .int x2), (3, .int x3), (4, .int x4), (5, .int x5)]) [0, 1, 2, 3, 4, 5] rfl ?_
    exact zM7_holeMendedBy_J81 F ko1 hb h
  · have h := ite_F c9 h
    refine z_iload (q := 5) F dX7_holeMendedBy_78 rfl ?_
    exact z_iret F h dX7_holeMendedBy_80
theorem zM7_holeMendedBy_L3 {r : Int32} {o1 : Nat} {x2 : Int32} {x3 : Int32} {x4 : Int32} (F : Fx p s m args meth c cX7_holeMendedBy 7 RX7 (some .int) (rmL 2) 0 0 g a) (ko1 : kd o1 = 1) {kx : St → Option (Int32 × St)} (hx : ∀ (σ : St), kx σ = some (r, σ') → Z p l e (rmL 2) s m args below meth c (MQ below (QiW g a r σ') args s 0 0 (Ad a)) 7 g a 0 0 σ 87 [] []) : ∀ (n : Nat) (x5 : Int32) (σ : St), M7_holeMendedBy_L3 o1 x2 x3 x4 kx n x5 σ = some (r, σ') → Z p l e (rmL 2) s m args below meth c (MQ below (QiW g a r σ') args s 0 0 (Ad a)) 7 g a 0 0 σ 3 [(0, .ref (a 25)), (1, .ref (a o1)), (2, .int x2), (3, .int x3), (4, .int x4), (5, .int x5)] [] := by
  intro n
  induction n with
  | zero => intro x5 σ h; rw [M7_holeMendedBy_L3] at h; cases h
  | succ n ih =>
    intro x5 σ h
    rw [M7_holeMendedBy_L3] at h
    refine z_iload (q := 5) F dX7_holeMendedBy_3 rfl ?_
    refine z_aload_n (q := 0) F dX7_holeMendedBy_5 rfl rfl ?_
    refine gf7_16 F kdc_25 dX7_holeMendedBy_6 ?_
    refine gf7_190 F kdc_26 dX7_holeMendedBy_9 ?_
    refine z_icmp_ge (tgt := 87) F dX7_holeMendedBy_12 rfl (fun c1 => ?_) (fun c1 => ?_)
    · have h := ite_T c1 h
      refine z_sub (lv' := []) [] rfl ?_
      exact hx _ h
    · have h := ite_F c1 h
      refine z_aload_n (q := 1) F dX7_holeMendedBy_15 rfl rfl ?_
      refine z_iload_n (q := 3) F dX7_holeMendedBy_16 rfl rfl ?_
      refine z_iload (q := 5) F dX7_holeMendedBy_17 rfl ?_
      obtain ⟨r2, σ2, hq2, h⟩ := bd_of h
      refine cl7_169 F ko1 hq2 ⟨Nat.le_of_ble_eq_true rfl, Nat.le_of_ble_eq_true rfl⟩ dX7_holeMendedBy_19 (Nat.le_of_ble_eq_true rfl) ?_
      refine z_iconst (v := (-1)) F dX7_holeMendedBy_22 rfl ?_
      refine z_icmp_eq (tgt := 29) F dX7_holeMendedBy_23 rfl (fun c3 => ?_) (fun c3 => ?_)
      · have h := ite_T c3 h
        refine z_aload_n (q := 1) F dX7_holeMendedBy_29 rfl rfl ?_
        refine z_iload_n (q := 3) F dX7_holeMendedBy_30 rfl rfl ?_
        refine z_iload (q := 5) F dX7_holeMendedBy_31 rfl ?_
        obtain ⟨r4, σ4, hq4, h⟩ := bd_of h
        refine cl7_163 F ko1 hq4 ⟨Nat.le_of_ble_eq_true rfl, Nat.le_of_ble_eq_true rfl⟩ dX7_holeMendedBy_33 (Nat.le_of_ble_eq_true rfl) ?_
        refine z_istore (lv' := [(6, .int r4), (0, .ref (a 25)), (1, .ref (a o1)), (2, .int x2), (3, .int x3), (4, .int x4), (5, .int x5)]) F dX7_holeMendedBy_36 (by decide) rfl ?_
        refine z_aload_n (q := 2) F dX7_holeMendedBy_38 rfl rfl ?_
        refine z_iload_n (q := 4) F dX7_holeMendedBy_39 rfl rfl ?_
        refine z_iload (q := 6) F dX7_holeMendedBy_40 rfl ?_
        obtain ⟨r5, σ5, hq5, h⟩ := bd_of h
        refine cl7_380 F ko1 hq5 ⟨Nat.le_of_ble_eq_true rfl, Nat.le_of_ble_eq_true rfl⟩ dX7_holeMendedBy_42 (Nat.le_of_ble_eq_true rfl) ?_
        refine z_if_eq (tgt := 59) F dX7_holeMendedBy_45 rfl (fun c6 => ?_) (fun c6 => ?_)
        · have h := ite_T c6 h
          refine z_sub (lv' := [(0, .ref (a 25)), (1, .ref (a o1)), (2, .int x2), (3, .int x3), (4, .int x4), (5, .int x5), (6, .int r4)]) [1, 2, 3, 4, 5, 6, 0] rfl ?_
          exact zM7_holeMendedBy_J59 F ko1 ih h
        · have h := ite_F c6 h
          refine z_iconst (v := 1) F dX7_holeMendedBy_48 rfl ?_
          refine z_iload (q := 0) F dX7_holeMendedBy_49 rfl ?_
          refine z_iload (q := 5) F dX7_holeMendedBy_51 rfl ?_
          refine z_isub F dX7_holeMendedBy_53 ?_
          refine z_mmax F (tbm 627 (by decide +kernel) rfl) (tbm 325 (by decide +kernel) rfl) (tbm 12 (by decide +kernel) rfl) (tbm 326 (by decide +kernel) rfl) (Nat.le_of_ble_eq_true rfl) (Nat.le_of_ble_eq_true rfl) dX7_holeMendedBy_54 ?_
          refine z_letI h (fun v11 h => ?_)
          refine z_istore (lv' := [(6, .int v11), (0, .ref (a 25)), (1, .ref (a o1)), (2, .int x2), (3, .int x3), (4, .int x4), (5, .int x5)]) F dX7_holeMendedBy_57 (by decide) rfl ?_
          refine z_sub (lv' := [(0, .ref (a 25)), (1, .ref (a o1)), (2, .int x2), (3, .int x3), (4, .int x4), (5, .int x5), (6, .int v11)]) [1, 2, 3, 4, 5, 6, 0] rfl ?_
          exact zM7_holeMendedBy_J59 F ko1 ih h
      · have h := ite_F c3 h
        refine z_goto (tgt := 81) F dX7_holeMendedBy_26 rfl ?_
        refine z_sub (lv' := [(0, .ref (a 25)), (1, .ref (a o1)), (2, .int x2), (3, .int x3), (4, .int x4), (5, .int x5)]) [0, 1, 2, 3, 4, 5] rfl ?_
        exact zM7_holeMendedBy_J81 F ko1 ih h
theorem zM7_holeMendedBy {r : Int32} {o1 : Nat} {x2 : Int32} {x3 : Int32} {x4 : Int32} {σ : St} (F : Fx p s m args meth c cX7_holeMendedBy 7 RX7 (some .int) (rmL 2) 0 0 g a) (ko1 : kd o1 = 1) (h : M7_holeMendedBy o1 x2 x3 x4 σ = some (r, σ')) : Z p l e (rmL 2) s m args below meth c (MQ below (QiW g a r σ') args s 0 0 (Ad a)) 7 g a 0 0 σ 0 [(0, .ref (a 25)), (1, .ref (a o1)), (2, .int x2), (3, .int x3), (4, .int x4)] [] := by
  unfold M7_holeMendedBy at h
  refine z_iconst (v := 0) F dX7_holeMendedBy_0 rfl ?_
  refine z_istore (lv' := [(5, .int 0), (0, .ref (a 25)), (1, .ref (a o1)), (2, .int x2), (3, .int x3), (4, .int x4)]) F dX7_holeMendedBy_1 (by decide) rfl ?_
  refine z_sub (lv' := [(0, .ref (a 25)), (1, .ref (a o1)), (2, .int x2), (3, .int x3), (4, .int x4), (5, .int 0)]) [1, 2, 3, 4, 5, 0] rfl ?_
  refine zM7_holeMendedBy_L3 F ko1 ?_ _ _ _ h
  intro σ12 h
  refine z_iconst (v := (-1)) F dX7_holeMendedBy_87 rfl ?_
  exact z_iret F h dX7_holeMendedBy_88
theorem ct7_holeMendedBy {r : Int32} {o1 : Nat} {x2 : Int32} {x3 : Int32} {x4 : Int32} {σ : St} (ko1 : kd o1 = 1) (h : M7_holeMendedBy o1 x2 x3 x4 σ = some (r, σ')) : Met l yX7_holeMendedBy (wsY yX7_holeMendedBy cX7_holeMendedBy 7 (some .int)) (rmL 2) (PcW g a [.ref (a 25), .ref (a o1), .int x2, .int x3, .int x4] σ) (QiW g a r σ') 0 0 (Ad a) :=
  ct_I (by decide) (Nat.le_of_ble_eq_true rfl) (fun p e s m args below meth c F => zM7_holeMendedBy F ko1 h)
theorem cl7_203 {r : Int32} {o1 : Nat} {x2 : Int32} {x3 : Int32} {x4 : Int32} (F : Fx p s m args meth c cc nL RX7 rt R cz sz g a) (ko1 : kd o1 = 1) (h : M7_holeMendedBy o1 x2 x3 x4 σ = some (r, σ1)) (hR : 2 + 1 ≤ R.frames ∧ 8 + (7 + 11) + 34 * 2 ≤ R.locals) (d : decode cc pc = .ok (.invokevirtual 203, 3)) (hrm : (rest.map fun v => v.category).sum ≤ 8) (z : Z p l e R s m args below meth c Q nL g a cz sz σ1 (pc + 3) lv (.int r :: rest)) : Z p l e R s m args below meth c Q nL g a cz sz σ pc lv (.int x4 :: .int x3 :: .int x2 :: .ref (a o1) :: .ref (a 25) :: rest) :=
  z_callVI (nA := 4) (As := [.ref (a o1), .int x2, .int x3, .int x4]) F (ct7_holeMendedBy ko1 h) ⟨(tbm 619 (by decide +kernel) rfl), (tbm 621 (by decide +kernel) rfl), (tbs 40 (by decide +kernel) rfl), (tbm 1 (by decide +kernel) rfl), (tbm 622 (by decide +kernel) rfl)⟩ (by decide +kernel) rfl kdc_25 (by decide) rfl rfl rfl hR d rfl hrm z
theorem zM7_isWork {r : Int32} {x1 : Int32} {σ : St} (F : Fx p s m args meth c cX7_isWork 2 RX7 (some .boolean) (rmL 1) 0 0 g a) (h : M7_isWork x1 σ = some (r, σ')) : Z p l e (rmL 1) s m args below meth c (MQ below (QiW g a r σ') args s 0 0 (Ad a)) 2 g a 0 0 σ 0 [(0, .ref (a 25)), (1, .int x1)] [] := by
  unfold M7_isWork at h
  refine z_iload_n (q := 1) F dX7_isWork_0 rfl rfl ?_
  refine z_aload_n (q := 0) F dX7_isWork_1 rfl rfl ?_
  refine gf7_22 F kdc_25 dX7_isWork_2 ?_
  refine gf7_190 F kdc_29 dX7_isWork_5 ?_
  obtain ⟨r1, σ1, hq1, h⟩ := bd_of h
  refine cl7_83 F hq1 ⟨Nat.le_of_ble_eq_true rfl, Nat.le_of_ble_eq_true rfl⟩ dX7_isWork_8 (Nat.le_of_ble_eq_true rfl) ?_
  obtain ⟨g2, h⟩ := gd_of h
  exact z_bret F g2 h dX7_isWork_11
theorem ct7_isWork {r : Int32} {x1 : Int32} {σ : St} (h : M7_isWork x1 σ = some (r, σ')) : Met l yX7_isWork (wsY yX7_isWork cX7_isWork 2 (some .boolean)) (rmL 1) (PcW g a [.ref (a 25), .int x1] σ) (QiW g a r σ') 0 0 (Ad a) :=
  ct_I (by decide) (Nat.le_of_ble_eq_true rfl) (fun p e s m args below meth c F => zM7_isWork F h)
theorem cl7_112 {r : Int32} {x1 : Int32} (F : Fx p s m args meth c cc nL RX7 rt R cz sz g a) (h : M7_isWork x1 σ = some (r, σ1)) (hR : 1 + 1 ≤ R.frames ∧ 8 + (2 + 11) + 34 * 1 ≤ R.locals) (d : decode cc pc = .ok (.invokevirtual 112, 3)) (hrm : (rest.map fun v => v.category).sum ≤ 8) (z : Z p l e R s m args below meth c Q nL g a cz sz σ1 (pc + 3) lv (.int r :: rest)) : Z p l e R s m args below meth c Q nL g a cz sz σ pc lv (.int x1 :: .ref (a 25) :: rest) :=
  z_callVI (nA := 1) (As := [.int x1]) F (ct7_isWork h) ⟨(tbm 417 (by decide +kernel) rfl), (tbm 419 (by decide +kernel) rfl), (tbs 8 (by decide +kernel) rfl), (tbm 1 (by decide +kernel) rfl), (tbm 420 (by decide +kernel) rfl)⟩ (by decide +kernel) rfl kdc_25 (by decide) rfl rfl rfl hR d rfl hrm z
theorem zM7_mend_L42 {r : Int32} {x1 : Int32} {x2 : Int32} {x3 : Int32} {o4 : Nat} (F : Fx p s m args meth c cX7_mend 7 RX7 (some .int) (rmL 4) 0 0 g a) (ko4 : kd o4 = 1) {kx : St → Option (Int32 × St)} (hx : ∀ (σ : St), kx σ = some (r, σ') → Z p l e (rmL 4) s m args below meth c (MQ below (QiW g a r σ') args s 0 0 (Ad a)) 7 g a 0 0 σ 95 [] []) : ∀ (n : Nat) (x5 : Int32) (σ : St), M7_mend_L42 x1 x2 x3 o4 kx n x5 σ = some (r, σ') → Z p l e (rmL 4) s m args below meth c (MQ below (QiW g a r σ') args s 0 0 (Ad a)) 7 g a 0 0 σ 42 [(0, .ref (a 25)), (1, .int x1), (2, .int x2), (3, .int x3), (4, .ref (a o4)), (5, .int x5)] [] := by
  intro n
  induction n with
  | zero => intro x5 σ h; rw [M7_mend_L42] at h; cases h
  | succ n ih =>
    intro x5 σ h
    rw [M7_mend_L42] at h
    refine z_iload (q := 5) F dX7_mend_42 rfl ?_
    refine z_iconst (v := 3) F dX7_mend_44 rfl ?_
    refine z_icmp_gt (tgt := 95) F dX7_mend_45 rfl (fun c8 => ?_) (fun c8 => ?_)
    · have h := ite_T c8 h
      refine z_sub (lv' := []) [] rfl ?_
      exact hx _ h
    · have h := ite_F c8 h
      refine z_aload_n (q := 0) F dX7_mend_48 rfl rfl ?_
      refine z_aload (q := 4) F dX7_mend_49 rfl ?_
      refine z_iload_n (q := 1) F dX7_mend_51 rfl rfl ?_
      refine z_iload_n (q := 2) F dX7_mend_52 rfl rfl ?_
      refine z_iload (q := 5) F dX7_mend_53 rfl ?_
      obtain ⟨r9, σ9, hq9, h⟩ := bd_of h
      refine cl7_203 F ko4 hq9 ⟨Nat.le_of_ble_eq_true rfl, Nat.le_of_ble_eq_true rfl⟩ dX7_mend_55 (Nat.le_of_ble_eq_true rfl) ?_
      refine z_istore (lv' := [(6, .int r9), (0, .ref (a 25)), (1, .int x1), (2, .int x2), (3, .int x3), (4, .ref (a o4)), (5, .int x5)]) F dX7_mend_58 (by decide) rfl ?_
      refine z_iload (q := 0) F dX7_mend_60 rfl ?_
      refine z_iconst (v := (-1)) F dX7_mend_62 rfl ?_
      refine z_icmp_eq (tgt := 89) F dX7_mend_63 rfl (fun c10 => ?_) (fun c10 => ?_)
      · have h := ite_T c10 h
        refine z_iinc (q := 6) (v := x5 + 1) (lv' := [(5, .int (x5 + 1)), (6, .int r9), (0, .ref (a 25)), (1, .int x1), (2, .int x2), (3, .int x3), (4, .ref (a o4))]) F dX7_mend_89 rfl rfl (by decide) rfl ?_
        refine z_letL (s0 := 5) (lv := [(6, .int r9), (0, .ref (a 25)), (1, .int x1), (2, .int x2), (3, .int x3), (4, .ref (a o4))]) h (fun v11 h => ?_)
        refine z_goto (tgt := 42) F dX7_mend_92 rfl ?_
        refine z_sub (lv' := [(0, .ref (a 25)), (1, .int x1), (2, .int x2), (3, .int x3), (4, .ref (a o4)), (5, .int v11)]) [2, 3, 4, 5, 6, 0] rfl ?_
        exact ih _ _ h
      · have h := ite_F c10 h
        refine z_iload_n (q := 4) F dX7_mend_66 rfl rfl ?_
        refine z_iconst (v := (-1)) F dX7_mend_67 rfl ?_
        refine z_icmp_ne (tgt := 76) F dX7_mend_68 rfl (fun c12 => ?_) (fun c12 => ?_)
        · try simp only [if_neg c12] at h
          refine z_iload_n (q := 4) F dX7_mend_76 rfl rfl ?_
          refine z_iload (q := 6) F dX7_mend_77 rfl ?_
          refine z_icmp_ge (tgt := 87) F dX7_mend_79 rfl (fun c13 => ?_) (fun c13 => ?_)
          · try simp only [if_pos c13] at h
            refine z_iconst (v := (-1)) F dX7_mend_87 rfl ?_
            exact z_iret F h dX7_mend_88
          · try simp only [if_neg c13] at h
            refine z_iload (q := 0) F dX7_mend_82 rfl ?_
            refine z_goto (tgt := 88) F dX7_mend_84 rfl ?_
            exact z_iret F h dX7_mend_88
        · try simp only [if_pos c12] at h
          refine z_iload (q := 6) F dX7_mend_71 rfl ?_
          refine z_goto (tgt := 88) F dX7_mend_73 rfl ?_
          exact z_iret F h dX7_mend_88
theorem zM7_mend_J33 {r : Int32} {x1 : Int32} {x2 : Int32} {x3 : Int32} {σ : St} (F : Fx p s m args meth c cX7_mend 7 RX7 (some .int) (rmL 4) 0 0 g a) (h : M7_mend_J33 x1 x2 x3 σ = some (r, σ')) : Z p l e (rmL 4) s m args below meth c (MQ below (QiW g a r σ') args s 0 0 (Ad a)) 7 g a 0 0 σ 33 [(0, .ref (a 25)), (1, .int x1), (2, .int x2), (3, .int x3)] [] := by
  unfold M7_mend_J33 at h
  refine z_aload_n (q := 0) F dX7_mend_33 rfl rfl ?_
  obtain ⟨r6, σ6, hq6, h⟩ := bd_of h
  obtain ⟨g7, h⟩ := gd_of h
  refine cl7_159 F hq6 ⟨Nat.le_of_ble_eq_true rfl, Nat.le_of_ble_eq_true rfl⟩ dX7_mend_34 (Nat.le_of_ble_eq_true rfl) ?_
  refine z_astore (lv' := [(4, .ref (a r6)), (0, .ref (a 25)), (1, .int x1), (2, .int x2), (3, .int x3)]) F dX7_mend_37 (by decide) rfl ?_
  refine z_iconst (v := 0) F dX7_mend_39 rfl ?_
  refine z_istore (lv' := [(5, .int 0), (4, .ref (a r6)), (0, .ref (a 25)), (1, .int x1), (2, .int x2), (3, .int x3)]) F dX7_mend_40 (by decide) rfl ?_
  refine z_sub (lv' := [(0, .ref (a 25)), (1, .int x1), (2, .int x2), (3, .int x3), (4, .ref (a r6)), (5, .int 0)]) [2, 3, 4, 5, 1, 0] rfl ?_
  refine zM7_mend_L42 F g7 ?_ _ _ _ h
  intro σ14 h
  refine z_iconst (v := (-1)) F dX7_mend_95 rfl ?_
  exact z_iret F h dX7_mend_96
theorem zM7_mend {r : Int32} {x1 : Int32} {x2 : Int32} {x3 : Int32} {σ : St} (F : Fx p s m args meth c cX7_mend 7 RX7 (some .int) (rmL 4) 0 0 g a) (h : M7_mend x1 x2 x3 σ = some (r, σ')) : Z p l e (rmL 4) s m args below meth c (MQ below (QiW g a r σ') args s 0 0 (Ad a)) 7 g a 0 0 σ 0 [(0, .ref (a 25)), (1, .int x1), (2, .int x2), (3, .int x3)] [] := by
  unfold M7_mend at h
  refine z_aload_n (q := 0) F dX7_mend_0 rfl rfl ?_
  refine z_iload_n (q := 1) F dX7_mend_1 rfl rfl ?_
  obtain ⟨r1, σ1, hq1, h⟩ := bd_of h
  refine cl7_112 F hq1 ⟨Nat.le_of_ble_eq_true rfl, Nat.le_of_ble_eq_true rfl⟩ dX7_mend_2 (Nat.le_of_ble_eq_true rfl) ?_
  refine z_if_eq (tgt := 30) F dX7_mend_5 rfl (fun c2 => ?_) (fun c2 => ?_)
  · have h := ite_T c2 h
    refine z_bipush (v := (-2)) F dX7_mend_30 rfl ?_
    exact z_iret F h dX7_mend_32
  · have h := ite_F c2 h
    refine z_iload_n (q := 2) F dX7_mend_8 rfl rfl ?_
    refine z_bipush (v := 40) F dX7_mend_9 rfl ?_
    obtain ⟨r3, σ3, hq3, h⟩ := bd_of h
    refine cl7_83 F hq3 ⟨Nat.le_of_ble_eq_true rfl, Nat.le_of_ble_eq_true rfl⟩ dX7_mend_11 (Nat.le_of_ble_eq_true rfl) ?_
    refine z_if_eq (tgt := 30) F dX7_mend_14 rfl (fun c4 => ?_) (fun c4 => ?_)
    · have h := ite_T c4 h
      refine z_bipush (v := (-2)) F dX7_mend_30 rfl ?_
      exact z_iret F h dX7_mend_32
    · have h := ite_F c4 h
      refine z_iload_n (q := 3) F dX7_mend_17 rfl rfl ?_
      refine z_iconst (v := (-1)) F dX7_mend_18 rfl ?_
      refine z_icmp_eq (tgt := 33) F dX7_mend_19 rfl (fun c5 => ?_) (fun c5 => ?_)
      · have h := ite_T c5 h
        refine z_sub (lv' := [(0, .ref (a 25)), (1, .int x1), (2, .int x2), (3, .int x3)]) [0, 1, 2, 3] rfl ?_
        exact zM7_mend_J33 F h
      · have h := ite_F c5 h
        refine z_iload_n (q := 3) F dX7_mend_22 rfl rfl ?_
        refine z_iconst (v := 3) F dX7_mend_23 rfl ?_
        obtain ⟨r15, σ15, hq15, h⟩ := bd_of h
        refine cl7_83 F hq15 ⟨Nat.le_of_ble_eq_true rfl, Nat.le_of_ble_eq_true rfl⟩ dX7_mend_24 (Nat.le_of_ble_eq_true rfl) ?_
        refine z_if_ne (tgt := 33) F dX7_mend_27 rfl (fun c16 => ?_) (fun c16 => ?_)
        · have h := ite_F c16 h
          refine z_sub (lv' := [(0, .ref (a 25)), (1, .int x1), (2, .int x2), (3, .int x3)]) [0, 1, 2, 3] rfl ?_
          exact zM7_mend_J33 F h
        · have h := ite_T c16 h
          refine z_bipush (v := (-2)) F dX7_mend_30 rfl ?_
          exact z_iret F h dX7_mend_32
theorem ct7_mend {r : Int32} {x1 : Int32} {x2 : Int32} {x3 : Int32} {σ : St} (h : M7_mend x1 x2 x3 σ = some (r, σ')) : Met l yX7_mend (wsY yX7_mend cX7_mend 7 (some .int)) (rmL 4) (PcW g a [.ref (a 25), .int x1, .int x2, .int x3] σ) (QiW g a r σ') 0 0 (Ad a) :=
  ct_I (by decide) (Nat.le_of_ble_eq_true rfl) (fun p e s m args below meth c F => zM7_mend F h)
theorem cl7_352 {r : Int32} {x1 : Int32} {x2 : Int32} {x3 : Int32} (F : Fx p s m args meth c cc nL RX7 rt R cz sz g a) (h : M7_mend x1 x2 x3 σ = some (r, σ1)) (hR : 4 + 1 ≤ R.frames ∧ 8 + (7 + 11) + 34 * 4 ≤ R.locals) (d : decode cc pc = .ok (.invokevirtual 352, 3)) (hrm : (rest.map fun v => v.category).sum ≤ 8) (z : Z p l e R s m args below meth c Q nL g a cz sz σ1 (pc + 3) lv (.int r :: rest)) : Z p l e R s m args below meth c Q nL g a cz sz σ pc lv (.int x3 :: .int x2 :: .int x1 :: .ref (a 25) :: rest) :=
  z_callVI (nA := 3) (As := [.int x1, .int x2, .int x3]) F (ct7_mend h) ⟨(tbm 789 (by decide +kernel) rfl), (tbm 616 (by decide +kernel) rfl), (tbm 617 (by decide +kernel) rfl), (tbm 1 (by decide +kernel) rfl), (tbm 618 (by decide +kernel) rfl)⟩ (by decide +kernel) rfl kdc_25 (by decide) rfl rfl rfl hR d rfl hrm z
end WalkZ
