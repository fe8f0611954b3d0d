section WalkZ
variable {p : Program} {l : Launch} {e : Env} {R : Room} {s : State} {m : MethodId} {args : Array Value} {below : List Frame} {meth : Method} {c : Code} {Q : State → Prop} {cc : ByteArray} {nL : Nat} {own : String} {rt : Option FieldType} {g : Gd} {a : Nat → Nat} {cz sz : Nat} {σ σ1 σ' : St} {pc : Nat} {lv lv' : List (Nat × Value)} {st st0 rest : List Value}
theorem zM8_lives_L6 {r : Unit} {x1 : Int32} (F : Fx p s m args meth c cX8_lives 3 RX8 none (rmL 4) 0 0 g a) {kx : St → Option (Unit × St)} (hx : ∀ (σ : St), kx σ = some (r, σ') → Z p l e (rmL 4) s m args below meth c (MQ below (QvW g a r σ') args s 0 0 (Ad a)) 3 g a 0 0 σ 22 [] []) : ∀ (n : Nat) (x2 : Int32) (σ : St), M8_lives_L6 x1 kx n x2 σ = some (r, σ') → Z p l e (rmL 4) s m args below meth c (MQ below (QvW g a r σ') args s 0 0 (Ad a)) 3 g a 0 0 σ 6 [(0, .ref (a 0)), (1, .int x1), (2, .int x2)] [] := by
  intro n
  induction n with
  | zero => intro x2 σ h; rw [M8_lives_L6] at h; cases h
  | succ n ih =>
    intro x2 σ h
    rw [M8_lives_L6] at h
    refine z_iload_n (q := 2) F dX8_lives_6 rfl rfl ?_
    refine z_iload_n (q := 1) F dX8_lives_7 rfl rfl ?_
    refine z_icmp_gt (tgt := 22) F dX8_lives_8 rfl (fun c2 => ?_) (fun c2 => ?_)
    · have h := ite_T c2 h
      refine z_sub (lv' := []) [] rfl ?_
      exact hx _ h
    · have h := ite_F c2 h
      refine z_aload_n (q := 0) F dX8_lives_11 rfl rfl ?_
      refine z_iload_n (q := 2) F dX8_lives_12 rfl rfl ?_
      obtain ⟨r3, σ3, hq3, h⟩ := bd_of h
      refine cl8_215 F hq3 ⟨Nat.le_of_ble_eq_true rfl, Nat.le_of_ble_eq_true rfl⟩ dX8_lives_13 (Nat.le_of_ble_eq_true rfl) ?_
      refine z_iinc (q := 2) (v := x2 + 1) (lv' := [(2, .int (x2 + 1)), (0, .ref (a 0)), (1, .int x1)]) F dX8_lives_16 rfl rfl (by decide) rfl ?_
      refine z_letL (s0 := 2) (lv := [(0, .ref (a 0)), (1, .int x1)]) h (fun v4 h => ?_)
      refine z_goto (tgt := 6) F dX8_lives_19 rfl ?_
      refine z_sub (lv' := [(0, .ref (a 0)), (1, .int x1), (2, .int v4)]) [1, 2, 0] rfl ?_
      exact ih _ _ h
theorem zM8_lives {r : Unit} {x1 : Int32} {σ : St} (F : Fx p s m args meth c cX8_lives 3 RX8 none (rmL 4) 0 0 g a) (h : M8_lives x1 σ = some (r, σ')) : Z p l e (rmL 4) s m args below meth c (MQ below (QvW g a r σ') args s 0 0 (Ad a)) 3 g a 0 0 σ 0 [(0, .ref (a 0)), (1, .int x1)] [] := by
  unfold M8_lives at h
  refine z_aload_n (q := 0) F dX8_lives_0 rfl rfl ?_
  obtain ⟨r1, σ1, hq1, h⟩ := bd_of h
  refine cl8_212 F hq1 ⟨Nat.le_of_ble_eq_true rfl, Nat.le_of_ble_eq_true rfl⟩ dX8_lives_1 (Nat.le_of_ble_eq_true rfl) ?_
  refine z_iconst (v := 0) F dX8_lives_4 rfl ?_
  refine z_istore_n (lv' := [(2, .int 0), (0, .ref (a 0)), (1, .int x1)]) F dX8_lives_5 rfl (by decide) rfl ?_
  refine z_sub (lv' := [(0, .ref (a 0)), (1, .int x1), (2, .int 0)]) [1, 2, 0] rfl ?_
  refine zM8_lives_L6 F ?_ _ _ _ h
  intro σ5 h
  exact z_vret F h dX8_lives_22
theorem ct8_lives {r : Unit} {x1 : Int32} {σ : St} (h : M8_lives x1 σ = some (r, σ')) : Met l yX8_lives (wsY yX8_lives cX8_lives 3 none) (rmL 4) (PcW g a [.ref (a 0), .int x1] σ) (QvW g a r σ') 0 0 (Ad a) :=
  ct_V (by decide) (Nat.le_of_ble_eq_true rfl) (fun p e s m args below meth c F => zM8_lives F h)
theorem cl8_218 {r : Unit} {x1 : Int32} (F : Fx p s m args meth c cc nL RX8 rt R cz sz g a) (h : M8_lives x1 σ = some (r, σ1)) (hR : 4 + 1 ≤ R.frames ∧ 8 + (3 + 11) + 34 * 4 ≤ R.locals) (d : decode cc pc = .ok (.invokevirtual 218, 3)) (hrm : (rest.map fun v => v.category).sum ≤ 8) (z : Z p l e R s m args below meth c Q nL g a cz sz σ1 (pc + 3) lv (rest)) : Z p l e R s m args below meth c Q nL g a cz sz σ pc lv (.int x1 :: .ref (a 0) :: rest) :=
  z_callVV (nA := 1) (As := [.int x1]) F (ct8_lives h) ⟨(tbm 1056 (by decide +kernel) rfl), (tbm 1058 (by decide +kernel) rfl), (tbs 71 (by decide +kernel) rfl), (tbm 9 (by decide +kernel) rfl), (tbm 1059 (by decide +kernel) rfl)⟩ (by decide +kernel) rfl kdc_0 (by decide) rfl rfl rfl hR d rfl hrm z
theorem zM8_vaultNow_J42 {r : Int32} {x2 : Int32} {y0 : Int32} {y1 : Int32} {σ : St} (F : Fx p s m args meth c cX8_vaultNow 3 RX8 (some .int) (rmL 0) 0 0 g a) {kb : Int32 → Int32 → St → Option (Int32 × St)} (hb : ∀ (w1 : Int32) (w2 : Int32) (σ : St), kb w1 w2 σ = some (r, σ') → Z p l e (rmL 0) s m args below meth c (MQ below (QiW g a r σ') args s 0 0 (Ad a)) 3 g a 0 0 σ 4 [(0, .ref (a 0)), (1, .int w1), (2, .int w2)] []) (h : M8_vaultNow_J42 kb x2 y0 y1 σ = some (r, σ')) : Z p l e (rmL 0) s m args below meth c (MQ below (QiW g a r σ') args s 0 0 (Ad a)) 3 g a 0 0 σ 42 [(0, .ref (a 0)), (2, .int x2)] [.int y0, .int y1] := by
  unfold M8_vaultNow_J42 at h
  refine z_iadd F dX8_vaultNow_42 ?_
  refine z_letI h (fun v5 h => ?_)
  refine z_istore_n (lv' := [(1, .int v5), (0, .ref (a 0)), (2, .int x2)]) F dX8_vaultNow_43 rfl (by decide) rfl ?_
  refine z_iinc (q := 2) (v := x2 + 1) (lv' := [(2, .int (x2 + 1)), (1, .int v5), (0, .ref (a 0))]) F dX8_vaultNow_44 rfl rfl (by decide) rfl ?_
  refine z_letL (s0 := 2) (lv := [(1, .int v5), (0, .ref (a 0))]) h (fun v6 h => ?_)
  refine z_goto (tgt := 4) F dX8_vaultNow_47 rfl ?_
  refine z_sub (lv' := [(0, .ref (a 0)), (1, .int v5), (2, .int v6)]) [2, 1, 0] rfl ?_
  exact hb _ _ _ h
theorem zM8_vaultNow_L4 {r : Int32} (F : Fx p s m args meth c cX8_vaultNow 3 RX8 (some .int) (rmL 0) 0 0 g a) {kx : Int32 → St → Option (Int32 × St)} (hx : ∀ (w1 : Int32) (σ : St), kx w1 σ = some (r, σ') → Z p l e (rmL 0) s m args below meth c (MQ below (QiW g a r σ') args s 0 0 (Ad a)) 3 g a 0 0 σ 50 [(1, .int w1)] []) : ∀ (n : Nat) (x1 : Int32) (x2 : Int32) (σ : St), M8_vaultNow_L4 kx n x1 x2 σ = some (r, σ') → Z p l e (rmL 0) s m args below meth c (MQ below (QiW g a r σ') args s 0 0 (Ad a)) 3 g a 0 0 σ 4 [(0, .ref (a 0)), (1, .int x1), (2, .int x2)] [] := by
  intro n
  induction n with
  | zero => intro x1 x2 σ h; rw [M8_vaultNow_L4] at h; cases h
  | succ n ih =>
    intro x1 x2 σ h
    rw [M8_vaultNow_L4] at h
    refine z_iload_n (q := 2) F dX8_vaultNow_4 rfl rfl ?_
    refine z_aload_n (q := 0) F dX8_vaultNow_5 rfl rfl ?_
    refine gf8_28 F kdc_0 dX8_vaultNow_6 ?_
    refine z_iconst (v := 0) F dX8_vaultNow_9 rfl ?_
    refine z_ialdC (j := 0) F kdc_7 (inl lnc_7 (by decide)) (by decide) dX8_vaultNow_10 ?_
    refine z_icmp_ge (tgt := 50) F dX8_vaultNow_11 rfl (fun c2 => ?_) (fun c2 => ?_)
    · have h := ite_T c2 h
      refine z_sub (lv' := [(1, .int x1)]) [1] rfl ?_
      exact hx _ _ h
    · have h := ite_F c2 h
      refine z_iload_n (q := 1) F dX8_vaultNow_14 rfl rfl ?_
      refine z_aload_n (q := 0) F dX8_vaultNow_15 rfl rfl ?_
      refine gf8_49 F kdc_0 dX8_vaultNow_16 ?_
      refine z_iload_n (q := 2) F dX8_vaultNow_19 rfl rfl ?_
      obtain ⟨g3, h⟩ := gd_of h
      refine z_iald F kdc_14 (inl lnc_14 g3) dX8_vaultNow_20 ?_
      refine z_iconst (v := (-1)) F dX8_vaultNow_21 rfl ?_
      refine z_icmp_ne (tgt := 41) F dX8_vaultNow_22 rfl (fun c4 => ?_) (fun c4 => ?_)
      · try simp only [if_neg c4] at h
        refine z_iconst (v := 0) F dX8_vaultNow_41 rfl ?_
        refine z_sub (lv' := [(0, .ref (a 0)), (2, .int x2)]) [0, 2] rfl ?_
        exact zM8_vaultNow_J42 F ih h
      · try simp only [if_pos c4] at h
        refine z_aload_n (q := 0) F dX8_vaultNow_25 rfl rfl ?_
        refine gf8_43 F kdc_0 dX8_vaultNow_26 ?_
        refine z_iload_n (q := 2) F dX8_vaultNow_29 rfl rfl ?_
        refine z_iald F kdc_12 (inl lnc_12 g3) dX8_vaultNow_30 ?_
        refine z_aload_n (q := 0) F dX8_vaultNow_31 rfl rfl ?_
        refine gf8_46 F kdc_0 dX8_vaultNow_32 ?_
        refine z_iload_n (q := 2) F dX8_vaultNow_35 rfl rfl ?_
        refine z_iald F kdc_13 (inl lnc_13 g3) dX8_vaultNow_36 ?_
        refine z_imul F dX8_vaultNow_37 ?_
        refine z_goto (tgt := 42) F dX8_vaultNow_38 rfl ?_
        refine z_sub (lv' := [(0, .ref (a 0)), (2, .int x2)]) [0, 2] rfl ?_
        exact zM8_vaultNow_J42 F ih h
theorem zM8_vaultNow {r : Int32} {σ : St} (F : Fx p s m args meth c cX8_vaultNow 3 RX8 (some .int) (rmL 0) 0 0 g a) (h : M8_vaultNow σ = some (r, σ')) : Z p l e (rmL 0) s m args below meth c (MQ below (QiW g a r σ') args s 0 0 (Ad a)) 3 g a 0 0 σ 0 [(0, .ref (a 0))] [] := by
  unfold M8_vaultNow at h
  refine z_iconst (v := 0) F dX8_vaultNow_0 rfl ?_
  refine z_istore_n (lv' := [(1, .int 0), (0, .ref (a 0))]) F dX8_vaultNow_1 rfl (by decide) rfl ?_
  refine z_iconst (v := 0) F dX8_vaultNow_2 rfl ?_
  refine z_istore_n (lv' := [(2, .int 0), (1, .int 0), (0, .ref (a 0))]) F dX8_vaultNow_3 rfl (by decide) rfl ?_
  refine z_sub (lv' := [(0, .ref (a 0)), (1, .int 0), (2, .int 0)]) [2, 1, 0] rfl ?_
  refine zM8_vaultNow_L4 F ?_ _ _ _ _ h
  intro v9 σ10 h
  refine z_iload_n (q := 0) F dX8_vaultNow_50 rfl rfl ?_
  exact z_iret F h dX8_vaultNow_51
theorem ct8_vaultNow {r : Int32} {σ : St} (h : M8_vaultNow σ = some (r, σ')) : Met l yX8_vaultNow (wsY yX8_vaultNow cX8_vaultNow 3 (some .int)) (rmL 0) (PcW g a [.ref (a 0)] σ) (QiW g a r σ') 0 0 (Ad a) :=
  ct_I (by decide) (Nat.le_of_ble_eq_true rfl) (fun p e s m args below meth c F => zM8_vaultNow F h)
theorem cl8_224 {r : Int32} (F : Fx p s m args meth c cc nL RX8 rt R cz sz g a) (h : M8_vaultNow σ = some (r, σ1)) (hR : 0 + 1 ≤ R.frames ∧ 8 + (3 + 11) + 34 * 0 ≤ R.locals) (d : decode cc pc = .ok (.invokevirtual 224, 3)) (hrm : (rest.map fun v => v.category).sum ≤ 8) (z : Z p l e R s m args below meth c Q nL g a cz sz σ1 (pc + 3) lv (.int r :: rest)) : Z p l e R s m args below meth c Q nL g a cz sz σ pc lv (.ref (a 0) :: rest) :=
  z_callVI (nA := 0) (As := []) F (ct8_vaultNow h) ⟨(tbm 1105 (by decide +kernel) rfl), (tbm 1107 (by decide +kernel) rfl), (tbs 80 (by decide +kernel) rfl), (tbm 9 (by decide +kernel) rfl), (tbm 1108 (by decide +kernel) rfl)⟩ (by decide +kernel) rfl kdc_0 (by decide) rfl rfl rfl hR d rfl hrm z
theorem zM8_behindOf {r : Int32} {x1 : Int32} {x2 : Int32} {σ : St} (F : Fx p s m args meth c cX8_behindOf 3 RX8 (some .int) (rmL 5) 0 0 g a) (h : M8_behindOf x1 x2 σ = some (r, σ')) : Z p l e (rmL 5) s m args below meth c (MQ below (QiW g a r σ') args s 0 0 (Ad a)) 3 g a 0 0 σ 0 [(0, .ref (a 0)), (1, .int x1), (2, .int x2)] [] := by
  unfold M8_behindOf at h
  refine z_aload_n (q := 0) F dX8_behindOf_0 rfl rfl ?_
  refine z_iload_n (q := 1) F dX8_behindOf_1 rfl rfl ?_
  obtain ⟨r1, σ1, hq1, h⟩ := bd_of h
  refine cl8_218 F hq1 ⟨Nat.le_of_ble_eq_true rfl, Nat.le_of_ble_eq_true rfl⟩ dX8_behindOf_2 (Nat.le_of_ble_eq_true rfl) ?_
  refine z_iload_n (q := 2) F dX8_behindOf_5 rfl rfl ?_
  refine z_if_ne (tgt := 16) F dX8_behindOf_6 rfl (fun c2 => ?_) (fun c2 => ?_)
  · have h := ite_F c2 h
    refine z_aload_n (q := 0) F dX8_behindOf_16 rfl rfl ?_
    refine gf8_183 F kdc_0 dX8_behindOf_17 ?_
    exact z_iret F h dX8_behindOf_20
  · have h := ite_T c2 h
    refine z_aload_n (q := 0) F dX8_behindOf_9 rfl rfl ?_
    obtain ⟨r3, σ3, hq3, h⟩ := bd_of h
    refine cl8_224 F hq3 ⟨Nat.le_of_ble_eq_true rfl, Nat.le_of_ble_eq_true rfl⟩ dX8_behindOf_10 (Nat.le_of_ble_eq_true rfl) ?_
    refine z_goto (tgt := 20) F dX8_behindOf_13 rfl ?_
    exact z_iret F h dX8_behindOf_20
theorem ct8_behindOf {r : Int32} {x1 : Int32} {x2 : Int32} {σ : St} (h : M8_behindOf x1 x2 σ = some (r, σ')) : Met l yX8_behindOf (wsY yX8_behindOf cX8_behindOf 3 (some .int)) (rmL 5) (PcW g a [.ref (a 0), .int x1, .int x2] σ) (QiW g a r σ') 0 0 (Ad a) :=
  ct_I (by decide) (Nat.le_of_ble_eq_true rfl) (fun p e s m args below meth c F => zM8_behindOf F h)
theorem cl8_228 {r : Int32} {x1 : Int32} {x2 : Int32} (F : Fx p s m args meth c cc nL RX8 rt R cz sz g a) (h : M8_behindOf x1 x2 σ = some (r, σ1)) (hR : 5 + 1 ≤ R.frames ∧ 8 + (3 + 11) + 34 * 5 ≤ R.locals) (d : decode cc pc = .ok (.invokevirtual 228, 3)) (hrm : (rest.map fun v => v.category).sum ≤ 8) (z : Z p l e R s m args below meth c Q nL g a cz sz σ1 (pc + 3) lv (.int r :: rest)) : Z p l e R s m args below meth c Q nL g a cz sz σ pc lv (.int x2 :: .int x1 :: .ref (a 0) :: rest) :=
  z_callVI (nA := 2) (As := [.int x1, .int x2]) F (ct8_behindOf h) ⟨(tbm 1101 (by decide +kernel) rfl), (tbm 1103 (by decide +kernel) rfl), (tbs 79 (by decide +kernel) rfl), (tbm 9 (by decide +kernel) rfl), (tbm 1104 (by decide +kernel) rfl)⟩ (by decide +kernel) rfl kdc_0 (by decide) rfl rfl rfl hR d rfl hrm z
theorem zM8_isDay {r : Int32} {x0 : Int32} {σ : St} (F : Fx p s m args meth c cX8_isDay 1 RX8 (some .boolean) (rmL 1) 0 0 g a) (h : M8_isDay x0 σ = some (r, σ')) : Z p l e (rmL 1) s m args below meth c (MQ below (QiW g a r σ') args s 0 0 (Ad a)) 1 g a 0 0 σ 0 [(0, .int x0)] [] := by
  unfold M8_isDay at h
  refine z_iload_n (q := 0) F dX8_isDay_0 rfl rfl ?_
  refine z_i2l F dX8_isDay_1 ?_
  refine z_lconst (v := 0) F dX8_isDay_2 rfl ?_
  refine z_ldc2 (v := 39) F dX8_isDay_3 (tbm 1011 (by decide +kernel) rfl) ?_
  obtain ⟨r1, σ1, hq1, h⟩ := bd_of h
  refine cl8_94 F hq1 ⟨Nat.le_of_ble_eq_true rfl, Nat.le_of_ble_eq_true rfl⟩ dX8_isDay_6 (Nat.le_of_ble_eq_true rfl) ?_
  obtain ⟨g2, h⟩ := gd_of h
  exact z_bret F g2 h dX8_isDay_9
theorem ct8_isDay {r : Int32} {x0 : Int32} {σ : St} (h : M8_isDay x0 σ = some (r, σ')) : Met l yX8_isDay (wsY yX8_isDay cX8_isDay 1 (some .boolean)) (rmL 1) (PcW g a [.int x0] σ) (QiW g a r σ') 0 0 (Ad a) :=
  ct_I (by decide) (Nat.le_of_ble_eq_true rfl) (fun p e s m args below meth c F => zM8_isDay F h)
theorem cl8_154 {r : Int32} {x0 : Int32} (F : Fx p s m args meth c cc nL RX8 rt R cz sz g a) (h : M8_isDay x0 σ = some (r, σ1)) (hR : 1 + 1 ≤ R.frames ∧ 8 + (1 + 11) + 34 * 1 ≤ R.locals) (d : decode cc pc = .ok (.invokestatic 154, 3)) (hrm : (rest.map fun v => v.category).sum ≤ 8) (z : Z p l e R s m args below meth c Q nL g a cz sz σ1 (pc + 3) lv (.int r :: rest)) : Z p l e R s m args below meth c Q nL g a cz sz σ pc lv (.int x0 :: rest) :=
  z_callSI (nA := 1) (As := [.int x0]) F (ct8_isDay h) ⟨(tbm 1008 (by decide +kernel) rfl), (tbm 1009 (by decide +kernel) rfl), (tbm 9 (by decide +kernel) rfl), (tbm 1010 (by decide +kernel) rfl)⟩ (by decide +kernel) rfl hR d rfl hrm z
theorem zM8_isTwo {r : Int32} {x0 : Int32} {σ : St} (F : Fx p s m args meth c cX8_isTwo 1 RX8 (some .boolean) (rmL 1) 0 0 g a) (h : M8_isTwo x0 σ = some (r, σ')) : Z p l e (rmL 1) s m args below meth c (MQ below (QiW g a r σ') args s 0 0 (Ad a)) 1 g a 0 0 σ 0 [(0, .int x0)] [] := by
  unfold M8_isTwo at h
  refine z_iload_n (q := 0) F dX8_isTwo_0 rfl rfl ?_
  refine z_i2l F dX8_isTwo_1 ?_
  refine z_lconst (v := 0) F dX8_isTwo_2 rfl ?_
  refine z_lconst (v := 1) F dX8_isTwo_3 rfl ?_
  obtain ⟨r1, σ1, hq1, h⟩ := bd_of h
  refine cl8_94 F hq1 ⟨Nat.le_of_ble_eq_true rfl, Nat.le_of_ble_eq_true rfl⟩ dX8_isTwo_4 (Nat.le_of_ble_eq_true rfl) ?_
  obtain ⟨g2, h⟩ := gd_of h
  exact z_bret F g2 h dX8_isTwo_7
theorem ct8_isTwo {r : Int32} {x0 : Int32} {σ : St} (h : M8_isTwo x0 σ = some (r, σ')) : Met l yX8_isTwo (wsY yX8_isTwo cX8_isTwo 1 (some .boolean)) (rmL 1) (PcW g a [.int x0] σ) (QiW g a r σ') 0 0 (Ad a) :=
  ct_I (by decide) (Nat.le_of_ble_eq_true rfl) (fun p e s m args below meth c F => zM8_isTwo F h)
theorem cl8_122 {r : Int32} {x0 : Int32} (F : Fx p s m args meth c cc nL RX8 rt R cz sz g a) (h : M8_isTwo x0 σ = some (r, σ1)) (hR : 1 + 1 ≤ R.frames ∧ 8 + (1 + 11) + 34 * 1 ≤ R.locals) (d : decode cc pc = .ok (.invokestatic 122, 3)) (hrm : (rest.map fun v => v.category).sum ≤ 8) (z : Z p l e R s m args below meth c Q nL g a cz sz σ1 (pc + 3) lv (.int r :: rest)) : Z p l e R s m args below meth c Q nL g a cz sz σ pc lv (.int x0 :: rest) :=
  z_callSI (nA := 1) (As := [.int x0]) F (ct8_isTwo h) ⟨(tbm 957 (by decide +kernel) rfl), (tbm 958 (by decide +kernel) rfl), (tbm 9 (by decide +kernel) rfl), (tbm 959 (by decide +kernel) rfl)⟩ (by decide +kernel) rfl hR d rfl hrm z
theorem zM8_shapeOf {r : Int32} {x0 : Int32} {x1 : Int32} {σ : St} (F : Fx p s m args meth c cX8_shapeOf 2 RX8 (some .int) (rmL 0) 0 0 g a) (h : M8_shapeOf x0 x1 σ = some (r, σ')) : Z p l e (rmL 0) s m args below meth c (MQ below (QiW g a r σ') args s 0 0 (Ad a)) 2 g a 0 0 σ 0 [(0, .int x0), (1, .int x1)] [] := by
  unfold M8_shapeOf at h
  refine z_iload_n (q := 1) F dX8_shapeOf_0 rfl rfl ?_
  refine z_bipush (v := 114) F dX8_shapeOf_1 rfl ?_
  refine z_icmp_ne (tgt := 10) F dX8_shapeOf_3 rfl (fun c1 => ?_) (fun c1 => ?_)
  · try simp only [if_neg c1] at h
    refine z_iload_n (q := 1) F dX8_shapeOf_10 rfl rfl ?_
    refine z_bipush (v := 115) F dX8_shapeOf_11 rfl ?_
    refine z_icmp_ne (tgt := 20) F dX8_shapeOf_13 rfl (fun c2 => ?_) (fun c2 => ?_)
    · try simp only [if_neg c2] at h
      refine z_iload_n (q := 1) F dX8_shapeOf_20 rfl rfl ?_
      refine z_bipush (v := 108) F dX8_shapeOf_21 rfl ?_
      refine z_icmp_ne (tgt := 30) F dX8_shapeOf_23 rfl (fun c3 => ?_) (fun c3 => ?_)
      · try simp only [if_neg c3] at h
        refine z_iload_n (q := 1) F dX8_shapeOf_30 rfl rfl ?_
        refine z_bipush (v := 97) F dX8_shapeOf_31 rfl ?_
        refine z_icmp_ne (tgt := 45) F dX8_shapeOf_33 rfl (fun c4 => ?_) (fun c4 => ?_)
        · try simp only [if_neg c4] at h
          refine z_bipush (v := (-9)) F dX8_shapeOf_45 rfl ?_
          exact z_iret F h dX8_shapeOf_47
        · try simp only [if_pos c4] at h
          refine z_iload_n (q := 0) F dX8_shapeOf_36 rfl rfl ?_
          refine z_iconst (v := 1) F dX8_shapeOf_37 rfl ?_
          refine z_icmp_ne (tgt := 45) F dX8_shapeOf_38 rfl (fun c5 => ?_) (fun c5 => ?_)
          · try simp only [if_neg c5] at h
            refine z_bipush (v := (-9)) F dX8_shapeOf_45 rfl ?_
            exact z_iret F h dX8_shapeOf_47
          · try simp only [if_pos c5] at h
            refine z_iconst (v := 3) F dX8_shapeOf_41 rfl ?_
            refine z_goto (tgt := 47) F dX8_shapeOf_42 rfl ?_
            exact z_iret F h dX8_shapeOf_47
      · try simp only [if_pos c3] at h
        refine z_iconst (v := 2) F dX8_shapeOf_26 rfl ?_
        refine z_goto (tgt := 47) F dX8_shapeOf_27 rfl ?_
        exact z_iret F h dX8_shapeOf_47
    · try simp only [if_pos c2] at h
      refine z_iconst (v := 1) F dX8_shapeOf_16 rfl ?_
      refine z_goto (tgt := 47) F dX8_shapeOf_17 rfl ?_
      exact z_iret F h dX8_shapeOf_47
  · try simp only [if_pos c1] at h
    refine z_iconst (v := 0) F dX8_shapeOf_6 rfl ?_
    refine z_goto (tgt := 47) F dX8_shapeOf_7 rfl ?_
    exact z_iret F h dX8_shapeOf_47
theorem ct8_shapeOf {r : Int32} {x0 : Int32} {x1 : Int32} {σ : St} (h : M8_shapeOf x0 x1 σ = some (r, σ')) : Met l yX8_shapeOf (wsY yX8_shapeOf cX8_shapeOf 2 (some .int)) (rmL 0) (PcW g a [.int x0, .int x1] σ) (QiW g a r σ') 0 0 (Ad a) :=
  ct_I (by decide) (Nat.le_of_ble_eq_true rfl) (fun p e s m args below meth c F => zM8_shapeOf F h)
theorem cl8_127 {r : Int32} {x0 : Int32} {x1 : Int32} (F : Fx p s m args meth c cc nL RX8 rt R cz sz g a) (h : M8_shapeOf x0 x1 σ = some (r, σ1)) (hR : 0 + 1 ≤ R.frames ∧ 8 + (2 + 11) + 34 * 0 ≤ R.locals) (d : decode cc pc = .ok (.invokestatic 127, 3)) (hrm : (rest.map fun v => v.category).sum ≤ 8) (z : Z p l e R s m args below meth c Q nL g a cz sz σ1 (pc + 3) lv (.int r :: rest)) : Z p l e R s m args below meth c Q nL g a cz sz σ pc lv (.int x1 :: .int x0 :: rest) :=
  z_callSI (nA := 2) (As := [.int x0, .int x1]) F (ct8_shapeOf h) ⟨(tbm 980 (by decide +kernel) rfl), (tbm 981 (by decide +kernel) rfl), (tbm 9 (by decide +kernel) rfl), (tbm 982 (by decide +kernel) rfl)⟩ (by decide +kernel) rfl hR d rfl hrm z
theorem zM8_tellsOf_J57 {r : Int32} {x2 : Int32} {y0 : Int32} {σ : St} (F : Fx p s m args meth c cX8_tellsOf 4 RX8 (some .int) (rmL 1) 0 0 g a) (h : M8_tellsOf_J57 x2 y0 σ = some (r, σ')) : Z p l e (rmL 1) s m args below meth c (MQ below (QiW g a r σ') args s 0 0 (Ad a)) 4 g a 0 0 σ 57 [(2, .int x2)] [.int y0] := by
  unfold M8_tellsOf_J57 at h
  refine z_istore_n (lv' := [(3, .int y0), (2, .int x2)]) F dX8_tellsOf_57 rfl (by decide) rfl ?_
  refine z_iload_n (q := 1) F dX8_tellsOf_58 rfl rfl ?_
  refine z_i2l F dX8_tellsOf_59 ?_
  refine z_bipush (v := 48) F dX8_tellsOf_60 rfl ?_
  refine z_iload_n (q := 0) F dX8_tellsOf_62 rfl rfl ?_
  refine z_iadd F dX8_tellsOf_63 ?_
  refine z_i2l F dX8_tellsOf_64 ?_
  refine z_ldc2 (v := 57) F dX8_tellsOf_65 (tbm 983 (by decide +kernel) rfl) ?_
  obtain ⟨r4, σ4, hq4, h⟩ := bd_of h
  refine cl8_94 F hq4 ⟨Nat.le_of_ble_eq_true rfl, Nat.le_of_ble_eq_true rfl⟩ dX8_tellsOf_68 (Nat.le_of_ble_eq_true rfl) ?_
  refine z_if_eq (tgt := 81) F dX8_tellsOf_71 rfl (fun c5 => ?_) (fun c5 => ?_)
  · try simp only [if_pos c5] at h
    refine z_bipush (v := (-9)) F dX8_tellsOf_81 rfl ?_
    exact z_iret F h dX8_tellsOf_83
  · try simp only [if_neg c5] at h
    refine z_iload_n (q := 1) F dX8_tellsOf_74 rfl rfl ?_
    refine z_bipush (v := 48) F dX8_tellsOf_75 rfl ?_
    refine z_isub F dX8_tellsOf_77 ?_
    refine z_goto (tgt := 83) F dX8_tellsOf_78 rfl ?_
    exact z_iret F h dX8_tellsOf_83
theorem zM8_tellsOf_J56 {r : Int32} {x2 : Int32} {σ : St} (F : Fx p s m args meth c cX8_tellsOf 4 RX8 (some .int) (rmL 1) 0 0 g a) (h : M8_tellsOf_J56 x2 σ = some (r, σ')) : Z p l e (rmL 1) s m args below meth c (MQ below (QiW g a r σ') args s 0 0 (Ad a)) 4 g a 0 0 σ 56 [(2, .int x2)] [] := by
  unfold M8_tellsOf_J56 at h
  refine z_iconst (v := 0) F dX8_tellsOf_56 rfl ?_
  refine z_sub (lv' := [(2, .int x2)]) [0] rfl ?_
  exact zM8_tellsOf_J57 F h
theorem zM8_tellsOf_J52 {r : Int32} {x2 : Int32} {σ : St} (F : Fx p s m args meth c cX8_tellsOf 4 RX8 (some .int) (rmL 1) 0 0 g a) (h : M8_tellsOf_J52 x2 σ = some (r, σ')) : Z p l e (rmL 1) s m args below meth c (MQ below (QiW g a r σ') args s 0 0 (Ad a)) 4 g a 0 0 σ 52 [(2, .int x2)] [] := by
  unfold M8_tellsOf_J52 at h
  refine z_iconst (v := 1) F dX8_tellsOf_52 rfl ?_
  refine z_goto (tgt := 57) F dX8_tellsOf_53 rfl ?_
  refine z_sub (lv' := [(2, .int x2)]) [0] rfl ?_
  exact zM8_tellsOf_J57 F h
theorem zM8_tellsOf_J42 {r : Int32} {x0 : Int32} {x1 : Int32} {x2 : Int32} {σ : St} (F : Fx p s m args meth c cX8_tellsOf 4 RX8 (some .int) (rmL 1) 0 0 g a) (h : M8_tellsOf_J42 x0 x1 x2 σ = some (r, σ')) : Z p l e (rmL 1) s m args below meth c (MQ below (QiW g a r σ') args s 0 0 (Ad a)) 4 g a 0 0 σ 42 [(0, .int x0), (1, .int x1), (2, .int x2)] [] := by
  unfold M8_tellsOf_J42 at h
  refine z_iload_n (q := 1) F dX8_tellsOf_42 rfl rfl ?_
  refine z_iconst (v := 3) F dX8_tellsOf_43 rfl ?_
  refine z_icmp_ne (tgt := 56) F dX8_tellsOf_44 rfl (fun c7 => ?_) (fun c7 => ?_)
  · have h := ite_F c7 h
    refine z_sub (lv' := [(2, .int x2)]) [2] rfl ?_
    exact zM8_tellsOf_J56 F h
  · have h := ite_T c7 h
    refine z_iload_n (q := 0) F dX8_tellsOf_47 rfl rfl ?_
    refine z_iconst (v := 1) F dX8_tellsOf_48 rfl ?_
    refine z_icmp_ne (tgt := 56) F dX8_tellsOf_49 rfl (fun c8 => ?_) (fun c8 => ?_)
    · have h := ite_F c8 h
      refine z_sub (lv' := [(2, .int x2)]) [2] rfl ?_
      exact zM8_tellsOf_J56 F h
    · have h := ite_T c8 h
      refine z_sub (lv' := [(2, .int x2)]) [2] rfl ?_
      exact zM8_tellsOf_J52 F h
theorem zM8_tellsOf {r : Int32} {x0 : Int32} {x1 : Int32} {x2 : Int32} {σ : St} (F : Fx p s m args meth c cX8_tellsOf 4 RX8 (some .int) (rmL 1) 0 0 g a) (h : M8_tellsOf x0 x1 x2 σ = some (r, σ')) : Z p l e (rmL 1) s m args below meth c (MQ below (QiW g a r σ') args s 0 0 (Ad a)) 4 g a 0 0 σ 0 [(0, .int x0), (1, .int x1), (2, .int x2)] [] := by
  unfold M8_tellsOf at h
  refine z_iload_n (q := 1) F dX8_tellsOf_0 rfl rfl ?_
  refine z_if_ne (tgt := 10) F dX8_tellsOf_1 rfl (fun c1 => ?_) (fun c1 => ?_)
  · have h := ite_F c1 h
    refine z_iload_n (q := 1) F dX8_tellsOf_10 rfl rfl ?_
    refine z_iconst (v := 4) F dX8_tellsOf_11 rfl ?_
    refine z_icmp_ne (tgt := 28) F dX8_tellsOf_12 rfl (fun c2 => ?_) (fun c2 => ?_)
    · have h := ite_F c2 h
      refine z_iload_n (q := 1) F dX8_tellsOf_28 rfl rfl ?_
      refine z_iconst (v := 1) F dX8_tellsOf_29 rfl ?_
      refine z_icmp_eq (tgt := 52) F dX8_tellsOf_30 rfl (fun c3 => ?_) (fun c3 => ?_)
      · have h := ite_T c3 h
        refine z_sub (lv' := [(2, .int x2)]) [2] rfl ?_
        exact zM8_tellsOf_J52 F h
      · have h := ite_F c3 h
        refine z_iload_n (q := 1) F dX8_tellsOf_33 rfl rfl ?_
        refine z_iconst (v := 2) F dX8_tellsOf_34 rfl ?_
        refine z_icmp_ne (tgt := 42) F dX8_tellsOf_35 rfl (fun c6 => ?_) (fun c6 => ?_)
        · have h := ite_F c6 h
          refine z_sub (lv' := [(0, .int x0), (1, .int x1), (2, .int x2)]) [0, 1, 2] rfl ?_
          exact zM8_tellsOf_J42 F h
        · have h := ite_T c6 h
          refine z_iload_n (q := 0) F dX8_tellsOf_38 rfl rfl ?_
          refine z_if_eq (tgt := 52) F dX8_tellsOf_39 rfl (fun c9 => ?_) (fun c9 => ?_)
          · have h := ite_T c9 h
            refine z_sub (lv' := [(2, .int x2)]) [2] rfl ?_
            exact zM8_tellsOf_J52 F h
          · have h := ite_F c9 h
            refine z_sub (lv' := [(0, .int x0), (1, .int x1), (2, .int x2)]) [0, 1, 2] rfl ?_
            exact zM8_tellsOf_J42 F h
    · have h := ite_T c2 h
      refine z_iload_n (q := 2) F dX8_tellsOf_15 rfl rfl ?_
      refine z_bipush (v := 59) F dX8_tellsOf_16 rfl ?_
      refine z_icmp_ne (tgt := 25) F dX8_tellsOf_18 rfl (fun c10 => ?_) (fun c10 => ?_)
      · try simp only [if_neg c10] at h
        refine z_bipush (v := (-9)) F dX8_tellsOf_25 rfl ?_
        exact z_iret F h dX8_tellsOf_27
      · try simp only [if_pos c10] at h
        refine z_iconst (v := 0) F dX8_tellsOf_21 rfl ?_
        refine z_goto (tgt := 27) F dX8_tellsOf_22 rfl ?_
        exact z_iret F h dX8_tellsOf_27
  · have h := ite_T c1 h
    refine z_iload_n (q := 0) F dX8_tellsOf_4 rfl rfl ?_
    refine z_iload_n (q := 2) F dX8_tellsOf_5 rfl rfl ?_
    obtain ⟨r11, σ11, hq11, h⟩ := bd_of h
    refine cl8_127 F hq11 ⟨Nat.le_of_ble_eq_true rfl, Nat.le_of_ble_eq_true rfl⟩ dX8_tellsOf_6 (Nat.le_of_ble_eq_true rfl) ?_
    exact z_iret F h dX8_tellsOf_9
theorem ct8_tellsOf {r : Int32} {x0 : Int32} {x1 : Int32} {x2 : Int32} {σ : St} (h : M8_tellsOf x0 x1 x2 σ = some (r, σ')) : Met l yX8_tellsOf (wsY yX8_tellsOf cX8_tellsOf 4 (some .int)) (rmL 1) (PcW g a [.int x0, .int x1, .int x2] σ) (QiW g a r σ') 0 0 (Ad a) :=
  ct_I (by decide) (Nat.le_of_ble_eq_true rfl) (fun p e s m args below meth c F => zM8_tellsOf F h)
theorem cl8_132 {r : Int32} {x0 : Int32} {x1 : Int32} {x2 : Int32} (F : Fx p s m args meth c cc nL RX8 rt R cz sz g a) (h : M8_tellsOf x0 x1 x2 σ = some (r, σ1)) (hR : 1 + 1 ≤ R.frames ∧ 8 + (4 + 11) + 34 * 1 ≤ R.locals) (d : decode cc pc = .ok (.invokestatic 132, 3)) (hrm : (rest.map fun v => v.category).sum ≤ 8) (z : Z p l e R s m args below meth c Q nL g a cz sz σ1 (pc + 3) lv (.int r :: rest)) : Z p l e R s m args below meth c Q nL g a cz sz σ pc lv (.int x2 :: .int x1 :: .int x0 :: rest) :=
  z_callSI (nA := 3) (As := [.int x0, .int x1, .int x2]) F (ct8_tellsOf h) ⟨(tbm 977 (by decide +kernel) rfl), (tbm 978 (by decide +kernel) rfl), (tbm 9 (by decide +kernel) rfl), (tbm 979 (by decide +kernel) rfl)⟩ (by decide +kernel) rfl hR d rfl hrm z
theorem zM8_readsText_J105 {r : Int32} {x1 : Int32} {x2 : Int32} {x3 : Int32} {y0 : Int32} {y1 : Int32} {y2 : Int32} {y3 : Nat} {σ : St} (F : Fx p s m args meth c cX8_readsText 6 RX8 (some .int) (rmL 2) 0 0 g a) (ky3 : kd y3 = 9) {kb : Int32 → St → Option (Int32 × St)} (hb : ∀ (w3 : Int32) (σ : St), kb w3 σ = some (r, σ') → Z p l e (rmL 2) s m args below meth c (MQ below (QiW g a r σ') args s 0 0 (Ad a)) 6 g a 0 0 σ 16 [(0, .ref (a 0)), (1, .int x1), (2, .int x2), (3, .int w3)] []) (h : M8_readsText_J105 kb x1 x2 x3 y0 y1 y2 y3 σ = some (r, σ')) : Z p l e (rmL 2) s m args below meth c (MQ below (QiW g a r σ') args s 0 0 (Ad a)) 6 g a 0 0 σ 105 [(0, .ref (a 0)), (1, .int x1), (2, .int x2), (3, .int x3)] [.int y0, .int y1, .int y2, .ref (a y3)] := by
  unfold M8_readsText_J105 at h
  refine z_iadd F dX8_readsText_105 ?_
  obtain ⟨g14, h⟩ := gd_of h
  refine z_iast F ky3 (inl rfl g14) dX8_readsText_106 ?_
  refine z_let h (fun σ15 h => ?_)
  refine z_iinc (q := 3) (v := x3 + 1) (lv' := [(3, .int (x3 + 1)), (0, .ref (a 0)), (1, .int x1), (2, .int x2)]) F dX8_readsText_107 rfl rfl (by decide) rfl ?_
  refine z_letL (s0 := 3) (lv := [(0, .ref (a 0)), (1, .int x1), (2, .int x2)]) h (fun v16 h => ?_)
  refine z_goto (tgt := 16) F dX8_readsText_110 rfl ?_
  refine z_sub (lv' := [(0, .ref (a 0)), (1, .int x1), (2, .int x2), (3, .int v16)]) [1, 2, 3, 0] rfl ?_
  exact hb _ _ h
theorem zM8_readsText_J87 {r : Int32} {x1 : Int32} {x2 : Int32} {x3 : Int32} {x4 : Int32} {σ : St} (F : Fx p s m args meth c cX8_readsText 6 RX8 (some .int) (rmL 2) 0 0 g a) {kb : Int32 → St → Option (Int32 × St)} (hb : ∀ (w3 : Int32) (σ : St), kb w3 σ = some (r, σ') → Z p l e (rmL 2) s m args below meth c (MQ below (QiW g a r σ') args s 0 0 (Ad a)) 6 g a 0 0 σ 16 [(0, .ref (a 0)), (1, .int x1), (2, .int x2), (3, .int w3)] []) (h : M8_readsText_J87 kb x1 x2 x3 x4 σ = some (r, σ')) : Z p l e (rmL 2) s m args below meth c (MQ below (QiW g a r σ') args s 0 0 (Ad a)) 6 g a 0 0 σ 87 [(0, .ref (a 0)), (1, .int x1), (2, .int x2), (3, .int x3), (4, .int x4)] [] := by
  unfold M8_readsText_J87 at h
  refine z_aload_n (q := 0) F dX8_readsText_87 rfl rfl ?_
  refine gf8_28 F kdc_0 dX8_readsText_88 ?_
  refine z_iload_n (q := 1) F dX8_readsText_91 rfl rfl ?_
  refine z_dup2 F dX8_readsText_92 rfl rfl ?_
  obtain ⟨g12, h⟩ := gd_of h
  refine z_iald F kdc_7 (inl lnc_7 g12) dX8_readsText_93 ?_
  refine z_iload (q := 4) F dX8_readsText_94 rfl ?_
  refine z_iconst (v := 3) F dX8_readsText_96 rfl ?_
  refine z_icmp_ne (tgt := 104) F dX8_readsText_97 rfl (fun c13 => ?_) (fun c13 => ?_)
  · try simp only [if_neg c13] at h
    refine z_iconst (v := 0) F dX8_readsText_104 rfl ?_
    refine z_sub (lv' := [(0, .ref (a 0)), (1, .int x1), (2, .int x2), (3, .int x3)]) [0, 1, 2, 3] rfl ?_
    exact zM8_readsText_J105 F kdc_7 hb h
  · try simp only [if_pos c13] at h
    refine z_iconst (v := 1) F dX8_readsText_100 rfl ?_
    refine z_goto (tgt := 105) F dX8_readsText_101 rfl ?_
    refine z_sub (lv' := [(0, .ref (a 0)), (1, .int x1), (2, .int x2), (3, .int x3)]) [0, 1, 2, 3] rfl ?_
    exact zM8_readsText_J105 F kdc_7 hb h
theorem zM8_readsText_L16 {r : Int32} {x1 : Int32} {x2 : Int32} (F : Fx p s m args meth c cX8_readsText 6 RX8 (some .int) (rmL 2) 0 0 g a) {kx : St → Option (Int32 × St)} (hx : ∀ (σ : St), kx σ = some (r, σ') → Z p l e (rmL 2) s m args below meth c (MQ below (QiW g a r σ') args s 0 0 (Ad a)) 6 g a 0 0 σ 113 [(0, .ref (a 0)), (1, .int x1), (2, .int x2)] []) : ∀ (n : Nat) (x3 : Int32) (σ : St), M8_readsText_L16 x1 x2 kx n x3 σ = some (r, σ') → Z p l e (rmL 2) s m args below meth c (MQ below (QiW g a r σ') args s 0 0 (Ad a)) 6 g a 0 0 σ 16 [(0, .ref (a 0)), (1, .int x1), (2, .int x2), (3, .int x3)] [] := by
  intro n
  induction n with
  | zero => intro x3 σ h; rw [M8_readsText_L16] at h; cases h
  | succ n ih =>
    intro x3 σ h
    rw [M8_readsText_L16] at h
    refine z_iload_n (q := 3) F dX8_readsText_16 rfl rfl ?_
    refine z_iload_n (q := 2) F dX8_readsText_17 rfl rfl ?_
    refine z_icmp_ge (tgt := 113) F dX8_readsText_18 rfl (fun c5 => ?_) (fun c5 => ?_)
    · have h := ite_T c5 h
      refine z_sub (lv' := [(0, .ref (a 0)), (1, .int x1), (2, .int x2)]) [0, 1, 2] rfl ?_
      exact hx _ h
    · have h := ite_F c5 h
      refine z_iload_n (q := 3) F dX8_readsText_21 rfl rfl ?_
      refine z_iconst (v := 5) F dX8_readsText_22 rfl ?_
      refine z_irem F dX8_readsText_23 (by decide) ?_
      refine z_letI h (fun v7 h => ?_)
      refine z_istore (lv' := [(4, .int v7), (0, .ref (a 0)), (1, .int x1), (2, .int x2), (3, .int x3)]) F dX8_readsText_24 (by decide) rfl ?_
      refine z_iload_n (q := 2) F dX8_readsText_26 rfl rfl ?_
      refine z_iload (q := 0) F dX8_readsText_27 rfl ?_
      refine z_aload_n (q := 1) F dX8_readsText_29 rfl rfl ?_
      refine gf8_22 F kdc_0 dX8_readsText_30 ?_
      refine z_bipush (v := 40) F dX8_readsText_33 rfl ?_
      refine z_iload_n (q := 2) F dX8_readsText_35 rfl rfl ?_
      refine z_imul F dX8_readsText_36 ?_
      refine z_iload_n (q := 4) F dX8_readsText_37 rfl rfl ?_
      refine z_iadd F dX8_readsText_38 ?_
      obtain ⟨g8, h⟩ := gd_of h
      refine z_iald F kdc_5 (inl lnc_5 g8) dX8_readsText_39 ?_
      obtain ⟨r9, σ9, hq9, h⟩ := bd_of h
      refine cl8_132 F hq9 ⟨Nat.le_of_ble_eq_true rfl, Nat.le_of_ble_eq_true rfl⟩ dX8_readsText_40 (Nat.le_of_ble_eq_true rfl) ?_
      refine z_istore (lv' := [(5, .int r9), (4, .int v7), (0, .ref (a 0)), (1, .int x1), (2, .int x2), (3, .int x3)]) F dX8_readsText_43 (by decide) rfl ?_
      refine z_iload (q := 0) F dX8_readsText_45 rfl ?_
      refine z_bipush (v := (-9)) F dX8_readsText_47 rfl ?_
      refine z_icmp_ne (tgt := 61) F dX8_readsText_49 rfl (fun c10 => ?_) (fun c10 => ?_)
      · have h := ite_F c10 h
        refine z_iload (q := 1) F dX8_readsText_61 rfl ?_
        refine z_iconst (v := 4) F dX8_readsText_63 rfl ?_
        refine z_icmp_ge (tgt := 87) F dX8_readsText_64 rfl (fun c11 => ?_) (fun c11 => ?_)
        · have h := ite_T c11 h
          refine z_sub (lv' := [(0, .ref (a 0)), (1, .int x1), (2, .int x2), (3, .int x3), (4, .int v7)]) [2, 3, 4, 5, 1] rfl ?_
          exact zM8_readsText_J87 F ih h
        · have h := ite_F c11 h
          refine z_aload_n (q := 2) F dX8_readsText_67 rfl rfl ?_
          refine gf8_31 F kdc_0 dX8_readsText_68 ?_
          refine z_bipush (v := 32) F dX8_readsText_71 rfl ?_
          refine z_iload_n (q := 3) F dX8_readsText_73 rfl rfl ?_
          refine z_imul F dX8_readsText_74 ?_
          refine z_iconst (v := 4) F dX8_readsText_75 rfl ?_
          refine z_iload_n (q := 5) F dX8_readsText_76 rfl rfl ?_
          refine z_iconst (v := 5) F dX8_readsText_77 rfl ?_
          refine z_idiv F dX8_readsText_78 (by decide) ?_
          refine z_imul F dX8_readsText_79 ?_
          refine z_iadd F dX8_readsText_80 ?_
          refine z_iload (q := 1) F dX8_readsText_81 rfl ?_
          refine z_iadd F dX8_readsText_83 ?_
          refine z_iload (q := 0) F dX8_readsText_84 rfl ?_
          obtain ⟨g18, h⟩ := gd_of h
          refine z_iast F kdc_8 (inl lnc_8 g18) dX8_readsText_86 ?_
          refine z_let h (fun σ19 h => ?_)
          refine z_sub (lv' := [(0, .ref (a 0)), (1, .int x1), (2, .int x2), (3, .int x3), (4, .int v7)]) [2, 3, 4, 5, 1] rfl ?_
          exact zM8_readsText_J87 F ih h
      · have h := ite_T c10 h
        refine z_aload_n (q := 2) F dX8_readsText_52 rfl rfl ?_
        refine gf8_28 F kdc_0 dX8_readsText_53 ?_
        refine z_iload_n (q := 3) F dX8_readsText_56 rfl rfl ?_
        refine z_iconst (v := 0) F dX8_readsText_57 rfl ?_
        obtain ⟨g20, h⟩ := gd_of h
        refine z_iast F kdc_7 (inl lnc_7 g20) dX8_readsText_58 ?_
        refine z_let h (fun σ21 h => ?_)
        refine z_iload_n (q := 5) F dX8_readsText_59 rfl rfl ?_
        exact z_iret F h dX8_readsText_60
theorem zM8_readsText {r : Int32} {x1 : Int32} {σ : St} (F : Fx p s m args meth c cX8_readsText 6 RX8 (some .int) (rmL 2) 0 0 g a) (h : M8_readsText x1 σ = some (r, σ')) : Z p l e (rmL 2) s m args below meth c (MQ below (QiW g a r σ') args s 0 0 (Ad a)) 6 g a 0 0 σ 0 [(0, .ref (a 0)), (1, .int x1)] [] := by
  unfold M8_readsText at h
  refine z_aload_n (q := 0) F dX8_readsText_0 rfl rfl ?_
  refine gf8_28 F kdc_0 dX8_readsText_1 ?_
  refine z_iload_n (q := 1) F dX8_readsText_4 rfl rfl ?_
  refine z_iconst (v := 0) F dX8_readsText_5 rfl ?_
  obtain ⟨g1, h⟩ := gd_of h
  refine z_iast F kdc_7 (inl lnc_7 g1) dX8_readsText_6 ?_
  refine z_let h (fun σ2 h => ?_)
  refine z_aload_n (q := 0) F dX8_readsText_7 rfl rfl ?_
  refine gf8_25 F kdc_0 dX8_readsText_8 ?_
  refine z_iload_n (q := 1) F dX8_readsText_11 rfl rfl ?_
  refine z_iald F kdc_6 (inl lnc_6 g1) dX8_readsText_12 ?_
  refine z_letI h (fun v4 h => ?_)
  refine z_istore_n (lv' := [(2, .int v4), (0, .ref (a 0)), (1, .int x1)]) F dX8_readsText_13 rfl (by decide) rfl ?_
  refine z_iconst (v := 0) F dX8_readsText_14 rfl ?_
  refine z_istore_n (lv' := [(3, .int 0), (2, .int v4), (0, .ref (a 0)), (1, .int x1)]) F dX8_readsText_15 rfl (by decide) rfl ?_
  refine z_sub (lv' := [(0, .ref (a 0)), (1, .int x1), (2, .int v4), (3, .int 0)]) [2, 3, 1, 0] rfl ?_
  refine zM8_readsText_L16 F ?_ _ _ _ h
  intro σ22 h
  refine z_iload_n (q := 2) F dX8_readsText_113 rfl rfl ?_
  refine z_if_le (tgt := 133) F dX8_readsText_114 rfl (fun c23 => ?_) (fun c23 => ?_)
  · have h := ite_T c23 h
    refine z_iconst (v := (-1)) F dX8_readsText_133 rfl ?_
    exact z_iret F h dX8_readsText_134
  · have h := ite_F c23 h
    refine z_iload_n (q := 2) F dX8_readsText_117 rfl rfl ?_
    refine z_iconst (v := 5) F dX8_readsText_118 rfl ?_
    refine z_irem F dX8_readsText_119 (by decide) ?_
    refine z_iconst (v := 4) F dX8_readsText_120 rfl ?_
    refine z_icmp_eq (tgt := 133) F dX8_readsText_121 rfl (fun c25 => ?_) (fun c25 => ?_)
    · have h := ite_T c25 h
      refine z_iconst (v := (-1)) F dX8_readsText_133 rfl ?_
      exact z_iret F h dX8_readsText_134
    · have h := ite_F c25 h
      refine z_aload_n (q := 0) F dX8_readsText_124 rfl rfl ?_
      refine gf8_28 F kdc_0 dX8_readsText_125 ?_
      refine z_iload_n (q := 1) F dX8_readsText_128 rfl rfl ?_
      refine z_iconst (v := 0) F dX8_readsText_129 rfl ?_
      refine z_iast F kdc_7 (inl lnc_7 g1) dX8_readsText_130 ?_
      refine z_let h (fun σ27 h => ?_)
      refine z_iload_n (q := 2) F dX8_readsText_131 rfl rfl ?_
      exact z_iret F h dX8_readsText_132
theorem ct8_readsText {r : Int32} {x1 : Int32} {σ : St} (h : M8_readsText x1 σ = some (r, σ')) : Met l yX8_readsText (wsY yX8_readsText cX8_readsText 6 (some .int)) (rmL 2) (PcW g a [.ref (a 0), .int x1] σ) (QiW g a r σ') 0 0 (Ad a) :=
  ct_I (by decide) (Nat.le_of_ble_eq_true rfl) (fun p e s m args below meth c F => zM8_readsText F h)
theorem cl8_135 {r : Int32} {x1 : Int32} (F : Fx p s m args meth c cc nL RX8 rt R cz sz g a) (h : M8_readsText x1 σ = some (r, σ1)) (hR : 2 + 1 ≤ R.frames ∧ 8 + (6 + 11) + 34 * 2 ≤ R.locals) (d : decode cc pc = .ok (.invokevirtual 135, 3)) (hrm : (rest.map fun v => v.category).sum ≤ 8) (z : Z p l e R s m args below meth c Q nL g a cz sz σ1 (pc + 3) lv (.int r :: rest)) : Z p l e R s m args below meth c Q nL g a cz sz σ pc lv (.int x1 :: .ref (a 0) :: rest) :=
  z_callVI (nA := 1) (As := [.int x1]) F (ct8_readsText h) ⟨(tbm 973 (by decide +kernel) rfl), (tbm 975 (by decide +kernel) rfl), (tbs 64 (by decide +kernel) rfl), (tbm 9 (by decide +kernel) rfl), (tbm 976 (by decide +kernel) rfl)⟩ (by decide +kernel) rfl kdc_0 (by decide) rfl rfl rfl hR d rfl hrm z
theorem zM8_reads {r : Unit} {σ : St} (F : Fx p s m args meth c cX8_reads 1 RX8 none (rmL 3) 0 0 g a) (h : M8_reads σ = some (r, σ')) : Z p l e (rmL 3) s m args below meth c (MQ below (QvW g a r σ') args s 0 0 (Ad a)) 1 g a 0 0 σ 0 [(0, .ref (a 0))] [] := by
  unfold M8_reads at h
  refine z_aload_n (q := 0) F dX8_reads_0 rfl rfl ?_
  refine z_iconst (v := 0) F dX8_reads_1 rfl ?_
  obtain ⟨r1, σ1, hq1, h⟩ := bd_of h
  refine cl8_135 F hq1 ⟨Nat.le_of_ble_eq_true rfl, Nat.le_of_ble_eq_true rfl⟩ dX8_reads_2 (Nat.le_of_ble_eq_true rfl) ?_
  refine z_pop F dX8_reads_5 rfl ?_
  refine z_aload_n (q := 0) F dX8_reads_6 rfl rfl ?_
  refine z_iconst (v := 1) F dX8_reads_7 rfl ?_
  obtain ⟨r2, σ2, hq2, h⟩ := bd_of h
  refine cl8_135 F hq2 ⟨Nat.le_of_ble_eq_true rfl, Nat.le_of_ble_eq_true rfl⟩ dX8_reads_8 (Nat.le_of_ble_eq_true rfl) ?_
  refine z_pop F dX8_reads_11 rfl ?_
  exact z_vret F h dX8_reads_12
theorem ct8_reads {r : Unit} {σ : St} (h : M8_reads σ = some (r, σ')) : Met l yX8_reads (wsY yX8_reads cX8_reads 1 none) (rmL 3) (PcW g a [.ref (a 0)] σ) (QvW g a r σ') 0 0 (Ad a) :=
  ct_V (by decide) (Nat.le_of_ble_eq_true rfl) (fun p e s m args below meth c F => zM8_reads F h)
theorem cl8_142 {r : Unit} (F : Fx p s m args meth c cc nL RX8 rt R cz sz g a) (h : M8_reads σ = some (r, σ1)) (hR : 3 + 1 ≤ R.frames ∧ 8 + (1 + 11) + 34 * 3 ≤ R.locals) (d : decode cc pc = .ok (.invokevirtual 142, 3)) (hrm : (rest.map fun v => v.category).sum ≤ 8) (z : Z p l e R s m args below meth c Q nL g a cz sz σ1 (pc + 3) lv (rest)) : Z p l e R s m args below meth c Q nL g a cz sz σ pc lv (.ref (a 0) :: rest) :=
  z_callVV (nA := 0) (As := []) F (ct8_reads h) ⟨(tbm 988 (by decide +kernel) rfl), (tbm 990 (by decide +kernel) rfl), (tbs 65 (by decide +kernel) rfl), (tbm 9 (by decide +kernel) rfl), (tbm 991 (by decide +kernel) rfl)⟩ (by decide +kernel) rfl kdc_0 (by decide) rfl rfl rfl hR d rfl hrm z
theorem zM8_behind {r : Int32} {x1 : Int32} {x2 : Int32} {σ : St} (F : Fx p s m args meth c cX8_behind 3 RX8 (some .int) (rmL 6) 0 0 g a) (h : M8_behind x1 x2 σ = some (r, σ')) : Z p l e (rmL 6) s m args below meth c (MQ below (QiW g a r σ') args s 0 0 (Ad a)) 3 g a 0 0 σ 0 [(0, .ref (a 0)), (1, .int x1), (2, .int x2)] [] := by
  unfold M8_behind at h
  refine z_aload_n (q := 0) F dX8_behind_0 rfl rfl ?_
  obtain ⟨r1, σ1, hq1, h⟩ := bd_of h
  refine cl8_142 F hq1 ⟨Nat.le_of_ble_eq_true rfl, Nat.le_of_ble_eq_true rfl⟩ dX8_behind_1 (Nat.le_of_ble_eq_true rfl) ?_
  refine z_iload_n (q := 1) F dX8_behind_4 rfl rfl ?_
  obtain ⟨r2, σ2, hq2, h⟩ := bd_of h
  refine cl8_154 F hq2 ⟨Nat.le_of_ble_eq_true rfl, Nat.le_of_ble_eq_true rfl⟩ dX8_behind_5 (Nat.le_of_ble_eq_true rfl) ?_
  refine z_if_eq (tgt := 27) F dX8_behind_8 rfl (fun c3 => ?_) (fun c3 => ?_)
  · have h := ite_T c3 h
    refine z_bipush (v := (-2)) F dX8_behind_27 rfl ?_
    exact z_iret F h dX8_behind_29
  · have h := ite_F c3 h
    refine z_iload_n (q := 2) F dX8_behind_11 rfl rfl ?_
    obtain ⟨r4, σ4, hq4, h⟩ := bd_of h
    refine cl8_122 F hq4 ⟨Nat.le_of_ble_eq_true rfl, Nat.le_of_ble_eq_true rfl⟩ dX8_behind_12 (Nat.le_of_ble_eq_true rfl) ?_
    refine z_if_eq (tgt := 27) F dX8_behind_15 rfl (fun c5 => ?_) (fun c5 => ?_)
    · have h := ite_T c5 h
      refine z_bipush (v := (-2)) F dX8_behind_27 rfl ?_
      exact z_iret F h dX8_behind_29
    · have h := ite_F c5 h
      refine z_aload_n (q := 0) F dX8_behind_18 rfl rfl ?_
      refine z_iload_n (q := 1) F dX8_behind_19 rfl rfl ?_
      refine z_iload_n (q := 2) F dX8_behind_20 rfl rfl ?_
      obtain ⟨r6, σ6, hq6, h⟩ := bd_of h
      refine cl8_228 F hq6 ⟨Nat.le_of_ble_eq_true rfl, Nat.le_of_ble_eq_true rfl⟩ dX8_behind_21 (Nat.le_of_ble_eq_true rfl) ?_
      refine z_goto (tgt := 29) F dX8_behind_24 rfl ?_
      exact z_iret F h dX8_behind_29
theorem ct8_behind {r : Int32} {x1 : Int32} {x2 : Int32} {σ : St} (h : M8_behind x1 x2 σ = some (r, σ')) : Met l yX8_behind (wsY yX8_behind cX8_behind 3 (some .int)) (rmL 6) (PcW g a [.ref (a 0), .int x1, .int x2] σ) (QiW g a r σ') 0 0 (Ad a) :=
  ct_I (by decide) (Nat.le_of_ble_eq_true rfl) (fun p e s m args below meth c F => zM8_behind F h)

theorem zM8_servesBy_J42 {r : Int32} {x1 : Int32} {x3 : Int32} {x4 : Int32} {y0 : Int32} {σ : St} (F : Fx p s m args meth c cX8_servesBy 6 RX8 (some .boolean) (rmL 1) 0 0 g a) (h : M8_servesBy_J42 x1 x3 x4 y0 σ = some (r, σ')) : Z p l e (rmL 1) s m args below meth c (MQ below (QiW g a r σ') args s 0 0 (Ad a)) 6 g a 0 0 σ 42 [(0, .ref (a 0)), (1, .int x1), (3, .int x3), (4, .int x4)] [.int y0] := by
  unfold M8_servesBy_J42 at h
  refine z_istore (lv' := [(5, .int y0), (0, .ref (a 0)), (1, .int x1), (3, .int x3), (4, .int x4)]) F dX8_servesBy_42 (by decide) rfl ?_
  refine z_iload (q := 0) F dX8_servesBy_44 rfl ?_
  refine z_if_eq (tgt := 104) F dX8_servesBy_46 rfl (fun c4 => ?_) (fun c4 => ?_)
  · have h := ite_T c4 h
    refine z_iconst (v := 0) F dX8_servesBy_104 rfl ?_
    exact z_bret F (by first | exact Or.inl rfl | exact Or.inr rfl) h dX8_servesBy_105
  · have h := ite_F c4 h
    refine z_iload_n (q := 3) F dX8_servesBy_49 rfl rfl ?_
    refine z_i2l F dX8_servesBy_50 ?_
    refine z_aload_n (q := 1) F dX8_servesBy_51 rfl rfl ?_
    refine gf8_31 F kdc_0 dX8_servesBy_52 ?_
    refine z_iload (q := 4) F dX8_servesBy_55 rfl ?_
    refine z_iconst (v := 1) F dX8_servesBy_57 rfl ?_
    refine z_iadd F dX8_servesBy_58 ?_
    obtain ⟨g5, h⟩ := gd_of h
    refine z_iald F kdc_8 (inl lnc_8 g5) dX8_servesBy_59 ?_
    refine z_i2l F dX8_servesBy_60 ?_
    refine z_aload_n (q := 1) F dX8_servesBy_61 rfl rfl ?_
    refine gf8_31 F kdc_0 dX8_servesBy_62 ?_
    refine z_iload (q := 4) F dX8_servesBy_65 rfl ?_
    refine z_iconst (v := 1) F dX8_servesBy_67 rfl ?_
    refine z_iadd F dX8_servesBy_68 ?_
    refine z_iald F kdc_8 (inl lnc_8 g5) dX8_servesBy_69 ?_
    refine z_aload_n (q := 1) F dX8_servesBy_70 rfl rfl ?_
    refine gf8_82 F kdc_0 dX8_servesBy_71 ?_
    refine z_iadd F dX8_servesBy_74 ?_
    refine z_i2l F dX8_servesBy_75 ?_
    obtain ⟨r7, σ7, hq7, h⟩ := bd_of h
    refine cl8_94 F hq7 ⟨Nat.le_of_ble_eq_true rfl, Nat.le_of_ble_eq_true rfl⟩ dX8_servesBy_76 (Nat.le_of_ble_eq_true rfl) ?_
    refine z_if_eq (tgt := 104) F dX8_servesBy_79 rfl (fun c8 => ?_) (fun c8 => ?_)
    · have h := ite_T c8 h
      refine z_iconst (v := 0) F dX8_servesBy_104 rfl ?_
      exact z_bret F (by first | exact Or.inl rfl | exact Or.inr rfl) h dX8_servesBy_105
    · have h := ite_F c8 h
      refine z_aload_n (q := 1) F dX8_servesBy_82 rfl rfl ?_
      refine gf8_46 F kdc_0 dX8_servesBy_83 ?_
      refine z_iload_n (q := 2) F dX8_servesBy_86 rfl rfl ?_
      obtain ⟨g9, h⟩ := gd_of h
      refine z_iald F kdc_13 (inl lnc_13 g9) dX8_servesBy_87 ?_
      refine z_aload_n (q := 1) F dX8_servesBy_88 rfl rfl ?_
      refine gf8_31 F kdc_0 dX8_servesBy_89 ?_
      refine z_iload (q := 4) F dX8_servesBy_92 rfl ?_
      refine z_iconst (v := 2) F dX8_servesBy_94 rfl ?_
      refine z_iadd F dX8_servesBy_95 ?_
      obtain ⟨g10, h⟩ := gd_of h
      refine z_iald F kdc_8 (inl lnc_8 g10) dX8_servesBy_96 ?_
      refine z_icmp_lt (tgt := 104) F dX8_servesBy_97 rfl (fun c11 => ?_) (fun c11 => ?_)
      · try simp only [if_pos c11] at h
        refine z_iconst (v := 0) F dX8_servesBy_104 rfl ?_
        exact z_bret F (by first | exact Or.inl rfl | exact Or.inr rfl) h dX8_servesBy_105
      · try simp only [if_neg c11] at h
        refine z_iconst (v := 1) F dX8_servesBy_100 rfl ?_
        refine z_goto (tgt := 105) F dX8_servesBy_101 rfl ?_
        exact z_bret F (by first | exact Or.inl rfl | exact Or.inr rfl) h dX8_servesBy_105
theorem zM8_servesBy_J37 {r : Int32} {x1 : Int32} {x3 : Int32} {x4 : Int32} {σ : St} (F : Fx p s m args meth c cX8_servesBy 6 RX8 (some .boolean) (rmL 1) 0 0 g a) (h : M8_servesBy_J37 x1 x3 x4 σ = some (r, σ')) : Z p l e (rmL 1) s m args below meth c (MQ below (QiW g a r σ') args s 0 0 (Ad a)) 6 g a 0 0 σ 37 [(0, .ref (a 0)), (1, .int x1), (3, .int x3), (4, .int x4)] [] := by
  unfold M8_servesBy_J37 at h
  refine z_iconst (v := 1) F dX8_servesBy_37 rfl ?_
  refine z_goto (tgt := 42) F dX8_servesBy_38 rfl ?_
  refine z_sub (lv' := [(0, .ref (a 0)), (1, .int x1), (3, .int x3), (4, .int x4)]) [0, 1, 2, 3] rfl ?_
  exact zM8_servesBy_J42 F h
theorem zM8_servesBy {r : Int32} {x1 : Int32} {x2 : Int32} {x3 : Int32} {σ : St} (F : Fx p s m args meth c cX8_servesBy 6 RX8 (some .boolean) (rmL 1) 0 0 g a) (h : M8_servesBy x1 x2 x3 σ = some (r, σ')) : Z p l e (rmL 1) s m args below meth c (MQ below (QiW g a r σ') args s 0 0 (Ad a)) 6 g a 0 0 σ 0 [(0, .ref (a 0)), (1, .int x1), (2, .int x2), (3, .int x3)] [] := by
  unfold M8_servesBy at h
  refine z_bipush (v := 32) F dX8_servesBy_0 rfl ?_
  refine z_iconst (v := 4) F dX8_servesBy_2 rfl ?_
  refine z_iload_n (q := 2) F dX8_servesBy_3 rfl rfl ?_
  refine z_imul F dX8_servesBy_4 ?_
  refine z_iadd F dX8_servesBy_5 ?_
  refine z_letI h (fun v1 h => ?_)
  refine z_istore (lv' := [(4, .int v1), (0, .ref (a 0)), (1, .int x1), (2, .int x2), (3, .int x3)]) F dX8_servesBy_6 (by decide) rfl ?_
  refine z_aload_n (q := 1) F dX8_servesBy_8 rfl rfl ?_
  refine gf8_31 F kdc_0 dX8_servesBy_9 ?_
  refine z_iload (q := 0) F dX8_servesBy_12 rfl ?_
  obtain ⟨g2, h⟩ := gd_of h
  refine z_iald F kdc_8 (inl lnc_8 g2) dX8_servesBy_14 ?_
  refine z_iconst (v := 3) F dX8_servesBy_15 rfl ?_
  refine z_icmp_eq (tgt := 37) F dX8_servesBy_16 rfl (fun c3 => ?_) (fun c3 => ?_)
  · have h := ite_T c3 h
    refine z_sub (lv' := [(0, .ref (a 0)), (1, .int x1), (3, .int x3), (4, .int v1)]) [1, 2, 4, 0] rfl ?_
    exact zM8_servesBy_J37 F h
  · have h := ite_F c3 h
    refine z_aload_n (q := 1) F dX8_servesBy_19 rfl rfl ?_
    refine gf8_31 F kdc_0 dX8_servesBy_20 ?_
    refine z_iload (q := 0) F dX8_servesBy_23 rfl ?_
    refine z_iald F kdc_8 (inl lnc_8 g2) dX8_servesBy_25 ?_
    refine z_aload_n (q := 1) F dX8_servesBy_26 rfl rfl ?_
    refine gf8_31 F kdc_0 dX8_servesBy_27 ?_
    refine z_iconst (v := 4) F dX8_servesBy_30 rfl ?_
    refine z_iload_n (q := 2) F dX8_servesBy_31 rfl rfl ?_
    refine z_imul F dX8_servesBy_32 ?_
    obtain ⟨g13, h⟩ := gd_of h
    refine z_iald F kdc_8 (inl lnc_8 g13) dX8_servesBy_33 ?_
    refine z_icmp_ne (tgt := 41) F dX8_servesBy_34 rfl (fun c14 => ?_) (fun c14 => ?_)
    · have h := ite_F c14 h
      refine z_iconst (v := 0) F dX8_servesBy_41 rfl ?_
      refine z_sub (lv' := [(0, .ref (a 0)), (1, .int x1), (3, .int x3), (4, .int v1)]) [1, 2, 4, 0] rfl ?_
      exact zM8_servesBy_J42 F h
    · have h := ite_T c14 h
      refine z_sub (lv' := [(0, .ref (a 0)), (1, .int x1), (3, .int x3), (4, .int v1)]) [1, 2, 4, 0] rfl ?_
      exact zM8_servesBy_J37 F h
theorem ct8_servesBy {r : Int32} {x1 : Int32} {x2 : Int32} {x3 : Int32} {σ : St} (h : M8_servesBy x1 x2 x3 σ = some (r, σ')) : Met l yX8_servesBy (wsY yX8_servesBy cX8_servesBy 6 (some .boolean)) (rmL 1) (PcW g a [.ref (a 0), .int x1, .int x2, .int x3] σ) (QiW g a r σ') 0 0 (Ad a) :=
  ct_I (by decide) (Nat.le_of_ble_eq_true rfl) (fun p e s m args below meth c F => zM8_servesBy F h)
theorem cl8_240 {r : Int32} {x1 : Int32} {x2 : Int32} {x3 : Int32} (F : Fx p s m args meth c cc nL RX8 rt R cz sz g a) (h : M8_servesBy x1 x2 x3 σ = some (r, σ1)) (hR : 1 + 1 ≤ R.frames ∧ 8 + (6 + 11) + 34 * 1 ≤ R.locals) (d : decode cc pc = .ok (.invokevirtual 240, 3)) (hrm : (rest.map fun v => v.category).sum ≤ 8) (z : Z p l e R s m args below meth c Q nL g a cz sz σ1 (pc + 3) lv (.int r :: rest)) : Z p l e R s m args below meth c Q nL g a cz sz σ pc lv (.int x3 :: .int x2 :: .int x1 :: .ref (a 0) :: rest) :=
  z_callVI (nA := 3) (As := [.int x1, .int x2, .int x3]) F (ct8_servesBy h) ⟨(tbm 1145 (by decide +kernel) rfl), (tbm 1147 (by decide +kernel) rfl), (tbs 86 (by decide +kernel) rfl), (tbm 9 (by decide +kernel) rfl), (tbm 1148 (by decide +kernel) rfl)⟩ (by decide +kernel) rfl kdc_0 (by decide) rfl rfl rfl hR d rfl hrm z
theorem zM8_servesNow {r : Int32} {x1 : Int32} {x2 : Int32} {σ : St} (F : Fx p s m args meth c cX8_servesNow 3 RX8 (some .boolean) (rmL 2) 0 0 g a) (h : M8_servesNow x1 x2 σ = some (r, σ')) : Z p l e (rmL 2) s m args below meth c (MQ below (QiW g a r σ') args s 0 0 (Ad a)) 3 g a 0 0 σ 0 [(0, .ref (a 0)), (1, .int x1), (2, .int x2)] [] := by
  unfold M8_servesNow at h
  refine z_aload_n (q := 0) F dX8_servesNow_0 rfl rfl ?_
  refine z_iload_n (q := 1) F dX8_servesNow_1 rfl rfl ?_
  refine z_iload_n (q := 2) F dX8_servesNow_2 rfl rfl ?_
  refine z_aload_n (q := 0) F dX8_servesNow_3 rfl rfl ?_
  refine gf8_43 F kdc_0 dX8_servesNow_4 ?_
  refine z_iload_n (q := 1) F dX8_servesNow_7 rfl rfl ?_
  obtain ⟨g1, h⟩ := gd_of h
  refine z_iald F kdc_12 (inl lnc_12 g1) dX8_servesNow_8 ?_
  obtain ⟨r2, σ2, hq2, h⟩ := bd_of h
  refine cl8_240 F hq2 ⟨Nat.le_of_ble_eq_true rfl, Nat.le_of_ble_eq_true rfl⟩ dX8_servesNow_9 (Nat.le_of_ble_eq_true rfl) ?_
  obtain ⟨g3, h⟩ := gd_of h
  exact z_bret F g3 h dX8_servesNow_12
theorem ct8_servesNow {r : Int32} {x1 : Int32} {x2 : Int32} {σ : St} (h : M8_servesNow x1 x2 σ = some (r, σ')) : Met l yX8_servesNow (wsY yX8_servesNow cX8_servesNow 3 (some .boolean)) (rmL 2) (PcW g a [.ref (a 0), .int x1, .int x2] σ) (QiW g a r σ') 0 0 (Ad a) :=
  ct_I (by decide) (Nat.le_of_ble_eq_true rfl) (fun p e s m args below meth c F => zM8_servesNow F h)
theorem cl8_244 {r : Int32} {x1 : Int32} {x2 : Int32} (F : Fx p s m args meth c cc nL RX8 rt R cz sz g a) (h : M8_servesNow x1 x2 σ = some (r, σ1)) (hR : 2 + 1 ≤ R.frames ∧ 8 + (3 + 11) + 34 * 2 ≤ R.locals) (d : decode cc pc = .ok (.invokevirtual 244, 3)) (hrm : (rest.map fun v => v.category).sum ≤ 8) (z : Z p l e R s m args below meth c Q nL g a cz sz σ1 (pc + 3) lv (.int r :: rest)) : Z p l e R s m args below meth c Q nL g a cz sz σ pc lv (.int x2 :: .int x1 :: .ref (a 0) :: rest) :=
  z_callVI (nA := 2) (As := [.int x1, .int x2]) F (ct8_servesNow h) ⟨(tbm 1141 (by decide +kernel) rfl), (tbm 1143 (by decide +kernel) rfl), (tbs 85 (by decide +kernel) rfl), (tbm 9 (by decide +kernel) rfl), (tbm 1144 (by decide +kernel) rfl)⟩ (by decide +kernel) rfl kdc_0 (by decide) rfl rfl rfl hR d rfl hrm z
theorem zM8_may {r : Int32} {x1 : Int32} {x2 : Int32} {x3 : Int32} {σ : St} (F : Fx p s m args meth c cX8_may 4 RX8 (some .boolean) (rmL 3) 0 0 g a) (h : M8_may x1 x2 x3 σ = some (r, σ')) : Z p l e (rmL 3) s m args below meth c (MQ below (QiW g a r σ') args s 0 0 (Ad a)) 4 g a 0 0 σ 0 [(0, .ref (a 0)), (1, .int x1), (2, .int x2), (3, .int x3)] [] := by
  unfold M8_may at h
  refine z_iload_n (q := 3) F dX8_may_0 rfl rfl ?_
  refine z_iload_n (q := 2) F dX8_may_1 rfl rfl ?_
  obtain ⟨r1, σ1, hq1, h⟩ := bd_of h
  refine cl8_192 F hq1 ⟨Nat.le_of_ble_eq_true rfl, Nat.le_of_ble_eq_true rfl⟩ dX8_may_2 (Nat.le_of_ble_eq_true rfl) ?_
  refine z_if_ne (tgt := 31) F dX8_may_5 rfl (fun c2 => ?_) (fun c2 => ?_)
  · have h := ite_F c2 h
    refine z_iconst (v := 0) F dX8_may_31 rfl ?_
    exact z_bret F (by first | exact Or.inl rfl | exact Or.inr rfl) h dX8_may_32
  · have h := ite_T c2 h
    refine z_aload_n (q := 0) F dX8_may_8 rfl rfl ?_
    refine gf8_49 F kdc_0 dX8_may_9 ?_
    refine z_iload_n (q := 2) F dX8_may_12 rfl rfl ?_
    obtain ⟨g3, h⟩ := gd_of h
    refine z_iald F kdc_14 (inl lnc_14 g3) dX8_may_13 ?_
    refine z_iconst (v := (-1)) F dX8_may_14 rfl ?_
    refine z_icmp_ne (tgt := 31) F dX8_may_15 rfl (fun c4 => ?_) (fun c4 => ?_)
    · have h := ite_F c4 h
      refine z_iconst (v := 0) F dX8_may_31 rfl ?_
      exact z_bret F (by first | exact Or.inl rfl | exact Or.inr rfl) h dX8_may_32
    · have h := ite_T c4 h
      refine z_aload_n (q := 0) F dX8_may_18 rfl rfl ?_
      refine z_iload_n (q := 2) F dX8_may_19 rfl rfl ?_
      refine z_iload_n (q := 1) F dX8_may_20 rfl rfl ?_
      obtain ⟨r5, σ5, hq5, h⟩ := bd_of h
      refine cl8_244 F hq5 ⟨Nat.le_of_ble_eq_true rfl, Nat.le_of_ble_eq_true rfl⟩ dX8_may_21 (Nat.le_of_ble_eq_true rfl) ?_
      refine z_if_eq (tgt := 31) F dX8_may_24 rfl (fun c6 => ?_) (fun c6 => ?_)
      · try simp only [if_pos c6] at h
        refine z_iconst (v := 0) F dX8_may_31 rfl ?_
        exact z_bret F (by first | exact Or.inl rfl | exact Or.inr rfl) h dX8_may_32
      · try simp only [if_neg c6] at h
        refine z_iconst (v := 1) F dX8_may_27 rfl ?_
        refine z_goto (tgt := 32) F dX8_may_28 rfl ?_
        exact z_bret F (by first | exact Or.inl rfl | exact Or.inr rfl) h dX8_may_32
theorem ct8_may {r : Int32} {x1 : Int32} {x2 : Int32} {x3 : Int32} {σ : St} (h : M8_may x1 x2 x3 σ = some (r, σ')) : Met l yX8_may (wsY yX8_may cX8_may 4 (some .boolean)) (rmL 3) (PcW g a [.ref (a 0), .int x1, .int x2, .int x3] σ) (QiW g a r σ') 0 0 (Ad a) :=
  ct_I (by decide) (Nat.le_of_ble_eq_true rfl) (fun p e s m args below meth c F => zM8_may F h)
theorem cl8_250 {r : Int32} {x1 : Int32} {x2 : Int32} {x3 : Int32} (F : Fx p s m args meth c cc nL RX8 rt R cz sz g a) (h : M8_may x1 x2 x3 σ = some (r, σ1)) (hR : 3 + 1 ≤ R.frames ∧ 8 + (4 + 11) + 34 * 3 ≤ R.locals) (d : decode cc pc = .ok (.invokevirtual 250, 3)) (hrm : (rest.map fun v => v.category).sum ≤ 8) (z : Z p l e R s m args below meth c Q nL g a cz sz σ1 (pc + 3) lv (.int r :: rest)) : Z p l e R s m args below meth c Q nL g a cz sz σ pc lv (.int x3 :: .int x2 :: .int x1 :: .ref (a 0) :: rest) :=
  z_callVI (nA := 3) (As := [.int x1, .int x2, .int x3]) F (ct8_may h) ⟨(tbm 1162 (by decide +kernel) rfl), (tbm 1164 (by decide +kernel) rfl), (tbs 89 (by decide +kernel) rfl), (tbm 9 (by decide +kernel) rfl), (tbm 1165 (by decide +kernel) rfl)⟩ (by decide +kernel) rfl kdc_0 (by decide) rfl rfl rfl hR d rfl hrm z
theorem zM8_worthBy {r : Int32} {x1 : Int32} {x2 : Int32} {x3 : Int32} {σ : St} (F : Fx p s m args meth c cX8_worthBy 4 RX8 (some .int) (rmL 0) 0 0 g a) (h : M8_worthBy x1 x2 x3 σ = some (r, σ')) : Z p l e (rmL 0) s m args below meth c (MQ below (QiW g a r σ') args s 0 0 (Ad a)) 4 g a 0 0 σ 0 [(0, .ref (a 0)), (1, .int x1), (2, .int x2), (3, .int x3)] [] := by
  unfold M8_worthBy at h
  refine z_aload_n (q := 0) F dX8_worthBy_0 rfl rfl ?_
  refine gf8_31 F kdc_0 dX8_worthBy_1 ?_
  refine z_bipush (v := 32) F dX8_worthBy_4 rfl ?_
  refine z_iconst (v := 4) F dX8_worthBy_6 rfl ?_
  refine z_iload_n (q := 1) F dX8_worthBy_7 rfl rfl ?_
  refine z_imul F dX8_worthBy_8 ?_
  refine z_iadd F dX8_worthBy_9 ?_
  refine z_iconst (v := 3) F dX8_worthBy_10 rfl ?_
  refine z_iadd F dX8_worthBy_11 ?_
  obtain ⟨g1, h⟩ := gd_of h
  refine z_iald F kdc_8 (inl lnc_8 g1) dX8_worthBy_12 ?_
  refine z_aload_n (q := 0) F dX8_worthBy_13 rfl rfl ?_
  refine gf8_70 F kdc_0 dX8_worthBy_14 ?_
  refine z_sipush (v := 256) F dX8_worthBy_17 rfl ?_
  refine z_iload_n (q := 1) F dX8_worthBy_20 rfl rfl ?_
  refine z_iconst (v := 1) F dX8_worthBy_21 rfl ?_
  refine z_iadd F dX8_worthBy_22 ?_
  refine z_imul F dX8_worthBy_23 ?_
  refine z_iload_n (q := 3) F dX8_worthBy_24 rfl rfl ?_
  refine z_iconst (v := 1) F dX8_worthBy_25 rfl ?_
  refine z_iload_n (q := 2) F dX8_worthBy_26 rfl rfl ?_
  refine z_ishl F dX8_worthBy_27 ?_
  refine z_ior F dX8_worthBy_28 ?_
  refine z_iadd F dX8_worthBy_29 ?_
  obtain ⟨g2, h⟩ := gd_of h
  refine z_iald F kdc_21 (inl lnc_21 g2) dX8_worthBy_30 ?_
  refine z_iadd F dX8_worthBy_31 ?_
  exact z_iret F h dX8_worthBy_32
theorem ct8_worthBy {r : Int32} {x1 : Int32} {x2 : Int32} {x3 : Int32} {σ : St} (h : M8_worthBy x1 x2 x3 σ = some (r, σ')) : Met l yX8_worthBy (wsY yX8_worthBy cX8_worthBy 4 (some .int)) (rmL 0) (PcW g a [.ref (a 0), .int x1, .int x2, .int x3] σ) (QiW g a r σ') 0 0 (Ad a) :=
  ct_I (by decide) (Nat.le_of_ble_eq_true rfl) (fun p e s m args below meth c F => zM8_worthBy F h)
theorem cl8_253 {r : Int32} {x1 : Int32} {x2 : Int32} {x3 : Int32} (F : Fx p s m args meth c cc nL RX8 rt R cz sz g a) (h : M8_worthBy x1 x2 x3 σ = some (r, σ1)) (hR : 0 + 1 ≤ R.frames ∧ 8 + (4 + 11) + 34 * 0 ≤ R.locals) (d : decode cc pc = .ok (.invokevirtual 253, 3)) (hrm : (rest.map fun v => v.category).sum ≤ 8) (z : Z p l e R s m args below meth c Q nL g a cz sz σ1 (pc + 3) lv (.int r :: rest)) : Z p l e R s m args below meth c Q nL g a cz sz σ pc lv (.int x3 :: .int x2 :: .int x1 :: .ref (a 0) :: rest) :=
  z_callVI (nA := 3) (As := [.int x1, .int x2, .int x3]) F (ct8_worthBy h) ⟨(tbm 1166 (by decide +kernel) rfl), (tbm 1168 (by decide +kernel) rfl), (tbs 90 (by decide +kernel) rfl), (tbm 9 (by decide +kernel) rfl), (tbm 1169 (by decide +kernel) rfl)⟩ (by decide +kernel) rfl kdc_0 (by decide) rfl rfl rfl hR d rfl hrm z
theorem zM8_bestNow_J118 {r : Int32} {x1 : Int32} {x2 : Int32} {x3 : Int32} {x4 : Int32} {σ : St} (F : Fx p s m args meth c cX8_bestNow 6 RX8 (some .int) (rmL 4) 0 0 g a) {kb : Int32 → St → Option (Int32 × St)} (hb : ∀ (w3 : Int32) (σ : St), kb w3 σ = some (r, σ') → Z p l e (rmL 4) s m args below meth c (MQ below (QiW g a r σ') args s 0 0 (Ad a)) 6 g a 0 0 σ 22 [(0, .ref (a 0)), (1, .int x1), (2, .int x2), (3, .int w3)] []) (h : M8_bestNow_J118 kb x1 x2 x3 x4 σ = some (r, σ')) : Z p l e (rmL 4) s m args below meth c (MQ below (QiW g a r σ') args s 0 0 (Ad a)) 6 g a 0 0 σ 118 [(0, .ref (a 0)), (1, .int x1), (2, .int x2), (3, .int x3), (4, .int x4)] [] := by
  unfold M8_bestNow_J118 at h
  refine z_aload_n (q := 0) F dX8_bestNow_118 rfl rfl ?_
  refine gf8_70 F kdc_0 dX8_bestNow_119 ?_
  refine z_sipush (v := 256) F dX8_bestNow_122 rfl ?_
  refine z_iload_n (q := 2) F dX8_bestNow_125 rfl rfl ?_
  refine z_imul F dX8_bestNow_126 ?_
  refine z_iload_n (q := 3) F dX8_bestNow_127 rfl rfl ?_
  refine z_iadd F dX8_bestNow_128 ?_
  refine z_iload (q := 4) F dX8_bestNow_129 rfl ?_
  obtain ⟨g21, h⟩ := gd_of h
  refine z_iast F kdc_21 (inl lnc_21 g21) dX8_bestNow_131 ?_
  refine z_let h (fun σ22 h => ?_)
  refine z_iinc (q := 3) (v := x3 + 1) (lv' := [(3, .int (x3 + 1)), (0, .ref (a 0)), (1, .int x1), (2, .int x2), (4, .int x4)]) F dX8_bestNow_132 rfl rfl (by decide) rfl ?_
  refine z_letL (s0 := 3) (lv := [(0, .ref (a 0)), (1, .int x1), (2, .int x2), (4, .int x4)]) h (fun v23 h => ?_)
  refine z_goto (tgt := 22) F dX8_bestNow_135 rfl ?_
  refine z_sub (lv' := [(0, .ref (a 0)), (1, .int x1), (2, .int x2), (3, .int v23)]) [1, 2, 3, 0] rfl ?_
  exact hb _ _ h
theorem zM8_bestNow_J110 {r : Int32} {x1 : Int32} {x2 : Int32} {x3 : Int32} {x5 : Int32} {y0 : Int32} {σ : St} (F : Fx p s m args meth c cX8_bestNow 6 RX8 (some .int) (rmL 4) 0 0 g a) {kb : Int32 → Int32 → St → Option (Int32 × St)} (hb : ∀ (w4 : Int32) (w5 : Int32) (σ : St), kb w4 w5 σ = some (r, σ') → Z p l e (rmL 4) s m args below meth c (MQ below (QiW g a r σ') args s 0 0 (Ad a)) 6 g a 0 0 σ 60 [(0, .ref (a 0)), (1, .int x1), (2, .int x2), (3, .int x3), (4, .int w4), (5, .int w5)] []) (h : M8_bestNow_J110 kb x1 x2 x3 x5 y0 σ = some (r, σ')) : Z p l e (rmL 4) s m args below meth c (MQ below (QiW g a r σ') args s 0 0 (Ad a)) 6 g a 0 0 σ 110 [(0, .ref (a 0)), (1, .int x1), (2, .int x2), (3, .int x3), (5, .int x5)] [.int y0] := by
  unfold M8_bestNow_J110 at h
  refine z_istore (lv' := [(4, .int y0), (0, .ref (a 0)), (1, .int x1), (2, .int x2), (3, .int x3), (5, .int x5)]) F dX8_bestNow_110 (by decide) rfl ?_
  refine z_iinc (q := 5) (v := x5 + 1) (lv' := [(5, .int (x5 + 1)), (4, .int y0), (0, .ref (a 0)), (1, .int x1), (2, .int x2), (3, .int x3)]) F dX8_bestNow_112 rfl rfl (by decide) rfl ?_
  refine z_letL (s0 := 5) (lv := [(4, .int y0), (0, .ref (a 0)), (1, .int x1), (2, .int x2), (3, .int x3)]) h (fun v16 h => ?_)
  refine z_goto (tgt := 60) F dX8_bestNow_115 rfl ?_
  refine z_sub (lv' := [(0, .ref (a 0)), (1, .int x1), (2, .int x2), (3, .int x3), (4, .int y0), (5, .int v16)]) [2, 3, 4, 5, 1, 0] rfl ?_
  exact hb _ _ _ h
theorem zM8_bestNow_L60 {r : Int32} {x1 : Int32} {x2 : Int32} {x3 : Int32} (F : Fx p s m args meth c cX8_bestNow 6 RX8 (some .int) (rmL 4) 0 0 g a) {kx : Int32 → St → Option (Int32 × St)} (hx : ∀ (w4 : Int32) (σ : St), kx w4 σ = some (r, σ') → Z p l e (rmL 4) s m args below meth c (MQ below (QiW g a r σ') args s 0 0 (Ad a)) 6 g a 0 0 σ 118 [(0, .ref (a 0)), (1, .int x1), (2, .int x2), (3, .int x3), (4, .int w4)] []) : ∀ (n : Nat) (x4 : Int32) (x5 : Int32) (σ : St), M8_bestNow_L60 x1 x2 x3 kx n x4 x5 σ = some (r, σ') → Z p l e (rmL 4) s m args below meth c (MQ below (QiW g a r σ') args s 0 0 (Ad a)) 6 g a 0 0 σ 60 [(0, .ref (a 0)), (1, .int x1), (2, .int x2), (3, .int x3), (4, .int x4), (5, .int x5)] [] := by
  intro n
  induction n with
  | zero => intro x4 x5 σ h; rw [M8_bestNow_L60] at h; cases h
  | succ n ih =>
    intro x4 x5 σ h
    rw [M8_bestNow_L60] at h
    refine z_iload (q := 5) F dX8_bestNow_60 rfl ?_
    refine z_aload_n (q := 0) F dX8_bestNow_62 rfl rfl ?_
    refine gf8_28 F kdc_0 dX8_bestNow_63 ?_
    refine z_iconst (v := 0) F dX8_bestNow_66 rfl ?_
    refine z_ialdC (j := 0) F kdc_7 (inl lnc_7 (by decide)) (by decide) dX8_bestNow_67 ?_
    refine z_icmp_ge (tgt := 118) F dX8_bestNow_68 rfl (fun c11 => ?_) (fun c11 => ?_)
    · have h := ite_T c11 h
      refine z_sub (lv' := [(0, .ref (a 0)), (1, .int x1), (2, .int x2), (3, .int x3), (4, .int x4)]) [0, 1, 2, 3, 4] rfl ?_
      exact hx _ _ h
    · have h := ite_F c11 h
      refine z_iload_n (q := 2) F dX8_bestNow_71 rfl rfl ?_
      refine z_aload_n (q := 0) F dX8_bestNow_72 rfl rfl ?_
      refine gf8_28 F kdc_0 dX8_bestNow_73 ?_
      refine z_iconst (v := 1) F dX8_bestNow_76 rfl ?_
      refine z_ialdC (j := 1) F kdc_7 (inl lnc_7 (by decide)) (by decide) dX8_bestNow_77 ?_
      refine z_icmp_ge (tgt := 118) F dX8_bestNow_78 rfl (fun c13 => ?_) (fun c13 => ?_)
      · have h := ite_T c13 h
        refine z_sub (lv' := [(0, .ref (a 0)), (1, .int x1), (2, .int x2), (3, .int x3), (4, .int x4)]) [0, 1, 2, 3, 4] rfl ?_
        exact hx _ _ h
      · have h := ite_F c13 h
        refine z_aload_n (q := 0) F dX8_bestNow_81 rfl rfl ?_
        refine z_iload_n (q := 2) F dX8_bestNow_82 rfl rfl ?_
        refine z_iload (q := 5) F dX8_bestNow_83 rfl ?_
        refine z_iload_n (q := 3) F dX8_bestNow_85 rfl rfl ?_
        obtain ⟨r14, σ14, hq14, h⟩ := bd_of h
        refine cl8_250 F hq14 ⟨Nat.le_of_ble_eq_true rfl, Nat.le_of_ble_eq_true rfl⟩ dX8_bestNow_86 (Nat.le_of_ble_eq_true rfl) ?_
        refine z_if_eq (tgt := 108) F dX8_bestNow_89 rfl (fun c15 => ?_) (fun c15 => ?_)
        · have h := ite_T c15 h
          refine z_iload (q := 4) F dX8_bestNow_108 rfl ?_
          refine z_sub (lv' := [(0, .ref (a 0)), (1, .int x1), (2, .int x2), (3, .int x3), (5, .int x5)]) [0, 1, 2, 3, 5] rfl ?_
          exact zM8_bestNow_J110 F ih h
        · have h := ite_F c15 h
          refine z_aload_n (q := 0) F dX8_bestNow_92 rfl rfl ?_
          refine z_iload_n (q := 2) F dX8_bestNow_93 rfl rfl ?_
          refine z_iload (q := 5) F dX8_bestNow_94 rfl ?_
          refine z_iload_n (q := 3) F dX8_bestNow_96 rfl rfl ?_
          obtain ⟨r17, σ17, hq17, h⟩ := bd_of h
          refine cl8_253 F hq17 ⟨Nat.le_of_ble_eq_true rfl, Nat.le_of_ble_eq_true rfl⟩ dX8_bestNow_97 (Nat.le_of_ble_eq_true rfl) ?_
          refine z_iload (q := 4) F dX8_bestNow_100 rfl ?_
          obtain ⟨r18, σ18, hq18, h⟩ := bd_of h
          refine cl8_186 F hq18 ⟨Nat.le_of_ble_eq_true rfl, Nat.le_of_ble_eq_true rfl⟩ dX8_bestNow_102 (Nat.le_of_ble_eq_true rfl) ?_
          refine z_goto (tgt := 110) F dX8_bestNow_105 rfl ?_
          refine z_sub (lv' := [(0, .ref (a 0)), (1, .int x1), (2, .int x2), (3, .int x3), (5, .int x5)]) [0, 1, 2, 3, 5] rfl ?_
          exact zM8_bestNow_J110 F ih h
theorem zM8_bestNow_J55 {r : Int32} {x1 : Int32} {x2 : Int32} {x3 : Int32} {y0 : Int32} {σ : St} (F : Fx p s m args meth c cX8_bestNow 6 RX8 (some .int) (rmL 4) 0 0 g a) {kb : Int32 → St → Option (Int32 × St)} (hb : ∀ (w3 : Int32) (σ : St), kb w3 σ = some (r, σ') → Z p l e (rmL 4) s m args below meth c (MQ below (QiW g a r σ') args s 0 0 (Ad a)) 6 g a 0 0 σ 22 [(0, .ref (a 0)), (1, .int x1), (2, .int x2), (3, .int w3)] []) (h : M8_bestNow_J55 kb x1 x2 x3 y0 σ = some (r, σ')) : Z p l e (rmL 4) s m args below meth c (MQ below (QiW g a r σ') args s 0 0 (Ad a)) 6 g a 0 0 σ 55 [(0, .ref (a 0)), (1, .int x1), (2, .int x2), (3, .int x3)] [.int y0] := by
  unfold M8_bestNow_J55 at h
  refine z_istore (lv' := [(4, .int y0), (0, .ref (a 0)), (1, .int x1), (2, .int x2), (3, .int x3)]) F dX8_bestNow_55 (by decide) rfl ?_
  refine z_iconst (v := 0) F dX8_bestNow_57 rfl ?_
  refine z_istore (lv' := [(5, .int 0), (4, .int y0), (0, .ref (a 0)), (1, .int x1), (2, .int x2), (3, .int x3)]) F dX8_bestNow_58 (by decide) rfl ?_
  refine z_sub (lv' := [(0, .ref (a 0)), (1, .int x1), (2, .int x2), (3, .int x3), (4, .int y0), (5, .int 0)]) [2, 3, 4, 5, 1, 0] rfl ?_
  refine zM8_bestNow_L60 F ?_ _ _ _ _ h
  intro v19 σ20 h
  refine z_sub (lv' := [(0, .ref (a 0)), (1, .int x1), (2, .int x2), (3, .int x3), (4, .int v19)]) [0, 1, 2, 3, 4] rfl ?_
  exact zM8_bestNow_J118 F hb h
theorem zM8_bestNow_L22 {r : Int32} {x1 : Int32} {x2 : Int32} (F : Fx p s m args meth c cX8_bestNow 6 RX8 (some .int) (rmL 4) 0 0 g a) {kx : St → Option (Int32 × St)} (hx : ∀ (σ : St), kx σ = some (r, σ') → Z p l e (rmL 4) s m args below meth c (MQ below (QiW g a r σ') args s 0 0 (Ad a)) 6 g a 0 0 σ 138 [(0, .ref (a 0)), (1, .int x1), (2, .int x2)] []) : ∀ (n : Nat) (x3 : Int32) (σ : St), M8_bestNow_L22 x1 x2 kx n x3 σ = some (r, σ') → Z p l e (rmL 4) s m args below meth c (MQ below (QiW g a r σ') args s 0 0 (Ad a)) 6 g a 0 0 σ 22 [(0, .ref (a 0)), (1, .int x1), (2, .int x2), (3, .int x3)] [] := by
  intro n
  induction n with
  | zero => intro x3 σ h; rw [M8_bestNow_L22] at h; cases h
  | succ n ih =>
    intro x3 σ h
    rw [M8_bestNow_L22] at h
    refine z_iload_n (q := 3) F dX8_bestNow_22 rfl rfl ?_
    refine z_iload_n (q := 1) F dX8_bestNow_23 rfl rfl ?_
    refine z_icmp_ge (tgt := 138) F dX8_bestNow_24 rfl (fun c6 => ?_) (fun c6 => ?_)
    · have h := ite_T c6 h
      refine z_sub (lv' := [(0, .ref (a 0)), (1, .int x1), (2, .int x2)]) [0, 1, 2] rfl ?_
      exact hx _ h
    · have h := ite_F c6 h
      refine z_iload_n (q := 2) F dX8_bestNow_27 rfl rfl ?_
      refine z_aload_n (q := 0) F dX8_bestNow_28 rfl rfl ?_
      refine gf8_28 F kdc_0 dX8_bestNow_29 ?_
      refine z_iconst (v := 1) F dX8_bestNow_32 rfl ?_
      refine z_ialdC (j := 1) F kdc_7 (inl lnc_7 (by decide)) (by decide) dX8_bestNow_33 ?_
      refine z_icmp_ne (tgt := 41) F dX8_bestNow_34 rfl (fun c8 => ?_) (fun c8 => ?_)
      · have h := ite_F c8 h
        refine z_aload_n (q := 0) F dX8_bestNow_41 rfl rfl ?_
        refine gf8_70 F kdc_0 dX8_bestNow_42 ?_
        refine z_sipush (v := 256) F dX8_bestNow_45 rfl ?_
        refine z_iload_n (q := 2) F dX8_bestNow_48 rfl rfl ?_
        refine z_iconst (v := 1) F dX8_bestNow_49 rfl ?_
        refine z_iadd F dX8_bestNow_50 ?_
        refine z_imul F dX8_bestNow_51 ?_
        refine z_iload_n (q := 3) F dX8_bestNow_52 rfl rfl ?_
        refine z_iadd F dX8_bestNow_53 ?_
        obtain ⟨g9, h⟩ := gd_of h
        refine z_iald F kdc_21 (inl lnc_21 g9) dX8_bestNow_54 ?_
        refine z_sub (lv' := [(0, .ref (a 0)), (1, .int x1), (2, .int x2), (3, .int x3)]) [0, 1, 2, 3] rfl ?_
        exact zM8_bestNow_J55 F ih h
      · have h := ite_T c8 h
        refine z_iconst (v := 0) F dX8_bestNow_37 rfl ?_
        refine z_goto (tgt := 55) F dX8_bestNow_38 rfl ?_
        refine z_sub (lv' := [(0, .ref (a 0)), (1, .int x1), (2, .int x2), (3, .int x3)]) [0, 1, 2, 3] rfl ?_
        exact zM8_bestNow_J55 F ih h
theorem zM8_bestNow_L16 {r : Int32} {x1 : Int32} (F : Fx p s m args meth c cX8_bestNow 6 RX8 (some .int) (rmL 4) 0 0 g a) {kx : St → Option (Int32 × St)} (hx : ∀ (σ : St), kx σ = some (r, σ') → Z p l e (rmL 4) s m args below meth c (MQ below (QiW g a r σ') args s 0 0 (Ad a)) 6 g a 0 0 σ 144 [(0, .ref (a 0))] []) : ∀ (n : Nat) (x2 : Int32) (σ : St), M8_bestNow_L16 x1 kx n x2 σ = some (r, σ') → Z p l e (rmL 4) s m args below meth c (MQ below (QiW g a r σ') args s 0 0 (Ad a)) 6 g a 0 0 σ 16 [(0, .ref (a 0)), (1, .int x1), (2, .int x2)] [] := by
  intro n
  induction n with
  | zero => intro x2 σ h; rw [M8_bestNow_L16] at h; cases h
  | succ n ih =>
    intro x2 σ h
    rw [M8_bestNow_L16] at h
    refine z_iload_n (q := 2) F dX8_bestNow_16 rfl rfl ?_
    refine z_if_lt (tgt := 144) F dX8_bestNow_17 rfl (fun c5 => ?_) (fun c5 => ?_)
    · have h := ite_T c5 h
      refine z_sub (lv' := [(0, .ref (a 0))]) [0] rfl ?_
      exact hx _ h
    · have h := ite_F c5 h
      refine z_iconst (v := 0) F dX8_bestNow_20 rfl ?_
      refine z_istore_n (lv' := [(3, .int 0), (0, .ref (a 0)), (1, .int x1), (2, .int x2)]) F dX8_bestNow_21 rfl (by decide) rfl ?_
      refine z_sub (lv' := [(0, .ref (a 0)), (1, .int x1), (2, .int x2), (3, .int 0)]) [1, 2, 3, 0] rfl ?_
      refine zM8_bestNow_L22 F ?_ _ _ _ h
      intro σ24 h
      refine z_iinc (q := 2) (v := x2 + (-1)) (lv' := [(2, .int (x2 + (-1))), (0, .ref (a 0)), (1, .int x1)]) F dX8_bestNow_138 rfl rfl (by decide) rfl ?_
      refine z_letL (s0 := 2) (lv := [(0, .ref (a 0)), (1, .int x1)]) h (fun v25 h => ?_)
      refine z_goto (tgt := 16) F dX8_bestNow_141 rfl ?_
      refine z_sub (lv' := [(0, .ref (a 0)), (1, .int x1), (2, .int v25)]) [1, 2, 0] rfl ?_
      exact ih _ _ h
theorem zM8_bestNow {r : Int32} {σ : St} (F : Fx p s m args meth c cX8_bestNow 6 RX8 (some .int) (rmL 4) 0 0 g a) (h : M8_bestNow σ = some (r, σ')) : Z p l e (rmL 4) s m args below meth c (MQ below (QiW g a r σ') args s 0 0 (Ad a)) 6 g a 0 0 σ 0 [(0, .ref (a 0))] [] := by
  unfold M8_bestNow at h
  refine z_iconst (v := 1) F dX8_bestNow_0 rfl ?_
  refine z_aload_n (q := 0) F dX8_bestNow_1 rfl rfl ?_
  refine gf8_28 F kdc_0 dX8_bestNow_2 ?_
  refine z_iconst (v := 0) F dX8_bestNow_5 rfl ?_
  refine z_ialdC (j := 0) F kdc_7 (inl lnc_7 (by decide)) (by decide) dX8_bestNow_6 ?_
  refine z_ishl F dX8_bestNow_7 ?_
  refine z_letI h (fun v2 h => ?_)
  refine z_istore_n (lv' := [(1, .int v2), (0, .ref (a 0))]) F dX8_bestNow_8 rfl (by decide) rfl ?_
  refine z_aload_n (q := 1) F dX8_bestNow_9 rfl rfl ?_
  refine gf8_28 F kdc_0 dX8_bestNow_10 ?_
  refine z_iconst (v := 1) F dX8_bestNow_13 rfl ?_
  refine z_ialdC (j := 1) F kdc_7 (inl lnc_7 (by decide)) (by decide) dX8_bestNow_14 ?_
  refine z_letI h (fun v4 h => ?_)
  refine z_istore_n (lv' := [(2, .int v4), (1, .int v2), (0, .ref (a 0))]) F dX8_bestNow_15 rfl (by decide) rfl ?_
  refine z_sub (lv' := [(0, .ref (a 0)), (1, .int v2), (2, .int v4)]) [2, 1, 0] rfl ?_
  refine zM8_bestNow_L16 F ?_ _ _ _ h
  intro σ26 h
  refine z_aload_n (q := 0) F dX8_bestNow_144 rfl rfl ?_
  refine gf8_70 F kdc_0 dX8_bestNow_145 ?_
  refine z_iconst (v := 0) F dX8_bestNow_148 rfl ?_
  refine z_ialdC (j := 0) F kdc_21 (inl lnc_21 (by decide)) (by decide) dX8_bestNow_149 ?_
  exact z_iret F h dX8_bestNow_150
theorem ct8_bestNow {r : Int32} {σ : St} (h : M8_bestNow σ = some (r, σ')) : Met l yX8_bestNow (wsY yX8_bestNow cX8_bestNow 6 (some .int)) (rmL 4) (PcW g a [.ref (a 0)] σ) (QiW g a r σ') 0 0 (Ad a) :=
  ct_I (by decide) (Nat.le_of_ble_eq_true rfl) (fun p e s m args below meth c F => zM8_bestNow F h)
theorem cl8_256 {r : Int32} (F : Fx p s m args meth c cc nL RX8 rt R cz sz g a) (h : M8_bestNow σ = some (r, σ1)) (hR : 4 + 1 ≤ R.frames ∧ 8 + (6 + 11) + 34 * 4 ≤ R.locals) (d : decode cc pc = .ok (.invokevirtual 256, 3)) (hrm : (rest.map fun v => v.category).sum ≤ 8) (z : Z p l e R s m args below meth c Q nL g a cz sz σ1 (pc + 3) lv (.int r :: rest)) : Z p l e R s m args below meth c Q nL g a cz sz σ pc lv (.ref (a 0) :: rest) :=
  z_callVI (nA := 0) (As := []) F (ct8_bestNow h) ⟨(tbm 1158 (by decide +kernel) rfl), (tbm 1160 (by decide +kernel) rfl), (tbs 88 (by decide +kernel) rfl), (tbm 9 (by decide +kernel) rfl), (tbm 1161 (by decide +kernel) rfl)⟩ (by decide +kernel) rfl kdc_0 (by decide) rfl rfl rfl hR d rfl hrm z
theorem zM8_bestOf_J134 {r : Int32} {x2 : Int32} {x3 : Int32} {x5 : Int32} {σ : St} (F : Fx p s m args meth c cX8_bestOf 8 RX8 (some .int) (rmL 5) 0 0 g a) (h : M8_bestOf_J134 x2 x3 x5 σ = some (r, σ')) : Z p l e (rmL 5) s m args below meth c (MQ below (QiW g a r σ') args s 0 0 (Ad a)) 8 g a 0 0 σ 134 [(0, .ref (a 0)), (2, .int x2), (3, .int x3), (5, .int x5)] [] := by
  unfold M8_bestOf_J134 at h
  refine z_iload_n (q := 1) F dX8_bestOf_134 rfl rfl ?_
  refine z_iconst (v := (-1)) F dX8_bestOf_135 rfl ?_
  refine z_icmp_ne (tgt := 143) F dX8_bestOf_136 rfl (fun c22 => ?_) (fun c22 => ?_)
  · try simp only [if_neg c22] at h
    refine z_iload_n (q := 1) F dX8_bestOf_143 rfl rfl ?_
    refine z_aload_n (q := 0) F dX8_bestOf_144 rfl rfl ?_
    refine gf8_28 F kdc_0 dX8_bestOf_145 ?_
    refine z_iconst (v := 1) F dX8_bestOf_148 rfl ?_
    refine z_ialdC (j := 1) F kdc_7 (inl lnc_7 (by decide)) (by decide) dX8_bestOf_149 ?_
    refine z_icmp_ge (tgt := 158) F dX8_bestOf_150 rfl (fun c24 => ?_) (fun c24 => ?_)
    · try simp only [if_pos c24] at h
      refine z_iconst (v := (-1)) F dX8_bestOf_158 rfl ?_
      exact z_iret F h dX8_bestOf_159
    · try simp only [if_neg c24] at h
      refine z_iload (q := 3) F dX8_bestOf_153 rfl ?_
      refine z_goto (tgt := 159) F dX8_bestOf_155 rfl ?_
      exact z_iret F h dX8_bestOf_159
  · try simp only [if_pos c22] at h
    refine z_iload_n (q := 2) F dX8_bestOf_139 rfl rfl ?_
    refine z_goto (tgt := 159) F dX8_bestOf_140 rfl ?_
    exact z_iret F h dX8_bestOf_159
theorem zM8_bestOf_J125 {r : Int32} {x2 : Int32} {x3 : Int32} {x5 : Int32} {x6 : Int32} {y0 : Int32} {y1 : Int32} {σ : St} (F : Fx p s m args meth c cX8_bestOf 8 RX8 (some .int) (rmL 5) 0 0 g a) {kb : Int32 → Int32 → Int32 → St → Option (Int32 × St)} (hb : ∀ (w4 : Int32) (w5 : Int32) (w6 : Int32) (σ : St), kb w4 w5 w6 σ = some (r, σ') → Z p l e (rmL 5) s m args below meth c (MQ below (QiW g a r σ') args s 0 0 (Ad a)) 8 g a 0 0 σ 19 [(0, .ref (a 0)), (2, .int x2), (3, .int x3), (4, .int w4), (5, .int w5), (6, .int w6)] []) (h : M8_bestOf_J125 kb x2 x3 x5 x6 y0 y1 σ = some (r, σ')) : Z p l e (rmL 5) s m args below meth c (MQ below (QiW g a r σ') args s 0 0 (Ad a)) 8 g a 0 0 σ 125 [(0, .ref (a 0)), (2, .int x2), (3, .int x3), (5, .int x5), (6, .int x6)] [.int y0, .int y1] := by
  unfold M8_bestOf_J125 at h
  refine z_ior F dX8_bestOf_125 ?_
  refine z_letI h (fun v18 h => ?_)
  refine z_istore (lv' := [(4, .int v18), (0, .ref (a 0)), (2, .int x2), (3, .int x3), (5, .int x5), (6, .int x6)]) F dX8_bestOf_126 (by decide) rfl ?_
  refine z_iinc (q := 5) (v := x6 + 1) (lv' := [(6, .int (x6 + 1)), (4, .int v18), (0, .ref (a 0)), (2, .int x2), (3, .int x3), (5, .int x5)]) F dX8_bestOf_128 rfl rfl (by decide) rfl ?_
  refine z_letL (s0 := 6) (lv := [(4, .int v18), (0, .ref (a 0)), (2, .int x2), (3, .int x3), (5, .int x5)]) h (fun v19 h => ?_)
  refine z_goto (tgt := 19) F dX8_bestOf_131 rfl ?_
  refine z_sub (lv' := [(0, .ref (a 0)), (2, .int x2), (3, .int x3), (4, .int v18), (5, .int x5), (6, .int v19)]) [2, 3, 4, 1, 5, 0] rfl ?_
  exact hb _ _ _ _ h
theorem zM8_bestOf_J101 {r : Int32} {x2 : Int32} {x3 : Int32} {x4 : Int32} {x6 : Int32} {x7 : Int32} {y0 : Int32} {σ : St} (F : Fx p s m args meth c cX8_bestOf 8 RX8 (some .int) (rmL 5) 0 0 g a) {kb : Int32 → Int32 → St → Option (Int32 × St)} (hb : ∀ (w5 : Int32) (w7 : Int32) (σ : St), kb w5 w7 σ = some (r, σ') → Z p l e (rmL 5) s m args below meth c (MQ below (QiW g a r σ') args s 0 0 (Ad a)) 8 g a 0 0 σ 49 [(0, .ref (a 0)), (2, .int x2), (3, .int x3), (4, .int x4), (5, .int w5), (6, .int x6), (7, .int w7)] []) (h : M8_bestOf_J101 kb x2 x3 x4 x6 x7 y0 σ = some (r, σ')) : Z p l e (rmL 5) s m args below meth c (MQ below (QiW g a r σ') args s 0 0 (Ad a)) 8 g a 0 0 σ 101 [(0, .ref (a 0)), (2, .int x2), (3, .int x3), (4, .int x4), (6, .int x6), (7, .int x7)] [.int y0] := by
  unfold M8_bestOf_J101 at h
  refine z_istore (lv' := [(5, .int y0), (0, .ref (a 0)), (2, .int x2), (3, .int x3), (4, .int x4), (6, .int x6), (7, .int x7)]) F dX8_bestOf_101 (by decide) rfl ?_
  refine z_iinc (q := 6) (v := x7 + (-1)) (lv' := [(7, .int (x7 + (-1))), (5, .int y0), (0, .ref (a 0)), (2, .int x2), (3, .int x3), (4, .int x4), (6, .int x6)]) F dX8_bestOf_103 rfl rfl (by decide) rfl ?_
  refine z_letL (s0 := 7) (lv := [(5, .int y0), (0, .ref (a 0)), (2, .int x2), (3, .int x3), (4, .int x4), (6, .int x6)]) h (fun v11 h => ?_)
  refine z_goto (tgt := 49) F dX8_bestOf_106 rfl ?_
  refine z_sub (lv' := [(0, .ref (a 0)), (2, .int x2), (3, .int x3), (4, .int x4), (5, .int y0), (6, .int x6), (7, .int v11)]) [2, 3, 4, 5, 1, 6, 0] rfl ?_
  exact hb _ _ _ h
theorem zM8_bestOf_J99 {r : Int32} {x2 : Int32} {x3 : Int32} {x4 : Int32} {x5 : Int32} {x6 : Int32} {x7 : Int32} {σ : St} (F : Fx p s m args meth c cX8_bestOf 8 RX8 (some .int) (rmL 5) 0 0 g a) {kb : Int32 → Int32 → St → Option (Int32 × St)} (hb : ∀ (w5 : Int32) (w7 : Int32) (σ : St), kb w5 w7 σ = some (r, σ') → Z p l e (rmL 5) s m args below meth c (MQ below (QiW g a r σ') args s 0 0 (Ad a)) 8 g a 0 0 σ 49 [(0, .ref (a 0)), (2, .int x2), (3, .int x3), (4, .int x4), (5, .int w5), (6, .int x6), (7, .int w7)] []) (h : M8_bestOf_J99 kb x2 x3 x4 x5 x6 x7 σ = some (r, σ')) : Z p l e (rmL 5) s m args below meth c (MQ below (QiW g a r σ') args s 0 0 (Ad a)) 8 g a 0 0 σ 99 [(0, .ref (a 0)), (2, .int x2), (3, .int x3), (4, .int x4), (5, .int x5), (6, .int x6), (7, .int x7)] [] := by
  unfold M8_bestOf_J99 at h
  refine z_iload (q := 4) F dX8_bestOf_99 rfl ?_
  refine z_sub (lv' := [(0, .ref (a 0)), (2, .int x2), (3, .int x3), (4, .int x4), (6, .int x6), (7, .int x7)]) [0, 1, 2, 3, 5, 6] rfl ?_
  exact zM8_bestOf_J101 F hb h
theorem zM8_bestOf_L49 {r : Int32} {x2 : Int32} {x3 : Int32} {x4 : Int32} {x6 : Int32} (F : Fx p s m args meth c cX8_bestOf 8 RX8 (some .int) (rmL 5) 0 0 g a) {kx : Int32 → St → Option (Int32 × St)} (hx : ∀ (w5 : Int32) (σ : St), kx w5 σ = some (r, σ') → Z p l e (rmL 5) s m args below meth c (MQ below (QiW g a r σ') args s 0 0 (Ad a)) 8 g a 0 0 σ 109 [(0, .ref (a 0)), (2, .int x2), (3, .int x3), (4, .int x4), (5, .int w5), (6, .int x6)] []) : ∀ (n : Nat) (x5 : Int32) (x7 : Int32) (σ : St), M8_bestOf_L49 x2 x3 x4 x6 kx n x5 x7 σ = some (r, σ') → Z p l e (rmL 5) s m args below meth c (MQ below (QiW g a r σ') args s 0 0 (Ad a)) 8 g a 0 0 σ 49 [(0, .ref (a 0)), (2, .int x2), (3, .int x3), (4, .int x4), (5, .int x5), (6, .int x6), (7, .int x7)] [] := by
  intro n
  induction n with
  | zero => intro x5 x7 σ h; rw [M8_bestOf_L49] at h; cases h
  | succ n ih =>
    intro x5 x7 σ h
    rw [M8_bestOf_L49] at h
    refine z_iload (q := 6) F dX8_bestOf_49 rfl ?_
    refine z_if_lt (tgt := 109) F dX8_bestOf_51 rfl (fun c8 => ?_) (fun c8 => ?_)
    · have h := ite_T c8 h
      refine z_sub (lv' := [(0, .ref (a 0)), (2, .int x2), (3, .int x3), (4, .int x4), (5, .int x5), (6, .int x6)]) [0, 1, 2, 3, 4, 5] rfl ?_
      exact hx _ _ h
    · have h := ite_F c8 h
      refine z_aload_n (q := 0) F dX8_bestOf_54 rfl rfl ?_
      refine z_iload (q := 5) F dX8_bestOf_55 rfl ?_
      refine z_iload (q := 6) F dX8_bestOf_57 rfl ?_
      refine z_iload (q := 3) F dX8_bestOf_59 rfl ?_
      obtain ⟨r9, σ9, hq9, h⟩ := bd_of h
      refine cl8_250 F hq9 ⟨Nat.le_of_ble_eq_true rfl, Nat.le_of_ble_eq_true rfl⟩ dX8_bestOf_61 (Nat.le_of_ble_eq_true rfl) ?_
      refine z_if_eq (tgt := 99) F dX8_bestOf_64 rfl (fun c10 => ?_) (fun c10 => ?_)
      · have h := ite_T c10 h
        refine z_sub (lv' := [(0, .ref (a 0)), (2, .int x2), (3, .int x3), (4, .int x4), (5, .int x5), (6, .int x6), (7, .int x7)]) [0, 1, 2, 3, 4, 5, 6] rfl ?_
        exact zM8_bestOf_J99 F ih h
      · have h := ite_F c10 h
        refine z_aload_n (q := 0) F dX8_bestOf_67 rfl rfl ?_
        refine z_iload (q := 5) F dX8_bestOf_68 rfl ?_
        refine z_iload (q := 6) F dX8_bestOf_70 rfl ?_
        refine z_iload (q := 3) F dX8_bestOf_72 rfl ?_
        obtain ⟨r12, σ12, hq12, h⟩ := bd_of h
        refine cl8_253 F hq12 ⟨Nat.le_of_ble_eq_true rfl, Nat.le_of_ble_eq_true rfl⟩ dX8_bestOf_74 (Nat.le_of_ble_eq_true rfl) ?_
        refine z_aload_n (q := 0) F dX8_bestOf_77 rfl rfl ?_
        refine gf8_70 F kdc_0 dX8_bestOf_78 ?_
        refine z_sipush (v := 256) F dX8_bestOf_81 rfl ?_
        refine z_iload (q := 5) F dX8_bestOf_84 rfl ?_
        refine z_imul F dX8_bestOf_86 ?_
        refine z_iload (q := 3) F dX8_bestOf_87 rfl ?_
        refine z_iadd F dX8_bestOf_89 ?_
        obtain ⟨g13, h⟩ := gd_of h
        refine z_iald F kdc_21 (inl lnc_21 g13) dX8_bestOf_90 ?_
        refine z_icmp_ne (tgt := 99) F dX8_bestOf_91 rfl (fun c14 => ?_) (fun c14 => ?_)
        · have h := ite_F c14 h
          refine z_sub (lv' := [(0, .ref (a 0)), (2, .int x2), (3, .int x3), (4, .int x4), (5, .int x5), (6, .int x6), (7, .int x7)]) [0, 1, 2, 3, 4, 5, 6] rfl ?_
          exact zM8_bestOf_J99 F ih h
        · have h := ite_T c14 h
          refine z_iload (q := 6) F dX8_bestOf_94 rfl ?_
          refine z_goto (tgt := 101) F dX8_bestOf_96 rfl ?_
          refine z_sub (lv' := [(0, .ref (a 0)), (2, .int x2), (3, .int x3), (4, .int x4), (6, .int x6), (7, .int x7)]) [0, 1, 2, 3, 5, 6] rfl ?_
          exact zM8_bestOf_J101 F ih h
theorem zM8_bestOf_L19 {r : Int32} {x2 : Int32} {x3 : Int32} (F : Fx p s m args meth c cX8_bestOf 8 RX8 (some .int) (rmL 5) 0 0 g a) {kx : Int32 → St → Option (Int32 × St)} (hx : ∀ (w5 : Int32) (σ : St), kx w5 σ = some (r, σ') → Z p l e (rmL 5) s m args below meth c (MQ below (QiW g a r σ') args s 0 0 (Ad a)) 8 g a 0 0 σ 134 [(0, .ref (a 0)), (2, .int x2), (3, .int x3), (5, .int w5)] []) : ∀ (n : Nat) (x4 : Int32) (x5 : Int32) (x6 : Int32) (σ : St), M8_bestOf_L19 x2 x3 kx n x4 x5 x6 σ = some (r, σ') → Z p l e (rmL 5) s m args below meth c (MQ below (QiW g a r σ') args s 0 0 (Ad a)) 8 g a 0 0 σ 19 [(0, .ref (a 0)), (2, .int x2), (3, .int x3), (4, .int x4), (5, .int x5), (6, .int x6)] [] := by
  intro n
  induction n with
  | zero => intro x4 x5 x6 σ h; rw [M8_bestOf_L19] at h; cases h
  | succ n ih =>
    intro x4 x5 x6 σ h
    rw [M8_bestOf_L19] at h
    refine z_iload (q := 5) F dX8_bestOf_19 rfl ?_
    refine z_iload_n (q := 1) F dX8_bestOf_21 rfl rfl ?_
    refine z_icmp_gt (tgt := 134) F dX8_bestOf_22 rfl (fun c3 => ?_) (fun c3 => ?_)
    · have h := ite_T c3 h
      refine z_sub (lv' := [(0, .ref (a 0)), (2, .int x2), (3, .int x3), (5, .int x5)]) [0, 1, 2, 4] rfl ?_
      exact hx _ _ h
    · have h := ite_F c3 h
      refine z_iload (q := 5) F dX8_bestOf_25 rfl ?_
      refine z_aload_n (q := 0) F dX8_bestOf_27 rfl rfl ?_
      refine gf8_28 F kdc_0 dX8_bestOf_28 ?_
      refine z_iconst (v := 1) F dX8_bestOf_31 rfl ?_
      refine z_ialdC (j := 1) F kdc_7 (inl lnc_7 (by decide)) (by decide) dX8_bestOf_32 ?_
      refine z_icmp_ge (tgt := 134) F dX8_bestOf_33 rfl (fun c5 => ?_) (fun c5 => ?_)
      · have h := ite_T c5 h
        refine z_sub (lv' := [(0, .ref (a 0)), (2, .int x2), (3, .int x3), (5, .int x5)]) [0, 1, 2, 4] rfl ?_
        exact hx _ _ h
      · have h := ite_F c5 h
        refine z_iconst (v := (-1)) F dX8_bestOf_36 rfl ?_
        refine z_istore (lv' := [(5, .int ((-1))), (0, .ref (a 0)), (2, .int x2), (3, .int x3), (4, .int x4), (6, .int x6)]) F dX8_bestOf_37 (by decide) rfl ?_
        refine z_aload_n (q := 1) F dX8_bestOf_39 rfl rfl ?_
        refine gf8_28 F kdc_0 dX8_bestOf_40 ?_
        refine z_iconst (v := 0) F dX8_bestOf_43 rfl ?_
        refine z_ialdC (j := 0) F kdc_7 (inl lnc_7 (by decide)) (by decide) dX8_bestOf_44 ?_
        refine z_iconst (v := 1) F dX8_bestOf_45 rfl ?_
        refine z_isub F dX8_bestOf_46 ?_
        refine z_letI h (fun v7 h => ?_)
        refine z_istore (lv' := [(7, .int v7), (5, .int ((-1))), (0, .ref (a 0)), (2, .int x2), (3, .int x3), (4, .int x4), (6, .int x6)]) F dX8_bestOf_47 (by decide) rfl ?_
        refine z_sub (lv' := [(0, .ref (a 0)), (2, .int x2), (3, .int x3), (4, .int x4), (5, .int ((-1))), (6, .int x6), (7, .int v7)]) [2, 3, 4, 5, 1, 6, 0] rfl ?_
        refine zM8_bestOf_L49 F ?_ _ _ _ _ h
        intro v15 σ16 h
        refine z_iload (q := 3) F dX8_bestOf_109 rfl ?_
        refine z_iload (q := 4) F dX8_bestOf_111 rfl ?_
        refine z_iconst (v := (-1)) F dX8_bestOf_113 rfl ?_
        refine z_icmp_ne (tgt := 121) F dX8_bestOf_114 rfl (fun c17 => ?_) (fun c17 => ?_)
        · try simp only [if_neg c17] at h
          refine z_iconst (v := 1) F dX8_bestOf_121 rfl ?_
          refine z_iload (q := 4) F dX8_bestOf_122 rfl ?_
          refine z_ishl F dX8_bestOf_124 ?_
          refine z_sub (lv' := [(0, .ref (a 0)), (2, .int x2), (3, .int x3), (5, .int v15), (6, .int x6)]) [0, 1, 2, 4, 5] rfl ?_
          exact zM8_bestOf_J125 F ih h
        · try simp only [if_pos c17] at h
          refine z_iconst (v := 0) F dX8_bestOf_117 rfl ?_
          refine z_goto (tgt := 125) F dX8_bestOf_118 rfl ?_
          refine z_sub (lv' := [(0, .ref (a 0)), (2, .int x2), (3, .int x3), (5, .int v15), (6, .int x6)]) [0, 1, 2, 4, 5] rfl ?_
          exact zM8_bestOf_J125 F ih h
theorem zM8_bestOf {r : Int32} {x1 : Int32} {x2 : Int32} {σ : St} (F : Fx p s m args meth c cX8_bestOf 8 RX8 (some .int) (rmL 5) 0 0 g a) (h : M8_bestOf x1 x2 σ = some (r, σ')) : Z p l e (rmL 5) s m args below meth c (MQ below (QiW g a r σ') args s 0 0 (Ad a)) 8 g a 0 0 σ 0 [(0, .ref (a 0)), (1, .int x1), (2, .int x2)] [] := by
  unfold M8_bestOf at h
  refine z_aload_n (q := 0) F dX8_bestOf_0 rfl rfl ?_
  refine z_iload_n (q := 1) F dX8_bestOf_1 rfl rfl ?_
  obtain ⟨r1, σ1, hq1, h⟩ := bd_of h
  refine cl8_218 F hq1 ⟨Nat.le_of_ble_eq_true rfl, Nat.le_of_ble_eq_true rfl⟩ dX8_bestOf_2 (Nat.le_of_ble_eq_true rfl) ?_
  refine z_aload_n (q := 0) F dX8_bestOf_5 rfl rfl ?_
  obtain ⟨r2, σ2, hq2, h⟩ := bd_of h
  refine cl8_256 F hq2 ⟨Nat.le_of_ble_eq_true rfl, Nat.le_of_ble_eq_true rfl⟩ dX8_bestOf_6 (Nat.le_of_ble_eq_true rfl) ?_
  refine z_istore_n (lv' := [(3, .int r2), (0, .ref (a 0)), (1, .int x1), (2, .int x2)]) F dX8_bestOf_9 rfl (by decide) rfl ?_
  refine z_iconst (v := 0) F dX8_bestOf_10 rfl ?_
  refine z_istore (lv' := [(4, .int 0), (3, .int r2), (0, .ref (a 0)), (1, .int x1), (2, .int x2)]) F dX8_bestOf_11 (by decide) rfl ?_
  refine z_iconst (v := (-1)) F dX8_bestOf_13 rfl ?_
  refine z_istore (lv' := [(5, .int ((-1))), (4, .int 0), (3, .int r2), (0, .ref (a 0)), (1, .int x1), (2, .int x2)]) F dX8_bestOf_14 (by decide) rfl ?_
  refine z_iconst (v := 0) F dX8_bestOf_16 rfl ?_
  refine z_istore (lv' := [(6, .int 0), (5, .int ((-1))), (4, .int 0), (3, .int r2), (0, .ref (a 0)), (1, .int x1), (2, .int x2)]) F dX8_bestOf_17 (by decide) rfl ?_
  refine z_sub (lv' := [(0, .ref (a 0)), (2, .int x2), (3, .int r2), (4, .int 0), (5, .int ((-1))), (6, .int 0)]) [4, 6, 3, 2, 1, 0] rfl ?_
  refine zM8_bestOf_L19 F ?_ _ _ _ _ _ h
  intro v20 σ21 h
  refine z_sub (lv' := [(0, .ref (a 0)), (2, .int x2), (3, .int r2), (5, .int v20)]) [0, 1, 2, 3] rfl ?_
  exact zM8_bestOf_J134 F h
theorem ct8_bestOf {r : Int32} {x1 : Int32} {x2 : Int32} {σ : St} (h : M8_bestOf x1 x2 σ = some (r, σ')) : Met l yX8_bestOf (wsY yX8_bestOf cX8_bestOf 8 (some .int)) (rmL 5) (PcW g a [.ref (a 0), .int x1, .int x2] σ) (QiW g a r σ') 0 0 (Ad a) :=
  ct_I (by decide) (Nat.le_of_ble_eq_true rfl) (fun p e s m args below meth c F => zM8_bestOf F h)
theorem cl8_261 {r : Int32} {x1 : Int32} {x2 : Int32} (F : Fx p s m args meth c cc nL RX8 rt R cz sz g a) (h : M8_bestOf x1 x2 σ = some (r, σ1)) (hR : 5 + 1 ≤ R.frames ∧ 8 + (8 + 11) + 34 * 5 ≤ R.locals) (d : decode cc pc = .ok (.invokevirtual 261, 3)) (hrm : (rest.map fun v => v.category).sum ≤ 8) (z : Z p l e R s m args below meth c Q nL g a cz sz σ1 (pc + 3) lv (.int r :: rest)) : Z p l e R s m args below meth c Q nL g a cz sz σ pc lv (.int x2 :: .int x1 :: .ref (a 0) :: rest) :=
  z_callVI (nA := 2) (As := [.int x1, .int x2]) F (ct8_bestOf h) ⟨(tbm 1154 (by decide +kernel) rfl), (tbm 1156 (by decide +kernel) rfl), (tbs 87 (by decide +kernel) rfl), (tbm 9 (by decide +kernel) rfl), (tbm 1157 (by decide +kernel) rfl)⟩ (by decide +kernel) rfl kdc_0 (by decide) rfl rfl rfl hR d rfl hrm z
end WalkZ
