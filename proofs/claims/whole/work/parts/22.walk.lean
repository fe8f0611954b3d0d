section WalkZ
variable {p : Program} {l : Launch} {e : Env} {R : Room} {s : State} {m : MethodId} {args : Array Value} {below : List Frame} {meth : Method} {c : Code} {Q : State → Prop} {cc : ByteArray} {nL : Nat} {own : String} {rt : Option FieldType} {g : Gd} {a : Nat → Nat} {cz sz : Nat} {σ σ1 σ' : St} {pc : Nat} {lv lv' : List (Nat × Value)} {st st0 rest : List Value}
theorem zM8_best {r : Int32} {x1 : Int32} {x2 : Int32} {σ : St} (F : Fx p s m args meth c cX8_best 3 RX8 (some .int) (rmL 6) 0 0 g a) (h : M8_best x1 x2 σ = some (r, σ')) : Z p l e (rmL 6) s m args below meth c (MQ below (QiW g a r σ') args s 0 0 (Ad a)) 3 g a 0 0 σ 0 [(0, .ref (a 0)), (1, .int x1), (2, .int x2)] [] := by
  unfold M8_best at h
  refine z_aload_n (q := 0) F dX8_best_0 rfl rfl ?_
  obtain ⟨r1, σ1, hq1, h⟩ := bd_of h
  refine cl8_142 F hq1 ⟨Nat.le_of_ble_eq_true rfl, Nat.le_of_ble_eq_true rfl⟩ dX8_best_1 (Nat.le_of_ble_eq_true rfl) ?_
  refine z_iload_n (q := 1) F dX8_best_4 rfl rfl ?_
  obtain ⟨r2, σ2, hq2, h⟩ := bd_of h
  refine cl8_154 F hq2 ⟨Nat.le_of_ble_eq_true rfl, Nat.le_of_ble_eq_true rfl⟩ dX8_best_5 (Nat.le_of_ble_eq_true rfl) ?_
  refine z_if_eq (tgt := 34) F dX8_best_8 rfl (fun c3 => ?_) (fun c3 => ?_)
  · have h := ite_T c3 h
    refine z_bipush (v := (-2)) F dX8_best_34 rfl ?_
    exact z_iret F h dX8_best_36
  · have h := ite_F c3 h
    refine z_iload_n (q := 2) F dX8_best_11 rfl rfl ?_
    refine z_i2l F dX8_best_12 ?_
    refine z_ldc2 (v := (-1)) F dX8_best_13 (tbm 1153 (by decide +kernel) rfl) ?_
    refine z_ldc2 (v := 7) F dX8_best_16 (tbm 1015 (by decide +kernel) rfl) ?_
    obtain ⟨r4, σ4, hq4, h⟩ := bd_of h
    refine cl8_94 F hq4 ⟨Nat.le_of_ble_eq_true rfl, Nat.le_of_ble_eq_true rfl⟩ dX8_best_19 (Nat.le_of_ble_eq_true rfl) ?_
    refine z_if_eq (tgt := 34) F dX8_best_22 rfl (fun c5 => ?_) (fun c5 => ?_)
    · have h := ite_T c5 h
      refine z_bipush (v := (-2)) F dX8_best_34 rfl ?_
      exact z_iret F h dX8_best_36
    · have h := ite_F c5 h
      refine z_aload_n (q := 0) F dX8_best_25 rfl rfl ?_
      refine z_iload_n (q := 1) F dX8_best_26 rfl rfl ?_
      refine z_iload_n (q := 2) F dX8_best_27 rfl rfl ?_
      obtain ⟨r6, σ6, hq6, h⟩ := bd_of h
      refine cl8_261 F hq6 ⟨Nat.le_of_ble_eq_true rfl, Nat.le_of_ble_eq_true rfl⟩ dX8_best_28 (Nat.le_of_ble_eq_true rfl) ?_
      refine z_goto (tgt := 36) F dX8_best_31 rfl ?_
      exact z_iret F h dX8_best_36
theorem ct8_best {r : Int32} {x1 : Int32} {x2 : Int32} {σ : St} (h : M8_best x1 x2 σ = some (r, σ')) : Met l yX8_best (wsY yX8_best cX8_best 3 (some .int)) (rmL 6) (PcW g a [.ref (a 0), .int x1, .int x2] σ) (QiW g a r σ') 0 0 (Ad a) :=
  ct_I (by decide) (Nat.le_of_ble_eq_true rfl) (fun p e s m args below meth c F => zM8_best F h)

theorem zM8_breachesOf_J48 {r : Int32} {x1 : Int32} {x3 : Int32} {y0 : Int32} {y1 : Int32} {σ : St} (F : Fx p s m args meth c cX8_breachesOf 4 RX8 (some .int) (rmL 5) 0 0 g a) {kb : Int32 → Int32 → St → Option (Int32 × St)} (hb : ∀ (w2 : Int32) (w3 : Int32) (σ : St), kb w2 w3 σ = some (r, σ') → Z p l e (rmL 5) s m args below meth c (MQ below (QiW g a r σ') args s 0 0 (Ad a)) 4 g a 0 0 σ 10 [(0, .ref (a 0)), (1, .int x1), (2, .int w2), (3, .int w3)] []) (h : M8_breachesOf_J48 kb x1 x3 y0 y1 σ = some (r, σ')) : Z p l e (rmL 5) s m args below meth c (MQ below (QiW g a r σ') args s 0 0 (Ad a)) 4 g a 0 0 σ 48 [(0, .ref (a 0)), (1, .int x1), (3, .int x3)] [.int y0, .int y1] := by
  unfold M8_breachesOf_J48 at h
  refine z_iadd F dX8_breachesOf_48 ?_
  refine z_letI h (fun v5 h => ?_)
  refine z_istore_n (lv' := [(2, .int v5), (0, .ref (a 0)), (1, .int x1), (3, .int x3)]) F dX8_breachesOf_49 rfl (by decide) rfl ?_
  refine z_iinc (q := 3) (v := x3 + 1) (lv' := [(3, .int (x3 + 1)), (2, .int v5), (0, .ref (a 0)), (1, .int x1)]) F dX8_breachesOf_50 rfl rfl (by decide) rfl ?_
  refine z_letL (s0 := 3) (lv := [(2, .int v5), (0, .ref (a 0)), (1, .int x1)]) h (fun v6 h => ?_)
  refine z_goto (tgt := 10) F dX8_breachesOf_53 rfl ?_
  refine z_sub (lv' := [(0, .ref (a 0)), (1, .int x1), (2, .int v5), (3, .int v6)]) [2, 3, 1, 0] rfl ?_
  exact hb _ _ _ h
theorem zM8_breachesOf_J47 {r : Int32} {x1 : Int32} {x3 : Int32} {y0 : Int32} {σ : St} (F : Fx p s m args meth c cX8_breachesOf 4 RX8 (some .int) (rmL 5) 0 0 g a) {kb : Int32 → Int32 → St → Option (Int32 × St)} (hb : ∀ (w2 : Int32) (w3 : Int32) (σ : St), kb w2 w3 σ = some (r, σ') → Z p l e (rmL 5) s m args below meth c (MQ below (QiW g a r σ') args s 0 0 (Ad a)) 4 g a 0 0 σ 10 [(0, .ref (a 0)), (1, .int x1), (2, .int w2), (3, .int w3)] []) (h : M8_breachesOf_J47 kb x1 x3 y0 σ = some (r, σ')) : Z p l e (rmL 5) s m args below meth c (MQ below (QiW g a r σ') args s 0 0 (Ad a)) 4 g a 0 0 σ 47 [(0, .ref (a 0)), (1, .int x1), (3, .int x3)] [.int y0] := by
  unfold M8_breachesOf_J47 at h
  refine z_iconst (v := 0) F dX8_breachesOf_47 rfl ?_
  refine z_sub (lv' := [(0, .ref (a 0)), (1, .int x1), (3, .int x3)]) [0, 1, 2] rfl ?_
  exact zM8_breachesOf_J48 F hb h
theorem zM8_breachesOf_L10 {r : Int32} {x1 : Int32} (F : Fx p s m args meth c cX8_breachesOf 4 RX8 (some .int) (rmL 5) 0 0 g a) {kx : Int32 → St → Option (Int32 × St)} (hx : ∀ (w2 : Int32) (σ : St), kx w2 σ = some (r, σ') → Z p l e (rmL 5) s m args below meth c (MQ below (QiW g a r σ') args s 0 0 (Ad a)) 4 g a 0 0 σ 56 [(2, .int w2)] []) : ∀ (n : Nat) (x2 : Int32) (x3 : Int32) (σ : St), M8_breachesOf_L10 x1 kx n x2 x3 σ = some (r, σ') → Z p l e (rmL 5) s m args below meth c (MQ below (QiW g a r σ') args s 0 0 (Ad a)) 4 g a 0 0 σ 10 [(0, .ref (a 0)), (1, .int x1), (2, .int x2), (3, .int x3)] [] := by
  intro n
  induction n with
  | zero => intro x2 x3 σ h; rw [M8_breachesOf_L10] at h; cases h
  | succ n ih =>
    intro x2 x3 σ h
    rw [M8_breachesOf_L10] at h
    refine z_iload_n (q := 3) F dX8_breachesOf_10 rfl rfl ?_
    refine z_aload_n (q := 0) F dX8_breachesOf_11 rfl rfl ?_
    refine gf8_151 F kdc_0 dX8_breachesOf_12 ?_
    refine z_icmp_ge (tgt := 56) F dX8_breachesOf_15 rfl (fun c2 => ?_) (fun c2 => ?_)
    · have h := ite_T c2 h
      refine z_sub (lv' := [(2, .int x2)]) [2] rfl ?_
      exact hx _ _ h
    · have h := ite_F c2 h
      refine z_iload_n (q := 2) F dX8_breachesOf_18 rfl rfl ?_
      refine z_aload_n (q := 0) F dX8_breachesOf_19 rfl rfl ?_
      refine gf8_61 F kdc_0 dX8_breachesOf_20 ?_
      refine z_iload_n (q := 3) F dX8_breachesOf_23 rfl rfl ?_
      obtain ⟨g3, h⟩ := gd_of h
      refine z_iald F kdc_18 (inl lnc_18 g3) dX8_breachesOf_24 ?_
      refine z_iconst (v := (-1)) F dX8_breachesOf_25 rfl ?_
      refine z_icmp_eq (tgt := 47) F dX8_breachesOf_26 rfl (fun c4 => ?_) (fun c4 => ?_)
      · have h := ite_T c4 h
        refine z_sub (lv' := [(0, .ref (a 0)), (1, .int x1), (3, .int x3)]) [0, 1, 3] rfl ?_
        exact zM8_breachesOf_J47 F ih h
      · have h := ite_F c4 h
        refine z_aload_n (q := 0) F dX8_breachesOf_29 rfl rfl ?_
        refine gf8_34 F kdc_0 dX8_breachesOf_30 ?_
        refine z_iconst (v := 4) F dX8_breachesOf_33 rfl ?_
        refine z_iload_n (q := 3) F dX8_breachesOf_34 rfl rfl ?_
        refine z_imul F dX8_breachesOf_35 ?_
        refine z_iconst (v := 2) F dX8_breachesOf_36 rfl ?_
        refine z_iadd F dX8_breachesOf_37 ?_
        obtain ⟨g7, h⟩ := gd_of h
        refine z_iald F kdc_9 (inl lnc_9 g7) dX8_breachesOf_38 ?_
        refine z_iload_n (q := 1) F dX8_breachesOf_39 rfl rfl ?_
        refine z_icmp_ne (tgt := 47) F dX8_breachesOf_40 rfl (fun c8 => ?_) (fun c8 => ?_)
        · have h := ite_F c8 h
          refine z_sub (lv' := [(0, .ref (a 0)), (1, .int x1), (3, .int x3)]) [0, 1, 3] rfl ?_
          exact zM8_breachesOf_J47 F ih h
        · have h := ite_T c8 h
          refine z_iconst (v := 1) F dX8_breachesOf_43 rfl ?_
          refine z_goto (tgt := 48) F dX8_breachesOf_44 rfl ?_
          refine z_sub (lv' := [(0, .ref (a 0)), (1, .int x1), (3, .int x3)]) [0, 1, 3] rfl ?_
          exact zM8_breachesOf_J48 F ih h
theorem zM8_breachesOf {r : Int32} {x1 : Int32} {σ : St} (F : Fx p s m args meth c cX8_breachesOf 4 RX8 (some .int) (rmL 5) 0 0 g a) (h : M8_breachesOf x1 σ = some (r, σ')) : Z p l e (rmL 5) s m args below meth c (MQ below (QiW g a r σ') args s 0 0 (Ad a)) 4 g a 0 0 σ 0 [(0, .ref (a 0)), (1, .int x1)] [] := by
  unfold M8_breachesOf at h
  refine z_aload_n (q := 0) F dX8_breachesOf_0 rfl rfl ?_
  refine z_bipush (v := 39) F dX8_breachesOf_1 rfl ?_
  obtain ⟨r1, σ1, hq1, h⟩ := bd_of h
  refine cl8_218 F hq1 ⟨Nat.le_of_ble_eq_true rfl, Nat.le_of_ble_eq_true rfl⟩ dX8_breachesOf_3 (Nat.le_of_ble_eq_true rfl) ?_
  refine z_iconst (v := 0) F dX8_breachesOf_6 rfl ?_
  refine z_istore_n (lv' := [(2, .int 0), (0, .ref (a 0)), (1, .int x1)]) F dX8_breachesOf_7 rfl (by decide) rfl ?_
  refine z_iconst (v := 0) F dX8_breachesOf_8 rfl ?_
  refine z_istore_n (lv' := [(3, .int 0), (2, .int 0), (0, .ref (a 0)), (1, .int x1)]) F dX8_breachesOf_9 rfl (by decide) rfl ?_
  refine z_sub (lv' := [(0, .ref (a 0)), (1, .int x1), (2, .int 0), (3, .int 0)]) [2, 3, 1, 0] rfl ?_
  refine zM8_breachesOf_L10 F ?_ _ _ _ _ h
  intro v9 σ10 h
  refine z_iload_n (q := 0) F dX8_breachesOf_56 rfl rfl ?_
  exact z_iret F h dX8_breachesOf_57
theorem ct8_breachesOf {r : Int32} {x1 : Int32} {σ : St} (h : M8_breachesOf x1 σ = some (r, σ')) : Met l yX8_breachesOf (wsY yX8_breachesOf cX8_breachesOf 4 (some .int)) (rmL 5) (PcW g a [.ref (a 0), .int x1] σ) (QiW g a r σ') 0 0 (Ad a) :=
  ct_I (by decide) (Nat.le_of_ble_eq_true rfl) (fun p e s m args below meth c F => zM8_breachesOf F h)
theorem cl8_234 {r : Int32} {x1 : Int32} (F : Fx p s m args meth c cc nL RX8 rt R cz sz g a) (h : M8_breachesOf x1 σ = some (r, σ1)) (hR : 5 + 1 ≤ R.frames ∧ 8 + (4 + 11) + 34 * 5 ≤ R.locals) (d : decode cc pc = .ok (.invokevirtual 234, 3)) (hrm : (rest.map fun v => v.category).sum ≤ 8) (z : Z p l e R s m args below meth c Q nL g a cz sz σ1 (pc + 3) lv (.int r :: rest)) : Z p l e R s m args below meth c Q nL g a cz sz σ pc lv (.int x1 :: .ref (a 0) :: rest) :=
  z_callVI (nA := 1) (As := [.int x1]) F (ct8_breachesOf h) ⟨(tbm 1121 (by decide +kernel) rfl), (tbm 1123 (by decide +kernel) rfl), (tbs 82 (by decide +kernel) rfl), (tbm 9 (by decide +kernel) rfl), (tbm 1124 (by decide +kernel) rfl)⟩ (by decide +kernel) rfl kdc_0 (by decide) rfl rfl rfl hR d rfl hrm z
theorem zM8_breaches {r : Int32} {x1 : Int32} {σ : St} (F : Fx p s m args meth c cX8_breaches 2 RX8 (some .int) (rmL 6) 0 0 g a) (h : M8_breaches x1 σ = some (r, σ')) : Z p l e (rmL 6) s m args below meth c (MQ below (QiW g a r σ') args s 0 0 (Ad a)) 2 g a 0 0 σ 0 [(0, .ref (a 0)), (1, .int x1)] [] := by
  unfold M8_breaches at h
  refine z_aload_n (q := 0) F dX8_breaches_0 rfl rfl ?_
  obtain ⟨r1, σ1, hq1, h⟩ := bd_of h
  refine cl8_142 F hq1 ⟨Nat.le_of_ble_eq_true rfl, Nat.le_of_ble_eq_true rfl⟩ dX8_breaches_1 (Nat.le_of_ble_eq_true rfl) ?_
  refine z_iload_n (q := 1) F dX8_breaches_4 rfl rfl ?_
  refine z_i2l F dX8_breaches_5 ?_
  refine z_lconst (v := 0) F dX8_breaches_6 rfl ?_
  refine z_ldc2 (v := 5) F dX8_breaches_7 (tbm 1016 (by decide +kernel) rfl) ?_
  obtain ⟨r2, σ2, hq2, h⟩ := bd_of h
  refine cl8_94 F hq2 ⟨Nat.le_of_ble_eq_true rfl, Nat.le_of_ble_eq_true rfl⟩ dX8_breaches_10 (Nat.le_of_ble_eq_true rfl) ?_
  refine z_if_eq (tgt := 24) F dX8_breaches_13 rfl (fun c3 => ?_) (fun c3 => ?_)
  · have h := ite_T c3 h
    refine z_bipush (v := (-2)) F dX8_breaches_24 rfl ?_
    exact z_iret F h dX8_breaches_26
  · have h := ite_F c3 h
    refine z_aload_n (q := 0) F dX8_breaches_16 rfl rfl ?_
    refine z_iload_n (q := 1) F dX8_breaches_17 rfl rfl ?_
    obtain ⟨r4, σ4, hq4, h⟩ := bd_of h
    refine cl8_234 F hq4 ⟨Nat.le_of_ble_eq_true rfl, Nat.le_of_ble_eq_true rfl⟩ dX8_breaches_18 (Nat.le_of_ble_eq_true rfl) ?_
    refine z_goto (tgt := 26) F dX8_breaches_21 rfl ?_
    exact z_iret F h dX8_breaches_26
theorem ct8_breaches {r : Int32} {x1 : Int32} {σ : St} (h : M8_breaches x1 σ = some (r, σ')) : Met l yX8_breaches (wsY yX8_breaches cX8_breaches 2 (some .int)) (rmL 6) (PcW g a [.ref (a 0), .int x1] σ) (QiW g a r σ') 0 0 (Ad a) :=
  ct_I (by decide) (Nat.le_of_ble_eq_true rfl) (fun p e s m args below meth c F => zM8_breaches F h)

theorem zM8_callOf_J156 {r : Int32} {x3 : Int32} {σ : St} (F : Fx p s m args meth c cX8_callOf 9 RX8 (some .int) (rmL 6) 0 0 g a) (h : M8_callOf_J156 x3 σ = some (r, σ')) : Z p l e (rmL 6) s m args below meth c (MQ below (QiW g a r σ') args s 0 0 (Ad a)) 9 g a 0 0 σ 156 [(3, .int x3)] [] := by
  unfold M8_callOf_J156 at h
  refine z_iload_n (q := 0) F dX8_callOf_156 rfl rfl ?_
  refine z_goto (tgt := 169) F dX8_callOf_157 rfl ?_
  exact z_iret F h dX8_callOf_169
theorem zM8_callOf_J141 {r : Int32} {x1 : Int32} {x2 : Int32} {x3 : Int32} {x4 : Int32} {x5 : Int32} {σ : St} (F : Fx p s m args meth c cX8_callOf 9 RX8 (some .int) (rmL 6) 0 0 g a) {kb : Int32 → Int32 → Int32 → St → Option (Int32 × St)} (hb : ∀ (w3 : Int32) (w4 : Int32) (w5 : Int32) (σ : St), kb w3 w4 w5 σ = some (r, σ') → Z p l e (rmL 6) s m args below meth c (MQ below (QiW g a r σ') args s 0 0 (Ad a)) 9 g a 0 0 σ 8 [(0, .ref (a 0)), (1, .int x1), (2, .int x2), (3, .int w3), (4, .int w4), (5, .int w5)] []) (h : M8_callOf_J141 kb x1 x2 x3 x4 x5 σ = some (r, σ')) : Z p l e (rmL 6) s m args below meth c (MQ below (QiW g a r σ') args s 0 0 (Ad a)) 9 g a 0 0 σ 141 [(0, .ref (a 0)), (1, .int x1), (2, .int x2), (3, .int x3), (4, .int x4), (5, .int x5)] [] := by
  unfold M8_callOf_J141 at h
  refine z_iinc (q := 5) (v := x5 + 1) (lv' := [(5, .int (x5 + 1)), (0, .ref (a 0)), (1, .int x1), (2, .int x2), (3, .int x3), (4, .int x4)]) F dX8_callOf_141 rfl rfl (by decide) rfl ?_
  refine z_letL (s0 := 5) (lv := [(0, .ref (a 0)), (1, .int x1), (2, .int x2), (3, .int x3), (4, .int x4)]) h (fun v12 h => ?_)
  refine z_goto (tgt := 8) F dX8_callOf_144 rfl ?_
  refine z_sub (lv' := [(0, .ref (a 0)), (1, .int x1), (2, .int x2), (3, .int x3), (4, .int x4), (5, .int v12)]) [1, 2, 3, 4, 5, 0] rfl ?_
  exact hb _ _ _ _ h
theorem zM8_callOf_J139 {r : Int32} {x1 : Int32} {x2 : Int32} {x3 : Int32} {x5 : Int32} {y0 : Int32} {σ : St} (F : Fx p s m args meth c cX8_callOf 9 RX8 (some .int) (rmL 6) 0 0 g a) {kb : Int32 → Int32 → Int32 → St → Option (Int32 × St)} (hb : ∀ (w3 : Int32) (w4 : Int32) (w5 : Int32) (σ : St), kb w3 w4 w5 σ = some (r, σ') → Z p l e (rmL 6) s m args below meth c (MQ below (QiW g a r σ') args s 0 0 (Ad a)) 9 g a 0 0 σ 8 [(0, .ref (a 0)), (1, .int x1), (2, .int x2), (3, .int w3), (4, .int w4), (5, .int w5)] []) (h : M8_callOf_J139 kb x1 x2 x3 x5 y0 σ = some (r, σ')) : Z p l e (rmL 6) s m args below meth c (MQ below (QiW g a r σ') args s 0 0 (Ad a)) 9 g a 0 0 σ 139 [(0, .ref (a 0)), (1, .int x1), (2, .int x2), (3, .int x3), (5, .int x5)] [.int y0] := by
  unfold M8_callOf_J139 at h
  refine z_istore (lv' := [(4, .int y0), (0, .ref (a 0)), (1, .int x1), (2, .int x2), (3, .int x3), (5, .int x5)]) F dX8_callOf_139 (by decide) rfl ?_
  refine z_sub (lv' := [(0, .ref (a 0)), (1, .int x1), (2, .int x2), (3, .int x3), (4, .int y0), (5, .int x5)]) [1, 2, 3, 4, 0, 5] rfl ?_
  exact zM8_callOf_J141 F hb h
theorem zM8_callOf_J126 {r : Int32} {x1 : Int32} {x2 : Int32} {x4 : Int32} {x5 : Int32} {x7 : Int32} {x8 : Int32} {y0 : Int32} {σ : St} (F : Fx p s m args meth c cX8_callOf 9 RX8 (some .int) (rmL 6) 0 0 g a) {kb : Int32 → Int32 → Int32 → St → Option (Int32 × St)} (hb : ∀ (w3 : Int32) (w4 : Int32) (w5 : Int32) (σ : St), kb w3 w4 w5 σ = some (r, σ') → Z p l e (rmL 6) s m args below meth c (MQ below (QiW g a r σ') args s 0 0 (Ad a)) 9 g a 0 0 σ 8 [(0, .ref (a 0)), (1, .int x1), (2, .int x2), (3, .int w3), (4, .int w4), (5, .int w5)] []) (h : M8_callOf_J126 kb x1 x2 x4 x5 x7 x8 y0 σ = some (r, σ')) : Z p l e (rmL 6) s m args below meth c (MQ below (QiW g a r σ') args s 0 0 (Ad a)) 9 g a 0 0 σ 126 [(0, .ref (a 0)), (1, .int x1), (2, .int x2), (4, .int x4), (5, .int x5), (7, .int x7), (8, .int x8)] [.int y0] := by
  unfold M8_callOf_J126 at h
  refine z_istore_n (lv' := [(3, .int y0), (0, .ref (a 0)), (1, .int x1), (2, .int x2), (4, .int x4), (5, .int x5), (7, .int x7), (8, .int x8)]) F dX8_callOf_126 rfl (by decide) rfl ?_
  refine z_iload (q := 7) F dX8_callOf_127 rfl ?_
  refine z_if_eq (tgt := 137) F dX8_callOf_129 rfl (fun c19 => ?_) (fun c19 => ?_)
  · try simp only [if_pos c19] at h
    refine z_iload (q := 4) F dX8_callOf_137 rfl ?_
    refine z_sub (lv' := [(0, .ref (a 0)), (1, .int x1), (2, .int x2), (3, .int y0), (5, .int x5)]) [1, 2, 3, 0, 5] rfl ?_
    exact zM8_callOf_J139 F hb h
  · try simp only [if_neg c19] at h
    refine z_iload (q := 6) F dX8_callOf_132 rfl ?_
    refine z_goto (tgt := 139) F dX8_callOf_134 rfl ?_
    refine z_sub (lv' := [(0, .ref (a 0)), (1, .int x1), (2, .int x2), (3, .int y0), (5, .int x5)]) [1, 2, 3, 0, 5] rfl ?_
    exact zM8_callOf_J139 F hb h
theorem zM8_callOf_J113 {r : Int32} {x1 : Int32} {x2 : Int32} {x3 : Int32} {x4 : Int32} {x5 : Int32} {x7 : Int32} {y0 : Int32} {σ : St} (F : Fx p s m args meth c cX8_callOf 9 RX8 (some .int) (rmL 6) 0 0 g a) {kb : Int32 → Int32 → Int32 → St → Option (Int32 × St)} (hb : ∀ (w3 : Int32) (w4 : Int32) (w5 : Int32) (σ : St), kb w3 w4 w5 σ = some (r, σ') → Z p l e (rmL 6) s m args below meth c (MQ below (QiW g a r σ') args s 0 0 (Ad a)) 9 g a 0 0 σ 8 [(0, .ref (a 0)), (1, .int x1), (2, .int x2), (3, .int w3), (4, .int w4), (5, .int w5)] []) (h : M8_callOf_J113 kb x1 x2 x3 x4 x5 x7 y0 σ = some (r, σ')) : Z p l e (rmL 6) s m args below meth c (MQ below (QiW g a r σ') args s 0 0 (Ad a)) 9 g a 0 0 σ 113 [(0, .ref (a 0)), (1, .int x1), (2, .int x2), (3, .int x3), (4, .int x4), (5, .int x5), (7, .int x7)] [.int y0] := by
  unfold M8_callOf_J113 at h
  refine z_istore (lv' := [(8, .int y0), (0, .ref (a 0)), (1, .int x1), (2, .int x2), (3, .int x3), (4, .int x4), (5, .int x5), (7, .int x7)]) F dX8_callOf_113 (by decide) rfl ?_
  refine z_iload (q := 0) F dX8_callOf_115 rfl ?_
  refine z_if_eq (tgt := 125) F dX8_callOf_117 rfl (fun c18 => ?_) (fun c18 => ?_)
  · try simp only [if_pos c18] at h
    refine z_iload_n (q := 4) F dX8_callOf_125 rfl rfl ?_
    refine z_sub (lv' := [(0, .ref (a 0)), (1, .int x1), (2, .int x2), (4, .int x4), (5, .int x5), (7, .int x7), (8, .int y0)]) [1, 2, 3, 5, 6, 7, 0] rfl ?_
    exact zM8_callOf_J126 F hb h
  · try simp only [if_neg c18] at h
    refine z_iload (q := 6) F dX8_callOf_120 rfl ?_
    refine z_goto (tgt := 126) F dX8_callOf_122 rfl ?_
    refine z_sub (lv' := [(0, .ref (a 0)), (1, .int x1), (2, .int x2), (4, .int x4), (5, .int x5), (7, .int x7), (8, .int y0)]) [1, 2, 3, 5, 6, 7, 0] rfl ?_
    exact zM8_callOf_J126 F hb h
theorem zM8_callOf_J108 {r : Int32} {x1 : Int32} {x2 : Int32} {x3 : Int32} {x4 : Int32} {x5 : Int32} {x7 : Int32} {σ : St} (F : Fx p s m args meth c cX8_callOf 9 RX8 (some .int) (rmL 6) 0 0 g a) {kb : Int32 → Int32 → Int32 → St → Option (Int32 × St)} (hb : ∀ (w3 : Int32) (w4 : Int32) (w5 : Int32) (σ : St), kb w3 w4 w5 σ = some (r, σ') → Z p l e (rmL 6) s m args below meth c (MQ below (QiW g a r σ') args s 0 0 (Ad a)) 9 g a 0 0 σ 8 [(0, .ref (a 0)), (1, .int x1), (2, .int x2), (3, .int w3), (4, .int w4), (5, .int w5)] []) (h : M8_callOf_J108 kb x1 x2 x3 x4 x5 x7 σ = some (r, σ')) : Z p l e (rmL 6) s m args below meth c (MQ below (QiW g a r σ') args s 0 0 (Ad a)) 9 g a 0 0 σ 108 [(0, .ref (a 0)), (1, .int x1), (2, .int x2), (3, .int x3), (4, .int x4), (5, .int x5), (7, .int x7)] [] := by
  unfold M8_callOf_J108 at h
  refine z_iconst (v := 1) F dX8_callOf_108 rfl ?_
  refine z_goto (tgt := 113) F dX8_callOf_109 rfl ?_
  refine z_sub (lv' := [(0, .ref (a 0)), (1, .int x1), (2, .int x2), (3, .int x3), (4, .int x4), (5, .int x5), (7, .int x7)]) [0, 1, 2, 3, 4, 5, 6] rfl ?_
  exact zM8_callOf_J113 F hb h
theorem zM8_callOf_J61 {r : Int32} {x1 : Int32} {x2 : Int32} {x3 : Int32} {x4 : Int32} {x5 : Int32} {x7 : Int32} {y0 : Int32} {σ : St} (F : Fx p s m args meth c cX8_callOf 9 RX8 (some .int) (rmL 6) 0 0 g a) {kb : Int32 → Int32 → St → Option (Int32 × St)} (hb : ∀ (w6 : Int32) (w7 : Int32) (σ : St), kb w6 w7 σ = some (r, σ') → Z p l e (rmL 6) s m args below meth c (MQ below (QiW g a r σ') args s 0 0 (Ad a)) 9 g a 0 0 σ 28 [(0, .ref (a 0)), (1, .int x1), (2, .int x2), (3, .int x3), (4, .int x4), (5, .int x5), (6, .int w6), (7, .int w7)] []) (h : M8_callOf_J61 kb x1 x2 x3 x4 x5 x7 y0 σ = some (r, σ')) : Z p l e (rmL 6) s m args below meth c (MQ below (QiW g a r σ') args s 0 0 (Ad a)) 9 g a 0 0 σ 61 [(0, .ref (a 0)), (1, .int x1), (2, .int x2), (3, .int x3), (4, .int x4), (5, .int x5), (7, .int x7)] [.int y0] := by
  unfold M8_callOf_J61 at h
  refine z_istore (lv' := [(6, .int y0), (0, .ref (a 0)), (1, .int x1), (2, .int x2), (3, .int x3), (4, .int x4), (5, .int x5), (7, .int x7)]) F dX8_callOf_61 (by decide) rfl ?_
  refine z_iinc (q := 7) (v := x7 + 1) (lv' := [(7, .int (x7 + 1)), (6, .int y0), (0, .ref (a 0)), (1, .int x1), (2, .int x2), (3, .int x3), (4, .int x4), (5, .int x5)]) F dX8_callOf_63 rfl rfl (by decide) rfl ?_
  refine z_letL (s0 := 7) (lv := [(6, .int y0), (0, .ref (a 0)), (1, .int x1), (2, .int x2), (3, .int x3), (4, .int x4), (5, .int x5)]) h (fun v6 h => ?_)
  refine z_goto (tgt := 28) F dX8_callOf_66 rfl ?_
  refine z_sub (lv' := [(0, .ref (a 0)), (1, .int x1), (2, .int x2), (3, .int x3), (4, .int x4), (5, .int x5), (6, .int y0), (7, .int v6)]) [2, 3, 4, 5, 6, 7, 1, 0] rfl ?_
  exact hb _ _ _ h
theorem zM8_callOf_J56 {r : Int32} {x1 : Int32} {x2 : Int32} {x3 : Int32} {x4 : Int32} {x5 : Int32} {x7 : Int32} {σ : St} (F : Fx p s m args meth c cX8_callOf 9 RX8 (some .int) (rmL 6) 0 0 g a) {kb : Int32 → Int32 → St → Option (Int32 × St)} (hb : ∀ (w6 : Int32) (w7 : Int32) (σ : St), kb w6 w7 σ = some (r, σ') → Z p l e (rmL 6) s m args below meth c (MQ below (QiW g a r σ') args s 0 0 (Ad a)) 9 g a 0 0 σ 28 [(0, .ref (a 0)), (1, .int x1), (2, .int x2), (3, .int x3), (4, .int x4), (5, .int x5), (6, .int w6), (7, .int w7)] []) (h : M8_callOf_J56 kb x1 x2 x3 x4 x5 x7 σ = some (r, σ')) : Z p l e (rmL 6) s m args below meth c (MQ below (QiW g a r σ') args s 0 0 (Ad a)) 9 g a 0 0 σ 56 [(0, .ref (a 0)), (1, .int x1), (2, .int x2), (3, .int x3), (4, .int x4), (5, .int x5), (7, .int x7)] [] := by
  unfold M8_callOf_J56 at h
  refine z_iconst (v := 1) F dX8_callOf_56 rfl ?_
  refine z_goto (tgt := 61) F dX8_callOf_57 rfl ?_
  refine z_sub (lv' := [(0, .ref (a 0)), (1, .int x1), (2, .int x2), (3, .int x3), (4, .int x4), (5, .int x5), (7, .int x7)]) [0, 1, 2, 3, 4, 5, 6] rfl ?_
  exact zM8_callOf_J61 F hb h
theorem zM8_callOf_L28 {r : Int32} {x1 : Int32} {x2 : Int32} {x3 : Int32} {x4 : Int32} {x5 : Int32} (F : Fx p s m args meth c cX8_callOf 9 RX8 (some .int) (rmL 6) 0 0 g a) {kx : Int32 → St → Option (Int32 × St)} (hx : ∀ (w6 : Int32) (σ : St), kx w6 σ = some (r, σ') → Z p l e (rmL 6) s m args below meth c (MQ below (QiW g a r σ') args s 0 0 (Ad a)) 9 g a 0 0 σ 69 [(0, .ref (a 0)), (1, .int x1), (2, .int x2), (3, .int x3), (4, .int x4), (5, .int x5), (6, .int w6)] []) : ∀ (n : Nat) (x6 : Int32) (x7 : Int32) (σ : St), M8_callOf_L28 x1 x2 x3 x4 x5 kx n x6 x7 σ = some (r, σ') → Z p l e (rmL 6) s m args below meth c (MQ below (QiW g a r σ') args s 0 0 (Ad a)) 9 g a 0 0 σ 28 [(0, .ref (a 0)), (1, .int x1), (2, .int x2), (3, .int x3), (4, .int x4), (5, .int x5), (6, .int x6), (7, .int x7)] [] := by
  intro n
  induction n with
  | zero => intro x6 x7 σ h; rw [M8_callOf_L28] at h; cases h
  | succ n ih =>
    intro x6 x7 σ h
    rw [M8_callOf_L28] at h
    refine z_iload (q := 7) F dX8_callOf_28 rfl ?_
    refine z_aload_n (q := 0) F dX8_callOf_30 rfl rfl ?_
    refine gf8_28 F kdc_0 dX8_callOf_31 ?_
    refine z_iconst (v := 0) F dX8_callOf_34 rfl ?_
    refine z_ialdC (j := 0) F kdc_7 (inl lnc_7 (by decide)) (by decide) dX8_callOf_35 ?_
    refine z_icmp_ge (tgt := 69) F dX8_callOf_36 rfl (fun c4 => ?_) (fun c4 => ?_)
    · have h := ite_T c4 h
      refine z_sub (lv' := [(0, .ref (a 0)), (1, .int x1), (2, .int x2), (3, .int x3), (4, .int x4), (5, .int x5), (6, .int x6)]) [0, 1, 2, 3, 4, 5, 6] rfl ?_
      exact hx _ _ h
    · have h := ite_F c4 h
      refine z_iload (q := 6) F dX8_callOf_39 rfl ?_
      refine z_if_ne (tgt := 56) F dX8_callOf_41 rfl (fun c5 => ?_) (fun c5 => ?_)
      · have h := ite_F c5 h
        refine z_sub (lv' := [(0, .ref (a 0)), (1, .int x1), (2, .int x2), (3, .int x3), (4, .int x4), (5, .int x5), (7, .int x7)]) [0, 1, 2, 3, 4, 5, 7] rfl ?_
        exact zM8_callOf_J56 F ih h
      · have h := ite_T c5 h
        refine z_aload_n (q := 0) F dX8_callOf_44 rfl rfl ?_
        refine gf8_49 F kdc_0 dX8_callOf_45 ?_
        refine z_iload (q := 7) F dX8_callOf_48 rfl ?_
        obtain ⟨g7, h⟩ := gd_of h
        refine z_iald F kdc_14 (inl lnc_14 g7) dX8_callOf_50 ?_
        refine z_iload (q := 5) F dX8_callOf_51 rfl ?_
        refine z_icmp_ne (tgt := 60) F dX8_callOf_53 rfl (fun c8 => ?_) (fun c8 => ?_)
        · have h := ite_F c8 h
          refine z_iconst (v := 0) F dX8_callOf_60 rfl ?_
          refine z_sub (lv' := [(0, .ref (a 0)), (1, .int x1), (2, .int x2), (3, .int x3), (4, .int x4), (5, .int x5), (7, .int x7)]) [0, 1, 2, 3, 4, 5, 7] rfl ?_
          exact zM8_callOf_J61 F ih h
        · have h := ite_T c8 h
          refine z_sub (lv' := [(0, .ref (a 0)), (1, .int x1), (2, .int x2), (3, .int x3), (4, .int x4), (5, .int x5), (7, .int x7)]) [0, 1, 2, 3, 4, 5, 7] rfl ?_
          exact zM8_callOf_J56 F ih h
theorem zM8_callOf_L8 {r : Int32} {x1 : Int32} {x2 : Int32} (F : Fx p s m args meth c cX8_callOf 9 RX8 (some .int) (rmL 6) 0 0 g a) {kx : Int32 → Int32 → St → Option (Int32 × St)} (hx : ∀ (w3 : Int32) (w4 : Int32) (σ : St), kx w3 w4 σ = some (r, σ') → Z p l e (rmL 6) s m args below meth c (MQ below (QiW g a r σ') args s 0 0 (Ad a)) 9 g a 0 0 σ 147 [(0, .ref (a 0)), (1, .int x1), (2, .int x2), (3, .int w3), (4, .int w4)] []) : ∀ (n : Nat) (x3 : Int32) (x4 : Int32) (x5 : Int32) (σ : St), M8_callOf_L8 x1 x2 kx n x3 x4 x5 σ = some (r, σ') → Z p l e (rmL 6) s m args below meth c (MQ below (QiW g a r σ') args s 0 0 (Ad a)) 9 g a 0 0 σ 8 [(0, .ref (a 0)), (1, .int x1), (2, .int x2), (3, .int x3), (4, .int x4), (5, .int x5)] [] := by
  intro n
  induction n with
  | zero => intro x3 x4 x5 σ h; rw [M8_callOf_L8] at h; cases h
  | succ n ih =>
    intro x3 x4 x5 σ h
    rw [M8_callOf_L8] at h
    refine z_iload (q := 5) F dX8_callOf_8 rfl ?_
    refine z_aload_n (q := 0) F dX8_callOf_10 rfl rfl ?_
    refine gf8_151 F kdc_0 dX8_callOf_11 ?_
    refine z_icmp_ge (tgt := 147) F dX8_callOf_14 rfl (fun c1 => ?_) (fun c1 => ?_)
    · have h := ite_T c1 h
      refine z_sub (lv' := [(0, .ref (a 0)), (1, .int x1), (2, .int x2), (3, .int x3), (4, .int x4)]) [0, 1, 2, 3, 4] rfl ?_
      exact hx _ _ _ h
    · have h := ite_F c1 h
      refine z_aload_n (q := 0) F dX8_callOf_17 rfl rfl ?_
      refine z_iload_n (q := 1) F dX8_callOf_18 rfl rfl ?_
      obtain ⟨r2, σ2, hq2, h⟩ := bd_of h
      refine cl8_218 F hq2 ⟨Nat.le_of_ble_eq_true rfl, Nat.le_of_ble_eq_true rfl⟩ dX8_callOf_19 (Nat.le_of_ble_eq_true rfl) ?_
      refine z_iconst (v := 0) F dX8_callOf_22 rfl ?_
      refine z_istore (lv' := [(6, .int 0), (0, .ref (a 0)), (1, .int x1), (2, .int x2), (3, .int x3), (4, .int x4), (5, .int x5)]) F dX8_callOf_23 (by decide) rfl ?_
      refine z_iconst (v := 0) F dX8_callOf_25 rfl ?_
      refine z_istore (lv' := [(7, .int 0), (6, .int 0), (0, .ref (a 0)), (1, .int x1), (2, .int x2), (3, .int x3), (4, .int x4), (5, .int x5)]) F dX8_callOf_26 (by decide) rfl ?_
      refine z_sub (lv' := [(0, .ref (a 0)), (1, .int x1), (2, .int x2), (3, .int x3), (4, .int x4), (5, .int x5), (6, .int 0), (7, .int 0)]) [2, 3, 4, 5, 6, 7, 1, 0] rfl ?_
      refine zM8_callOf_L28 F ?_ _ _ _ _ h
      intro v9 σ10 h
      refine z_iload (q := 6) F dX8_callOf_69 rfl ?_
      refine z_if_eq (tgt := 141) F dX8_callOf_71 rfl (fun c11 => ?_) (fun c11 => ?_)
      · have h := ite_T c11 h
        refine z_sub (lv' := [(0, .ref (a 0)), (1, .int x1), (2, .int x2), (3, .int x3), (4, .int x4), (5, .int x5)]) [0, 1, 2, 3, 4, 5] rfl ?_
        exact zM8_callOf_J141 F ih h
      · have h := ite_F c11 h
        refine z_aload_n (q := 0) F dX8_callOf_74 rfl rfl ?_
        refine z_iload (q := 5) F dX8_callOf_75 rfl ?_
        refine pf8_86 F kdc_0 dX8_callOf_77 ?_
        refine z_let h (fun σ13 h => ?_)
        refine z_aload_n (q := 0) F dX8_callOf_80 rfl rfl ?_
        refine z_iload_n (q := 1) F dX8_callOf_81 rfl rfl ?_
        obtain ⟨r14, σ14, hq14, h⟩ := bd_of h
        refine cl8_218 F hq14 ⟨Nat.le_of_ble_eq_true rfl, Nat.le_of_ble_eq_true rfl⟩ dX8_callOf_82 (Nat.le_of_ble_eq_true rfl) ?_
        refine z_aload_n (q := 0) F dX8_callOf_85 rfl rfl ?_
        refine z_iconst (v := (-1)) F dX8_callOf_86 rfl ?_
        refine pf8_86 F kdc_0 dX8_callOf_87 ?_
        refine z_let h (fun σ15 h => ?_)
        refine z_aload_n (q := 0) F dX8_callOf_90 rfl rfl ?_
        obtain ⟨r16, σ16, hq16, h⟩ := bd_of h
        refine cl8_256 F hq16 ⟨Nat.le_of_ble_eq_true rfl, Nat.le_of_ble_eq_true rfl⟩ dX8_callOf_91 (Nat.le_of_ble_eq_true rfl) ?_
        refine z_istore (lv' := [(7, .int r16), (0, .ref (a 0)), (1, .int x1), (2, .int x2), (3, .int x3), (4, .int x4), (5, .int x5), (6, .int v9)]) F dX8_callOf_94 (by decide) rfl ?_
        refine z_iload_n (q := 4) F dX8_callOf_96 rfl rfl ?_
        refine z_iconst (v := (-1)) F dX8_callOf_97 rfl ?_
        refine z_icmp_eq (tgt := 108) F dX8_callOf_98 rfl (fun c17 => ?_) (fun c17 => ?_)
        · have h := ite_T c17 h
          refine z_sub (lv' := [(0, .ref (a 0)), (1, .int x1), (2, .int x2), (3, .int x3), (4, .int x4), (5, .int x5), (7, .int r16)]) [1, 2, 3, 4, 5, 6, 0] rfl ?_
          exact zM8_callOf_J108 F ih h
        · have h := ite_F c17 h
          refine z_iload (q := 0) F dX8_callOf_101 rfl ?_
          refine z_iload (q := 5) F dX8_callOf_103 rfl ?_
          refine z_icmp_le (tgt := 112) F dX8_callOf_105 rfl (fun c20 => ?_) (fun c20 => ?_)
          · have h := ite_T c20 h
            refine z_iconst (v := 0) F dX8_callOf_112 rfl ?_
            refine z_sub (lv' := [(0, .ref (a 0)), (1, .int x1), (2, .int x2), (3, .int x3), (4, .int x4), (5, .int x5), (7, .int r16)]) [1, 2, 3, 4, 5, 6, 0] rfl ?_
            exact zM8_callOf_J113 F ih h
          · have h := ite_F c20 h
            refine z_sub (lv' := [(0, .ref (a 0)), (1, .int x1), (2, .int x2), (3, .int x3), (4, .int x4), (5, .int x5), (7, .int r16)]) [1, 2, 3, 4, 5, 6, 0] rfl ?_
            exact zM8_callOf_J108 F ih h
theorem zM8_callOf {r : Int32} {x1 : Int32} {x2 : Int32} {σ : St} (F : Fx p s m args meth c cX8_callOf 9 RX8 (some .int) (rmL 6) 0 0 g a) (h : M8_callOf x1 x2 σ = some (r, σ')) : Z p l e (rmL 6) s m args below meth c (MQ below (QiW g a r σ') args s 0 0 (Ad a)) 9 g a 0 0 σ 0 [(0, .ref (a 0)), (1, .int x1), (2, .int x2)] [] := by
  unfold M8_callOf at h
  refine z_iconst (v := (-1)) F dX8_callOf_0 rfl ?_
  refine z_istore_n (lv' := [(3, .int ((-1))), (0, .ref (a 0)), (1, .int x1), (2, .int x2)]) F dX8_callOf_1 rfl (by decide) rfl ?_
  refine z_iconst (v := 0) F dX8_callOf_2 rfl ?_
  refine z_istore (lv' := [(4, .int 0), (3, .int ((-1))), (0, .ref (a 0)), (1, .int x1), (2, .int x2)]) F dX8_callOf_3 (by decide) rfl ?_
  refine z_iconst (v := 0) F dX8_callOf_5 rfl ?_
  refine z_istore (lv' := [(5, .int 0), (4, .int 0), (3, .int ((-1))), (0, .ref (a 0)), (1, .int x1), (2, .int x2)]) F dX8_callOf_6 (by decide) rfl ?_
  refine z_sub (lv' := [(0, .ref (a 0)), (1, .int x1), (2, .int x2), (3, .int ((-1))), (4, .int 0), (5, .int 0)]) [3, 4, 5, 2, 1, 0] rfl ?_
  refine zM8_callOf_L8 F ?_ _ _ _ _ _ h
  intro v21 v22 σ23 h
  refine z_iload_n (q := 3) F dX8_callOf_147 rfl rfl ?_
  refine z_iconst (v := (-1)) F dX8_callOf_148 rfl ?_
  refine z_icmp_eq (tgt := 156) F dX8_callOf_149 rfl (fun c24 => ?_) (fun c24 => ?_)
  · have h := ite_T c24 h
    refine z_sub (lv' := [(3, .int v21)]) [3] rfl ?_
    exact zM8_callOf_J156 F h
  · have h := ite_F c24 h
    refine z_iload_n (q := 2) F dX8_callOf_152 rfl rfl ?_
    refine z_if_ne (tgt := 160) F dX8_callOf_153 rfl (fun c25 => ?_) (fun c25 => ?_)
    · have h := ite_F c25 h
      refine z_iload (q := 4) F dX8_callOf_160 rfl ?_
      refine z_aload_n (q := 0) F dX8_callOf_162 rfl rfl ?_
      refine z_iload_n (q := 1) F dX8_callOf_163 rfl rfl ?_
      refine z_iconst (v := (-1)) F dX8_callOf_164 rfl ?_
      obtain ⟨r26, σ26, hq26, h⟩ := bd_of h
      refine cl8_261 F hq26 ⟨Nat.le_of_ble_eq_true rfl, Nat.le_of_ble_eq_true rfl⟩ dX8_callOf_165 (Nat.le_of_ble_eq_true rfl) ?_
      refine z_isub F dX8_callOf_168 ?_
      exact z_iret F h dX8_callOf_169
    · have h := ite_T c25 h
      refine z_sub (lv' := [(3, .int v21)]) [3] rfl ?_
      exact zM8_callOf_J156 F h
theorem ct8_callOf {r : Int32} {x1 : Int32} {x2 : Int32} {σ : St} (h : M8_callOf x1 x2 σ = some (r, σ')) : Met l yX8_callOf (wsY yX8_callOf cX8_callOf 9 (some .int)) (rmL 6) (PcW g a [.ref (a 0), .int x1, .int x2] σ) (QiW g a r σ') 0 0 (Ad a) :=
  ct_I (by decide) (Nat.le_of_ble_eq_true rfl) (fun p e s m args below meth c F => zM8_callOf F h)
theorem cl8_273 {r : Int32} {x1 : Int32} {x2 : Int32} (F : Fx p s m args meth c cc nL RX8 rt R cz sz g a) (h : M8_callOf x1 x2 σ = some (r, σ1)) (hR : 6 + 1 ≤ R.frames ∧ 8 + (9 + 11) + 34 * 6 ≤ R.locals) (d : decode cc pc = .ok (.invokevirtual 273, 3)) (hrm : (rest.map fun v => v.category).sum ≤ 8) (z : Z p l e R s m args below meth c Q nL g a cz sz σ1 (pc + 3) lv (.int r :: rest)) : Z p l e R s m args below meth c Q nL g a cz sz σ pc lv (.int x2 :: .int x1 :: .ref (a 0) :: rest) :=
  z_callVI (nA := 2) (As := [.int x1, .int x2]) F (ct8_callOf h) ⟨(tbm 1190 (by decide +kernel) rfl), (tbm 1192 (by decide +kernel) rfl), (tbs 94 (by decide +kernel) rfl), (tbm 9 (by decide +kernel) rfl), (tbm 1193 (by decide +kernel) rfl)⟩ (by decide +kernel) rfl kdc_0 (by decide) rfl rfl rfl hR d rfl hrm z
theorem zM8_call {r : Int32} {x1 : Int32} {x2 : Int32} {σ : St} (F : Fx p s m args meth c cX8_call 3 RX8 (some .int) (rmL 7) 0 0 g a) (h : M8_call x1 x2 σ = some (r, σ')) : Z p l e (rmL 7) s m args below meth c (MQ below (QiW g a r σ') args s 0 0 (Ad a)) 3 g a 0 0 σ 0 [(0, .ref (a 0)), (1, .int x1), (2, .int x2)] [] := by
  unfold M8_call at h
  refine z_aload_n (q := 0) F dX8_call_0 rfl rfl ?_
  obtain ⟨r1, σ1, hq1, h⟩ := bd_of h
  refine cl8_142 F hq1 ⟨Nat.le_of_ble_eq_true rfl, Nat.le_of_ble_eq_true rfl⟩ dX8_call_1 (Nat.le_of_ble_eq_true rfl) ?_
  refine z_iload_n (q := 1) F dX8_call_4 rfl rfl ?_
  obtain ⟨r2, σ2, hq2, h⟩ := bd_of h
  refine cl8_154 F hq2 ⟨Nat.le_of_ble_eq_true rfl, Nat.le_of_ble_eq_true rfl⟩ dX8_call_5 (Nat.le_of_ble_eq_true rfl) ?_
  refine z_if_eq (tgt := 27) F dX8_call_8 rfl (fun c3 => ?_) (fun c3 => ?_)
  · have h := ite_T c3 h
    refine z_sipush (v := (-1002)) F dX8_call_27 rfl ?_
    exact z_iret F h dX8_call_30
  · have h := ite_F c3 h
    refine z_iload_n (q := 2) F dX8_call_11 rfl rfl ?_
    obtain ⟨r4, σ4, hq4, h⟩ := bd_of h
    refine cl8_122 F hq4 ⟨Nat.le_of_ble_eq_true rfl, Nat.le_of_ble_eq_true rfl⟩ dX8_call_12 (Nat.le_of_ble_eq_true rfl) ?_
    refine z_if_eq (tgt := 27) F dX8_call_15 rfl (fun c5 => ?_) (fun c5 => ?_)
    · have h := ite_T c5 h
      refine z_sipush (v := (-1002)) F dX8_call_27 rfl ?_
      exact z_iret F h dX8_call_30
    · have h := ite_F c5 h
      refine z_aload_n (q := 0) F dX8_call_18 rfl rfl ?_
      refine z_iload_n (q := 1) F dX8_call_19 rfl rfl ?_
      refine z_iload_n (q := 2) F dX8_call_20 rfl rfl ?_
      obtain ⟨r6, σ6, hq6, h⟩ := bd_of h
      refine cl8_273 F hq6 ⟨Nat.le_of_ble_eq_true rfl, Nat.le_of_ble_eq_true rfl⟩ dX8_call_21 (Nat.le_of_ble_eq_true rfl) ?_
      refine z_goto (tgt := 30) F dX8_call_24 rfl ?_
      exact z_iret F h dX8_call_30
theorem ct8_call {r : Int32} {x1 : Int32} {x2 : Int32} {σ : St} (h : M8_call x1 x2 σ = some (r, σ')) : Met l yX8_call (wsY yX8_call cX8_call 3 (some .int)) (rmL 7) (PcW g a [.ref (a 0), .int x1, .int x2] σ) (QiW g a r σ') 0 0 (Ad a) :=
  ct_I (by decide) (Nat.le_of_ble_eq_true rfl) (fun p e s m args below meth c F => zM8_call F h)

theorem zM8_cameOf {r : Int32} {x1 : Int32} {x2 : Int32} {σ : St} (F : Fx p s m args meth c cX8_cameOf 3 RX8 (some .int) (rmL 5) 0 0 g a) (h : M8_cameOf x1 x2 σ = some (r, σ')) : Z p l e (rmL 5) s m args below meth c (MQ below (QiW g a r σ') args s 0 0 (Ad a)) 3 g a 0 0 σ 0 [(0, .ref (a 0)), (1, .int x1), (2, .int x2)] [] := by
  unfold M8_cameOf at h
  refine z_aload_n (q := 0) F dX8_cameOf_0 rfl rfl ?_
  refine z_bipush (v := 39) F dX8_cameOf_1 rfl ?_
  obtain ⟨r1, σ1, hq1, h⟩ := bd_of h
  refine cl8_218 F hq1 ⟨Nat.le_of_ble_eq_true rfl, Nat.le_of_ble_eq_true rfl⟩ dX8_cameOf_3 (Nat.le_of_ble_eq_true rfl) ?_
  refine z_iload_n (q := 2) F dX8_cameOf_6 rfl rfl ?_
  refine z_if_ne (tgt := 19) F dX8_cameOf_7 rfl (fun c2 => ?_) (fun c2 => ?_)
  · have h := ite_F c2 h
    refine z_iload_n (q := 2) F dX8_cameOf_19 rfl rfl ?_
    refine z_iconst (v := 1) F dX8_cameOf_20 rfl ?_
    refine z_icmp_ne (tgt := 42) F dX8_cameOf_21 rfl (fun c3 => ?_) (fun c3 => ?_)
    · have h := ite_F c3 h
      refine z_aload_n (q := 0) F dX8_cameOf_42 rfl rfl ?_
      refine gf8_67 F kdc_0 dX8_cameOf_43 ?_
      refine z_iload_n (q := 1) F dX8_cameOf_46 rfl rfl ?_
      obtain ⟨g4, h⟩ := gd_of h
      refine z_iald F kdc_20 (inl lnc_20 g4) dX8_cameOf_47 ?_
      refine z_iconst (v := (-1)) F dX8_cameOf_48 rfl ?_
      refine z_icmp_ne (tgt := 56) F dX8_cameOf_49 rfl (fun c5 => ?_) (fun c5 => ?_)
      · try simp only [if_neg c5] at h
        refine z_aload_n (q := 0) F dX8_cameOf_56 rfl rfl ?_
        refine gf8_67 F kdc_0 dX8_cameOf_57 ?_
        refine z_iload_n (q := 1) F dX8_cameOf_60 rfl rfl ?_
        refine z_iald F kdc_20 (inl lnc_20 g4) dX8_cameOf_61 ?_
        refine z_aload_n (q := 0) F dX8_cameOf_62 rfl rfl ?_
        refine gf8_64 F kdc_0 dX8_cameOf_63 ?_
        refine z_iload_n (q := 1) F dX8_cameOf_66 rfl rfl ?_
        refine z_iald F kdc_19 (inl lnc_19 g4) dX8_cameOf_67 ?_
        refine z_isub F dX8_cameOf_68 ?_
        exact z_iret F h dX8_cameOf_69
      · try simp only [if_pos c5] at h
        refine z_iconst (v := 0) F dX8_cameOf_52 rfl ?_
        refine z_goto (tgt := 69) F dX8_cameOf_53 rfl ?_
        exact z_iret F h dX8_cameOf_69
    · have h := ite_T c3 h
      refine z_aload_n (q := 0) F dX8_cameOf_24 rfl rfl ?_
      refine gf8_61 F kdc_0 dX8_cameOf_25 ?_
      refine z_iload_n (q := 1) F dX8_cameOf_28 rfl rfl ?_
      obtain ⟨g8, h⟩ := gd_of h
      refine z_iald F kdc_18 (inl lnc_18 g8) dX8_cameOf_29 ?_
      refine z_iconst (v := (-1)) F dX8_cameOf_30 rfl ?_
      refine z_icmp_ne (tgt := 38) F dX8_cameOf_31 rfl (fun c9 => ?_) (fun c9 => ?_)
      · try simp only [if_neg c9] at h
        refine z_iconst (v := 1) F dX8_cameOf_38 rfl ?_
        refine z_goto (tgt := 69) F dX8_cameOf_39 rfl ?_
        exact z_iret F h dX8_cameOf_69
      · try simp only [if_pos c9] at h
        refine z_iconst (v := 0) F dX8_cameOf_34 rfl ?_
        refine z_goto (tgt := 69) F dX8_cameOf_35 rfl ?_
        exact z_iret F h dX8_cameOf_69
  · have h := ite_T c2 h
    refine z_aload_n (q := 0) F dX8_cameOf_10 rfl rfl ?_
    refine gf8_58 F kdc_0 dX8_cameOf_11 ?_
    refine z_iload_n (q := 1) F dX8_cameOf_14 rfl rfl ?_
    obtain ⟨g10, h⟩ := gd_of h
    refine z_iald F kdc_17 (inl lnc_17 g10) dX8_cameOf_15 ?_
    refine z_goto (tgt := 69) F dX8_cameOf_16 rfl ?_
    exact z_iret F h dX8_cameOf_69
theorem ct8_cameOf {r : Int32} {x1 : Int32} {x2 : Int32} {σ : St} (h : M8_cameOf x1 x2 σ = some (r, σ')) : Met l yX8_cameOf (wsY yX8_cameOf cX8_cameOf 3 (some .int)) (rmL 5) (PcW g a [.ref (a 0), .int x1, .int x2] σ) (QiW g a r σ') 0 0 (Ad a) :=
  ct_I (by decide) (Nat.le_of_ble_eq_true rfl) (fun p e s m args below meth c F => zM8_cameOf F h)
theorem cl8_231 {r : Int32} {x1 : Int32} {x2 : Int32} (F : Fx p s m args meth c cc nL RX8 rt R cz sz g a) (h : M8_cameOf x1 x2 σ = some (r, σ1)) (hR : 5 + 1 ≤ R.frames ∧ 8 + (3 + 11) + 34 * 5 ≤ R.locals) (d : decode cc pc = .ok (.invokevirtual 231, 3)) (hrm : (rest.map fun v => v.category).sum ≤ 8) (z : Z p l e R s m args below meth c Q nL g a cz sz σ1 (pc + 3) lv (.int r :: rest)) : Z p l e R s m args below meth c Q nL g a cz sz σ pc lv (.int x2 :: .int x1 :: .ref (a 0) :: rest) :=
  z_callVI (nA := 2) (As := [.int x1, .int x2]) F (ct8_cameOf h) ⟨(tbm 1113 (by decide +kernel) rfl), (tbm 1115 (by decide +kernel) rfl), (tbs 81 (by decide +kernel) rfl), (tbm 9 (by decide +kernel) rfl), (tbm 1116 (by decide +kernel) rfl)⟩ (by decide +kernel) rfl kdc_0 (by decide) rfl rfl rfl hR d rfl hrm z
theorem zM8_came {r : Int32} {x1 : Int32} {x2 : Int32} {σ : St} (F : Fx p s m args meth c cX8_came 3 RX8 (some .int) (rmL 6) 0 0 g a) (h : M8_came x1 x2 σ = some (r, σ')) : Z p l e (rmL 6) s m args below meth c (MQ below (QiW g a r σ') args s 0 0 (Ad a)) 3 g a 0 0 σ 0 [(0, .ref (a 0)), (1, .int x1), (2, .int x2)] [] := by
  unfold M8_came at h
  refine z_aload_n (q := 0) F dX8_came_0 rfl rfl ?_
  obtain ⟨r1, σ1, hq1, h⟩ := bd_of h
  refine cl8_142 F hq1 ⟨Nat.le_of_ble_eq_true rfl, Nat.le_of_ble_eq_true rfl⟩ dX8_came_1 (Nat.le_of_ble_eq_true rfl) ?_
  refine z_iload_n (q := 1) F dX8_came_4 rfl rfl ?_
  refine z_i2l F dX8_came_5 ?_
  refine z_lconst (v := 0) F dX8_came_6 rfl ?_
  refine z_aload_n (q := 0) F dX8_came_7 rfl rfl ?_
  refine gf8_151 F kdc_0 dX8_came_8 ?_
  refine z_iconst (v := 1) F dX8_came_11 rfl ?_
  refine z_isub F dX8_came_12 ?_
  refine z_i2l F dX8_came_13 ?_
  obtain ⟨r2, σ2, hq2, h⟩ := bd_of h
  refine cl8_94 F hq2 ⟨Nat.le_of_ble_eq_true rfl, Nat.le_of_ble_eq_true rfl⟩ dX8_came_14 (Nat.le_of_ble_eq_true rfl) ?_
  refine z_if_eq (tgt := 41) F dX8_came_17 rfl (fun c3 => ?_) (fun c3 => ?_)
  · have h := ite_T c3 h
    refine z_sipush (v := (-1002)) F dX8_came_41 rfl ?_
    exact z_iret F h dX8_came_44
  · have h := ite_F c3 h
    refine z_iload_n (q := 2) F dX8_came_20 rfl rfl ?_
    refine z_i2l F dX8_came_21 ?_
    refine z_lconst (v := 0) F dX8_came_22 rfl ?_
    refine z_ldc2 (v := 2) F dX8_came_23 (tbm 924 (by decide +kernel) rfl) ?_
    obtain ⟨r4, σ4, hq4, h⟩ := bd_of h
    refine cl8_94 F hq4 ⟨Nat.le_of_ble_eq_true rfl, Nat.le_of_ble_eq_true rfl⟩ dX8_came_26 (Nat.le_of_ble_eq_true rfl) ?_
    refine z_if_eq (tgt := 41) F dX8_came_29 rfl (fun c5 => ?_) (fun c5 => ?_)
    · have h := ite_T c5 h
      refine z_sipush (v := (-1002)) F dX8_came_41 rfl ?_
      exact z_iret F h dX8_came_44
    · have h := ite_F c5 h
      refine z_aload_n (q := 0) F dX8_came_32 rfl rfl ?_
      refine z_iload_n (q := 1) F dX8_came_33 rfl rfl ?_
      refine z_iload_n (q := 2) F dX8_came_34 rfl rfl ?_
      obtain ⟨r6, σ6, hq6, h⟩ := bd_of h
      refine cl8_231 F hq6 ⟨Nat.le_of_ble_eq_true rfl, Nat.le_of_ble_eq_true rfl⟩ dX8_came_35 (Nat.le_of_ble_eq_true rfl) ?_
      refine z_goto (tgt := 44) F dX8_came_38 rfl ?_
      exact z_iret F h dX8_came_44
theorem ct8_came {r : Int32} {x1 : Int32} {x2 : Int32} {σ : St} (h : M8_came x1 x2 σ = some (r, σ')) : Met l yX8_came (wsY yX8_came cX8_came 3 (some .int)) (rmL 6) (PcW g a [.ref (a 0), .int x1, .int x2] σ) (QiW g a r σ') 0 0 (Ad a) :=
  ct_I (by decide) (Nat.le_of_ble_eq_true rfl) (fun p e s m args below meth c F => zM8_came F h)

theorem zM8_finds {r : Int32} {x1 : Int32} {σ : St} (F : Fx p s m args meth c cX8_finds 2 RX8 (some .int) (rmL 0) 0 0 g a) (h : M8_finds x1 σ = some (r, σ')) : Z p l e (rmL 0) s m args below meth c (MQ below (QiW g a r σ') args s 0 0 (Ad a)) 2 g a 0 0 σ 0 [(0, .ref (a 0)), (1, .int x1)] [] := by
  unfold M8_finds at h
  refine z_aload_n (q := 0) F dX8_finds_0 rfl rfl ?_
  refine z_iload_n (q := 1) F dX8_finds_1 rfl rfl ?_
  refine pf8_98 F kdc_0 dX8_finds_2 ?_
  refine z_let h (fun σ1 h => ?_)
  refine z_bipush (v := (-10)) F dX8_finds_5 rfl ?_
  refine z_iload_n (q := 1) F dX8_finds_7 rfl rfl ?_
  refine z_isub F dX8_finds_8 ?_
  exact z_iret F h dX8_finds_9
theorem ct8_finds {r : Int32} {x1 : Int32} {σ : St} (h : M8_finds x1 σ = some (r, σ')) : Met l yX8_finds (wsY yX8_finds cX8_finds 2 (some .int)) (rmL 0) (PcW g a [.ref (a 0), .int x1] σ) (QiW g a r σ') 0 0 (Ad a) :=
  ct_I (by decide) (Nat.le_of_ble_eq_true rfl) (fun p e s m args below meth c F => zM8_finds F h)
theorem cl8_109 {r : Int32} {x1 : Int32} (F : Fx p s m args meth c cc nL RX8 rt R cz sz g a) (h : M8_finds x1 σ = some (r, σ1)) (hR : 0 + 1 ≤ R.frames ∧ 8 + (2 + 11) + 34 * 0 ≤ R.locals) (d : decode cc pc = .ok (.invokevirtual 109, 3)) (hrm : (rest.map fun v => v.category).sum ≤ 8) (z : Z p l e R s m args below meth c Q nL g a cz sz σ1 (pc + 3) lv (.int r :: rest)) : Z p l e R s m args below meth c Q nL g a cz sz σ pc lv (.int x1 :: .ref (a 0) :: rest) :=
  z_callVI (nA := 1) (As := [.int x1]) F (ct8_finds h) ⟨(tbm 925 (by decide +kernel) rfl), (tbm 927 (by decide +kernel) rfl), (tbs 62 (by decide +kernel) rfl), (tbm 9 (by decide +kernel) rfl), (tbm 928 (by decide +kernel) rfl)⟩ (by decide +kernel) rfl kdc_0 (by decide) rfl rfl rfl hR d rfl hrm z
theorem zM8_isSheet {r : Int32} {x0 : Int32} {σ : St} (F : Fx p s m args meth c cX8_isSheet 1 RX8 (some .boolean) (rmL 1) 0 0 g a) (h : M8_isSheet x0 σ = some (r, σ')) : Z p l e (rmL 1) s m args below meth c (MQ below (QiW g a r σ') args s 0 0 (Ad a)) 1 g a 0 0 σ 0 [(0, .int x0)] [] := by
  unfold M8_isSheet at h
  refine z_iload_n (q := 0) F dX8_isSheet_0 rfl rfl ?_
  refine z_i2l F dX8_isSheet_1 ?_
  refine z_lconst (v := 0) F dX8_isSheet_2 rfl ?_
  refine z_ldc2 (v := 3) F dX8_isSheet_3 (tbm 920 (by decide +kernel) rfl) ?_
  obtain ⟨r1, σ1, hq1, h⟩ := bd_of h
  refine cl8_94 F hq1 ⟨Nat.le_of_ble_eq_true rfl, Nat.le_of_ble_eq_true rfl⟩ dX8_isSheet_6 (Nat.le_of_ble_eq_true rfl) ?_
  obtain ⟨g2, h⟩ := gd_of h
  exact z_bret F g2 h dX8_isSheet_9
theorem ct8_isSheet {r : Int32} {x0 : Int32} {σ : St} (h : M8_isSheet x0 σ = some (r, σ')) : Met l yX8_isSheet (wsY yX8_isSheet cX8_isSheet 1 (some .boolean)) (rmL 1) (PcW g a [.int x0] σ) (QiW g a r σ') 0 0 (Ad a) :=
  ct_I (by decide) (Nat.le_of_ble_eq_true rfl) (fun p e s m args below meth c F => zM8_isSheet F h)
theorem cl8_103 {r : Int32} {x0 : Int32} (F : Fx p s m args meth c cc nL RX8 rt R cz sz g a) (h : M8_isSheet x0 σ = some (r, σ1)) (hR : 1 + 1 ≤ R.frames ∧ 8 + (1 + 11) + 34 * 1 ≤ R.locals) (d : decode cc pc = .ok (.invokestatic 103, 3)) (hrm : (rest.map fun v => v.category).sum ≤ 8) (z : Z p l e R s m args below meth c Q nL g a cz sz σ1 (pc + 3) lv (.int r :: rest)) : Z p l e R s m args below meth c Q nL g a cz sz σ pc lv (.int x0 :: rest) :=
  z_callSI (nA := 1) (As := [.int x0]) F (ct8_isSheet h) ⟨(tbm 917 (by decide +kernel) rfl), (tbm 918 (by decide +kernel) rfl), (tbm 9 (by decide +kernel) rfl), (tbm 919 (by decide +kernel) rfl)⟩ (by decide +kernel) rfl hR d rfl hrm z
theorem zM8_copy_L157 {r : Int32} {x3 : Int32} {x4 : Int32} {x5 : Int32} (F : Fx p s m args meth c cX8_copy 7 RX8 (some .int) (rmL 2) 0 0 g a) {kx : St → Option (Int32 × St)} (hx : ∀ (σ : St), kx σ = some (r, σ') → Z p l e (rmL 2) s m args below meth c (MQ below (QiW g a r σ') args s 0 0 (Ad a)) 7 g a 0 0 σ 192 [] []) : ∀ (n : Nat) (x6 : Int32) (σ : St), M8_copy_L157 x3 x4 x5 kx n x6 σ = some (r, σ') → Z p l e (rmL 2) s m args below meth c (MQ below (QiW g a r σ') args s 0 0 (Ad a)) 7 g a 0 0 σ 157 [(0, .ref (a 0)), (3, .int x3), (4, .int x4), (5, .int x5), (6, .int x6)] [] := by
  intro n
  induction n with
  | zero => intro x6 σ h; rw [M8_copy_L157] at h; cases h
  | succ n ih =>
    intro x6 σ h
    rw [M8_copy_L157] at h
    refine z_iload (q := 4) F dX8_copy_157 rfl ?_
    refine z_iload (q := 3) F dX8_copy_159 rfl ?_
    refine z_icmp_ge (tgt := 192) F dX8_copy_161 rfl (fun c27 => ?_) (fun c27 => ?_)
    · have h := ite_T c27 h
      refine z_sub (lv' := []) [] rfl ?_
      exact hx _ h
    · have h := ite_F c27 h
      refine z_aload_n (q := 0) F dX8_copy_164 rfl rfl ?_
      refine gf8_16 F kdc_0 dX8_copy_165 ?_
      refine z_bipush (v := 60) F dX8_copy_168 rfl ?_
      refine z_iload_n (q := 1) F dX8_copy_170 rfl rfl ?_
      refine z_imul F dX8_copy_171 ?_
      refine z_iload (q := 2) F dX8_copy_172 rfl ?_
      refine z_iadd F dX8_copy_174 ?_
      refine z_iload (q := 4) F dX8_copy_175 rfl ?_
      refine z_iadd F dX8_copy_177 ?_
      refine z_aload_n (q := 0) F dX8_copy_178 rfl rfl ?_
      refine gf8_19 F kdc_0 dX8_copy_179 ?_
      refine z_iload (q := 4) F dX8_copy_182 rfl ?_
      obtain ⟨g28, h⟩ := gd_of h
      refine z_iald F kdc_4 (inl lnc_4 g28) dX8_copy_184 ?_
      obtain ⟨g29, h⟩ := gd_of h
      refine z_iast F kdc_3 (inl lnc_3 g29) dX8_copy_185 ?_
      refine z_let h (fun σ30 h => ?_)
      refine z_iinc (q := 4) (v := x6 + 1) (lv' := [(6, .int (x6 + 1)), (0, .ref (a 0)), (3, .int x3), (4, .int x4), (5, .int x5)]) F dX8_copy_186 rfl rfl (by decide) rfl ?_
      refine z_letL (s0 := 6) (lv := [(0, .ref (a 0)), (3, .int x3), (4, .int x4), (5, .int x5)]) h (fun v31 h => ?_)
      refine z_goto (tgt := 157) F dX8_copy_189 rfl ?_
      refine z_sub (lv' := [(0, .ref (a 0)), (3, .int x3), (4, .int x4), (5, .int x5), (6, .int v31)]) [1, 2, 3, 4, 0] rfl ?_
      exact ih _ _ h
theorem zM8_copy_L120 {r : Int32} {x1 : Int32} {x2 : Int32} {x3 : Int32} {x4 : Int32} {x5 : Int32} (F : Fx p s m args meth c cX8_copy 7 RX8 (some .int) (rmL 2) 0 0 g a) {kx : St → Option (Int32 × St)} (hx : ∀ (σ : St), kx σ = some (r, σ') → Z p l e (rmL 2) s m args below meth c (MQ below (QiW g a r σ') args s 0 0 (Ad a)) 7 g a 0 0 σ 154 [(0, .ref (a 0)), (3, .int x3), (4, .int x4), (5, .int x5)] []) : ∀ (n : Nat) (x6 : Int32) (σ : St), M8_copy_L120 x1 x2 x3 x4 x5 kx n x6 σ = some (r, σ') → Z p l e (rmL 2) s m args below meth c (MQ below (QiW g a r σ') args s 0 0 (Ad a)) 7 g a 0 0 σ 120 [(0, .ref (a 0)), (1, .int x1), (2, .int x2), (3, .int x3), (4, .int x4), (5, .int x5), (6, .int x6)] [] := by
  intro n
  induction n with
  | zero => intro x6 σ h; rw [M8_copy_L120] at h; cases h
  | succ n ih =>
    intro x6 σ h
    rw [M8_copy_L120] at h
    refine z_iload (q := 6) F dX8_copy_120 rfl ?_
    refine z_iload (q := 5) F dX8_copy_122 rfl ?_
    refine z_icmp_ge (tgt := 154) F dX8_copy_124 rfl (fun c21 => ?_) (fun c21 => ?_)
    · have h := ite_T c21 h
      refine z_sub (lv' := [(0, .ref (a 0)), (3, .int x3), (4, .int x4), (5, .int x5)]) [0, 3, 4, 5] rfl ?_
      exact hx _ h
    · have h := ite_F c21 h
      refine z_aload_n (q := 0) F dX8_copy_127 rfl rfl ?_
      refine gf8_19 F kdc_0 dX8_copy_128 ?_
      refine z_iload (q := 6) F dX8_copy_131 rfl ?_
      refine z_aload_n (q := 0) F dX8_copy_133 rfl rfl ?_
      refine gf8_16 F kdc_0 dX8_copy_134 ?_
      refine z_bipush (v := 60) F dX8_copy_137 rfl ?_
      refine z_iload_n (q := 1) F dX8_copy_139 rfl rfl ?_
      refine z_imul F dX8_copy_140 ?_
      refine z_iload_n (q := 2) F dX8_copy_141 rfl rfl ?_
      refine z_iadd F dX8_copy_142 ?_
      refine z_iload (q := 6) F dX8_copy_143 rfl ?_
      refine z_iadd F dX8_copy_145 ?_
      obtain ⟨g22, h⟩ := gd_of h
      refine z_iald F kdc_3 (inl lnc_3 g22) dX8_copy_146 ?_
      obtain ⟨g23, h⟩ := gd_of h
      refine z_iast F kdc_4 (inl lnc_4 g23) dX8_copy_147 ?_
      refine z_let h (fun σ24 h => ?_)
      refine z_iinc (q := 6) (v := x6 + 1) (lv' := [(6, .int (x6 + 1)), (0, .ref (a 0)), (1, .int x1), (2, .int x2), (3, .int x3), (4, .int x4), (5, .int x5)]) F dX8_copy_148 rfl rfl (by decide) rfl ?_
      refine z_letL (s0 := 6) (lv := [(0, .ref (a 0)), (1, .int x1), (2, .int x2), (3, .int x3), (4, .int x4), (5, .int x5)]) h (fun v25 h => ?_)
      refine z_goto (tgt := 120) F dX8_copy_151 rfl ?_
      refine z_sub (lv' := [(0, .ref (a 0)), (1, .int x1), (2, .int x2), (3, .int x3), (4, .int x4), (5, .int x5), (6, .int v25)]) [1, 2, 3, 4, 5, 6, 0] rfl ?_
      exact ih _ _ h
theorem zM8_copy_J111 {r : Int32} {σ : St} (F : Fx p s m args meth c cX8_copy 7 RX8 (some .int) (rmL 2) 0 0 g a) (h : M8_copy_J111 σ = some (r, σ')) : Z p l e (rmL 2) s m args below meth c (MQ below (QiW g a r σ') args s 0 0 (Ad a)) 7 g a 0 0 σ 111 [(0, .ref (a 0))] [] := by
  unfold M8_copy_J111 at h
  refine z_aload_n (q := 0) F dX8_copy_111 rfl rfl ?_
  refine z_iconst (v := 2) F dX8_copy_112 rfl ?_
  obtain ⟨r14, σ14, hq14, h⟩ := bd_of h
  refine cl8_109 F hq14 ⟨Nat.le_of_ble_eq_true rfl, Nat.le_of_ble_eq_true rfl⟩ dX8_copy_113 (Nat.le_of_ble_eq_true rfl) ?_
  exact z_iret F h dX8_copy_116
theorem zM8_copy_J35 {r : Int32} {σ : St} (F : Fx p s m args meth c cX8_copy 7 RX8 (some .int) (rmL 2) 0 0 g a) (h : M8_copy_J35 σ = some (r, σ')) : Z p l e (rmL 2) s m args below meth c (MQ below (QiW g a r σ') args s 0 0 (Ad a)) 7 g a 0 0 σ 35 [(0, .ref (a 0))] [] := by
  unfold M8_copy_J35 at h
  refine z_aload_n (q := 0) F dX8_copy_35 rfl rfl ?_
  refine z_iconst (v := 1) F dX8_copy_36 rfl ?_
  obtain ⟨r7, σ7, hq7, h⟩ := bd_of h
  refine cl8_109 F hq7 ⟨Nat.le_of_ble_eq_true rfl, Nat.le_of_ble_eq_true rfl⟩ dX8_copy_37 (Nat.le_of_ble_eq_true rfl) ?_
  exact z_iret F h dX8_copy_40
theorem zM8_copy {r : Int32} {x1 : Int32} {x2 : Int32} {x3 : Int32} {x4 : Int32} {x5 : Int32} {σ : St} (F : Fx p s m args meth c cX8_copy 7 RX8 (some .int) (rmL 2) 0 0 g a) (h : M8_copy x1 x2 x3 x4 x5 σ = some (r, σ')) : Z p l e (rmL 2) s m args below meth c (MQ below (QiW g a r σ') args s 0 0 (Ad a)) 7 g a 0 0 σ 0 [(0, .ref (a 0)), (1, .int x1), (2, .int x2), (3, .int x3), (4, .int x4), (5, .int x5)] [] := by
  unfold M8_copy at h
  refine z_iload_n (q := 1) F dX8_copy_0 rfl rfl ?_
  obtain ⟨r1, σ1, hq1, h⟩ := bd_of h
  refine cl8_103 F hq1 ⟨Nat.le_of_ble_eq_true rfl, Nat.le_of_ble_eq_true rfl⟩ dX8_copy_1 (Nat.le_of_ble_eq_true rfl) ?_
  refine z_if_eq (tgt := 14) F dX8_copy_4 rfl (fun c2 => ?_) (fun c2 => ?_)
  · have h := ite_T c2 h
    refine z_bipush (v := (-2)) F dX8_copy_14 rfl ?_
    exact z_iret F h dX8_copy_16
  · have h := ite_F c2 h
    refine z_iload_n (q := 3) F dX8_copy_7 rfl rfl ?_
    obtain ⟨r3, σ3, hq3, h⟩ := bd_of h
    refine cl8_103 F hq3 ⟨Nat.le_of_ble_eq_true rfl, Nat.le_of_ble_eq_true rfl⟩ dX8_copy_8 (Nat.le_of_ble_eq_true rfl) ?_
    refine z_if_ne (tgt := 17) F dX8_copy_11 rfl (fun c4 => ?_) (fun c4 => ?_)
    · have h := ite_F c4 h
      refine z_aload_n (q := 0) F dX8_copy_17 rfl rfl ?_
      refine gf8_7 F kdc_0 dX8_copy_18 ?_
      refine z_iload_n (q := 1) F dX8_copy_21 rfl rfl ?_
      obtain ⟨g5, h⟩ := gd_of h
      refine z_iald F kdc_1 (inl lnc_1 g5) dX8_copy_22 ?_
      refine z_if_lt (tgt := 35) F dX8_copy_23 rfl (fun c6 => ?_) (fun c6 => ?_)
      · have h := ite_T c6 h
        refine z_sub (lv' := [(0, .ref (a 0))]) [0] rfl ?_
        exact zM8_copy_J35 F h
      · have h := ite_F c6 h
        refine z_aload_n (q := 0) F dX8_copy_26 rfl rfl ?_
        refine gf8_7 F kdc_0 dX8_copy_27 ?_
        refine z_iload_n (q := 3) F dX8_copy_30 rfl rfl ?_
        obtain ⟨g8, h⟩ := gd_of h
        refine z_iald F kdc_1 (inl lnc_1 g8) dX8_copy_31 ?_
        refine z_if_ge (tgt := 41) F dX8_copy_32 rfl (fun c9 => ?_) (fun c9 => ?_)
        · have h := ite_T c9 h
          refine z_aload_n (q := 0) F dX8_copy_41 rfl rfl ?_
          refine gf8_7 F kdc_0 dX8_copy_42 ?_
          refine z_iload_n (q := 1) F dX8_copy_45 rfl rfl ?_
          refine z_iald F kdc_1 (inl lnc_1 g5) dX8_copy_46 ?_
          refine z_aload_n (q := 0) F dX8_copy_47 rfl rfl ?_
          refine gf8_7 F kdc_0 dX8_copy_48 ?_
          refine z_iload_n (q := 3) F dX8_copy_51 rfl rfl ?_
          refine z_iald F kdc_1 (inl lnc_1 g8) dX8_copy_52 ?_
          refine z_icmp_eq (tgt := 62) F dX8_copy_53 rfl (fun c12 => ?_) (fun c12 => ?_)
          · have h := ite_T c12 h
            refine z_iload_n (q := 2) F dX8_copy_62 rfl rfl ?_
            refine z_if_lt (tgt := 111) F dX8_copy_63 rfl (fun c13 => ?_) (fun c13 => ?_)
            · have h := ite_T c13 h
              refine z_sub (lv' := [(0, .ref (a 0))]) [0] rfl ?_
              exact zM8_copy_J111 F h
            · have h := ite_F c13 h
              refine z_iload (q := 4) F dX8_copy_66 rfl ?_
              refine z_if_lt (tgt := 111) F dX8_copy_68 rfl (fun c15 => ?_) (fun c15 => ?_)
              · have h := ite_T c15 h
                refine z_sub (lv' := [(0, .ref (a 0))]) [0] rfl ?_
                exact zM8_copy_J111 F h
              · have h := ite_F c15 h
                refine z_iload (q := 5) F dX8_copy_71 rfl ?_
                refine z_if_lt (tgt := 111) F dX8_copy_73 rfl (fun c16 => ?_) (fun c16 => ?_)
                · have h := ite_T c16 h
                  refine z_sub (lv' := [(0, .ref (a 0))]) [0] rfl ?_
                  exact zM8_copy_J111 F h
                · have h := ite_F c16 h
                  refine z_iload_n (q := 2) F dX8_copy_76 rfl rfl ?_
                  refine z_i2l F dX8_copy_77 ?_
                  refine z_iload (q := 5) F dX8_copy_78 rfl ?_
                  refine z_i2l F dX8_copy_80 ?_
                  refine z_ladd F dX8_copy_81 ?_
                  refine z_aload_n (q := 0) F dX8_copy_82 rfl rfl ?_
                  refine gf8_13 F kdc_0 dX8_copy_83 ?_
                  refine z_iload_n (q := 1) F dX8_copy_86 rfl rfl ?_
                  refine z_iald F kdc_2 (inl lnc_2 g5) dX8_copy_87 ?_
                  refine z_i2l F dX8_copy_88 ?_
                  refine z_lcmp F dX8_copy_89 ?_
                  refine z_if_gt (tgt := 111) F dX8_copy_90 rfl (fun c18 => ?_) (fun c18 => ?_)
                  · have h := ite_T c18 h
                    refine z_sub (lv' := [(0, .ref (a 0))]) [0] rfl ?_
                    exact zM8_copy_J111 F h
                  · have h := ite_F c18 h
                    refine z_iload (q := 4) F dX8_copy_93 rfl ?_
                    refine z_i2l F dX8_copy_95 ?_
                    refine z_iload (q := 5) F dX8_copy_96 rfl ?_
                    refine z_i2l F dX8_copy_98 ?_
                    refine z_ladd F dX8_copy_99 ?_
                    refine z_aload_n (q := 0) F dX8_copy_100 rfl rfl ?_
                    refine gf8_13 F kdc_0 dX8_copy_101 ?_
                    refine z_iload_n (q := 3) F dX8_copy_104 rfl rfl ?_
                    refine z_iald F kdc_2 (inl lnc_2 g8) dX8_copy_105 ?_
                    refine z_i2l F dX8_copy_106 ?_
                    refine z_lcmp F dX8_copy_107 ?_
                    refine z_if_le (tgt := 117) F dX8_copy_108 rfl (fun c20 => ?_) (fun c20 => ?_)
                    · have h := ite_T c20 h
                      refine z_iconst (v := 0) F dX8_copy_117 rfl ?_
                      refine z_istore (lv' := [(6, .int 0), (0, .ref (a 0)), (1, .int x1), (2, .int x2), (3, .int x3), (4, .int x4), (5, .int x5)]) F dX8_copy_118 (by decide) rfl ?_
                      refine z_sub (lv' := [(0, .ref (a 0)), (1, .int x1), (2, .int x2), (3, .int x3), (4, .int x4), (5, .int x5), (6, .int 0)]) [1, 2, 3, 4, 5, 6, 0] rfl ?_
                      refine zM8_copy_L120 F ?_ _ _ _ h
                      intro σ26 h
                      refine z_iconst (v := 0) F dX8_copy_154 rfl ?_
                      refine z_istore (lv' := [(6, .int 0), (0, .ref (a 0)), (3, .int x3), (4, .int x4), (5, .int x5)]) F dX8_copy_155 (by decide) rfl ?_
                      refine z_sub (lv' := [(0, .ref (a 0)), (3, .int x3), (4, .int x4), (5, .int x5), (6, .int 0)]) [1, 2, 3, 4, 0] rfl ?_
                      refine zM8_copy_L157 F ?_ _ _ _ h
                      intro σ32 h
                      refine z_iconst (v := 1) F dX8_copy_192 rfl ?_
                      exact z_iret F h dX8_copy_193
                    · have h := ite_F c20 h
                      refine z_sub (lv' := [(0, .ref (a 0))]) [0] rfl ?_
                      exact zM8_copy_J111 F h
          · have h := ite_F c12 h
            refine z_aload_n (q := 0) F dX8_copy_56 rfl rfl ?_
            refine z_iconst (v := 4) F dX8_copy_57 rfl ?_
            obtain ⟨r33, σ33, hq33, h⟩ := bd_of h
            refine cl8_109 F hq33 ⟨Nat.le_of_ble_eq_true rfl, Nat.le_of_ble_eq_true rfl⟩ dX8_copy_58 (Nat.le_of_ble_eq_true rfl) ?_
            exact z_iret F h dX8_copy_61
        · have h := ite_F c9 h
          refine z_sub (lv' := [(0, .ref (a 0))]) [0] rfl ?_
          exact zM8_copy_J35 F h
    · have h := ite_T c4 h
      refine z_bipush (v := (-2)) F dX8_copy_14 rfl ?_
      exact z_iret F h dX8_copy_16
theorem ct8_copy {r : Int32} {x1 : Int32} {x2 : Int32} {x3 : Int32} {x4 : Int32} {x5 : Int32} {σ : St} (h : M8_copy x1 x2 x3 x4 x5 σ = some (r, σ')) : Met l yX8_copy (wsY yX8_copy cX8_copy 7 (some .int)) (rmL 2) (PcW g a [.ref (a 0), .int x1, .int x2, .int x3, .int x4, .int x5] σ) (QiW g a r σ') 0 0 (Ad a) :=
  ct_I (by decide) (Nat.le_of_ble_eq_true rfl) (fun p e s m args below meth c F => zM8_copy F h)

theorem zM8_counting_L10 {r : Int32} (F : Fx p s m args meth c cX8_counting 3 RX8 (some .int) (rmL 5) 0 0 g a) {kx : Int32 → St → Option (Int32 × St)} (hx : ∀ (w1 : Int32) (σ : St), kx w1 σ = some (r, σ') → Z p l e (rmL 5) s m args below meth c (MQ below (QiW g a r σ') args s 0 0 (Ad a)) 3 g a 0 0 σ 33 [(1, .int w1)] []) : ∀ (n : Nat) (x1 : Int32) (x2 : Int32) (σ : St), M8_counting_L10 kx n x1 x2 σ = some (r, σ') → Z p l e (rmL 5) s m args below meth c (MQ below (QiW g a r σ') args s 0 0 (Ad a)) 3 g a 0 0 σ 10 [(0, .ref (a 0)), (1, .int x1), (2, .int x2)] [] := by
  intro n
  induction n with
  | zero => intro x1 x2 σ h; rw [M8_counting_L10] at h; cases h
  | succ n ih =>
    intro x1 x2 σ h
    rw [M8_counting_L10] at h
    refine z_iload_n (q := 2) F dX8_counting_10 rfl rfl ?_
    refine z_aload_n (q := 0) F dX8_counting_11 rfl rfl ?_
    refine gf8_151 F kdc_0 dX8_counting_12 ?_
    refine z_icmp_ge (tgt := 33) F dX8_counting_15 rfl (fun c2 => ?_) (fun c2 => ?_)
    · have h := ite_T c2 h
      refine z_sub (lv' := [(1, .int x1)]) [1] rfl ?_
      exact hx _ _ h
    · have h := ite_F c2 h
      refine z_iload_n (q := 1) F dX8_counting_18 rfl rfl ?_
      refine z_aload_n (q := 0) F dX8_counting_19 rfl rfl ?_
      refine gf8_58 F kdc_0 dX8_counting_20 ?_
      refine z_iload_n (q := 2) F dX8_counting_23 rfl rfl ?_
      obtain ⟨g3, h⟩ := gd_of h
      refine z_iald F kdc_17 (inl lnc_17 g3) dX8_counting_24 ?_
      refine z_iadd F dX8_counting_25 ?_
      refine z_letI h (fun v4 h => ?_)
      refine z_istore_n (lv' := [(1, .int v4), (0, .ref (a 0)), (2, .int x2)]) F dX8_counting_26 rfl (by decide) rfl ?_
      refine z_iinc (q := 2) (v := x2 + 1) (lv' := [(2, .int (x2 + 1)), (1, .int v4), (0, .ref (a 0))]) F dX8_counting_27 rfl rfl (by decide) rfl ?_
      refine z_letL (s0 := 2) (lv := [(1, .int v4), (0, .ref (a 0))]) h (fun v5 h => ?_)
      refine z_goto (tgt := 10) F dX8_counting_30 rfl ?_
      refine z_sub (lv' := [(0, .ref (a 0)), (1, .int v4), (2, .int v5)]) [2, 1, 0] rfl ?_
      exact ih _ _ _ h
theorem zM8_counting {r : Int32} {σ : St} (F : Fx p s m args meth c cX8_counting 3 RX8 (some .int) (rmL 5) 0 0 g a) (h : M8_counting σ = some (r, σ')) : Z p l e (rmL 5) s m args below meth c (MQ below (QiW g a r σ') args s 0 0 (Ad a)) 3 g a 0 0 σ 0 [(0, .ref (a 0))] [] := by
  unfold M8_counting at h
  refine z_aload_n (q := 0) F dX8_counting_0 rfl rfl ?_
  refine z_bipush (v := 39) F dX8_counting_1 rfl ?_
  obtain ⟨r1, σ1, hq1, h⟩ := bd_of h
  refine cl8_218 F hq1 ⟨Nat.le_of_ble_eq_true rfl, Nat.le_of_ble_eq_true rfl⟩ dX8_counting_3 (Nat.le_of_ble_eq_true rfl) ?_
  refine z_iconst (v := 0) F dX8_counting_6 rfl ?_
  refine z_istore_n (lv' := [(1, .int 0), (0, .ref (a 0))]) F dX8_counting_7 rfl (by decide) rfl ?_
  refine z_iconst (v := 0) F dX8_counting_8 rfl ?_
  refine z_istore_n (lv' := [(2, .int 0), (1, .int 0), (0, .ref (a 0))]) F dX8_counting_9 rfl (by decide) rfl ?_
  refine z_sub (lv' := [(0, .ref (a 0)), (1, .int 0), (2, .int 0)]) [2, 1, 0] rfl ?_
  refine zM8_counting_L10 F ?_ _ _ _ _ h
  intro v6 σ7 h
  refine z_iload_n (q := 0) F dX8_counting_33 rfl rfl ?_
  exact z_iret F h dX8_counting_34
theorem ct8_counting {r : Int32} {σ : St} (h : M8_counting σ = some (r, σ')) : Met l yX8_counting (wsY yX8_counting cX8_counting 3 (some .int)) (rmL 5) (PcW g a [.ref (a 0)] σ) (QiW g a r σ') 0 0 (Ad a) :=
  ct_I (by decide) (Nat.le_of_ble_eq_true rfl) (fun p e s m args below meth c F => zM8_counting F h)
theorem cl8_318 {r : Int32} (F : Fx p s m args meth c cc nL RX8 rt R cz sz g a) (h : M8_counting σ = some (r, σ1)) (hR : 5 + 1 ≤ R.frames ∧ 8 + (3 + 11) + 34 * 5 ≤ R.locals) (d : decode cc pc = .ok (.invokevirtual 318, 3)) (hrm : (rest.map fun v => v.category).sum ≤ 8) (z : Z p l e R s m args below meth c Q nL g a cz sz σ1 (pc + 3) lv (.int r :: rest)) : Z p l e R s m args below meth c Q nL g a cz sz σ pc lv (.ref (a 0) :: rest) :=
  z_callVI (nA := 0) (As := []) F (ct8_counting h) ⟨(tbm 1264 (by decide +kernel) rfl), (tbm 1266 (by decide +kernel) rfl), (tbs 102 (by decide +kernel) rfl), (tbm 9 (by decide +kernel) rfl), (tbm 1267 (by decide +kernel) rfl)⟩ (by decide +kernel) rfl kdc_0 (by decide) rfl rfl rfl hR d rfl hrm z
theorem zM8_count {r : Int32} {x1 : Int32} {σ : St} (F : Fx p s m args meth c cX8_count 2 RX8 (some .int) (rmL 6) 0 0 g a) (h : M8_count x1 σ = some (r, σ')) : Z p l e (rmL 6) s m args below meth c (MQ below (QiW g a r σ') args s 0 0 (Ad a)) 2 g a 0 0 σ 0 [(0, .ref (a 0)), (1, .int x1)] [] := by
  unfold M8_count at h
  refine z_aload_n (q := 0) F dX8_count_0 rfl rfl ?_
  obtain ⟨r1, σ1, hq1, h⟩ := bd_of h
  refine cl8_142 F hq1 ⟨Nat.le_of_ble_eq_true rfl, Nat.le_of_ble_eq_true rfl⟩ dX8_count_1 (Nat.le_of_ble_eq_true rfl) ?_
  refine z_iload_n (q := 1) F dX8_count_4 rfl rfl ?_
  by_cases c0_1 : x1 = 0
  · have h := ite_T c0_1 h
    refine z_tabIn (off := 51) (tgt := 56) F dX8_count_5 (by rw [c0_1]; decide) (by rw [c0_1]; decide) (by rw [c0_1]; rfl) rfl ?_
    refine z_aload_n (q := 0) F dX8_count_56 rfl rfl ?_
    refine gf8_28 F kdc_0 dX8_count_57 ?_
    refine z_iload_n (q := 1) F dX8_count_60 rfl rfl ?_
    obtain ⟨g2, h⟩ := gd_of h
    refine z_iald F kdc_7 (inl lnc_7 g2) dX8_count_61 ?_
    exact z_iret F h dX8_count_62
  have h := ite_F c0_1 h
  by_cases c1_1 : x1 = 1
  · have h := ite_T c1_1 h
    refine z_tabIn (off := 51) (tgt := 56) F dX8_count_5 (by rw [c1_1]; decide) (by rw [c1_1]; decide) (by rw [c1_1]; rfl) rfl ?_
    refine z_aload_n (q := 0) F dX8_count_56 rfl rfl ?_
    refine gf8_28 F kdc_0 dX8_count_57 ?_
    refine z_iload_n (q := 1) F dX8_count_60 rfl rfl ?_
    obtain ⟨g3, h⟩ := gd_of h
    refine z_iald F kdc_7 (inl lnc_7 g3) dX8_count_61 ?_
    exact z_iret F h dX8_count_62
  have h := ite_F c1_1 h
  by_cases c2_1 : x1 = 2
  · have h := ite_T c2_1 h
    refine z_tabIn (off := 58) (tgt := 63) F dX8_count_5 (by rw [c2_1]; decide) (by rw [c2_1]; decide) (by rw [c2_1]; rfl) rfl ?_
    refine z_aload_n (q := 0) F dX8_count_63 rfl rfl ?_
    refine gf8_25 F kdc_0 dX8_count_64 ?_
    refine z_iload_n (q := 1) F dX8_count_67 rfl rfl ?_
    refine z_iconst (v := 2) F dX8_count_68 rfl ?_
    refine z_isub F dX8_count_69 ?_
    obtain ⟨g4, h⟩ := gd_of h
    refine z_iald F kdc_6 (inl lnc_6 g4) dX8_count_70 ?_
    exact z_iret F h dX8_count_71
  have h := ite_F c2_1 h
  by_cases c3_1 : x1 = 3
  · have h := ite_T c3_1 h
    refine z_tabIn (off := 58) (tgt := 63) F dX8_count_5 (by rw [c3_1]; decide) (by rw [c3_1]; decide) (by rw [c3_1]; rfl) rfl ?_
    refine z_aload_n (q := 0) F dX8_count_63 rfl rfl ?_
    refine gf8_25 F kdc_0 dX8_count_64 ?_
    refine z_iload_n (q := 1) F dX8_count_67 rfl rfl ?_
    refine z_iconst (v := 2) F dX8_count_68 rfl ?_
    refine z_isub F dX8_count_69 ?_
    obtain ⟨g5, h⟩ := gd_of h
    refine z_iald F kdc_6 (inl lnc_6 g5) dX8_count_70 ?_
    exact z_iret F h dX8_count_71
  have h := ite_F c3_1 h
  by_cases c4_1 : x1 = 4
  · have h := ite_T c4_1 h
    refine z_tabIn (off := 67) (tgt := 72) F dX8_count_5 (by rw [c4_1]; decide) (by rw [c4_1]; decide) (by rw [c4_1]; rfl) rfl ?_
    refine z_aload_n (q := 0) F dX8_count_72 rfl rfl ?_
    refine gf8_151 F kdc_0 dX8_count_73 ?_
    exact z_iret F h dX8_count_76
  have h := ite_F c4_1 h
  by_cases c5_1 : x1 = 5
  · have h := ite_T c5_1 h
    refine z_tabIn (off := 72) (tgt := 77) F dX8_count_5 (by rw [c5_1]; decide) (by rw [c5_1]; decide) (by rw [c5_1]; rfl) rfl ?_
    refine z_aload_n (q := 0) F dX8_count_77 rfl rfl ?_
    obtain ⟨r6, σ6, hq6, h⟩ := bd_of h
    refine cl8_318 F hq6 ⟨Nat.le_of_ble_eq_true rfl, Nat.le_of_ble_eq_true rfl⟩ dX8_count_78 (Nat.le_of_ble_eq_true rfl) ?_
    exact z_iret F h dX8_count_81
  have h := ite_F c5_1 h
  by_cases c6_1 : x1 = 6
  · have h := ite_T c6_1 h
    refine z_tabIn (off := 77) (tgt := 82) F dX8_count_5 (by rw [c6_1]; decide) (by rw [c6_1]; decide) (by rw [c6_1]; rfl) rfl ?_
    refine z_aload_n (q := 0) F dX8_count_82 rfl rfl ?_
    refine gf8_168 F kdc_0 dX8_count_83 ?_
    refine z_aload_n (q := 0) F dX8_count_86 rfl rfl ?_
    refine gf8_171 F kdc_0 dX8_count_87 ?_
    refine z_iadd F dX8_count_90 ?_
    exact z_iret F h dX8_count_91
  have h := ite_F c6_1 h
  by_cases c7_1 : x1 = 7
  · have h := ite_T c7_1 h
    refine z_tabIn (off := 87) (tgt := 92) F dX8_count_5 (by rw [c7_1]; decide) (by rw [c7_1]; decide) (by rw [c7_1]; rfl) rfl ?_
    refine z_aload_n (q := 0) F dX8_count_92 rfl rfl ?_
    refine gf8_276 F kdc_0 dX8_count_93 ?_
    exact z_iret F h dX8_count_96
  have h := ite_F c7_1 h
  by_cases c8_1 : x1 = 8
  · have h := ite_T c8_1 h
    refine z_tabIn (off := 92) (tgt := 97) F dX8_count_5 (by rw [c8_1]; decide) (by rw [c8_1]; decide) (by rw [c8_1]; rfl) rfl ?_
    refine z_aload_n (q := 0) F dX8_count_97 rfl rfl ?_
    refine gf8_98 F kdc_0 dX8_count_98 ?_
    exact z_iret F h dX8_count_101
  have h := ite_F c8_1 h
  refine z_tabOut (tgt := 102) F dX8_count_5 (by have e0 := sw_ne (n := 0) c0_1 (by decide); have e1 := sw_ne (n := 1) c1_1 (by decide); have e2 := sw_ne (n := 2) c2_1 (by decide); have e3 := sw_ne (n := 3) c3_1 (by decide); have e4 := sw_ne (n := 4) c4_1 (by decide); have e5 := sw_ne (n := 5) c5_1 (by decide); have e6 := sw_ne (n := 6) c6_1 (by decide); have e7 := sw_ne (n := 7) c7_1 (by decide); have e8 := sw_ne (n := 8) c8_1 (by decide); omega) rfl ?_
  refine z_bipush (v := (-2)) F dX8_count_102 rfl ?_
  exact z_iret F h dX8_count_104
theorem ct8_count {r : Int32} {x1 : Int32} {σ : St} (h : M8_count x1 σ = some (r, σ')) : Met l yX8_count (wsY yX8_count cX8_count 2 (some .int)) (rmL 6) (PcW g a [.ref (a 0), .int x1] σ) (QiW g a r σ') 0 0 (Ad a) :=
  ct_I (by decide) (Nat.le_of_ble_eq_true rfl) (fun p e s m args below meth c F => zM8_count F h)
theorem cl8_325 {r : Int32} {x1 : Int32} (F : Fx p s m args meth c cc nL RX8 rt R cz sz g a) (h : M8_count x1 σ = some (r, σ1)) (hR : 6 + 1 ≤ R.frames ∧ 8 + (2 + 11) + 34 * 6 ≤ R.locals) (d : decode cc pc = .ok (.invokevirtual 325, 3)) (hrm : (rest.map fun v => v.category).sum ≤ 8) (z : Z p l e R s m args below meth c Q nL g a cz sz σ1 (pc + 3) lv (.int r :: rest)) : Z p l e R s m args below meth c Q nL g a cz sz σ pc lv (.int x1 :: .ref (a 0) :: rest) :=
  z_callVI (nA := 1) (As := [.int x1]) F (ct8_count h) ⟨(tbm 1274 (by decide +kernel) rfl), (tbm 1261 (by decide +kernel) rfl), (tbm 1262 (by decide +kernel) rfl), (tbm 9 (by decide +kernel) rfl), (tbm 1263 (by decide +kernel) rfl)⟩ (by decide +kernel) rfl kdc_0 (by decide) rfl rfl rfl hR d rfl hrm z
theorem zM8_cut {r : Int32} {x0 : Int32} {x1 : Int32} {σ : St} (F : Fx p s m args meth c cX8_cut 2 RX8 (some .int) (rmL 0) 0 0 g a) (h : M8_cut x0 x1 σ = some (r, σ')) : Z p l e (rmL 0) s m args below meth c (MQ below (QiW g a r σ') args s 0 0 (Ad a)) 2 g a 0 0 σ 0 [(0, .int x0), (1, .int x1)] [] := by
  unfold M8_cut at h
  refine z_iload_n (q := 0) F dX8_cut_0 rfl rfl ?_
  refine z_if_ne (tgt := 9) F dX8_cut_1 rfl (fun c1 => ?_) (fun c1 => ?_)
  · try simp only [if_neg c1] at h
    refine z_iload_n (q := 0) F dX8_cut_9 rfl rfl ?_
    refine z_iconst (v := 1) F dX8_cut_10 rfl ?_
    refine z_icmp_ne (tgt := 19) F dX8_cut_11 rfl (fun c2 => ?_) (fun c2 => ?_)
    · try simp only [if_neg c2] at h
      refine z_iload_n (q := 1) F dX8_cut_19 rfl rfl ?_
      exact z_iret F h dX8_cut_20
    · try simp only [if_pos c2] at h
      refine z_iload_n (q := 1) F dX8_cut_14 rfl rfl ?_
      refine z_i2s F dX8_cut_15 ?_
      refine z_goto (tgt := 20) F dX8_cut_16 rfl ?_
      exact z_iret F h dX8_cut_20
  · try simp only [if_pos c1] at h
    refine z_iload_n (q := 1) F dX8_cut_4 rfl rfl ?_
    refine z_i2b F dX8_cut_5 ?_
    refine z_goto (tgt := 20) F dX8_cut_6 rfl ?_
    exact z_iret F h dX8_cut_20
theorem ct8_cut {r : Int32} {x0 : Int32} {x1 : Int32} {σ : St} (h : M8_cut x0 x1 σ = some (r, σ')) : Met l yX8_cut (wsY yX8_cut cX8_cut 2 (some .int)) (rmL 0) (PcW g a [.int x0, .int x1] σ) (QiW g a r σ') 0 0 (Ad a) :=
  ct_I (by decide) (Nat.le_of_ble_eq_true rfl) (fun p e s m args below meth c F => zM8_cut F h)
theorem cl8_117 {r : Int32} {x0 : Int32} {x1 : Int32} (F : Fx p s m args meth c cc nL RX8 rt R cz sz g a) (h : M8_cut x0 x1 σ = some (r, σ1)) (hR : 0 + 1 ≤ R.frames ∧ 8 + (2 + 11) + 34 * 0 ≤ R.locals) (d : decode cc pc = .ok (.invokestatic 117, 3)) (hrm : (rest.map fun v => v.category).sum ≤ 8) (z : Z p l e R s m args below meth c Q nL g a cz sz σ1 (pc + 3) lv (.int r :: rest)) : Z p l e R s m args below meth c Q nL g a cz sz σ pc lv (.int x1 :: .int x0 :: rest) :=
  z_callSI (nA := 2) (As := [.int x0, .int x1]) F (ct8_cut h) ⟨(tbm 941 (by decide +kernel) rfl), (tbm 942 (by decide +kernel) rfl), (tbm 9 (by decide +kernel) rfl), (tbm 943 (by decide +kernel) rfl)⟩ (by decide +kernel) rfl hR d rfl hrm z
theorem zM8_firstNow_J53 {r : Int32} {x2 : Int32} {y0 : Int32} {σ : St} (F : Fx p s m args meth c cX8_firstNow 3 RX8 (some .int) (rmL 5) 0 0 g a) {kb : Int32 → Int32 → St → Option (Int32 × St)} (hb : ∀ (w1 : Int32) (w2 : Int32) (σ : St), kb w1 w2 σ = some (r, σ') → Z p l e (rmL 5) s m args below meth c (MQ below (QiW g a r σ') args s 0 0 (Ad a)) 3 g a 0 0 σ 10 [(0, .ref (a 0)), (1, .int w1), (2, .int w2)] []) (h : M8_firstNow_J53 kb x2 y0 σ = some (r, σ')) : Z p l e (rmL 5) s m args below meth c (MQ below (QiW g a r σ') args s 0 0 (Ad a)) 3 g a 0 0 σ 53 [(0, .ref (a 0)), (2, .int x2)] [.int y0] := by
  unfold M8_firstNow_J53 at h
  refine z_istore_n (lv' := [(1, .int y0), (0, .ref (a 0)), (2, .int x2)]) F dX8_firstNow_53 rfl (by decide) rfl ?_
  refine z_iinc (q := 2) (v := x2 + 1) (lv' := [(2, .int (x2 + 1)), (1, .int y0), (0, .ref (a 0))]) F dX8_firstNow_54 rfl rfl (by decide) rfl ?_
  refine z_letL (s0 := 2) (lv := [(1, .int y0), (0, .ref (a 0))]) h (fun v5 h => ?_)
  refine z_goto (tgt := 10) F dX8_firstNow_57 rfl ?_
  refine z_sub (lv' := [(0, .ref (a 0)), (1, .int y0), (2, .int v5)]) [2, 1, 0] rfl ?_
  exact hb _ _ _ h
theorem zM8_firstNow_J52 {r : Int32} {x1 : Int32} {x2 : Int32} {σ : St} (F : Fx p s m args meth c cX8_firstNow 3 RX8 (some .int) (rmL 5) 0 0 g a) {kb : Int32 → Int32 → St → Option (Int32 × St)} (hb : ∀ (w1 : Int32) (w2 : Int32) (σ : St), kb w1 w2 σ = some (r, σ') → Z p l e (rmL 5) s m args below meth c (MQ below (QiW g a r σ') args s 0 0 (Ad a)) 3 g a 0 0 σ 10 [(0, .ref (a 0)), (1, .int w1), (2, .int w2)] []) (h : M8_firstNow_J52 kb x1 x2 σ = some (r, σ')) : Z p l e (rmL 5) s m args below meth c (MQ below (QiW g a r σ') args s 0 0 (Ad a)) 3 g a 0 0 σ 52 [(0, .ref (a 0)), (1, .int x1), (2, .int x2)] [] := by
  unfold M8_firstNow_J52 at h
  refine z_iload_n (q := 1) F dX8_firstNow_52 rfl rfl ?_
  refine z_sub (lv' := [(0, .ref (a 0)), (2, .int x2)]) [0, 2] rfl ?_
  exact zM8_firstNow_J53 F hb h
theorem zM8_firstNow_J48 {r : Int32} {x2 : Int32} {σ : St} (F : Fx p s m args meth c cX8_firstNow 3 RX8 (some .int) (rmL 5) 0 0 g a) {kb : Int32 → Int32 → St → Option (Int32 × St)} (hb : ∀ (w1 : Int32) (w2 : Int32) (σ : St), kb w1 w2 σ = some (r, σ') → Z p l e (rmL 5) s m args below meth c (MQ below (QiW g a r σ') args s 0 0 (Ad a)) 3 g a 0 0 σ 10 [(0, .ref (a 0)), (1, .int w1), (2, .int w2)] []) (h : M8_firstNow_J48 kb x2 σ = some (r, σ')) : Z p l e (rmL 5) s m args below meth c (MQ below (QiW g a r σ') args s 0 0 (Ad a)) 3 g a 0 0 σ 48 [(0, .ref (a 0)), (2, .int x2)] [] := by
  unfold M8_firstNow_J48 at h
  refine z_iload_n (q := 1) F dX8_firstNow_48 rfl rfl ?_
  refine z_goto (tgt := 53) F dX8_firstNow_49 rfl ?_
  refine z_sub (lv' := [(0, .ref (a 0)), (2, .int x2)]) [0, 1] rfl ?_
  exact zM8_firstNow_J53 F hb h
theorem zM8_firstNow_L10 {r : Int32} (F : Fx p s m args meth c cX8_firstNow 3 RX8 (some .int) (rmL 5) 0 0 g a) {kx : Int32 → St → Option (Int32 × St)} (hx : ∀ (w1 : Int32) (σ : St), kx w1 σ = some (r, σ') → Z p l e (rmL 5) s m args below meth c (MQ below (QiW g a r σ') args s 0 0 (Ad a)) 3 g a 0 0 σ 60 [(1, .int w1)] []) : ∀ (n : Nat) (x1 : Int32) (x2 : Int32) (σ : St), M8_firstNow_L10 kx n x1 x2 σ = some (r, σ') → Z p l e (rmL 5) s m args below meth c (MQ below (QiW g a r σ') args s 0 0 (Ad a)) 3 g a 0 0 σ 10 [(0, .ref (a 0)), (1, .int x1), (2, .int x2)] [] := by
  intro n
  induction n with
  | zero => intro x1 x2 σ h; rw [M8_firstNow_L10] at h; cases h
  | succ n ih =>
    intro x1 x2 σ h
    rw [M8_firstNow_L10] at h
    refine z_iload_n (q := 2) F dX8_firstNow_10 rfl rfl ?_
    refine z_aload_n (q := 0) F dX8_firstNow_11 rfl rfl ?_
    refine gf8_151 F kdc_0 dX8_firstNow_12 ?_
    refine z_icmp_ge (tgt := 60) F dX8_firstNow_15 rfl (fun c2 => ?_) (fun c2 => ?_)
    · have h := ite_T c2 h
      refine z_sub (lv' := [(1, .int x1)]) [1] rfl ?_
      exact hx _ _ h
    · have h := ite_F c2 h
      refine z_aload_n (q := 0) F dX8_firstNow_18 rfl rfl ?_
      refine gf8_61 F kdc_0 dX8_firstNow_19 ?_
      refine z_iload_n (q := 2) F dX8_firstNow_22 rfl rfl ?_
      obtain ⟨g3, h⟩ := gd_of h
      refine z_iald F kdc_18 (inl lnc_18 g3) dX8_firstNow_23 ?_
      refine z_iconst (v := (-1)) F dX8_firstNow_24 rfl ?_
      refine z_icmp_eq (tgt := 52) F dX8_firstNow_25 rfl (fun c4 => ?_) (fun c4 => ?_)
      · have h := ite_T c4 h
        refine z_sub (lv' := [(0, .ref (a 0)), (1, .int x1), (2, .int x2)]) [0, 1, 2] rfl ?_
        exact zM8_firstNow_J52 F ih h
      · have h := ite_F c4 h
        refine z_iload_n (q := 1) F dX8_firstNow_28 rfl rfl ?_
        refine z_iconst (v := (-1)) F dX8_firstNow_29 rfl ?_
        refine z_icmp_eq (tgt := 48) F dX8_firstNow_30 rfl (fun c6 => ?_) (fun c6 => ?_)
        · have h := ite_T c6 h
          refine z_sub (lv' := [(0, .ref (a 0)), (2, .int x2)]) [0, 2] rfl ?_
          exact zM8_firstNow_J48 F ih h
        · have h := ite_F c6 h
          refine z_aload_n (q := 0) F dX8_firstNow_33 rfl rfl ?_
          refine gf8_61 F kdc_0 dX8_firstNow_34 ?_
          refine z_iload_n (q := 2) F dX8_firstNow_37 rfl rfl ?_
          refine z_iald F kdc_18 (inl lnc_18 g3) dX8_firstNow_38 ?_
          refine z_aload_n (q := 0) F dX8_firstNow_39 rfl rfl ?_
          refine gf8_61 F kdc_0 dX8_firstNow_40 ?_
          refine z_iload_n (q := 1) F dX8_firstNow_43 rfl rfl ?_
          obtain ⟨g8, h⟩ := gd_of h
          refine z_iald F kdc_18 (inl lnc_18 g8) dX8_firstNow_44 ?_
          refine z_icmp_ge (tgt := 52) F dX8_firstNow_45 rfl (fun c9 => ?_) (fun c9 => ?_)
          · have h := ite_T c9 h
            refine z_sub (lv' := [(0, .ref (a 0)), (1, .int x1), (2, .int x2)]) [0, 1, 2] rfl ?_
            exact zM8_firstNow_J52 F ih h
          · have h := ite_F c9 h
            refine z_sub (lv' := [(0, .ref (a 0)), (2, .int x2)]) [0, 2] rfl ?_
            exact zM8_firstNow_J48 F ih h
theorem zM8_firstNow {r : Int32} {σ : St} (F : Fx p s m args meth c cX8_firstNow 3 RX8 (some .int) (rmL 5) 0 0 g a) (h : M8_firstNow σ = some (r, σ')) : Z p l e (rmL 5) s m args below meth c (MQ below (QiW g a r σ') args s 0 0 (Ad a)) 3 g a 0 0 σ 0 [(0, .ref (a 0))] [] := by
  unfold M8_firstNow at h
  refine z_aload_n (q := 0) F dX8_firstNow_0 rfl rfl ?_
  refine z_bipush (v := 39) F dX8_firstNow_1 rfl ?_
  obtain ⟨r1, σ1, hq1, h⟩ := bd_of h
  refine cl8_218 F hq1 ⟨Nat.le_of_ble_eq_true rfl, Nat.le_of_ble_eq_true rfl⟩ dX8_firstNow_3 (Nat.le_of_ble_eq_true rfl) ?_
  refine z_iconst (v := (-1)) F dX8_firstNow_6 rfl ?_
  refine z_istore_n (lv' := [(1, .int ((-1))), (0, .ref (a 0))]) F dX8_firstNow_7 rfl (by decide) rfl ?_
  refine z_iconst (v := 0) F dX8_firstNow_8 rfl ?_
  refine z_istore_n (lv' := [(2, .int 0), (1, .int ((-1))), (0, .ref (a 0))]) F dX8_firstNow_9 rfl (by decide) rfl ?_
  refine z_sub (lv' := [(0, .ref (a 0)), (1, .int ((-1))), (2, .int 0)]) [2, 1, 0] rfl ?_
  refine zM8_firstNow_L10 F ?_ _ _ _ _ h
  intro v10 σ11 h
  refine z_iload_n (q := 0) F dX8_firstNow_60 rfl rfl ?_
  exact z_iret F h dX8_firstNow_61
theorem ct8_firstNow {r : Int32} {σ : St} (h : M8_firstNow σ = some (r, σ')) : Met l yX8_firstNow (wsY yX8_firstNow cX8_firstNow 3 (some .int)) (rmL 5) (PcW g a [.ref (a 0)] σ) (QiW g a r σ') 0 0 (Ad a) :=
  ct_I (by decide) (Nat.le_of_ble_eq_true rfl) (fun p e s m args below meth c F => zM8_firstNow F h)
theorem cl8_237 {r : Int32} (F : Fx p s m args meth c cc nL RX8 rt R cz sz g a) (h : M8_firstNow σ = some (r, σ1)) (hR : 5 + 1 ≤ R.frames ∧ 8 + (3 + 11) + 34 * 5 ≤ R.locals) (d : decode cc pc = .ok (.invokevirtual 237, 3)) (hrm : (rest.map fun v => v.category).sum ≤ 8) (z : Z p l e R s m args below meth c Q nL g a cz sz σ1 (pc + 3) lv (.int r :: rest)) : Z p l e R s m args below meth c Q nL g a cz sz σ pc lv (.ref (a 0) :: rest) :=
  z_callVI (nA := 0) (As := []) F (ct8_firstNow h) ⟨(tbm 1129 (by decide +kernel) rfl), (tbm 1131 (by decide +kernel) rfl), (tbs 83 (by decide +kernel) rfl), (tbm 9 (by decide +kernel) rfl), (tbm 1132 (by decide +kernel) rfl)⟩ (by decide +kernel) rfl kdc_0 (by decide) rfl rfl rfl hR d rfl hrm z
end WalkZ
