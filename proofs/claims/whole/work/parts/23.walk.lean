section WalkZ
variable {p : Program} {l : Launch} {e : Env} {R : Room} {s : State} {m : MethodId} {args : Array Value} {below : List Frame} {meth : Method} {c : Code} {Q : State → Prop} {cc : ByteArray} {nL : Nat} {own : String} {rt : Option FieldType} {g : Gd} {a : Nat → Nat} {cz sz : Nat} {σ σ1 σ' : St} {pc : Nat} {lv lv' : List (Nat × Value)} {st st0 rest : List Value}
theorem zM8_looksNow {r : Int32} {x1 : Int32} {σ : St} (F : Fx p s m args meth c cX8_looksNow 2 RX8 (some .int) (rmL 0) 0 0 g a) (h : M8_looksNow x1 σ = some (r, σ')) : Z p l e (rmL 0) s m args below meth c (MQ below (QiW g a r σ') args s 0 0 (Ad a)) 2 g a 0 0 σ 0 [(0, .ref (a 0)), (1, .int x1)] [] := by
  unfold M8_looksNow at h
  refine z_aload_n (q := 0) F dX8_looksNow_0 rfl rfl ?_
  refine gf8_49 F kdc_0 dX8_looksNow_1 ?_
  refine z_iload_n (q := 1) F dX8_looksNow_4 rfl rfl ?_
  obtain ⟨g1, h⟩ := gd_of h
  refine z_iald F kdc_14 (inl lnc_14 g1) dX8_looksNow_5 ?_
  refine z_iconst (v := (-1)) F dX8_looksNow_6 rfl ?_
  refine z_icmp_ne (tgt := 19) F dX8_looksNow_7 rfl (fun c2 => ?_) (fun c2 => ?_)
  · try simp only [if_neg c2] at h
    refine z_iconst (v := 0) F dX8_looksNow_19 rfl ?_
    exact z_iret F h dX8_looksNow_20
  · try simp only [if_pos c2] at h
    refine z_aload_n (q := 0) F dX8_looksNow_10 rfl rfl ?_
    refine gf8_43 F kdc_0 dX8_looksNow_11 ?_
    refine z_iload_n (q := 1) F dX8_looksNow_14 rfl rfl ?_
    refine z_iald F kdc_12 (inl lnc_12 g1) dX8_looksNow_15 ?_
    refine z_goto (tgt := 20) F dX8_looksNow_16 rfl ?_
    exact z_iret F h dX8_looksNow_20
theorem ct8_looksNow {r : Int32} {x1 : Int32} {σ : St} (h : M8_looksNow x1 σ = some (r, σ')) : Met l yX8_looksNow (wsY yX8_looksNow cX8_looksNow 2 (some .int)) (rmL 0) (PcW g a [.ref (a 0), .int x1] σ) (QiW g a r σ') 0 0 (Ad a) :=
  ct_I (by decide) (Nat.le_of_ble_eq_true rfl) (fun p e s m args below meth c F => zM8_looksNow F h)
theorem cl8_279 {r : Int32} {x1 : Int32} (F : Fx p s m args meth c cc nL RX8 rt R cz sz g a) (h : M8_looksNow x1 σ = some (r, σ1)) (hR : 0 + 1 ≤ R.frames ∧ 8 + (2 + 11) + 34 * 0 ≤ R.locals) (d : decode cc pc = .ok (.invokevirtual 279, 3)) (hrm : (rest.map fun v => v.category).sum ≤ 8) (z : Z p l e R s m args below meth c Q nL g a cz sz σ1 (pc + 3) lv (.int r :: rest)) : Z p l e R s m args below meth c Q nL g a cz sz σ pc lv (.int x1 :: .ref (a 0) :: rest) :=
  z_callVI (nA := 1) (As := [.int x1]) F (ct8_looksNow h) ⟨(tbm 1214 (by decide +kernel) rfl), (tbm 1216 (by decide +kernel) rfl), (tbs 97 (by decide +kernel) rfl), (tbm 9 (by decide +kernel) rfl), (tbm 1217 (by decide +kernel) rfl)⟩ (by decide +kernel) rfl kdc_0 (by decide) rfl rfl rfl hR d rfl hrm z
theorem zM8_isSeen_J77 {r : Int32} {x2 : Int32} {y0 : Int32} {σ : St} (F : Fx p s m args meth c cX8_isSeen 3 RX8 (some .boolean) (rmL 5) 0 0 g a) {kb : Int32 → Int32 → St → Option (Int32 × St)} (hb : ∀ (w1 : Int32) (w2 : Int32) (σ : St), kb w1 w2 σ = some (r, σ') → Z p l e (rmL 5) s m args below meth c (MQ below (QiW g a r σ') args s 0 0 (Ad a)) 3 g a 0 0 σ 4 [(0, .ref (a 0)), (1, .int w1), (2, .int w2)] []) (h : M8_isSeen_J77 kb x2 y0 σ = some (r, σ')) : Z p l e (rmL 5) s m args below meth c (MQ below (QiW g a r σ') args s 0 0 (Ad a)) 3 g a 0 0 σ 77 [(0, .ref (a 0)), (2, .int x2)] [.int y0] := by
  unfold M8_isSeen_J77 at h
  refine z_istore_n (lv' := [(1, .int y0), (0, .ref (a 0)), (2, .int x2)]) F dX8_isSeen_77 rfl (by decide) rfl ?_
  refine z_iinc (q := 2) (v := x2 + 1) (lv' := [(2, .int (x2 + 1)), (1, .int y0), (0, .ref (a 0))]) F dX8_isSeen_78 rfl rfl (by decide) rfl ?_
  refine z_letL (s0 := 2) (lv := [(1, .int y0), (0, .ref (a 0))]) h (fun v8 h => ?_)
  refine z_goto (tgt := 4) F dX8_isSeen_81 rfl ?_
  refine z_sub (lv' := [(0, .ref (a 0)), (1, .int y0), (2, .int v8)]) [2, 1, 0] rfl ?_
  exact hb _ _ _ h
theorem zM8_isSeen_J76 {r : Int32} {x2 : Int32} {σ : St} (F : Fx p s m args meth c cX8_isSeen 3 RX8 (some .boolean) (rmL 5) 0 0 g a) {kb : Int32 → Int32 → St → Option (Int32 × St)} (hb : ∀ (w1 : Int32) (w2 : Int32) (σ : St), kb w1 w2 σ = some (r, σ') → Z p l e (rmL 5) s m args below meth c (MQ below (QiW g a r σ') args s 0 0 (Ad a)) 3 g a 0 0 σ 4 [(0, .ref (a 0)), (1, .int w1), (2, .int w2)] []) (h : M8_isSeen_J76 kb x2 σ = some (r, σ')) : Z p l e (rmL 5) s m args below meth c (MQ below (QiW g a r σ') args s 0 0 (Ad a)) 3 g a 0 0 σ 76 [(0, .ref (a 0)), (2, .int x2)] [] := by
  unfold M8_isSeen_J76 at h
  refine z_iconst (v := 0) F dX8_isSeen_76 rfl ?_
  refine z_sub (lv' := [(0, .ref (a 0)), (2, .int x2)]) [0, 1] rfl ?_
  exact zM8_isSeen_J77 F hb h
theorem zM8_isSeen_L4 {r : Int32} (F : Fx p s m args meth c cX8_isSeen 3 RX8 (some .boolean) (rmL 5) 0 0 g a) {kx : Int32 → St → Option (Int32 × St)} (hx : ∀ (w1 : Int32) (σ : St), kx w1 σ = some (r, σ') → Z p l e (rmL 5) s m args below meth c (MQ below (QiW g a r σ') args s 0 0 (Ad a)) 3 g a 0 0 σ 84 [(1, .int w1)] []) : ∀ (n : Nat) (x1 : Int32) (x2 : Int32) (σ : St), M8_isSeen_L4 kx n x1 x2 σ = some (r, σ') → Z p l e (rmL 5) s m args below meth c (MQ below (QiW g a r σ') args s 0 0 (Ad a)) 3 g a 0 0 σ 4 [(0, .ref (a 0)), (1, .int x1), (2, .int x2)] [] := by
  intro n
  induction n with
  | zero => intro x1 x2 σ h; rw [M8_isSeen_L4] at h; cases h
  | succ n ih =>
    intro x1 x2 σ h
    rw [M8_isSeen_L4] at h
    refine z_iload_n (q := 2) F dX8_isSeen_4 rfl rfl ?_
    refine z_aload_n (q := 0) F dX8_isSeen_5 rfl rfl ?_
    refine gf8_276 F kdc_0 dX8_isSeen_6 ?_
    refine z_icmp_ge (tgt := 84) F dX8_isSeen_9 rfl (fun c1 => ?_) (fun c1 => ?_)
    · have h := ite_T c1 h
      refine z_sub (lv' := [(1, .int x1)]) [1] rfl ?_
      exact hx _ _ h
    · have h := ite_F c1 h
      refine z_iload_n (q := 1) F dX8_isSeen_12 rfl rfl ?_
      refine z_if_eq (tgt := 84) F dX8_isSeen_13 rfl (fun c2 => ?_) (fun c2 => ?_)
      · have h := ite_T c2 h
        refine z_sub (lv' := [(1, .int x1)]) [1] rfl ?_
        exact hx _ _ h
      · have h := ite_F c2 h
        refine z_aload_n (q := 0) F dX8_isSeen_16 rfl rfl ?_
        refine z_aload_n (q := 0) F dX8_isSeen_17 rfl rfl ?_
        refine gf8_76 F kdc_0 dX8_isSeen_18 ?_
        refine z_iconst (v := 3) F dX8_isSeen_21 rfl ?_
        refine z_iload_n (q := 2) F dX8_isSeen_22 rfl rfl ?_
        refine z_imul F dX8_isSeen_23 ?_
        obtain ⟨g3, h⟩ := gd_of h
        refine z_iald F kdc_23 (inl lnc_23 g3) dX8_isSeen_24 ?_
        obtain ⟨r4, σ4, hq4, h⟩ := bd_of h
        refine cl8_218 F hq4 ⟨Nat.le_of_ble_eq_true rfl, Nat.le_of_ble_eq_true rfl⟩ dX8_isSeen_25 (Nat.le_of_ble_eq_true rfl) ?_
        refine z_aload_n (q := 0) F dX8_isSeen_28 rfl rfl ?_
        refine z_aload_n (q := 0) F dX8_isSeen_29 rfl rfl ?_
        refine gf8_76 F kdc_0 dX8_isSeen_30 ?_
        refine z_iconst (v := 3) F dX8_isSeen_33 rfl ?_
        refine z_iload_n (q := 2) F dX8_isSeen_34 rfl rfl ?_
        refine z_imul F dX8_isSeen_35 ?_
        refine z_iconst (v := 1) F dX8_isSeen_36 rfl ?_
        refine z_iadd F dX8_isSeen_37 ?_
        obtain ⟨g5, h⟩ := gd_of h
        refine z_iald F kdc_23 (inl lnc_23 g5) dX8_isSeen_38 ?_
        obtain ⟨r6, σ6, hq6, h⟩ := bd_of h
        refine cl8_145 F hq6 ⟨Nat.le_of_ble_eq_true rfl, Nat.le_of_ble_eq_true rfl⟩ dX8_isSeen_39 (Nat.le_of_ble_eq_true rfl) ?_
        refine z_if_eq (tgt := 76) F dX8_isSeen_42 rfl (fun c7 => ?_) (fun c7 => ?_)
        · have h := ite_T c7 h
          refine z_sub (lv' := [(0, .ref (a 0)), (2, .int x2)]) [0, 2] rfl ?_
          exact zM8_isSeen_J76 F ih h
        · have h := ite_F c7 h
          refine z_aload_n (q := 0) F dX8_isSeen_45 rfl rfl ?_
          refine z_aload_n (q := 0) F dX8_isSeen_46 rfl rfl ?_
          refine gf8_76 F kdc_0 dX8_isSeen_47 ?_
          refine z_iconst (v := 3) F dX8_isSeen_50 rfl ?_
          refine z_iload_n (q := 2) F dX8_isSeen_51 rfl rfl ?_
          refine z_imul F dX8_isSeen_52 ?_
          refine z_iconst (v := 1) F dX8_isSeen_53 rfl ?_
          refine z_iadd F dX8_isSeen_54 ?_
          refine z_iald F kdc_23 (inl lnc_23 g5) dX8_isSeen_55 ?_
          obtain ⟨r10, σ10, hq10, h⟩ := bd_of h
          refine cl8_279 F hq10 ⟨Nat.le_of_ble_eq_true rfl, Nat.le_of_ble_eq_true rfl⟩ dX8_isSeen_56 (Nat.le_of_ble_eq_true rfl) ?_
          refine z_aload_n (q := 0) F dX8_isSeen_59 rfl rfl ?_
          refine gf8_76 F kdc_0 dX8_isSeen_60 ?_
          refine z_iconst (v := 3) F dX8_isSeen_63 rfl ?_
          refine z_iload_n (q := 2) F dX8_isSeen_64 rfl rfl ?_
          refine z_imul F dX8_isSeen_65 ?_
          refine z_iconst (v := 2) F dX8_isSeen_66 rfl ?_
          refine z_iadd F dX8_isSeen_67 ?_
          obtain ⟨g11, h⟩ := gd_of h
          refine z_iald F kdc_23 (inl lnc_23 g11) dX8_isSeen_68 ?_
          refine z_icmp_ne (tgt := 76) F dX8_isSeen_69 rfl (fun c12 => ?_) (fun c12 => ?_)
          · have h := ite_F c12 h
            refine z_sub (lv' := [(0, .ref (a 0)), (2, .int x2)]) [0, 2] rfl ?_
            exact zM8_isSeen_J76 F ih h
          · have h := ite_T c12 h
            refine z_iconst (v := 1) F dX8_isSeen_72 rfl ?_
            refine z_goto (tgt := 77) F dX8_isSeen_73 rfl ?_
            refine z_sub (lv' := [(0, .ref (a 0)), (2, .int x2)]) [0, 2] rfl ?_
            exact zM8_isSeen_J77 F ih h
theorem zM8_isSeen {r : Int32} {σ : St} (F : Fx p s m args meth c cX8_isSeen 3 RX8 (some .boolean) (rmL 5) 0 0 g a) (h : M8_isSeen σ = some (r, σ')) : Z p l e (rmL 5) s m args below meth c (MQ below (QiW g a r σ') args s 0 0 (Ad a)) 3 g a 0 0 σ 0 [(0, .ref (a 0))] [] := by
  unfold M8_isSeen at h
  refine z_iconst (v := 1) F dX8_isSeen_0 rfl ?_
  refine z_istore_n (lv' := [(1, .int 1), (0, .ref (a 0))]) F dX8_isSeen_1 rfl (by decide) rfl ?_
  refine z_iconst (v := 0) F dX8_isSeen_2 rfl ?_
  refine z_istore_n (lv' := [(2, .int 0), (1, .int 1), (0, .ref (a 0))]) F dX8_isSeen_3 rfl (by decide) rfl ?_
  refine z_sub (lv' := [(0, .ref (a 0)), (1, .int 1), (2, .int 0)]) [2, 1, 0] rfl ?_
  refine zM8_isSeen_L4 F ?_ _ _ _ _ h
  intro v13 σ14 h
  refine z_iload_n (q := 0) F dX8_isSeen_84 rfl rfl ?_
  obtain ⟨g15, h⟩ := gd_of h
  exact z_bret F g15 h dX8_isSeen_85
theorem ct8_isSeen {r : Int32} {σ : St} (h : M8_isSeen σ = some (r, σ')) : Met l yX8_isSeen (wsY yX8_isSeen cX8_isSeen 3 (some .boolean)) (rmL 5) (PcW g a [.ref (a 0)] σ) (QiW g a r σ') 0 0 (Ad a) :=
  ct_I (by decide) (Nat.le_of_ble_eq_true rfl) (fun p e s m args below meth c F => zM8_isSeen F h)
theorem cl8_282 {r : Int32} (F : Fx p s m args meth c cc nL RX8 rt R cz sz g a) (h : M8_isSeen σ = some (r, σ1)) (hR : 5 + 1 ≤ R.frames ∧ 8 + (3 + 11) + 34 * 5 ≤ R.locals) (d : decode cc pc = .ok (.invokevirtual 282, 3)) (hrm : (rest.map fun v => v.category).sum ≤ 8) (z : Z p l e R s m args below meth c Q nL g a cz sz σ1 (pc + 3) lv (.int r :: rest)) : Z p l e R s m args below meth c Q nL g a cz sz σ pc lv (.ref (a 0) :: rest) :=
  z_callVI (nA := 0) (As := []) F (ct8_isSeen h) ⟨(tbm 1210 (by decide +kernel) rfl), (tbm 1212 (by decide +kernel) rfl), (tbs 96 (by decide +kernel) rfl), (tbm 9 (by decide +kernel) rfl), (tbm 1213 (by decide +kernel) rfl)⟩ (by decide +kernel) rfl kdc_0 (by decide) rfl rfl rfl hR d rfl hrm z
theorem zM8_neverOf_J65 {r : Int32} {x1 : Int32} {x3 : Int32} {y0 : Int32} {y1 : Int32} {σ : St} (F : Fx p s m args meth c cX8_neverOf 4 RX8 (some .int) (rmL 6) 0 0 g a) {kb : Int32 → Int32 → St → Option (Int32 × St)} (hb : ∀ (w2 : Int32) (w3 : Int32) (σ : St), kb w2 w3 σ = some (r, σ') → Z p l e (rmL 6) s m args below meth c (MQ below (QiW g a r σ') args s 0 0 (Ad a)) 4 g a 0 0 σ 4 [(0, .ref (a 0)), (1, .int x1), (2, .int w2), (3, .int w3)] []) (h : M8_neverOf_J65 kb x1 x3 y0 y1 σ = some (r, σ')) : Z p l e (rmL 6) s m args below meth c (MQ below (QiW g a r σ') args s 0 0 (Ad a)) 4 g a 0 0 σ 65 [(0, .ref (a 0)), (1, .int x1), (3, .int x3)] [.int y0, .int y1] := by
  unfold M8_neverOf_J65 at h
  refine z_ior F dX8_neverOf_65 ?_
  refine z_letI h (fun v9 h => ?_)
  refine z_istore_n (lv' := [(2, .int v9), (0, .ref (a 0)), (1, .int x1), (3, .int x3)]) F dX8_neverOf_66 rfl (by decide) rfl ?_
  refine z_iinc (q := 3) (v := x3 + 1) (lv' := [(3, .int (x3 + 1)), (2, .int v9), (0, .ref (a 0)), (1, .int x1)]) F dX8_neverOf_67 rfl rfl (by decide) rfl ?_
  refine z_letL (s0 := 3) (lv := [(2, .int v9), (0, .ref (a 0)), (1, .int x1)]) h (fun v10 h => ?_)
  refine z_goto (tgt := 4) F dX8_neverOf_70 rfl ?_
  refine z_sub (lv' := [(0, .ref (a 0)), (1, .int x1), (2, .int v9), (3, .int v10)]) [2, 3, 1, 0] rfl ?_
  exact hb _ _ _ h
theorem zM8_neverOf_J47 {r : Int32} {x1 : Int32} {x2 : Int32} {x3 : Int32} {y0 : Int32} {σ : St} (F : Fx p s m args meth c cX8_neverOf 4 RX8 (some .int) (rmL 6) 0 0 g a) {kb : Int32 → Int32 → St → Option (Int32 × St)} (hb : ∀ (w2 : Int32) (w3 : Int32) (σ : St), kb w2 w3 σ = some (r, σ') → Z p l e (rmL 6) s m args below meth c (MQ below (QiW g a r σ') args s 0 0 (Ad a)) 4 g a 0 0 σ 4 [(0, .ref (a 0)), (1, .int x1), (2, .int w2), (3, .int w3)] []) (h : M8_neverOf_J47 kb x1 x2 x3 y0 σ = some (r, σ')) : Z p l e (rmL 6) s m args below meth c (MQ below (QiW g a r σ') args s 0 0 (Ad a)) 4 g a 0 0 σ 47 [(0, .ref (a 0)), (1, .int x1), (2, .int x2), (3, .int x3)] [.int y0, .ref (a 0)] := by
  unfold M8_neverOf_J47 at h
  refine pf8_89 F kdc_0 dX8_neverOf_47 ?_
  refine z_let h (fun σ6 h => ?_)
  refine z_iload_n (q := 2) F dX8_neverOf_50 rfl rfl ?_
  refine z_aload_n (q := 0) F dX8_neverOf_51 rfl rfl ?_
  obtain ⟨r7, σ7, hq7, h⟩ := bd_of h
  refine cl8_282 F hq7 ⟨Nat.le_of_ble_eq_true rfl, Nat.le_of_ble_eq_true rfl⟩ dX8_neverOf_52 (Nat.le_of_ble_eq_true rfl) ?_
  refine z_if_eq (tgt := 64) F dX8_neverOf_55 rfl (fun c8 => ?_) (fun c8 => ?_)
  · try simp only [if_pos c8] at h
    refine z_iconst (v := 0) F dX8_neverOf_64 rfl ?_
    refine z_sub (lv' := [(0, .ref (a 0)), (1, .int x1), (3, .int x3)]) [0, 1, 3] rfl ?_
    exact zM8_neverOf_J65 F hb h
  · try simp only [if_neg c8] at h
    refine z_iconst (v := 1) F dX8_neverOf_58 rfl ?_
    refine z_iload_n (q := 3) F dX8_neverOf_59 rfl rfl ?_
    refine z_ishl F dX8_neverOf_60 ?_
    refine z_goto (tgt := 65) F dX8_neverOf_61 rfl ?_
    refine z_sub (lv' := [(0, .ref (a 0)), (1, .int x1), (3, .int x3)]) [0, 1, 3] rfl ?_
    exact zM8_neverOf_J65 F hb h
theorem zM8_neverOf_J33 {r : Int32} {x1 : Int32} {x2 : Int32} {x3 : Int32} {y0 : Int32} {σ : St} (F : Fx p s m args meth c cX8_neverOf 4 RX8 (some .int) (rmL 6) 0 0 g a) {kb : Int32 → Int32 → St → Option (Int32 × St)} (hb : ∀ (w2 : Int32) (w3 : Int32) (σ : St), kb w2 w3 σ = some (r, σ') → Z p l e (rmL 6) s m args below meth c (MQ below (QiW g a r σ') args s 0 0 (Ad a)) 4 g a 0 0 σ 4 [(0, .ref (a 0)), (1, .int x1), (2, .int w2), (3, .int w3)] []) (h : M8_neverOf_J33 kb x1 x2 x3 y0 σ = some (r, σ')) : Z p l e (rmL 6) s m args below meth c (MQ below (QiW g a r σ') args s 0 0 (Ad a)) 4 g a 0 0 σ 33 [(0, .ref (a 0)), (1, .int x1), (2, .int x2), (3, .int x3)] [.int y0, .ref (a 0)] := by
  unfold M8_neverOf_J33 at h
  refine pf8_86 F kdc_0 dX8_neverOf_33 ?_
  refine z_let h (fun σ4 h => ?_)
  refine z_aload_n (q := 0) F dX8_neverOf_36 rfl rfl ?_
  refine z_iload_n (q := 1) F dX8_neverOf_37 rfl rfl ?_
  refine z_iconst (v := 1) F dX8_neverOf_38 rfl ?_
  refine z_icmp_ne (tgt := 46) F dX8_neverOf_39 rfl (fun c5 => ?_) (fun c5 => ?_)
  · try simp only [if_neg c5] at h
    refine z_iconst (v := (-1)) F dX8_neverOf_46 rfl ?_
    refine z_sub (lv' := [(0, .ref (a 0)), (1, .int x1), (2, .int x2), (3, .int x3)]) [0, 1, 2, 3] rfl ?_
    exact zM8_neverOf_J47 F hb h
  · try simp only [if_pos c5] at h
    refine z_iload_n (q := 3) F dX8_neverOf_42 rfl rfl ?_
    refine z_goto (tgt := 47) F dX8_neverOf_43 rfl ?_
    refine z_sub (lv' := [(0, .ref (a 0)), (1, .int x1), (2, .int x2), (3, .int x3)]) [0, 1, 2, 3] rfl ?_
    exact zM8_neverOf_J47 F hb h
theorem zM8_neverOf_J20 {r : Int32} {x1 : Int32} {x2 : Int32} {x3 : Int32} {y0 : Int32} {y1 : Int32} {σ : St} (F : Fx p s m args meth c cX8_neverOf 4 RX8 (some .int) (rmL 6) 0 0 g a) {kb : Int32 → Int32 → St → Option (Int32 × St)} {kx : Int32 → St → Option (Int32 × St)} (hb : ∀ (w2 : Int32) (w3 : Int32) (σ : St), kb w2 w3 σ = some (r, σ') → Z p l e (rmL 6) s m args below meth c (MQ below (QiW g a r σ') args s 0 0 (Ad a)) 4 g a 0 0 σ 4 [(0, .ref (a 0)), (1, .int x1), (2, .int w2), (3, .int w3)] []) (hx : ∀ (w2 : Int32) (σ : St), kx w2 σ = some (r, σ') → Z p l e (rmL 6) s m args below meth c (MQ below (QiW g a r σ') args s 0 0 (Ad a)) 4 g a 0 0 σ 73 [(0, .ref (a 0)), (2, .int w2)] []) (h : M8_neverOf_J20 kb kx x1 x2 x3 y0 y1 σ = some (r, σ')) : Z p l e (rmL 6) s m args below meth c (MQ below (QiW g a r σ') args s 0 0 (Ad a)) 4 g a 0 0 σ 20 [(0, .ref (a 0)), (1, .int x1), (2, .int x2), (3, .int x3)] [.int y0, .int y1] := by
  unfold M8_neverOf_J20 at h
  refine z_icmp_ge (tgt := 73) F dX8_neverOf_20 rfl (fun c2 => ?_) (fun c2 => ?_)
  · have h := ite_T c2 h
    refine z_sub (lv' := [(0, .ref (a 0)), (2, .int x2)]) [0, 2] rfl ?_
    exact hx _ _ h
  · have h := ite_F c2 h
    refine z_aload_n (q := 0) F dX8_neverOf_23 rfl rfl ?_
    refine z_iload_n (q := 1) F dX8_neverOf_24 rfl rfl ?_
    refine z_if_ne (tgt := 32) F dX8_neverOf_25 rfl (fun c3 => ?_) (fun c3 => ?_)
    · try simp only [if_neg c3] at h
      refine z_iconst (v := (-1)) F dX8_neverOf_32 rfl ?_
      refine z_sub (lv' := [(0, .ref (a 0)), (1, .int x1), (2, .int x2), (3, .int x3)]) [0, 1, 2, 3] rfl ?_
      exact zM8_neverOf_J33 F hb h
    · try simp only [if_pos c3] at h
      refine z_iload_n (q := 3) F dX8_neverOf_28 rfl rfl ?_
      refine z_goto (tgt := 33) F dX8_neverOf_29 rfl ?_
      refine z_sub (lv' := [(0, .ref (a 0)), (1, .int x1), (2, .int x2), (3, .int x3)]) [0, 1, 2, 3] rfl ?_
      exact zM8_neverOf_J33 F hb h
theorem zM8_neverOf_L4 {r : Int32} {x1 : Int32} (F : Fx p s m args meth c cX8_neverOf 4 RX8 (some .int) (rmL 6) 0 0 g a) {kx : Int32 → St → Option (Int32 × St)} (hx : ∀ (w2 : Int32) (σ : St), kx w2 σ = some (r, σ') → Z p l e (rmL 6) s m args below meth c (MQ below (QiW g a r σ') args s 0 0 (Ad a)) 4 g a 0 0 σ 73 [(0, .ref (a 0)), (2, .int w2)] []) : ∀ (n : Nat) (x2 : Int32) (x3 : Int32) (σ : St), M8_neverOf_L4 x1 kx n x2 x3 σ = some (r, σ') → Z p l e (rmL 6) s m args below meth c (MQ below (QiW g a r σ') args s 0 0 (Ad a)) 4 g a 0 0 σ 4 [(0, .ref (a 0)), (1, .int x1), (2, .int x2), (3, .int x3)] [] := by
  intro n
  induction n with
  | zero => intro x2 x3 σ h; rw [M8_neverOf_L4] at h; cases h
  | succ n ih =>
    intro x2 x3 σ h
    rw [M8_neverOf_L4] at h
    refine z_iload_n (q := 3) F dX8_neverOf_4 rfl rfl ?_
    refine z_iload_n (q := 1) F dX8_neverOf_5 rfl rfl ?_
    refine z_if_ne (tgt := 16) F dX8_neverOf_6 rfl (fun c1 => ?_) (fun c1 => ?_)
    · try simp only [if_neg c1] at h
      refine z_aload_n (q := 0) F dX8_neverOf_16 rfl rfl ?_
      refine gf8_171 F kdc_0 dX8_neverOf_17 ?_
      refine z_sub (lv' := [(0, .ref (a 0)), (1, .int x1), (2, .int x2), (3, .int x3)]) [0, 1, 2, 3] rfl ?_
      exact zM8_neverOf_J20 F ih hx h
    · try simp only [if_pos c1] at h
      refine z_aload_n (q := 0) F dX8_neverOf_9 rfl rfl ?_
      refine gf8_151 F kdc_0 dX8_neverOf_10 ?_
      refine z_goto (tgt := 20) F dX8_neverOf_13 rfl ?_
      refine z_sub (lv' := [(0, .ref (a 0)), (1, .int x1), (2, .int x2), (3, .int x3)]) [0, 1, 2, 3] rfl ?_
      exact zM8_neverOf_J20 F ih hx h
theorem zM8_neverOf {r : Int32} {x1 : Int32} {σ : St} (F : Fx p s m args meth c cX8_neverOf 4 RX8 (some .int) (rmL 6) 0 0 g a) (h : M8_neverOf x1 σ = some (r, σ')) : Z p l e (rmL 6) s m args below meth c (MQ below (QiW g a r σ') args s 0 0 (Ad a)) 4 g a 0 0 σ 0 [(0, .ref (a 0)), (1, .int x1)] [] := by
  unfold M8_neverOf at h
  refine z_iconst (v := 0) F dX8_neverOf_0 rfl ?_
  refine z_istore_n (lv' := [(2, .int 0), (0, .ref (a 0)), (1, .int x1)]) F dX8_neverOf_1 rfl (by decide) rfl ?_
  refine z_iconst (v := 0) F dX8_neverOf_2 rfl ?_
  refine z_istore_n (lv' := [(3, .int 0), (2, .int 0), (0, .ref (a 0)), (1, .int x1)]) F dX8_neverOf_3 rfl (by decide) rfl ?_
  refine z_sub (lv' := [(0, .ref (a 0)), (1, .int x1), (2, .int 0), (3, .int 0)]) [2, 3, 1, 0] rfl ?_
  refine zM8_neverOf_L4 F ?_ _ _ _ _ h
  intro v11 σ12 h
  refine z_aload_n (q := 0) F dX8_neverOf_73 rfl rfl ?_
  refine z_iconst (v := (-1)) F dX8_neverOf_74 rfl ?_
  refine pf8_86 F kdc_0 dX8_neverOf_75 ?_
  refine z_let h (fun σ13 h => ?_)
  refine z_aload_n (q := 0) F dX8_neverOf_78 rfl rfl ?_
  refine z_iconst (v := (-1)) F dX8_neverOf_79 rfl ?_
  refine pf8_89 F kdc_0 dX8_neverOf_80 ?_
  refine z_let h (fun σ14 h => ?_)
  refine z_iload_n (q := 1) F dX8_neverOf_83 rfl rfl ?_
  exact z_iret F h dX8_neverOf_84
theorem ct8_neverOf {r : Int32} {x1 : Int32} {σ : St} (h : M8_neverOf x1 σ = some (r, σ')) : Met l yX8_neverOf (wsY yX8_neverOf cX8_neverOf 4 (some .int)) (rmL 6) (PcW g a [.ref (a 0), .int x1] σ) (QiW g a r σ') 0 0 (Ad a) :=
  ct_I (by decide) (Nat.le_of_ble_eq_true rfl) (fun p e s m args below meth c F => zM8_neverOf F h)
theorem cl8_286 {r : Int32} {x1 : Int32} (F : Fx p s m args meth c cc nL RX8 rt R cz sz g a) (h : M8_neverOf x1 σ = some (r, σ1)) (hR : 6 + 1 ≤ R.frames ∧ 8 + (4 + 11) + 34 * 6 ≤ R.locals) (d : decode cc pc = .ok (.invokevirtual 286, 3)) (hrm : (rest.map fun v => v.category).sum ≤ 8) (z : Z p l e R s m args below meth c Q nL g a cz sz σ1 (pc + 3) lv (.int r :: rest)) : Z p l e R s m args below meth c Q nL g a cz sz σ pc lv (.int x1 :: .ref (a 0) :: rest) :=
  z_callVI (nA := 1) (As := [.int x1]) F (ct8_neverOf h) ⟨(tbm 1206 (by decide +kernel) rfl), (tbm 1208 (by decide +kernel) rfl), (tbs 95 (by decide +kernel) rfl), (tbm 9 (by decide +kernel) rfl), (tbm 1209 (by decide +kernel) rfl)⟩ (by decide +kernel) rfl kdc_0 (by decide) rfl rfl rfl hR d rfl hrm z
theorem zM8_lends {r : Unit} {x1 : Int32} {x2 : Int32} {x3 : Int32} {x4 : Int32} {σ : St} (F : Fx p s m args meth c cX8_lends 5 RX8 none (rmL 0) 0 0 g a) (h : M8_lends x1 x2 x3 x4 σ = some (r, σ')) : Z p l e (rmL 0) s m args below meth c (MQ below (QvW g a r σ') args s 0 0 (Ad a)) 5 g a 0 0 σ 0 [(0, .ref (a 0)), (1, .int x1), (2, .int x2), (3, .int x3), (4, .int x4)] [] := by
  unfold M8_lends at h
  refine z_aload_n (q := 0) F dX8_lends_0 rfl rfl ?_
  refine gf8_34 F kdc_0 dX8_lends_1 ?_
  refine z_iconst (v := 4) F dX8_lends_4 rfl ?_
  refine z_aload_n (q := 0) F dX8_lends_5 rfl rfl ?_
  refine gf8_151 F kdc_0 dX8_lends_6 ?_
  refine z_imul F dX8_lends_9 ?_
  refine z_iload_n (q := 1) F dX8_lends_10 rfl rfl ?_
  obtain ⟨g1, h⟩ := gd_of h
  refine z_iast F kdc_9 (inl lnc_9 g1) dX8_lends_11 ?_
  refine z_let h (fun σ2 h => ?_)
  refine z_aload_n (q := 0) F dX8_lends_12 rfl rfl ?_
  refine gf8_34 F kdc_0 dX8_lends_13 ?_
  refine z_iconst (v := 4) F dX8_lends_16 rfl ?_
  refine z_aload_n (q := 0) F dX8_lends_17 rfl rfl ?_
  refine gf8_151 F kdc_0 dX8_lends_18 ?_
  refine z_imul F dX8_lends_21 ?_
  refine z_iconst (v := 1) F dX8_lends_22 rfl ?_
  refine z_iadd F dX8_lends_23 ?_
  refine z_iload_n (q := 2) F dX8_lends_24 rfl rfl ?_
  obtain ⟨g3, h⟩ := gd_of h
  refine z_iast F kdc_9 (inl lnc_9 g3) dX8_lends_25 ?_
  refine z_let h (fun σ4 h => ?_)
  refine z_aload_n (q := 0) F dX8_lends_26 rfl rfl ?_
  refine gf8_34 F kdc_0 dX8_lends_27 ?_
  refine z_iconst (v := 4) F dX8_lends_30 rfl ?_
  refine z_aload_n (q := 0) F dX8_lends_31 rfl rfl ?_
  refine gf8_151 F kdc_0 dX8_lends_32 ?_
  refine z_imul F dX8_lends_35 ?_
  refine z_iconst (v := 2) F dX8_lends_36 rfl ?_
  refine z_iadd F dX8_lends_37 ?_
  refine z_iload_n (q := 3) F dX8_lends_38 rfl rfl ?_
  obtain ⟨g5, h⟩ := gd_of h
  refine z_iast F kdc_9 (inl lnc_9 g5) dX8_lends_39 ?_
  refine z_let h (fun σ6 h => ?_)
  refine z_aload_n (q := 0) F dX8_lends_40 rfl rfl ?_
  refine gf8_34 F kdc_0 dX8_lends_41 ?_
  refine z_iconst (v := 4) F dX8_lends_44 rfl ?_
  refine z_aload_n (q := 0) F dX8_lends_45 rfl rfl ?_
  refine gf8_151 F kdc_0 dX8_lends_46 ?_
  refine z_imul F dX8_lends_49 ?_
  refine z_iconst (v := 3) F dX8_lends_50 rfl ?_
  refine z_iadd F dX8_lends_51 ?_
  refine z_iload (q := 4) F dX8_lends_52 rfl ?_
  obtain ⟨g7, h⟩ := gd_of h
  refine z_iast F kdc_9 (inl lnc_9 g7) dX8_lends_54 ?_
  refine z_let h (fun σ8 h => ?_)
  refine z_aload_n (q := 0) F dX8_lends_55 rfl rfl ?_
  refine z_dup F dX8_lends_56 rfl ?_
  refine gf8_151 F kdc_0 dX8_lends_57 ?_
  refine z_iconst (v := 1) F dX8_lends_60 rfl ?_
  refine z_iadd F dX8_lends_61 ?_
  refine pf8_151 F kdc_0 dX8_lends_62 ?_
  refine z_let h (fun σ9 h => ?_)
  exact z_vret F h dX8_lends_65
theorem ct8_lends {r : Unit} {x1 : Int32} {x2 : Int32} {x3 : Int32} {x4 : Int32} {σ : St} (h : M8_lends x1 x2 x3 x4 σ = some (r, σ')) : Met l yX8_lends (wsY yX8_lends cX8_lends 5 none) (rmL 0) (PcW g a [.ref (a 0), .int x1, .int x2, .int x3, .int x4] σ) (QvW g a r σ') 0 0 (Ad a) :=
  ct_V (by decide) (Nat.le_of_ble_eq_true rfl) (fun p e s m args below meth c F => zM8_lends F h)
theorem cl8_164 {r : Unit} {x1 : Int32} {x2 : Int32} {x3 : Int32} {x4 : Int32} (F : Fx p s m args meth c cc nL RX8 rt R cz sz g a) (h : M8_lends x1 x2 x3 x4 σ = some (r, σ1)) (hR : 0 + 1 ≤ R.frames ∧ 8 + (5 + 11) + 34 * 0 ≤ R.locals) (d : decode cc pc = .ok (.invokevirtual 164, 3)) (hrm : (rest.map fun v => v.category).sum ≤ 8) (z : Z p l e R s m args below meth c Q nL g a cz sz σ1 (pc + 3) lv (rest)) : Z p l e R s m args below meth c Q nL g a cz sz σ pc lv (.int x4 :: .int x3 :: .int x2 :: .int x1 :: .ref (a 0) :: rest) :=
  z_callVV (nA := 4) (As := [.int x1, .int x2, .int x3, .int x4]) F (ct8_lends h) ⟨(tbm 1018 (by decide +kernel) rfl), (tbm 1020 (by decide +kernel) rfl), (tbs 68 (by decide +kernel) rfl), (tbm 9 (by decide +kernel) rfl), (tbm 1021 (by decide +kernel) rfl)⟩ (by decide +kernel) rfl kdc_0 (by decide) rfl rfl rfl hR d rfl hrm z
theorem zM8_lot {r : Int32} {x1 : Int32} {σ : St} (F : Fx p s m args meth c cX8_lot 2 RX8 (some .int) (rmL 0) 0 0 g a) (h : M8_lot x1 σ = some (r, σ')) : Z p l e (rmL 0) s m args below meth c (MQ below (QiW g a r σ') args s 0 0 (Ad a)) 2 g a 0 0 σ 0 [(0, .ref (a 0)), (1, .int x1)] [] := by
  unfold M8_lot at h
  refine z_aload_n (q := 0) F dX8_lot_0 rfl rfl ?_
  refine z_ldcw (v := 1103515245) F dX8_lot_1 (tbm 1255 (by decide +kernel) rfl) ?_
  refine z_aload_n (q := 0) F dX8_lot_4 rfl rfl ?_
  refine gf8_307 F kdc_0 dX8_lot_5 ?_
  refine z_imul F dX8_lot_8 ?_
  refine z_sipush (v := 12345) F dX8_lot_9 rfl ?_
  refine z_iadd F dX8_lot_12 ?_
  refine pf8_307 F kdc_0 dX8_lot_13 ?_
  refine z_let h (fun σ1 h => ?_)
  refine z_aload_n (q := 0) F dX8_lot_16 rfl rfl ?_
  refine gf8_307 F kdc_0 dX8_lot_17 ?_
  refine z_bipush (v := 16) F dX8_lot_20 rfl ?_
  refine z_iushr F dX8_lot_22 ?_
  refine z_iload_n (q := 1) F dX8_lot_23 rfl rfl ?_
  obtain ⟨g2, h⟩ := gd_of h
  refine z_irem F dX8_lot_24 g2 ?_
  exact z_iret F h dX8_lot_25
theorem ct8_lot {r : Int32} {x1 : Int32} {σ : St} (h : M8_lot x1 σ = some (r, σ')) : Met l yX8_lot (wsY yX8_lot cX8_lot 2 (some .int)) (rmL 0) (PcW g a [.ref (a 0), .int x1] σ) (QiW g a r σ') 0 0 (Ad a) :=
  ct_I (by decide) (Nat.le_of_ble_eq_true rfl) (fun p e s m args below meth c F => zM8_lot F h)
theorem cl8_310 {r : Int32} {x1 : Int32} (F : Fx p s m args meth c cc nL RX8 rt R cz sz g a) (h : M8_lot x1 σ = some (r, σ1)) (hR : 0 + 1 ≤ R.frames ∧ 8 + (2 + 11) + 34 * 0 ≤ R.locals) (d : decode cc pc = .ok (.invokevirtual 310, 3)) (hrm : (rest.map fun v => v.category).sum ≤ 8) (z : Z p l e R s m args below meth c Q nL g a cz sz σ1 (pc + 3) lv (.int r :: rest)) : Z p l e R s m args below meth c Q nL g a cz sz σ pc lv (.int x1 :: .ref (a 0) :: rest) :=
  z_callVI (nA := 1) (As := [.int x1]) F (ct8_lot h) ⟨(tbm 1251 (by decide +kernel) rfl), (tbm 1253 (by decide +kernel) rfl), (tbs 101 (by decide +kernel) rfl), (tbm 9 (by decide +kernel) rfl), (tbm 1254 (by decide +kernel) rfl)⟩ (by decide +kernel) rfl kdc_0 (by decide) rfl rfl rfl hR d rfl hrm z
theorem zM8_runOf_L78 {r : Int32} {x3 : Int32} {x4 : Int32} (F : Fx p s m args meth c cX8_runOf 7 RX8 (some .int) (rmL 5) 0 0 g a) {kx : Int32 → St → Option (Int32 × St)} (hx : ∀ (w5 : Int32) (σ : St), kx w5 σ = some (r, σ') → Z p l e (rmL 5) s m args below meth c (MQ below (QiW g a r σ') args s 0 0 (Ad a)) 7 g a 0 0 σ 105 [(0, .ref (a 0)), (3, .int x3), (4, .int x4), (5, .int w5)] []) : ∀ (n : Nat) (x5 : Int32) (x6 : Int32) (σ : St), M8_runOf_L78 x3 x4 kx n x5 x6 σ = some (r, σ') → Z p l e (rmL 5) s m args below meth c (MQ below (QiW g a r σ') args s 0 0 (Ad a)) 7 g a 0 0 σ 78 [(0, .ref (a 0)), (3, .int x3), (4, .int x4), (5, .int x5), (6, .int x6)] [] := by
  intro n
  induction n with
  | zero => intro x5 x6 σ h; rw [M8_runOf_L78] at h; cases h
  | succ n ih =>
    intro x5 x6 σ h
    rw [M8_runOf_L78] at h
    refine z_iload (q := 4) F dX8_runOf_78 rfl ?_
    refine z_aload_n (q := 0) F dX8_runOf_80 rfl rfl ?_
    refine gf8_151 F kdc_0 dX8_runOf_81 ?_
    refine z_icmp_ge (tgt := 105) F dX8_runOf_84 rfl (fun c13 => ?_) (fun c13 => ?_)
    · have h := ite_T c13 h
      refine z_sub (lv' := [(0, .ref (a 0)), (3, .int x3), (4, .int x4), (5, .int x5)]) [0, 1, 2, 3] rfl ?_
      exact hx _ _ h
    · have h := ite_F c13 h
      refine z_iload (q := 3) F dX8_runOf_87 rfl ?_
      refine z_aload_n (q := 0) F dX8_runOf_89 rfl rfl ?_
      refine gf8_58 F kdc_0 dX8_runOf_90 ?_
      refine z_iload (q := 4) F dX8_runOf_93 rfl ?_
      obtain ⟨g14, h⟩ := gd_of h
      refine z_iald F kdc_17 (inl lnc_17 g14) dX8_runOf_95 ?_
      refine z_iadd F dX8_runOf_96 ?_
      refine z_letI h (fun v15 h => ?_)
      refine z_istore (lv' := [(5, .int v15), (0, .ref (a 0)), (3, .int x3), (4, .int x4), (6, .int x6)]) F dX8_runOf_97 (by decide) rfl ?_
      refine z_iinc (q := 4) (v := x6 + 1) (lv' := [(6, .int (x6 + 1)), (5, .int v15), (0, .ref (a 0)), (3, .int x3), (4, .int x4)]) F dX8_runOf_99 rfl rfl (by decide) rfl ?_
      refine z_letL (s0 := 6) (lv := [(5, .int v15), (0, .ref (a 0)), (3, .int x3), (4, .int x4)]) h (fun v16 h => ?_)
      refine z_goto (tgt := 78) F dX8_runOf_102 rfl ?_
      refine z_sub (lv' := [(0, .ref (a 0)), (3, .int x3), (4, .int x4), (5, .int v15), (6, .int v16)]) [2, 3, 4, 1, 0] rfl ?_
      exact ih _ _ _ h
theorem zM8_runOf_J64 {r : Int32} {x2 : Int32} {x3 : Int32} {x4 : Int32} {σ : St} (F : Fx p s m args meth c cX8_runOf 7 RX8 (some .int) (rmL 5) 0 0 g a) (h : M8_runOf_J64 x2 x3 x4 σ = some (r, σ')) : Z p l e (rmL 5) s m args below meth c (MQ below (QiW g a r σ') args s 0 0 (Ad a)) 7 g a 0 0 σ 64 [(0, .ref (a 0)), (2, .int x2), (3, .int x3), (4, .int x4)] [] := by
  unfold M8_runOf_J64 at h
  refine z_aload_n (q := 0) F dX8_runOf_64 rfl rfl ?_
  refine z_iload_n (q := 1) F dX8_runOf_65 rfl rfl ?_
  refine z_iconst (v := 1) F dX8_runOf_66 rfl ?_
  refine z_isub F dX8_runOf_67 ?_
  obtain ⟨r12, σ12, hq12, h⟩ := bd_of h
  refine cl8_218 F hq12 ⟨Nat.le_of_ble_eq_true rfl, Nat.le_of_ble_eq_true rfl⟩ dX8_runOf_68 (Nat.le_of_ble_eq_true rfl) ?_
  refine z_iconst (v := 0) F dX8_runOf_71 rfl ?_
  refine z_istore (lv' := [(5, .int 0), (0, .ref (a 0)), (2, .int x2), (3, .int x3), (4, .int x4)]) F dX8_runOf_72 (by decide) rfl ?_
  refine z_iload (q := 4) F dX8_runOf_74 rfl ?_
  refine z_istore (lv' := [(6, .int x4), (5, .int 0), (0, .ref (a 0)), (2, .int x2), (3, .int x3), (4, .int x4)]) F dX8_runOf_76 (by decide) rfl ?_
  refine z_sub (lv' := [(0, .ref (a 0)), (3, .int x3), (4, .int x4), (5, .int 0), (6, .int x4)]) [2, 4, 5, 1, 0] rfl ?_
  refine zM8_runOf_L78 F ?_ _ _ _ _ h
  intro v17 σ18 h
  refine z_aload_n (q := 0) F dX8_runOf_105 rfl rfl ?_
  refine z_iload (q := 2) F dX8_runOf_106 rfl ?_
  refine pf8_151 F kdc_0 dX8_runOf_108 ?_
  refine z_let h (fun σ19 h => ?_)
  refine z_iload_n (q := 1) F dX8_runOf_111 rfl rfl ?_
  refine z_if_ne (tgt := 122) F dX8_runOf_112 rfl (fun c20 => ?_) (fun c20 => ?_)
  · have h := ite_F c20 h
    refine z_iload (q := 3) F dX8_runOf_122 rfl ?_
    exact z_iret F h dX8_runOf_124
  · have h := ite_T c20 h
    refine z_aload_n (q := 0) F dX8_runOf_115 rfl rfl ?_
    obtain ⟨r21, σ21, hq21, h⟩ := bd_of h
    refine cl8_224 F hq21 ⟨Nat.le_of_ble_eq_true rfl, Nat.le_of_ble_eq_true rfl⟩ dX8_runOf_116 (Nat.le_of_ble_eq_true rfl) ?_
    refine z_goto (tgt := 124) F dX8_runOf_119 rfl ?_
    exact z_iret F h dX8_runOf_124
theorem zM8_runOf_L14 {r : Int32} {x2 : Int32} {x3 : Int32} {x4 : Int32} (F : Fx p s m args meth c cX8_runOf 7 RX8 (some .int) (rmL 5) 0 0 g a) {kx : St → Option (Int32 × St)} (hx : ∀ (σ : St), kx σ = some (r, σ') → Z p l e (rmL 5) s m args below meth c (MQ below (QiW g a r σ') args s 0 0 (Ad a)) 7 g a 0 0 σ 64 [(0, .ref (a 0)), (2, .int x2), (3, .int x3), (4, .int x4)] []) : ∀ (n : Nat) (x5 : Int32) (σ : St), M8_runOf_L14 x2 x3 x4 kx n x5 σ = some (r, σ') → Z p l e (rmL 5) s m args below meth c (MQ below (QiW g a r σ') args s 0 0 (Ad a)) 7 g a 0 0 σ 14 [(0, .ref (a 0)), (2, .int x2), (3, .int x3), (4, .int x4), (5, .int x5)] [] := by
  intro n
  induction n with
  | zero => intro x5 σ h; rw [M8_runOf_L14] at h; cases h
  | succ n ih =>
    intro x5 σ h
    rw [M8_runOf_L14] at h
    refine z_iload (q := 4) F dX8_runOf_14 rfl ?_
    refine z_iload_n (q := 1) F dX8_runOf_16 rfl rfl ?_
    refine z_icmp_ge (tgt := 64) F dX8_runOf_17 rfl (fun c3 => ?_) (fun c3 => ?_)
    · have h := ite_T c3 h
      refine z_sub (lv' := [(0, .ref (a 0)), (2, .int x2), (3, .int x3), (4, .int x4)]) [0, 1, 2, 3] rfl ?_
      exact hx _ h
    · have h := ite_F c3 h
      refine z_aload_n (q := 0) F dX8_runOf_20 rfl rfl ?_
      refine gf8_28 F kdc_0 dX8_runOf_21 ?_
      refine z_iconst (v := 0) F dX8_runOf_24 rfl ?_
      refine z_ialdC (j := 0) F kdc_7 (inl lnc_7 (by decide)) (by decide) dX8_runOf_25 ?_
      refine z_if_le (tgt := 64) F dX8_runOf_26 rfl (fun c5 => ?_) (fun c5 => ?_)
      · have h := ite_T c5 h
        refine z_sub (lv' := [(0, .ref (a 0)), (2, .int x2), (3, .int x3), (4, .int x4)]) [0, 1, 2, 3] rfl ?_
        exact hx _ h
      · have h := ite_F c5 h
        refine z_aload_n (q := 0) F dX8_runOf_29 rfl rfl ?_
        refine z_aload_n (q := 0) F dX8_runOf_30 rfl rfl ?_
        refine gf8_28 F kdc_0 dX8_runOf_31 ?_
        refine z_iconst (v := 0) F dX8_runOf_34 rfl ?_
        refine z_ialdC (j := 0) F kdc_7 (inl lnc_7 (by decide)) (by decide) dX8_runOf_35 ?_
        obtain ⟨r7, σ7, hq7, h⟩ := bd_of h
        refine cl8_310 F hq7 ⟨Nat.le_of_ble_eq_true rfl, Nat.le_of_ble_eq_true rfl⟩ dX8_runOf_36 (Nat.le_of_ble_eq_true rfl) ?_
        refine z_istore (lv' := [(6, .int r7), (0, .ref (a 0)), (2, .int x2), (3, .int x3), (4, .int x4), (5, .int x5)]) F dX8_runOf_39 (by decide) rfl ?_
        refine z_aload_n (q := 1) F dX8_runOf_41 rfl rfl ?_
        refine z_iload (q := 5) F dX8_runOf_42 rfl ?_
        refine z_iload (q := 0) F dX8_runOf_44 rfl ?_
        refine z_iconst (v := 0) F dX8_runOf_46 rfl ?_
        refine z_aload_n (q := 1) F dX8_runOf_47 rfl rfl ?_
        refine z_bipush (v := 9) F dX8_runOf_48 rfl ?_
        obtain ⟨r8, σ8, hq8, h⟩ := bd_of h
        refine cl8_310 F hq8 ⟨Nat.le_of_ble_eq_true rfl, Nat.le_of_ble_eq_true rfl⟩ dX8_runOf_50 (Nat.le_of_ble_eq_true rfl) ?_
        refine z_iconst (v := 1) F dX8_runOf_53 rfl ?_
        refine z_iadd F dX8_runOf_54 ?_
        obtain ⟨r9, σ9, hq9, h⟩ := bd_of h
        refine cl8_164 F hq9 ⟨Nat.le_of_ble_eq_true rfl, Nat.le_of_ble_eq_true rfl⟩ dX8_runOf_55 (Nat.le_of_ble_eq_true rfl) ?_
        refine z_iinc (q := 5) (v := x5 + 1) (lv' := [(5, .int (x5 + 1)), (6, .int r7), (0, .ref (a 0)), (2, .int x2), (3, .int x3), (4, .int x4)]) F dX8_runOf_58 rfl rfl (by decide) rfl ?_
        refine z_letL (s0 := 5) (lv := [(6, .int r7), (0, .ref (a 0)), (2, .int x2), (3, .int x3), (4, .int x4)]) h (fun v10 h => ?_)
        refine z_goto (tgt := 14) F dX8_runOf_61 rfl ?_
        refine z_sub (lv' := [(0, .ref (a 0)), (2, .int x2), (3, .int x3), (4, .int x4), (5, .int v10)]) [2, 3, 4, 5, 0] rfl ?_
        exact ih _ _ h
theorem zM8_runOf {r : Int32} {x1 : Int32} {x2 : Int32} {x3 : Int32} {σ : St} (F : Fx p s m args meth c cX8_runOf 7 RX8 (some .int) (rmL 5) 0 0 g a) (h : M8_runOf x1 x2 x3 σ = some (r, σ')) : Z p l e (rmL 5) s m args below meth c (MQ below (QiW g a r σ') args s 0 0 (Ad a)) 7 g a 0 0 σ 0 [(0, .ref (a 0)), (1, .int x1), (2, .int x2), (3, .int x3)] [] := by
  unfold M8_runOf at h
  refine z_aload_n (q := 0) F dX8_runOf_0 rfl rfl ?_
  refine gf8_151 F kdc_0 dX8_runOf_1 ?_
  refine z_letI h (fun v1 h => ?_)
  refine z_istore (lv' := [(4, .int v1), (0, .ref (a 0)), (1, .int x1), (2, .int x2), (3, .int x3)]) F dX8_runOf_4 (by decide) rfl ?_
  refine z_aload_n (q := 1) F dX8_runOf_6 rfl rfl ?_
  refine z_iload_n (q := 2) F dX8_runOf_7 rfl rfl ?_
  refine pf8_307 F kdc_0 dX8_runOf_8 ?_
  refine z_let h (fun σ2 h => ?_)
  refine z_iconst (v := 0) F dX8_runOf_11 rfl ?_
  refine z_istore (lv' := [(5, .int 0), (4, .int v1), (0, .ref (a 0)), (1, .int x1), (2, .int x2), (3, .int x3)]) F dX8_runOf_12 (by decide) rfl ?_
  refine z_sub (lv' := [(0, .ref (a 0)), (2, .int x2), (3, .int x3), (4, .int v1), (5, .int 0)]) [2, 4, 5, 1, 0] rfl ?_
  refine zM8_runOf_L14 F ?_ _ _ _ h
  intro σ11 h
  refine z_sub (lv' := [(0, .ref (a 0)), (2, .int x2), (3, .int x3), (4, .int v1)]) [0, 1, 2, 3] rfl ?_
  exact zM8_runOf_J64 F h
theorem ct8_runOf {r : Int32} {x1 : Int32} {x2 : Int32} {x3 : Int32} {σ : St} (h : M8_runOf x1 x2 x3 σ = some (r, σ')) : Met l yX8_runOf (wsY yX8_runOf cX8_runOf 7 (some .int)) (rmL 5) (PcW g a [.ref (a 0), .int x1, .int x2, .int x3] σ) (QiW g a r σ') 0 0 (Ad a) :=
  ct_I (by decide) (Nat.le_of_ble_eq_true rfl) (fun p e s m args below meth c F => zM8_runOf F h)
theorem cl8_315 {r : Int32} {x1 : Int32} {x2 : Int32} {x3 : Int32} (F : Fx p s m args meth c cc nL RX8 rt R cz sz g a) (h : M8_runOf x1 x2 x3 σ = some (r, σ1)) (hR : 5 + 1 ≤ R.frames ∧ 8 + (7 + 11) + 34 * 5 ≤ R.locals) (d : decode cc pc = .ok (.invokevirtual 315, 3)) (hrm : (rest.map fun v => v.category).sum ≤ 8) (z : Z p l e R s m args below meth c Q nL g a cz sz σ1 (pc + 3) lv (.int r :: rest)) : Z p l e R s m args below meth c Q nL g a cz sz σ pc lv (.int x3 :: .int x2 :: .int x1 :: .ref (a 0) :: rest) :=
  z_callVI (nA := 3) (As := [.int x1, .int x2, .int x3]) F (ct8_runOf h) ⟨(tbm 1247 (by decide +kernel) rfl), (tbm 1249 (by decide +kernel) rfl), (tbs 100 (by decide +kernel) rfl), (tbm 9 (by decide +kernel) rfl), (tbm 1250 (by decide +kernel) rfl)⟩ (by decide +kernel) rfl kdc_0 (by decide) rfl rfl rfl hR d rfl hrm z
theorem zM8_lookOf_J208 {r : Int32} {x3 : Int32} {x5 : Int32} {y0 : Int32} {σ : St} (F : Fx p s m args meth c cX8_lookOf 8 RX8 (some .int) (rmL 7) 0 0 g a) {kb : Int32 → Int32 → Int32 → St → Option (Int32 × St)} (hb : ∀ (w3 : Int32) (w4 : Int32) (w5 : Int32) (σ : St), kb w3 w4 w5 σ = some (r, σ') → Z p l e (rmL 7) s m args below meth c (MQ below (QiW g a r σ') args s 0 0 (Ad a)) 8 g a 0 0 σ 115 [(0, .ref (a 0)), (3, .int w3), (4, .int w4), (5, .int w5)] []) (h : M8_lookOf_J208 kb x3 x5 y0 σ = some (r, σ')) : Z p l e (rmL 7) s m args below meth c (MQ below (QiW g a r σ') args s 0 0 (Ad a)) 8 g a 0 0 σ 208 [(0, .ref (a 0)), (3, .int x3), (5, .int x5)] [.int y0] := by
  unfold M8_lookOf_J208 at h
  refine z_istore (lv' := [(4, .int y0), (0, .ref (a 0)), (3, .int x3), (5, .int x5)]) F dX8_lookOf_208 (by decide) rfl ?_
  refine z_iinc (q := 3) (v := x5 + 1) (lv' := [(5, .int (x5 + 1)), (4, .int y0), (0, .ref (a 0)), (3, .int x3)]) F dX8_lookOf_210 rfl rfl (by decide) rfl ?_
  refine z_letL (s0 := 5) (lv := [(4, .int y0), (0, .ref (a 0)), (3, .int x3)]) h (fun v34 h => ?_)
  refine z_goto (tgt := 115) F dX8_lookOf_213 rfl ?_
  refine z_sub (lv' := [(0, .ref (a 0)), (3, .int x3), (4, .int y0), (5, .int v34)]) [2, 3, 1, 0] rfl ?_
  exact hb _ _ _ _ h
theorem zM8_lookOf_J195 {r : Int32} {x4 : Int32} {x5 : Int32} {x6 : Int32} {x7 : Int32} {y0 : Int32} {σ : St} (F : Fx p s m args meth c cX8_lookOf 8 RX8 (some .int) (rmL 7) 0 0 g a) {kb : Int32 → Int32 → Int32 → St → Option (Int32 × St)} (hb : ∀ (w3 : Int32) (w4 : Int32) (w5 : Int32) (σ : St), kb w3 w4 w5 σ = some (r, σ') → Z p l e (rmL 7) s m args below meth c (MQ below (QiW g a r σ') args s 0 0 (Ad a)) 8 g a 0 0 σ 115 [(0, .ref (a 0)), (3, .int w3), (4, .int w4), (5, .int w5)] []) (h : M8_lookOf_J195 kb x4 x5 x6 x7 y0 σ = some (r, σ')) : Z p l e (rmL 7) s m args below meth c (MQ below (QiW g a r σ') args s 0 0 (Ad a)) 8 g a 0 0 σ 195 [(0, .ref (a 0)), (4, .int x4), (5, .int x5), (6, .int x6), (7, .int x7)] [.int y0] := by
  unfold M8_lookOf_J195 at h
  refine z_istore_n (lv' := [(3, .int y0), (0, .ref (a 0)), (4, .int x4), (5, .int x5), (6, .int x6), (7, .int x7)]) F dX8_lookOf_195 rfl (by decide) rfl ?_
  refine z_iload (q := 5) F dX8_lookOf_196 rfl ?_
  refine z_if_eq (tgt := 206) F dX8_lookOf_198 rfl (fun c33 => ?_) (fun c33 => ?_)
  · try simp only [if_pos c33] at h
    refine z_iload (q := 2) F dX8_lookOf_206 rfl ?_
    refine z_sub (lv' := [(0, .ref (a 0)), (3, .int y0), (5, .int x5)]) [1, 0, 3] rfl ?_
    exact zM8_lookOf_J208 F hb h
  · try simp only [if_neg c33] at h
    refine z_iload (q := 4) F dX8_lookOf_201 rfl ?_
    refine z_goto (tgt := 208) F dX8_lookOf_203 rfl ?_
    refine z_sub (lv' := [(0, .ref (a 0)), (3, .int y0), (5, .int x5)]) [1, 0, 3] rfl ?_
    exact zM8_lookOf_J208 F hb h
theorem zM8_lookOf_J182 {r : Int32} {x3 : Int32} {x4 : Int32} {x5 : Int32} {x6 : Int32} {y0 : Int32} {σ : St} (F : Fx p s m args meth c cX8_lookOf 8 RX8 (some .int) (rmL 7) 0 0 g a) {kb : Int32 → Int32 → Int32 → St → Option (Int32 × St)} (hb : ∀ (w3 : Int32) (w4 : Int32) (w5 : Int32) (σ : St), kb w3 w4 w5 σ = some (r, σ') → Z p l e (rmL 7) s m args below meth c (MQ below (QiW g a r σ') args s 0 0 (Ad a)) 8 g a 0 0 σ 115 [(0, .ref (a 0)), (3, .int w3), (4, .int w4), (5, .int w5)] []) (h : M8_lookOf_J182 kb x3 x4 x5 x6 y0 σ = some (r, σ')) : Z p l e (rmL 7) s m args below meth c (MQ below (QiW g a r σ') args s 0 0 (Ad a)) 8 g a 0 0 σ 182 [(0, .ref (a 0)), (3, .int x3), (4, .int x4), (5, .int x5), (6, .int x6)] [.int y0] := by
  unfold M8_lookOf_J182 at h
  refine z_istore (lv' := [(7, .int y0), (0, .ref (a 0)), (3, .int x3), (4, .int x4), (5, .int x5), (6, .int x6)]) F dX8_lookOf_182 (by decide) rfl ?_
  refine z_iload (q := 0) F dX8_lookOf_184 rfl ?_
  refine z_if_eq (tgt := 194) F dX8_lookOf_186 rfl (fun c32 => ?_) (fun c32 => ?_)
  · try simp only [if_pos c32] at h
    refine z_iload_n (q := 2) F dX8_lookOf_194 rfl rfl ?_
    refine z_sub (lv' := [(0, .ref (a 0)), (4, .int x4), (5, .int x5), (6, .int x6), (7, .int y0)]) [1, 3, 4, 5, 0] rfl ?_
    exact zM8_lookOf_J195 F hb h
  · try simp only [if_neg c32] at h
    refine z_iload (q := 4) F dX8_lookOf_189 rfl ?_
    refine z_goto (tgt := 195) F dX8_lookOf_191 rfl ?_
    refine z_sub (lv' := [(0, .ref (a 0)), (4, .int x4), (5, .int x5), (6, .int x6), (7, .int y0)]) [1, 3, 4, 5, 0] rfl ?_
    exact zM8_lookOf_J195 F hb h
theorem zM8_lookOf_J177 {r : Int32} {x3 : Int32} {x4 : Int32} {x5 : Int32} {x6 : Int32} {σ : St} (F : Fx p s m args meth c cX8_lookOf 8 RX8 (some .int) (rmL 7) 0 0 g a) {kb : Int32 → Int32 → Int32 → St → Option (Int32 × St)} (hb : ∀ (w3 : Int32) (w4 : Int32) (w5 : Int32) (σ : St), kb w3 w4 w5 σ = some (r, σ') → Z p l e (rmL 7) s m args below meth c (MQ below (QiW g a r σ') args s 0 0 (Ad a)) 8 g a 0 0 σ 115 [(0, .ref (a 0)), (3, .int w3), (4, .int w4), (5, .int w5)] []) (h : M8_lookOf_J177 kb x3 x4 x5 x6 σ = some (r, σ')) : Z p l e (rmL 7) s m args below meth c (MQ below (QiW g a r σ') args s 0 0 (Ad a)) 8 g a 0 0 σ 177 [(0, .ref (a 0)), (3, .int x3), (4, .int x4), (5, .int x5), (6, .int x6)] [] := by
  unfold M8_lookOf_J177 at h
  refine z_iconst (v := 1) F dX8_lookOf_177 rfl ?_
  refine z_goto (tgt := 182) F dX8_lookOf_178 rfl ?_
  refine z_sub (lv' := [(0, .ref (a 0)), (3, .int x3), (4, .int x4), (5, .int x5), (6, .int x6)]) [0, 1, 2, 3, 4] rfl ?_
  exact zM8_lookOf_J182 F hb h
theorem zM8_lookOf_L132 {r : Int32} {x3 : Int32} {x4 : Int32} {x5 : Int32} (F : Fx p s m args meth c cX8_lookOf 8 RX8 (some .int) (rmL 7) 0 0 g a) {kx : Int32 → St → Option (Int32 × St)} (hx : ∀ (w6 : Int32) (σ : St), kx w6 σ = some (r, σ') → Z p l e (rmL 7) s m args below meth c (MQ below (QiW g a r σ') args s 0 0 (Ad a)) 8 g a 0 0 σ 165 [(0, .ref (a 0)), (3, .int x3), (4, .int x4), (5, .int x5), (6, .int w6)] []) : ∀ (n : Nat) (x6 : Int32) (x7 : Int32) (σ : St), M8_lookOf_L132 x3 x4 x5 kx n x6 x7 σ = some (r, σ') → Z p l e (rmL 7) s m args below meth c (MQ below (QiW g a r σ') args s 0 0 (Ad a)) 8 g a 0 0 σ 132 [(0, .ref (a 0)), (3, .int x3), (4, .int x4), (5, .int x5), (6, .int x6), (7, .int x7)] [] := by
  intro n
  induction n with
  | zero => intro x6 x7 σ h; rw [M8_lookOf_L132] at h; cases h
  | succ n ih =>
    intro x6 x7 σ h
    rw [M8_lookOf_L132] at h
    refine z_iload (q := 5) F dX8_lookOf_132 rfl ?_
    refine z_bipush (v := 10) F dX8_lookOf_134 rfl ?_
    refine z_icmp_ge (tgt := 165) F dX8_lookOf_136 rfl (fun c25 => ?_) (fun c25 => ?_)
    · have h := ite_T c25 h
      refine z_sub (lv' := [(0, .ref (a 0)), (3, .int x3), (4, .int x4), (5, .int x5), (6, .int x6)]) [0, 1, 2, 3, 4] rfl ?_
      exact hx _ _ h
    · have h := ite_F c25 h
      refine z_aload_n (q := 0) F dX8_lookOf_139 rfl rfl ?_
      refine gf8_79 F kdc_0 dX8_lookOf_140 ?_
      refine z_bipush (v := 10) F dX8_lookOf_143 rfl ?_
      refine z_iload (q := 3) F dX8_lookOf_145 rfl ?_
      refine z_imul F dX8_lookOf_147 ?_
      refine z_iload (q := 5) F dX8_lookOf_148 rfl ?_
      refine z_iadd F dX8_lookOf_150 ?_
      obtain ⟨g26, h⟩ := gd_of h
      refine z_iald F kdc_24 (inl lnc_24 g26) dX8_lookOf_151 ?_
      refine z_iload (q := 4) F dX8_lookOf_152 rfl ?_
      obtain ⟨r27, σ27, hq27, h⟩ := bd_of h
      refine cl8_186 F hq27 ⟨Nat.le_of_ble_eq_true rfl, Nat.le_of_ble_eq_true rfl⟩ dX8_lookOf_154 (Nat.le_of_ble_eq_true rfl) ?_
      refine z_istore (lv' := [(6, .int r27), (0, .ref (a 0)), (3, .int x3), (4, .int x4), (5, .int x5), (7, .int x7)]) F dX8_lookOf_157 (by decide) rfl ?_
      refine z_iinc (q := 5) (v := x7 + 1) (lv' := [(7, .int (x7 + 1)), (6, .int r27), (0, .ref (a 0)), (3, .int x3), (4, .int x4), (5, .int x5)]) F dX8_lookOf_159 rfl rfl (by decide) rfl ?_
      refine z_letL (s0 := 7) (lv := [(6, .int r27), (0, .ref (a 0)), (3, .int x3), (4, .int x4), (5, .int x5)]) h (fun v28 h => ?_)
      refine z_goto (tgt := 132) F dX8_lookOf_162 rfl ?_
      refine z_sub (lv' := [(0, .ref (a 0)), (3, .int x3), (4, .int x4), (5, .int x5), (6, .int r27), (7, .int v28)]) [2, 3, 4, 5, 1, 0] rfl ?_
      exact ih _ _ _ h
theorem zM8_lookOf_L115 {r : Int32} (F : Fx p s m args meth c cX8_lookOf 8 RX8 (some .int) (rmL 7) 0 0 g a) {kx : Int32 → St → Option (Int32 × St)} (hx : ∀ (w3 : Int32) (σ : St), kx w3 σ = some (r, σ') → Z p l e (rmL 7) s m args below meth c (MQ below (QiW g a r σ') args s 0 0 (Ad a)) 8 g a 0 0 σ 216 [(3, .int w3)] []) : ∀ (n : Nat) (x3 : Int32) (x4 : Int32) (x5 : Int32) (σ : St), M8_lookOf_L115 kx n x3 x4 x5 σ = some (r, σ') → Z p l e (rmL 7) s m args below meth c (MQ below (QiW g a r σ') args s 0 0 (Ad a)) 8 g a 0 0 σ 115 [(0, .ref (a 0)), (3, .int x3), (4, .int x4), (5, .int x5)] [] := by
  intro n
  induction n with
  | zero => intro x3 x4 x5 σ h; rw [M8_lookOf_L115] at h; cases h
  | succ n ih =>
    intro x3 x4 x5 σ h
    rw [M8_lookOf_L115] at h
    refine z_iload (q := 3) F dX8_lookOf_115 rfl ?_
    refine z_aload_n (q := 0) F dX8_lookOf_117 rfl rfl ?_
    refine gf8_28 F kdc_0 dX8_lookOf_118 ?_
    refine z_iconst (v := 0) F dX8_lookOf_121 rfl ?_
    refine z_ialdC (j := 0) F kdc_7 (inl lnc_7 (by decide)) (by decide) dX8_lookOf_122 ?_
    refine z_icmp_ge (tgt := 216) F dX8_lookOf_123 rfl (fun c24 => ?_) (fun c24 => ?_)
    · have h := ite_T c24 h
      refine z_sub (lv' := [(3, .int x3)]) [1] rfl ?_
      exact hx _ _ h
    · have h := ite_F c24 h
      refine z_iconst (v := 0) F dX8_lookOf_126 rfl ?_
      refine z_istore (lv' := [(6, .int 0), (0, .ref (a 0)), (3, .int x3), (4, .int x4), (5, .int x5)]) F dX8_lookOf_127 (by decide) rfl ?_
      refine z_iconst (v := 0) F dX8_lookOf_129 rfl ?_
      refine z_istore (lv' := [(7, .int 0), (6, .int 0), (0, .ref (a 0)), (3, .int x3), (4, .int x4), (5, .int x5)]) F dX8_lookOf_130 (by decide) rfl ?_
      refine z_sub (lv' := [(0, .ref (a 0)), (3, .int x3), (4, .int x4), (5, .int x5), (6, .int 0), (7, .int 0)]) [2, 3, 4, 5, 1, 0] rfl ?_
      refine zM8_lookOf_L132 F ?_ _ _ _ _ h
      intro v29 σ30 h
      refine z_iload_n (q := 1) F dX8_lookOf_165 rfl rfl ?_
      refine z_iconst (v := (-1)) F dX8_lookOf_166 rfl ?_
      refine z_icmp_eq (tgt := 177) F dX8_lookOf_167 rfl (fun c31 => ?_) (fun c31 => ?_)
      · have h := ite_T c31 h
        refine z_sub (lv' := [(0, .ref (a 0)), (3, .int x3), (4, .int x4), (5, .int x5), (6, .int v29)]) [0, 1, 2, 3, 4] rfl ?_
        exact zM8_lookOf_J177 F ih h
      · have h := ite_F c31 h
        refine z_iload (q := 4) F dX8_lookOf_170 rfl ?_
        refine z_iload (q := 2) F dX8_lookOf_172 rfl ?_
        refine z_icmp_ge (tgt := 181) F dX8_lookOf_174 rfl (fun c35 => ?_) (fun c35 => ?_)
        · have h := ite_T c35 h
          refine z_iconst (v := 0) F dX8_lookOf_181 rfl ?_
          refine z_sub (lv' := [(0, .ref (a 0)), (3, .int x3), (4, .int x4), (5, .int x5), (6, .int v29)]) [0, 1, 2, 3, 4] rfl ?_
          exact zM8_lookOf_J182 F ih h
        · have h := ite_F c35 h
          refine z_sub (lv' := [(0, .ref (a 0)), (3, .int x3), (4, .int x4), (5, .int x5), (6, .int v29)]) [0, 1, 2, 3, 4] rfl ?_
          exact zM8_lookOf_J177 F ih h
theorem zM8_lookOf_J101 {r : Int32} {x1 : Int32} {x2 : Int32} {x3 : Int32} {σ : St} (F : Fx p s m args meth c cX8_lookOf 8 RX8 (some .int) (rmL 7) 0 0 g a) {kb : Int32 → St → Option (Int32 × St)} (hb : ∀ (w3 : Int32) (σ : St), kb w3 σ = some (r, σ') → Z p l e (rmL 7) s m args below meth c (MQ below (QiW g a r σ') args s 0 0 (Ad a)) 8 g a 0 0 σ 29 [(0, .ref (a 0)), (1, .int x1), (2, .int x2), (3, .int w3)] []) (h : M8_lookOf_J101 kb x1 x2 x3 σ = some (r, σ')) : Z p l e (rmL 7) s m args below meth c (MQ below (QiW g a r σ') args s 0 0 (Ad a)) 8 g a 0 0 σ 101 [(0, .ref (a 0)), (1, .int x1), (2, .int x2), (3, .int x3)] [] := by
  unfold M8_lookOf_J101 at h
  refine z_iinc (q := 3) (v := x3 + 1) (lv' := [(3, .int (x3 + 1)), (0, .ref (a 0)), (1, .int x1), (2, .int x2)]) F dX8_lookOf_101 rfl rfl (by decide) rfl ?_
  refine z_letL (s0 := 3) (lv := [(0, .ref (a 0)), (1, .int x1), (2, .int x2)]) h (fun v10 h => ?_)
  refine z_goto (tgt := 29) F dX8_lookOf_104 rfl ?_
  refine z_sub (lv' := [(0, .ref (a 0)), (1, .int x1), (2, .int x2), (3, .int v10)]) [1, 2, 3, 0] rfl ?_
  exact hb _ _ h
theorem zM8_lookOf_L63 {r : Int32} {x1 : Int32} {x2 : Int32} {x3 : Int32} (F : Fx p s m args meth c cX8_lookOf 8 RX8 (some .int) (rmL 7) 0 0 g a) {kx : St → Option (Int32 × St)} (hx : ∀ (σ : St), kx σ = some (r, σ') → Z p l e (rmL 7) s m args below meth c (MQ below (QiW g a r σ') args s 0 0 (Ad a)) 8 g a 0 0 σ 101 [(0, .ref (a 0)), (1, .int x1), (2, .int x2), (3, .int x3)] []) : ∀ (n : Nat) (x4 : Int32) (σ : St), M8_lookOf_L63 x1 x2 x3 kx n x4 σ = some (r, σ') → Z p l e (rmL 7) s m args below meth c (MQ below (QiW g a r σ') args s 0 0 (Ad a)) 8 g a 0 0 σ 63 [(0, .ref (a 0)), (1, .int x1), (2, .int x2), (3, .int x3), (4, .int x4)] [] := by
  intro n
  induction n with
  | zero => intro x4 σ h; rw [M8_lookOf_L63] at h; cases h
  | succ n ih =>
    intro x4 σ h
    rw [M8_lookOf_L63] at h
    refine z_iload (q := 4) F dX8_lookOf_63 rfl ?_
    refine z_aload_n (q := 0) F dX8_lookOf_65 rfl rfl ?_
    refine gf8_28 F kdc_0 dX8_lookOf_66 ?_
    refine z_iconst (v := 0) F dX8_lookOf_69 rfl ?_
    refine z_ialdC (j := 0) F kdc_7 (inl lnc_7 (by decide)) (by decide) dX8_lookOf_70 ?_
    refine z_icmp_ge (tgt := 101) F dX8_lookOf_71 rfl (fun c15 => ?_) (fun c15 => ?_)
    · have h := ite_T c15 h
      refine z_sub (lv' := [(0, .ref (a 0)), (1, .int x1), (2, .int x2), (3, .int x3)]) [0, 1, 2, 3] rfl ?_
      exact hx _ h
    · have h := ite_F c15 h
      refine z_aload_n (q := 0) F dX8_lookOf_74 rfl rfl ?_
      refine gf8_79 F kdc_0 dX8_lookOf_75 ?_
      refine z_bipush (v := 10) F dX8_lookOf_78 rfl ?_
      refine z_iload (q := 4) F dX8_lookOf_80 rfl ?_
      refine z_imul F dX8_lookOf_82 ?_
      refine z_aload_n (q := 0) F dX8_lookOf_83 rfl rfl ?_
      refine z_iload (q := 4) F dX8_lookOf_84 rfl ?_
      obtain ⟨r16, σ16, hq16, h⟩ := bd_of h
      refine cl8_279 F hq16 ⟨Nat.le_of_ble_eq_true rfl, Nat.le_of_ble_eq_true rfl⟩ dX8_lookOf_86 (Nat.le_of_ble_eq_true rfl) ?_
      refine z_iadd F dX8_lookOf_89 ?_
      refine z_dup2 F dX8_lookOf_90 rfl rfl ?_
      obtain ⟨g17, h⟩ := gd_of h
      refine z_iald F kdc_24 (inl lnc_24 g17) dX8_lookOf_91 ?_
      refine z_iconst (v := 1) F dX8_lookOf_92 rfl ?_
      refine z_iadd F dX8_lookOf_93 ?_
      refine z_iast F kdc_24 (inl lnc_24 g17) dX8_lookOf_94 ?_
      refine z_let h (fun σ19 h => ?_)
      refine z_iinc (q := 4) (v := x4 + 1) (lv' := [(4, .int (x4 + 1)), (0, .ref (a 0)), (1, .int x1), (2, .int x2), (3, .int x3)]) F dX8_lookOf_95 rfl rfl (by decide) rfl ?_
      refine z_letL (s0 := 4) (lv := [(0, .ref (a 0)), (1, .int x1), (2, .int x2), (3, .int x3)]) h (fun v20 h => ?_)
      refine z_goto (tgt := 63) F dX8_lookOf_98 rfl ?_
      refine z_sub (lv' := [(0, .ref (a 0)), (1, .int x1), (2, .int x2), (3, .int x3), (4, .int v20)]) [1, 2, 3, 4, 0] rfl ?_
      exact ih _ _ h
theorem zM8_lookOf_L29 {r : Int32} {x1 : Int32} {x2 : Int32} (F : Fx p s m args meth c cX8_lookOf 8 RX8 (some .int) (rmL 7) 0 0 g a) {kx : St → Option (Int32 × St)} (hx : ∀ (σ : St), kx σ = some (r, σ') → Z p l e (rmL 7) s m args below meth c (MQ below (QiW g a r σ') args s 0 0 (Ad a)) 8 g a 0 0 σ 107 [(0, .ref (a 0))] []) : ∀ (n : Nat) (x3 : Int32) (σ : St), M8_lookOf_L29 x1 x2 kx n x3 σ = some (r, σ') → Z p l e (rmL 7) s m args below meth c (MQ below (QiW g a r σ') args s 0 0 (Ad a)) 8 g a 0 0 σ 29 [(0, .ref (a 0)), (1, .int x1), (2, .int x2), (3, .int x3)] [] := by
  intro n
  induction n with
  | zero => intro x3 σ h; rw [M8_lookOf_L29] at h; cases h
  | succ n ih =>
    intro x3 σ h
    rw [M8_lookOf_L29] at h
    refine z_iload_n (q := 3) F dX8_lookOf_29 rfl rfl ?_
    refine z_aload_n (q := 0) F dX8_lookOf_30 rfl rfl ?_
    refine gf8_151 F kdc_0 dX8_lookOf_31 ?_
    refine z_icmp_ge (tgt := 107) F dX8_lookOf_34 rfl (fun c7 => ?_) (fun c7 => ?_)
    · have h := ite_T c7 h
      refine z_sub (lv' := [(0, .ref (a 0))]) [0] rfl ?_
      exact hx _ h
    · have h := ite_F c7 h
      refine z_iload_n (q := 2) F dX8_lookOf_37 rfl rfl ?_
      refine z_iload_n (q := 3) F dX8_lookOf_38 rfl rfl ?_
      obtain ⟨r8, σ8, hq8, h⟩ := bd_of h
      refine cl8_192 F hq8 ⟨Nat.le_of_ble_eq_true rfl, Nat.le_of_ble_eq_true rfl⟩ dX8_lookOf_39 (Nat.le_of_ble_eq_true rfl) ?_
      refine z_if_eq (tgt := 101) F dX8_lookOf_42 rfl (fun c9 => ?_) (fun c9 => ?_)
      · have h := ite_T c9 h
        refine z_sub (lv' := [(0, .ref (a 0)), (1, .int x1), (2, .int x2), (3, .int x3)]) [0, 1, 2, 3] rfl ?_
        exact zM8_lookOf_J101 F ih h
      · have h := ite_F c9 h
        refine z_aload_n (q := 0) F dX8_lookOf_45 rfl rfl ?_
        refine z_iload_n (q := 3) F dX8_lookOf_46 rfl rfl ?_
        refine pf8_86 F kdc_0 dX8_lookOf_47 ?_
        refine z_let h (fun σ11 h => ?_)
        refine z_aload_n (q := 0) F dX8_lookOf_50 rfl rfl ?_
        refine z_iload_n (q := 1) F dX8_lookOf_51 rfl rfl ?_
        obtain ⟨r12, σ12, hq12, h⟩ := bd_of h
        refine cl8_218 F hq12 ⟨Nat.le_of_ble_eq_true rfl, Nat.le_of_ble_eq_true rfl⟩ dX8_lookOf_52 (Nat.le_of_ble_eq_true rfl) ?_
        refine z_aload_n (q := 0) F dX8_lookOf_55 rfl rfl ?_
        refine z_iconst (v := (-1)) F dX8_lookOf_56 rfl ?_
        refine pf8_86 F kdc_0 dX8_lookOf_57 ?_
        refine z_let h (fun σ13 h => ?_)
        refine z_iconst (v := 0) F dX8_lookOf_60 rfl ?_
        refine z_istore (lv' := [(4, .int 0), (0, .ref (a 0)), (1, .int x1), (2, .int x2), (3, .int x3)]) F dX8_lookOf_61 (by decide) rfl ?_
        refine z_sub (lv' := [(0, .ref (a 0)), (1, .int x1), (2, .int x2), (3, .int x3), (4, .int 0)]) [1, 2, 3, 4, 0] rfl ?_
        refine zM8_lookOf_L63 F ?_ _ _ _ h
        intro σ21 h
        refine z_sub (lv' := [(0, .ref (a 0)), (1, .int x1), (2, .int x2), (3, .int x3)]) [0, 1, 2, 3] rfl ?_
        exact zM8_lookOf_J101 F ih h
theorem zM8_lookOf_L8 {r : Int32} {x1 : Int32} {x2 : Int32} (F : Fx p s m args meth c cX8_lookOf 8 RX8 (some .int) (rmL 7) 0 0 g a) {kx : St → Option (Int32 × St)} (hx : ∀ (σ : St), kx σ = some (r, σ') → Z p l e (rmL 7) s m args below meth c (MQ below (QiW g a r σ') args s 0 0 (Ad a)) 8 g a 0 0 σ 27 [(0, .ref (a 0)), (1, .int x1), (2, .int x2)] []) : ∀ (n : Nat) (x3 : Int32) (σ : St), M8_lookOf_L8 x1 x2 kx n x3 σ = some (r, σ') → Z p l e (rmL 7) s m args below meth c (MQ below (QiW g a r σ') args s 0 0 (Ad a)) 8 g a 0 0 σ 8 [(0, .ref (a 0)), (1, .int x1), (2, .int x2), (3, .int x3)] [] := by
  intro n
  induction n with
  | zero => intro x3 σ h; rw [M8_lookOf_L8] at h; cases h
  | succ n ih =>
    intro x3 σ h
    rw [M8_lookOf_L8] at h
    refine z_iload_n (q := 3) F dX8_lookOf_8 rfl rfl ?_
    refine z_bipush (v := 80) F dX8_lookOf_9 rfl ?_
    refine z_icmp_ge (tgt := 27) F dX8_lookOf_11 rfl (fun c2 => ?_) (fun c2 => ?_)
    · have h := ite_T c2 h
      refine z_sub (lv' := [(0, .ref (a 0)), (1, .int x1), (2, .int x2)]) [0, 1, 2] rfl ?_
      exact hx _ h
    · have h := ite_F c2 h
      refine z_aload_n (q := 0) F dX8_lookOf_14 rfl rfl ?_
      refine gf8_79 F kdc_0 dX8_lookOf_15 ?_
      refine z_iload_n (q := 3) F dX8_lookOf_18 rfl rfl ?_
      refine z_iconst (v := 0) F dX8_lookOf_19 rfl ?_
      obtain ⟨g3, h⟩ := gd_of h
      refine z_iast F kdc_24 (inl lnc_24 g3) dX8_lookOf_20 ?_
      refine z_let h (fun σ4 h => ?_)
      refine z_iinc (q := 3) (v := x3 + 1) (lv' := [(3, .int (x3 + 1)), (0, .ref (a 0)), (1, .int x1), (2, .int x2)]) F dX8_lookOf_21 rfl rfl (by decide) rfl ?_
      refine z_letL (s0 := 3) (lv := [(0, .ref (a 0)), (1, .int x1), (2, .int x2)]) h (fun v5 h => ?_)
      refine z_goto (tgt := 8) F dX8_lookOf_24 rfl ?_
      refine z_sub (lv' := [(0, .ref (a 0)), (1, .int x1), (2, .int x2), (3, .int v5)]) [1, 2, 3, 0] rfl ?_
      exact ih _ _ h
theorem zM8_lookOf {r : Int32} {x1 : Int32} {σ : St} (F : Fx p s m args meth c cX8_lookOf 8 RX8 (some .int) (rmL 7) 0 0 g a) (h : M8_lookOf x1 σ = some (r, σ')) : Z p l e (rmL 7) s m args below meth c (MQ below (QiW g a r σ') args s 0 0 (Ad a)) 8 g a 0 0 σ 0 [(0, .ref (a 0)), (1, .int x1)] [] := by
  unfold M8_lookOf at h
  refine z_aload_n (q := 0) F dX8_lookOf_0 rfl rfl ?_
  refine z_iconst (v := 0) F dX8_lookOf_1 rfl ?_
  obtain ⟨r1, σ1, hq1, h⟩ := bd_of h
  refine cl8_286 F hq1 ⟨Nat.le_of_ble_eq_true rfl, Nat.le_of_ble_eq_true rfl⟩ dX8_lookOf_2 (Nat.le_of_ble_eq_true rfl) ?_
  refine z_istore_n (lv' := [(2, .int r1), (0, .ref (a 0)), (1, .int x1)]) F dX8_lookOf_5 rfl (by decide) rfl ?_
  refine z_iconst (v := 0) F dX8_lookOf_6 rfl ?_
  refine z_istore_n (lv' := [(3, .int 0), (2, .int r1), (0, .ref (a 0)), (1, .int x1)]) F dX8_lookOf_7 rfl (by decide) rfl ?_
  refine z_sub (lv' := [(0, .ref (a 0)), (1, .int x1), (2, .int r1), (3, .int 0)]) [2, 3, 1, 0] rfl ?_
  refine zM8_lookOf_L8 F ?_ _ _ _ h
  intro σ6 h
  refine z_iconst (v := 0) F dX8_lookOf_27 rfl ?_
  refine z_istore_n (lv' := [(3, .int 0), (0, .ref (a 0)), (1, .int x1), (2, .int r1)]) F dX8_lookOf_28 rfl (by decide) rfl ?_
  refine z_sub (lv' := [(0, .ref (a 0)), (1, .int x1), (2, .int r1), (3, .int 0)]) [1, 2, 3, 0] rfl ?_
  refine zM8_lookOf_L29 F ?_ _ _ _ h
  intro σ22 h
  refine z_iconst (v := (-1)) F dX8_lookOf_107 rfl ?_
  refine z_istore_n (lv' := [(3, .int ((-1))), (0, .ref (a 0))]) F dX8_lookOf_108 rfl (by decide) rfl ?_
  refine z_iconst (v := 0) F dX8_lookOf_109 rfl ?_
  refine z_istore (lv' := [(4, .int 0), (3, .int ((-1))), (0, .ref (a 0))]) F dX8_lookOf_110 (by decide) rfl ?_
  refine z_iconst (v := 0) F dX8_lookOf_112 rfl ?_
  refine z_istore (lv' := [(5, .int 0), (4, .int 0), (3, .int ((-1))), (0, .ref (a 0))]) F dX8_lookOf_113 (by decide) rfl ?_
  refine z_sub (lv' := [(0, .ref (a 0)), (3, .int ((-1))), (4, .int 0), (5, .int 0)]) [3, 2, 1, 0] rfl ?_
  refine zM8_lookOf_L115 F ?_ _ _ _ _ _ h
  intro v36 σ37 h
  refine z_iload_n (q := 0) F dX8_lookOf_216 rfl rfl ?_
  exact z_iret F h dX8_lookOf_217
theorem ct8_lookOf {r : Int32} {x1 : Int32} {σ : St} (h : M8_lookOf x1 σ = some (r, σ')) : Met l yX8_lookOf (wsY yX8_lookOf cX8_lookOf 8 (some .int)) (rmL 7) (PcW g a [.ref (a 0), .int x1] σ) (QiW g a r σ') 0 0 (Ad a) :=
  ct_I (by decide) (Nat.le_of_ble_eq_true rfl) (fun p e s m args below meth c F => zM8_lookOf F h)
theorem cl8_289 {r : Int32} {x1 : Int32} (F : Fx p s m args meth c cc nL RX8 rt R cz sz g a) (h : M8_lookOf x1 σ = some (r, σ1)) (hR : 7 + 1 ≤ R.frames ∧ 8 + (8 + 11) + 34 * 7 ≤ R.locals) (d : decode cc pc = .ok (.invokevirtual 289, 3)) (hrm : (rest.map fun v => v.category).sum ≤ 8) (z : Z p l e R s m args below meth c Q nL g a cz sz σ1 (pc + 3) lv (.int r :: rest)) : Z p l e R s m args below meth c Q nL g a cz sz σ pc lv (.int x1 :: .ref (a 0) :: rest) :=
  z_callVI (nA := 1) (As := [.int x1]) F (ct8_lookOf h) ⟨(tbm 1222 (by decide +kernel) rfl), (tbm 1224 (by decide +kernel) rfl), (tbs 98 (by decide +kernel) rfl), (tbm 9 (by decide +kernel) rfl), (tbm 1225 (by decide +kernel) rfl)⟩ (by decide +kernel) rfl kdc_0 (by decide) rfl rfl rfl hR d rfl hrm z
theorem zM8_tellsDay {r : Int64} {x1 : Int64} {x3 : Int32} {σ : St} (F : Fx p s m args meth c cX8_tellsDay 6 RX8 (some .long) (rmL 8) 0 0 g a) (h : M8_tellsDay x1 x3 σ = some (r, σ')) : Z p l e (rmL 8) s m args below meth c (MQ below (QlW g a r σ') args s 0 0 (Ad a)) 6 g a 0 0 σ 0 [(0, .ref (a 0)), (1, .long x1), (3, .int x3)] [] := by
  unfold M8_tellsDay at h
  refine z_ldc2 (v := 31) F dX8_tellsDay_0 (tbm 1273 (by decide +kernel) rfl) ?_
  refine z_lload_n (q := 1) F dX8_tellsDay_3 rfl rfl ?_
  refine z_lmul F dX8_tellsDay_4 ?_
  refine z_aload_n (q := 0) F dX8_tellsDay_5 rfl rfl ?_
  refine z_iload_n (q := 2) F dX8_tellsDay_6 rfl rfl ?_
  refine z_iconst (v := 0) F dX8_tellsDay_7 rfl ?_
  obtain ⟨r1, σ1, hq1, h⟩ := bd_of h
  refine cl8_228 F hq1 ⟨Nat.le_of_ble_eq_true rfl, Nat.le_of_ble_eq_true rfl⟩ dX8_tellsDay_8 (Nat.le_of_ble_eq_true rfl) ?_
  refine z_i2l F dX8_tellsDay_11 ?_
  refine z_ladd F dX8_tellsDay_12 ?_
  refine z_letJ h (fun v2 h => ?_)
  refine z_lstore (lv' := [(4, .long v2), (0, .ref (a 0)), (1, .long x1), (3, .int x3)]) F dX8_tellsDay_13 (by decide) rfl ?_
  refine z_ldc2 (v := 31) F dX8_tellsDay_15 (tbm 1273 (by decide +kernel) rfl) ?_
  refine z_lload (q := 0) F dX8_tellsDay_18 rfl ?_
  refine z_lmul F dX8_tellsDay_20 ?_
  refine z_aload_n (q := 1) F dX8_tellsDay_21 rfl rfl ?_
  refine z_iload_n (q := 3) F dX8_tellsDay_22 rfl rfl ?_
  refine z_iconst (v := 1) F dX8_tellsDay_23 rfl ?_
  obtain ⟨r3, σ3, hq3, h⟩ := bd_of h
  refine cl8_228 F hq3 ⟨Nat.le_of_ble_eq_true rfl, Nat.le_of_ble_eq_true rfl⟩ dX8_tellsDay_24 (Nat.le_of_ble_eq_true rfl) ?_
  refine z_i2l F dX8_tellsDay_27 ?_
  refine z_ladd F dX8_tellsDay_28 ?_
  refine z_letJ h (fun v4 h => ?_)
  refine z_lstore (lv' := [(4, .long v4), (0, .ref (a 0)), (1, .long x1), (3, .int x3)]) F dX8_tellsDay_29 (by decide) rfl ?_
  refine z_ldc2 (v := 31) F dX8_tellsDay_31 (tbm 1273 (by decide +kernel) rfl) ?_
  refine z_lload (q := 0) F dX8_tellsDay_34 rfl ?_
  refine z_lmul F dX8_tellsDay_36 ?_
  refine z_aload_n (q := 1) F dX8_tellsDay_37 rfl rfl ?_
  refine z_iload_n (q := 3) F dX8_tellsDay_38 rfl rfl ?_
  refine z_iconst (v := (-1)) F dX8_tellsDay_39 rfl ?_
  obtain ⟨r5, σ5, hq5, h⟩ := bd_of h
  refine cl8_261 F hq5 ⟨Nat.le_of_ble_eq_true rfl, Nat.le_of_ble_eq_true rfl⟩ dX8_tellsDay_40 (Nat.le_of_ble_eq_true rfl) ?_
  refine z_i2l F dX8_tellsDay_43 ?_
  refine z_ladd F dX8_tellsDay_44 ?_
  refine z_letJ h (fun v6 h => ?_)
  refine z_lstore (lv' := [(4, .long v6), (0, .ref (a 0)), (1, .long x1), (3, .int x3)]) F dX8_tellsDay_45 (by decide) rfl ?_
  refine z_ldc2 (v := 31) F dX8_tellsDay_47 (tbm 1273 (by decide +kernel) rfl) ?_
  refine z_lload (q := 0) F dX8_tellsDay_50 rfl ?_
  refine z_lmul F dX8_tellsDay_52 ?_
  refine z_aload_n (q := 1) F dX8_tellsDay_53 rfl rfl ?_
  refine z_iload_n (q := 3) F dX8_tellsDay_54 rfl rfl ?_
  refine z_iconst (v := 0) F dX8_tellsDay_55 rfl ?_
  obtain ⟨r7, σ7, hq7, h⟩ := bd_of h
  refine cl8_261 F hq7 ⟨Nat.le_of_ble_eq_true rfl, Nat.le_of_ble_eq_true rfl⟩ dX8_tellsDay_56 (Nat.le_of_ble_eq_true rfl) ?_
  refine z_i2l F dX8_tellsDay_59 ?_
  refine z_ladd F dX8_tellsDay_60 ?_
  refine z_letJ h (fun v8 h => ?_)
  refine z_lstore (lv' := [(4, .long v8), (0, .ref (a 0)), (1, .long x1), (3, .int x3)]) F dX8_tellsDay_61 (by decide) rfl ?_
  refine z_ldc2 (v := 31) F dX8_tellsDay_63 (tbm 1273 (by decide +kernel) rfl) ?_
  refine z_lload (q := 0) F dX8_tellsDay_66 rfl ?_
  refine z_lmul F dX8_tellsDay_68 ?_
  refine z_aload_n (q := 1) F dX8_tellsDay_69 rfl rfl ?_
  refine z_iload_n (q := 3) F dX8_tellsDay_70 rfl rfl ?_
  refine z_iconst (v := 0) F dX8_tellsDay_71 rfl ?_
  obtain ⟨r9, σ9, hq9, h⟩ := bd_of h
  refine cl8_273 F hq9 ⟨Nat.le_of_ble_eq_true rfl, Nat.le_of_ble_eq_true rfl⟩ dX8_tellsDay_72 (Nat.le_of_ble_eq_true rfl) ?_
  refine z_i2l F dX8_tellsDay_75 ?_
  refine z_ladd F dX8_tellsDay_76 ?_
  refine z_letJ h (fun v10 h => ?_)
  refine z_lstore (lv' := [(4, .long v10), (0, .ref (a 0)), (1, .long x1), (3, .int x3)]) F dX8_tellsDay_77 (by decide) rfl ?_
  refine z_ldc2 (v := 31) F dX8_tellsDay_79 (tbm 1273 (by decide +kernel) rfl) ?_
  refine z_lload (q := 0) F dX8_tellsDay_82 rfl ?_
  refine z_lmul F dX8_tellsDay_84 ?_
  refine z_aload_n (q := 1) F dX8_tellsDay_85 rfl rfl ?_
  refine z_iload_n (q := 3) F dX8_tellsDay_86 rfl rfl ?_
  refine z_iconst (v := 1) F dX8_tellsDay_87 rfl ?_
  obtain ⟨r11, σ11, hq11, h⟩ := bd_of h
  refine cl8_273 F hq11 ⟨Nat.le_of_ble_eq_true rfl, Nat.le_of_ble_eq_true rfl⟩ dX8_tellsDay_88 (Nat.le_of_ble_eq_true rfl) ?_
  refine z_i2l F dX8_tellsDay_91 ?_
  refine z_ladd F dX8_tellsDay_92 ?_
  refine z_letJ h (fun v12 h => ?_)
  refine z_lstore (lv' := [(4, .long v12), (0, .ref (a 0)), (1, .long x1), (3, .int x3)]) F dX8_tellsDay_93 (by decide) rfl ?_
  refine z_ldc2 (v := 31) F dX8_tellsDay_95 (tbm 1273 (by decide +kernel) rfl) ?_
  refine z_lload (q := 0) F dX8_tellsDay_98 rfl ?_
  refine z_lmul F dX8_tellsDay_100 ?_
  refine z_aload_n (q := 1) F dX8_tellsDay_101 rfl rfl ?_
  refine z_iload_n (q := 3) F dX8_tellsDay_102 rfl rfl ?_
  obtain ⟨r13, σ13, hq13, h⟩ := bd_of h
  refine cl8_289 F hq13 ⟨Nat.le_of_ble_eq_true rfl, Nat.le_of_ble_eq_true rfl⟩ dX8_tellsDay_103 (Nat.le_of_ble_eq_true rfl) ?_
  refine z_i2l F dX8_tellsDay_106 ?_
  refine z_ladd F dX8_tellsDay_107 ?_
  exact z_lret F h dX8_tellsDay_108
theorem ct8_tellsDay {r : Int64} {x1 : Int64} {x3 : Int32} {σ : St} (h : M8_tellsDay x1 x3 σ = some (r, σ')) : Met l yX8_tellsDay (wsY yX8_tellsDay cX8_tellsDay 6 (some .long)) (rmL 8) (PcW g a [.ref (a 0), .long x1, .int x3] σ) (QlW g a r σ') 0 0 (Ad a) :=
  ct_L (by decide) (Nat.le_of_ble_eq_true rfl) (fun p e s m args below meth c F => zM8_tellsDay F h)
theorem cl8_335 {r : Int64} {x1 : Int64} {x3 : Int32} (F : Fx p s m args meth c cc nL RX8 rt R cz sz g a) (h : M8_tellsDay x1 x3 σ = some (r, σ1)) (hR : 8 + 1 ≤ R.frames ∧ 8 + (6 + 11) + 34 * 8 ≤ R.locals) (d : decode cc pc = .ok (.invokevirtual 335, 3)) (hrm : (rest.map fun v => v.category).sum ≤ 8) (z : Z p l e R s m args below meth c Q nL g a cz sz σ1 (pc + 3) lv (.long r :: rest)) : Z p l e R s m args below meth c Q nL g a cz sz σ pc lv (.int x3 :: .long x1 :: .ref (a 0) :: rest) :=
  z_callVL (nA := 2) (As := [.long x1, .int x3]) F (ct8_tellsDay h) ⟨(tbm 1283 (by decide +kernel) rfl), (tbm 1285 (by decide +kernel) rfl), (tbs 105 (by decide +kernel) rfl), (tbm 9 (by decide +kernel) rfl), (tbm 1286 (by decide +kernel) rfl)⟩ (by decide +kernel) rfl kdc_0 (by decide) rfl rfl rfl hR d rfl hrm z
theorem zM8_isOf {r : Int32} {x1 : Int32} {x2 : Int32} {x3 : Int32} {σ : St} (F : Fx p s m args meth c cX8_isOf 4 RX8 (some .int) (rmL 5) 0 0 g a) (h : M8_isOf x1 x2 x3 σ = some (r, σ')) : Z p l e (rmL 5) s m args below meth c (MQ below (QiW g a r σ') args s 0 0 (Ad a)) 4 g a 0 0 σ 0 [(0, .ref (a 0)), (1, .int x1), (2, .int x2), (3, .int x3)] [] := by
  unfold M8_isOf at h
  refine z_aload_n (q := 0) F dX8_isOf_0 rfl rfl ?_
  refine z_iload_n (q := 1) F dX8_isOf_1 rfl rfl ?_
  obtain ⟨r1, σ1, hq1, h⟩ := bd_of h
  refine cl8_218 F hq1 ⟨Nat.le_of_ble_eq_true rfl, Nat.le_of_ble_eq_true rfl⟩ dX8_isOf_2 (Nat.le_of_ble_eq_true rfl) ?_
  refine z_iload_n (q := 3) F dX8_isOf_5 rfl rfl ?_
  refine z_if_ne (tgt := 18) F dX8_isOf_6 rfl (fun c2 => ?_) (fun c2 => ?_)
  · have h := ite_F c2 h
    refine z_iload_n (q := 3) F dX8_isOf_18 rfl rfl ?_
    refine z_iconst (v := 1) F dX8_isOf_19 rfl ?_
    refine z_icmp_ne (tgt := 32) F dX8_isOf_20 rfl (fun c3 => ?_) (fun c3 => ?_)
    · have h := ite_F c3 h
      refine z_aload_n (q := 0) F dX8_isOf_32 rfl rfl ?_
      refine gf8_49 F kdc_0 dX8_isOf_33 ?_
      refine z_iload_n (q := 2) F dX8_isOf_36 rfl rfl ?_
      obtain ⟨g4, h⟩ := gd_of h
      refine z_iald F kdc_14 (inl lnc_14 g4) dX8_isOf_37 ?_
      refine z_iconst (v := (-1)) F dX8_isOf_38 rfl ?_
      refine z_icmp_ne (tgt := 46) F dX8_isOf_39 rfl (fun c5 => ?_) (fun c5 => ?_)
      · have h := ite_F c5 h
        refine z_aload_n (q := 0) F dX8_isOf_46 rfl rfl ?_
        refine gf8_34 F kdc_0 dX8_isOf_47 ?_
        refine z_iconst (v := 4) F dX8_isOf_50 rfl ?_
        refine z_aload_n (q := 0) F dX8_isOf_51 rfl rfl ?_
        refine gf8_49 F kdc_0 dX8_isOf_52 ?_
        refine z_iload_n (q := 2) F dX8_isOf_55 rfl rfl ?_
        refine z_iald F kdc_14 (inl lnc_14 g4) dX8_isOf_56 ?_
        refine z_imul F dX8_isOf_57 ?_
        refine z_iconst (v := 2) F dX8_isOf_58 rfl ?_
        refine z_iadd F dX8_isOf_59 ?_
        obtain ⟨g7, h⟩ := gd_of h
        refine z_iald F kdc_9 (inl lnc_9 g7) dX8_isOf_60 ?_
        exact z_iret F h dX8_isOf_61
      · have h := ite_T c5 h
        refine z_iconst (v := (-1)) F dX8_isOf_42 rfl ?_
        refine z_goto (tgt := 61) F dX8_isOf_43 rfl ?_
        exact z_iret F h dX8_isOf_61
    · have h := ite_T c3 h
      refine z_aload_n (q := 0) F dX8_isOf_23 rfl rfl ?_
      refine gf8_46 F kdc_0 dX8_isOf_24 ?_
      refine z_iload_n (q := 2) F dX8_isOf_27 rfl rfl ?_
      obtain ⟨g8, h⟩ := gd_of h
      refine z_iald F kdc_13 (inl lnc_13 g8) dX8_isOf_28 ?_
      refine z_goto (tgt := 61) F dX8_isOf_29 rfl ?_
      exact z_iret F h dX8_isOf_61
  · have h := ite_T c2 h
    refine z_aload_n (q := 0) F dX8_isOf_9 rfl rfl ?_
    refine gf8_43 F kdc_0 dX8_isOf_10 ?_
    refine z_iload_n (q := 2) F dX8_isOf_13 rfl rfl ?_
    obtain ⟨g9, h⟩ := gd_of h
    refine z_iald F kdc_12 (inl lnc_12 g9) dX8_isOf_14 ?_
    refine z_goto (tgt := 61) F dX8_isOf_15 rfl ?_
    exact z_iret F h dX8_isOf_61
theorem ct8_isOf {r : Int32} {x1 : Int32} {x2 : Int32} {x3 : Int32} {σ : St} (h : M8_isOf x1 x2 x3 σ = some (r, σ')) : Met l yX8_isOf (wsY yX8_isOf cX8_isOf 4 (some .int)) (rmL 5) (PcW g a [.ref (a 0), .int x1, .int x2, .int x3] σ) (QiW g a r σ') 0 0 (Ad a) :=
  ct_I (by decide) (Nat.le_of_ble_eq_true rfl) (fun p e s m args below meth c F => zM8_isOf F h)
theorem cl8_221 {r : Int32} {x1 : Int32} {x2 : Int32} {x3 : Int32} (F : Fx p s m args meth c cc nL RX8 rt R cz sz g a) (h : M8_isOf x1 x2 x3 σ = some (r, σ1)) (hR : 5 + 1 ≤ R.frames ∧ 8 + (4 + 11) + 34 * 5 ≤ R.locals) (d : decode cc pc = .ok (.invokevirtual 221, 3)) (hrm : (rest.map fun v => v.category).sum ≤ 8) (z : Z p l e R s m args below meth c Q nL g a cz sz σ1 (pc + 3) lv (.int r :: rest)) : Z p l e R s m args below meth c Q nL g a cz sz σ pc lv (.int x3 :: .int x2 :: .int x1 :: .ref (a 0) :: rest) :=
  z_callVI (nA := 3) (As := [.int x1, .int x2, .int x3]) F (ct8_isOf h) ⟨(tbm 1052 (by decide +kernel) rfl), (tbm 1054 (by decide +kernel) rfl), (tbs 70 (by decide +kernel) rfl), (tbm 9 (by decide +kernel) rfl), (tbm 1055 (by decide +kernel) rfl)⟩ (by decide +kernel) rfl kdc_0 (by decide) rfl rfl rfl hR d rfl hrm z
theorem zM8_servesOf_J40 {r : Int32} {x2 : Int32} {x4 : Int32} {y0 : Int32} {y1 : Int32} {σ : St} (F : Fx p s m args meth c cX8_servesOf 5 RX8 (some .int) (rmL 5) 0 0 g a) {kb : Int32 → Int32 → St → Option (Int32 × St)} (hb : ∀ (w3 : Int32) (w4 : Int32) (σ : St), kb w3 w4 σ = some (r, σ') → Z p l e (rmL 5) s m args below meth c (MQ below (QiW g a r σ') args s 0 0 (Ad a)) 5 g a 0 0 σ 10 [(0, .ref (a 0)), (2, .int x2), (3, .int w3), (4, .int w4)] []) (h : M8_servesOf_J40 kb x2 x4 y0 y1 σ = some (r, σ')) : Z p l e (rmL 5) s m args below meth c (MQ below (QiW g a r σ') args s 0 0 (Ad a)) 5 g a 0 0 σ 40 [(0, .ref (a 0)), (2, .int x2), (4, .int x4)] [.int y0, .int y1] := by
  unfold M8_servesOf_J40 at h
  refine z_ior F dX8_servesOf_40 ?_
  refine z_letI h (fun v6 h => ?_)
  refine z_istore_n (lv' := [(3, .int v6), (0, .ref (a 0)), (2, .int x2), (4, .int x4)]) F dX8_servesOf_41 rfl (by decide) rfl ?_
  refine z_iinc (q := 3) (v := x4 + 1) (lv' := [(4, .int (x4 + 1)), (3, .int v6), (0, .ref (a 0)), (2, .int x2)]) F dX8_servesOf_42 rfl rfl (by decide) rfl ?_
  refine z_letL (s0 := 4) (lv := [(3, .int v6), (0, .ref (a 0)), (2, .int x2)]) h (fun v7 h => ?_)
  refine z_goto (tgt := 10) F dX8_servesOf_45 rfl ?_
  refine z_sub (lv' := [(0, .ref (a 0)), (2, .int x2), (3, .int v6), (4, .int v7)]) [2, 3, 1, 0] rfl ?_
  exact hb _ _ _ h
theorem zM8_servesOf_L10 {r : Int32} {x2 : Int32} (F : Fx p s m args meth c cX8_servesOf 5 RX8 (some .int) (rmL 5) 0 0 g a) {kx : Int32 → St → Option (Int32 × St)} (hx : ∀ (w3 : Int32) (σ : St), kx w3 σ = some (r, σ') → Z p l e (rmL 5) s m args below meth c (MQ below (QiW g a r σ') args s 0 0 (Ad a)) 5 g a 0 0 σ 48 [(3, .int w3)] []) : ∀ (n : Nat) (x3 : Int32) (x4 : Int32) (σ : St), M8_servesOf_L10 x2 kx n x3 x4 σ = some (r, σ') → Z p l e (rmL 5) s m args below meth c (MQ below (QiW g a r σ') args s 0 0 (Ad a)) 5 g a 0 0 σ 10 [(0, .ref (a 0)), (2, .int x2), (3, .int x3), (4, .int x4)] [] := by
  intro n
  induction n with
  | zero => intro x3 x4 σ h; rw [M8_servesOf_L10] at h; cases h
  | succ n ih =>
    intro x3 x4 σ h
    rw [M8_servesOf_L10] at h
    refine z_iload (q := 3) F dX8_servesOf_10 rfl ?_
    refine z_aload_n (q := 0) F dX8_servesOf_12 rfl rfl ?_
    refine gf8_28 F kdc_0 dX8_servesOf_13 ?_
    refine z_iconst (v := 1) F dX8_servesOf_16 rfl ?_
    refine z_ialdC (j := 1) F kdc_7 (inl lnc_7 (by decide)) (by decide) dX8_servesOf_17 ?_
    refine z_icmp_ge (tgt := 48) F dX8_servesOf_18 rfl (fun c3 => ?_) (fun c3 => ?_)
    · have h := ite_T c3 h
      refine z_sub (lv' := [(3, .int x3)]) [2] rfl ?_
      exact hx _ _ h
    · have h := ite_F c3 h
      refine z_iload_n (q := 2) F dX8_servesOf_21 rfl rfl ?_
      refine z_aload_n (q := 0) F dX8_servesOf_22 rfl rfl ?_
      refine z_iload_n (q := 1) F dX8_servesOf_23 rfl rfl ?_
      refine z_iload (q := 3) F dX8_servesOf_24 rfl ?_
      obtain ⟨r4, σ4, hq4, h⟩ := bd_of h
      refine cl8_244 F hq4 ⟨Nat.le_of_ble_eq_true rfl, Nat.le_of_ble_eq_true rfl⟩ dX8_servesOf_26 (Nat.le_of_ble_eq_true rfl) ?_
      refine z_if_eq (tgt := 39) F dX8_servesOf_29 rfl (fun c5 => ?_) (fun c5 => ?_)
      · try simp only [if_pos c5] at h
        refine z_iconst (v := 0) F dX8_servesOf_39 rfl ?_
        refine z_sub (lv' := [(0, .ref (a 0)), (2, .int x2), (4, .int x4)]) [0, 1, 3] rfl ?_
        exact zM8_servesOf_J40 F ih h
      · try simp only [if_neg c5] at h
        refine z_iconst (v := 1) F dX8_servesOf_32 rfl ?_
        refine z_iload (q := 3) F dX8_servesOf_33 rfl ?_
        refine z_ishl F dX8_servesOf_35 ?_
        refine z_goto (tgt := 40) F dX8_servesOf_36 rfl ?_
        refine z_sub (lv' := [(0, .ref (a 0)), (2, .int x2), (4, .int x4)]) [0, 1, 3] rfl ?_
        exact zM8_servesOf_J40 F ih h
theorem zM8_servesOf {r : Int32} {x1 : Int32} {x2 : Int32} {σ : St} (F : Fx p s m args meth c cX8_servesOf 5 RX8 (some .int) (rmL 5) 0 0 g a) (h : M8_servesOf x1 x2 σ = some (r, σ')) : Z p l e (rmL 5) s m args below meth c (MQ below (QiW g a r σ') args s 0 0 (Ad a)) 5 g a 0 0 σ 0 [(0, .ref (a 0)), (1, .int x1), (2, .int x2)] [] := by
  unfold M8_servesOf at h
  refine z_aload_n (q := 0) F dX8_servesOf_0 rfl rfl ?_
  refine z_iload_n (q := 1) F dX8_servesOf_1 rfl rfl ?_
  obtain ⟨r1, σ1, hq1, h⟩ := bd_of h
  refine cl8_218 F hq1 ⟨Nat.le_of_ble_eq_true rfl, Nat.le_of_ble_eq_true rfl⟩ dX8_servesOf_2 (Nat.le_of_ble_eq_true rfl) ?_
  refine z_iconst (v := 0) F dX8_servesOf_5 rfl ?_
  refine z_istore_n (lv' := [(3, .int 0), (0, .ref (a 0)), (1, .int x1), (2, .int x2)]) F dX8_servesOf_6 rfl (by decide) rfl ?_
  refine z_iconst (v := 0) F dX8_servesOf_7 rfl ?_
  refine z_istore (lv' := [(4, .int 0), (3, .int 0), (0, .ref (a 0)), (1, .int x1), (2, .int x2)]) F dX8_servesOf_8 (by decide) rfl ?_
  refine z_sub (lv' := [(0, .ref (a 0)), (2, .int x2), (3, .int 0), (4, .int 0)]) [2, 4, 1, 0] rfl ?_
  refine zM8_servesOf_L10 F ?_ _ _ _ _ h
  intro v8 σ9 h
  refine z_iload_n (q := 0) F dX8_servesOf_48 rfl rfl ?_
  exact z_iret F h dX8_servesOf_49
theorem ct8_servesOf {r : Int32} {x1 : Int32} {x2 : Int32} {σ : St} (h : M8_servesOf x1 x2 σ = some (r, σ')) : Met l yX8_servesOf (wsY yX8_servesOf cX8_servesOf 5 (some .int)) (rmL 5) (PcW g a [.ref (a 0), .int x1, .int x2] σ) (QiW g a r σ') 0 0 (Ad a) :=
  ct_I (by decide) (Nat.le_of_ble_eq_true rfl) (fun p e s m args below meth c F => zM8_servesOf F h)
theorem cl8_247 {r : Int32} {x1 : Int32} {x2 : Int32} (F : Fx p s m args meth c cc nL RX8 rt R cz sz g a) (h : M8_servesOf x1 x2 σ = some (r, σ1)) (hR : 5 + 1 ≤ R.frames ∧ 8 + (5 + 11) + 34 * 5 ≤ R.locals) (d : decode cc pc = .ok (.invokevirtual 247, 3)) (hrm : (rest.map fun v => v.category).sum ≤ 8) (z : Z p l e R s m args below meth c Q nL g a cz sz σ1 (pc + 3) lv (.int r :: rest)) : Z p l e R s m args below meth c Q nL g a cz sz σ pc lv (.int x2 :: .int x1 :: .ref (a 0) :: rest) :=
  z_callVI (nA := 2) (As := [.int x1, .int x2]) F (ct8_servesOf h) ⟨(tbm 1137 (by decide +kernel) rfl), (tbm 1139 (by decide +kernel) rfl), (tbs 84 (by decide +kernel) rfl), (tbm 9 (by decide +kernel) rfl), (tbm 1140 (by decide +kernel) rfl)⟩ (by decide +kernel) rfl kdc_0 (by decide) rfl rfl rfl hR d rfl hrm z
end WalkZ
