section WalkZ
variable {p : Program} {l : Launch} {e : Env} {R : Room} {s : State} {m : MethodId} {args : Array Value} {below : List Frame} {meth : Method} {c : Code} {Q : State → Prop} {cc : ByteArray} {nL : Nat} {own : String} {rt : Option FieldType} {g : Gd} {a : Nat → Nat} {cz sz : Nat} {σ σ1 σ' : St} {pc : Nat} {lv lv' : List (Nat × Value)} {st st0 rest : List Value}
theorem zM2_lendBy {r : Unit} {o0 : Nat} {x1 : Int32} {σ : St} (F : Fx p s m args meth c cX2_lendBy 2 RX2 none (rmL 0) 0 0 g a) (ko0 : kd o0 = 2) (h : M2_lendBy o0 x1 σ = some (r, σ')) : Z p l e (rmL 0) s m args below meth c (MQ below (QvW g a r σ') args s 0 0 (Ad a)) 2 g a 0 0 σ 0 [(0, .ref (a o0)), (1, .int x1)] [] := by
  unfold M2_lendBy at h
  refine z_aload_n (q := 0) F dX2_lendBy_0 rfl rfl ?_
  refine z_iload_n (q := 1) F dX2_lendBy_1 rfl rfl ?_
  refine pf2_30 F ko0 dX2_lendBy_2 ?_
  refine z_let h (fun σ1 h => ?_)
  refine z_aload_n (q := 0) F dX2_lendBy_5 rfl rfl ?_
  refine z_iconst (v := 0) F dX2_lendBy_6 rfl ?_
  refine pf2_33 F ko0 dX2_lendBy_7 ?_
  refine z_let h (fun σ2 h => ?_)
  refine z_aload_n (q := 0) F dX2_lendBy_10 rfl rfl ?_
  refine z_aload_n (q := 0) F dX2_lendBy_11 rfl rfl ?_
  refine gf2_21 F ko0 dX2_lendBy_12 ?_
  refine z_aload_n (q := 0) F dX2_lendBy_15 rfl rfl ?_
  refine gf2_24 F ko0 dX2_lendBy_16 ?_
  refine z_imul F dX2_lendBy_19 ?_
  refine pf2_36 F ko0 dX2_lendBy_20 ?_
  refine z_let h (fun σ3 h => ?_)
  exact z_vret F h dX2_lendBy_23
theorem ct2_lendBy {r : Unit} {o0 : Nat} {x1 : Int32} {σ : St} (ko0 : kd o0 = 2) (h : M2_lendBy o0 x1 σ = some (r, σ')) : Met l yX2_lendBy (wsY yX2_lendBy cX2_lendBy 2 none) (rmL 0) (PcW g a [.ref (a o0), .int x1] σ) (QvW g a r σ') 0 0 (Ad a) :=
  ct_V (by decide) (Nat.le_of_ble_eq_true rfl) (fun p e s m args below meth c F => zM2_lendBy F ko0 h)
theorem cl1_110 {r : Unit} {o0 : Nat} {x1 : Int32} (F : Fx p s m args meth c cc nL RX1 rt R cz sz g a) (ko0 : kd o0 = 2) (h : M2_lendBy o0 x1 σ = some (r, σ1)) (hR : 0 + 1 ≤ R.frames ∧ 8 + (2 + 11) + 34 * 0 ≤ R.locals) (d : decode cc pc = .ok (.invokevirtual 110, 3)) (hrm : (rest.map fun v => v.category).sum ≤ 8) (z : Z p l e R s m args below meth c Q nL g a cz sz σ1 (pc + 3) lv (rest)) : Z p l e R s m args below meth c Q nL g a cz sz σ pc lv (.int x1 :: .ref (a o0) :: rest) :=
  z_callVNV (host := "HoleBank") (nA := 1) (As := [.int x1]) F (ct2_lendBy ko0 h) ⟨(nlm 505 (by decide +kernel) rfl), (tbm 507 (by decide +kernel) rfl), (tbs 20 (by decide +kernel) rfl), (tbm 6 (by decide +kernel) rfl), (tbm 508 (by decide +kernel) rfl)⟩ (by decide +kernel) rfl ko0 (by decide) rfl rfl rfl hR d rfl hrm z
theorem zM1_lendAll_J69 {r : Unit} {o0 : Nat} {x1 : Int32} {o2 : Nat} {x3 : Int32} {σ : St} (F : Fx p s m args meth c cX1_lendAll 5 RX1 none (rmL 1) 0 0 g a) (ko0 : kd o0 = 1) (ko2 : kd o2 = 4) {kb : Int32 → St → Option (Unit × St)} (hb : ∀ (w3 : Int32) (σ : St), kb w3 σ = some (r, σ') → Z p l e (rmL 1) s m args below meth c (MQ below (QvW g a r σ') args s 0 0 (Ad a)) 5 g a 0 0 σ 2 [(0, .ref (a o0)), (1, .int x1), (2, .ref (a o2)), (3, .int w3)] []) (h : M1_lendAll_J69 kb o0 x1 o2 x3 σ = some (r, σ')) : Z p l e (rmL 1) s m args below meth c (MQ below (QvW g a r σ') args s 0 0 (Ad a)) 5 g a 0 0 σ 69 [(0, .ref (a o0)), (1, .int x1), (2, .ref (a o2)), (3, .int x3)] [] := by
  unfold M1_lendAll_J69 at h
  refine z_iinc (q := 3) (v := x3 + 1) (lv' := [(3, .int (x3 + 1)), (0, .ref (a o0)), (1, .int x1), (2, .ref (a o2))]) F dX1_lendAll_69 rfl rfl (by decide) rfl ?_
  refine z_letL (s0 := 3) (lv := [(0, .ref (a o0)), (1, .int x1), (2, .ref (a o2))]) h (fun v5 h => ?_)
  refine z_goto (tgt := 2) F dX1_lendAll_72 rfl ?_
  refine z_sub (lv' := [(0, .ref (a o0)), (1, .int x1), (2, .ref (a o2)), (3, .int v5)]) [1, 2, 3, 0] rfl ?_
  exact hb _ _ h
theorem zM1_lendAll_L2 {r : Unit} {o0 : Nat} {x1 : Int32} {o2 : Nat} (F : Fx p s m args meth c cX1_lendAll 5 RX1 none (rmL 1) 0 0 g a) (ko0 : kd o0 = 1) (ko2 : kd o2 = 4) {kx : St → Option (Unit × St)} (hx : ∀ (σ : St), kx σ = some (r, σ') → Z p l e (rmL 1) s m args below meth c (MQ below (QvW g a r σ') args s 0 0 (Ad a)) 5 g a 0 0 σ 75 [] []) : ∀ (n : Nat) (x3 : Int32) (σ : St), M1_lendAll_L2 o0 x1 o2 kx n x3 σ = some (r, σ') → Z p l e (rmL 1) s m args below meth c (MQ below (QvW g a r σ') args s 0 0 (Ad a)) 5 g a 0 0 σ 2 [(0, .ref (a o0)), (1, .int x1), (2, .ref (a o2)), (3, .int x3)] [] := by
  intro n
  induction n with
  | zero => intro x3 σ h; rw [M1_lendAll_L2] at h; cases h
  | succ n ih =>
    intro x3 σ h
    rw [M1_lendAll_L2] at h
    refine z_iload_n (q := 3) F dX1_lendAll_2 rfl rfl ?_
    refine z_aload_n (q := 2) F dX1_lendAll_3 rfl rfl ?_
    refine gf1_101 F ko2 dX1_lendAll_4 ?_
    refine z_icmp_ge (tgt := 75) F dX1_lendAll_7 rfl (fun c1 => ?_) (fun c1 => ?_)
    · have h := ite_T c1 h
      refine z_sub (lv' := []) [] rfl ?_
      exact hx _ h
    · have h := ite_F c1 h
      refine z_aload_n (q := 2) F dX1_lendAll_10 rfl rfl ?_
      refine z_iload_n (q := 3) F dX1_lendAll_11 rfl rfl ?_
      refine z_iconst (v := 1) F dX1_lendAll_12 rfl ?_
      obtain ⟨r2, σ2, hq2, h⟩ := bd_of h
      refine cl1_106 F ko2 hq2 ⟨Nat.le_of_ble_eq_true rfl, Nat.le_of_ble_eq_true rfl⟩ dX1_lendAll_13 (Nat.le_of_ble_eq_true rfl) ?_
      refine z_istore (lv' := [(4, .int r2), (0, .ref (a o0)), (1, .int x1), (2, .ref (a o2)), (3, .int x3)]) F dX1_lendAll_16 (by decide) rfl ?_
      refine z_aload_n (q := 3) F dX1_lendAll_18 rfl rfl ?_
      refine z_iload_n (q := 4) F dX1_lendAll_19 rfl rfl ?_
      refine z_iconst (v := 0) F dX1_lendAll_20 rfl ?_
      obtain ⟨r3, σ3, hq3, h⟩ := bd_of h
      refine cl1_106 F ko2 hq3 ⟨Nat.le_of_ble_eq_true rfl, Nat.le_of_ble_eq_true rfl⟩ dX1_lendAll_21 (Nat.le_of_ble_eq_true rfl) ?_
      refine z_iload_n (q := 2) F dX1_lendAll_24 rfl rfl ?_
      refine z_icmp_ne (tgt := 69) F dX1_lendAll_25 rfl (fun c4 => ?_) (fun c4 => ?_)
      · have h := ite_F c4 h
        refine z_sub (lv' := [(0, .ref (a o0)), (1, .int x1), (2, .ref (a o2)), (3, .int x3)]) [1, 2, 3, 4] rfl ?_
        exact zM1_lendAll_J69 F ko0 ko2 ih h
      · have h := ite_T c4 h
        refine z_iload (q := 0) F dX1_lendAll_28 rfl ?_
        refine z_aload_n (q := 1) F dX1_lendAll_30 rfl rfl ?_
        refine gf1_42 F ko0 dX1_lendAll_31 ?_
        refine z_icmp_ge (tgt := 69) F dX1_lendAll_34 rfl (fun c6 => ?_) (fun c6 => ?_)
        · have h := ite_T c6 h
          refine z_sub (lv' := [(0, .ref (a o0)), (1, .int x1), (2, .ref (a o2)), (3, .int x3)]) [1, 2, 3, 4] rfl ?_
          exact zM1_lendAll_J69 F ko0 ko2 ih h
        · have h := ite_F c6 h
          refine z_aload_n (q := 1) F dX1_lendAll_37 rfl rfl ?_
          refine gf1_11 F ko0 dX1_lendAll_38 ?_
          refine z_iload (q := 0) F dX1_lendAll_41 rfl ?_
          obtain ⟨g7, h⟩ := gd_of h
          refine z_aldH F (kf_1_0 ko0) (inb_in g7) dX1_lendAll_43 ?_
          refine gf1_88 F (kdH (kf_1_0 ko0) g7) dX1_lendAll_44 ?_
          refine z_iconst (v := (-1)) F dX1_lendAll_47 rfl ?_
          refine z_icmp_ne (tgt := 69) F dX1_lendAll_48 rfl (fun c8 => ?_) (fun c8 => ?_)
          · have h := ite_F c8 h
            refine z_sub (lv' := [(0, .ref (a o0)), (1, .int x1), (2, .ref (a o2)), (3, .int x3)]) [1, 2, 3, 4] rfl ?_
            exact zM1_lendAll_J69 F ko0 ko2 ih h
          · have h := ite_T c8 h
            refine z_aload_n (q := 1) F dX1_lendAll_51 rfl rfl ?_
            refine gf1_11 F ko0 dX1_lendAll_52 ?_
            refine z_iload (q := 0) F dX1_lendAll_55 rfl ?_
            refine z_aldH F (kf_1_0 ko0) (inb_in g7) dX1_lendAll_57 ?_
            refine z_iload_n (q := 4) F dX1_lendAll_58 rfl rfl ?_
            obtain ⟨r10, σ10, hq10, h⟩ := bd_of h
            refine cl1_110 F (kdH (kf_1_0 ko0) g7) hq10 ⟨Nat.le_of_ble_eq_true rfl, Nat.le_of_ble_eq_true rfl⟩ dX1_lendAll_59 (Nat.le_of_ble_eq_true rfl) ?_
            refine z_aload_n (q := 1) F dX1_lendAll_62 rfl rfl ?_
            refine gf1_33 F ko0 dX1_lendAll_63 ?_
            refine z_iload_n (q := 4) F dX1_lendAll_66 rfl rfl ?_
            refine z_iconst (v := 1) F dX1_lendAll_67 rfl ?_
            obtain ⟨g11, h⟩ := gd_of h
            refine z_iast F (kf_1_6 ko0) (inl (lf_1_6 ko0) g11) dX1_lendAll_68 ?_
            refine z_let h (fun σ12 h => ?_)
            refine z_sub (lv' := [(0, .ref (a o0)), (1, .int x1), (2, .ref (a o2)), (3, .int x3)]) [1, 2, 3, 4] rfl ?_
            exact zM1_lendAll_J69 F ko0 ko2 ih h
theorem zM1_lendAll {r : Unit} {o0 : Nat} {x1 : Int32} {o2 : Nat} {σ : St} (F : Fx p s m args meth c cX1_lendAll 5 RX1 none (rmL 1) 0 0 g a) (ko0 : kd o0 = 1) (ko2 : kd o2 = 4) (h : M1_lendAll o0 x1 o2 σ = some (r, σ')) : Z p l e (rmL 1) s m args below meth c (MQ below (QvW g a r σ') args s 0 0 (Ad a)) 5 g a 0 0 σ 0 [(0, .ref (a o0)), (1, .int x1), (2, .ref (a o2))] [] := by
  unfold M1_lendAll at h
  refine z_iconst (v := 0) F dX1_lendAll_0 rfl ?_
  refine z_istore_n (lv' := [(3, .int 0), (0, .ref (a o0)), (1, .int x1), (2, .ref (a o2))]) F dX1_lendAll_1 rfl (by decide) rfl ?_
  refine z_sub (lv' := [(0, .ref (a o0)), (1, .int x1), (2, .ref (a o2)), (3, .int 0)]) [1, 2, 3, 0] rfl ?_
  refine zM1_lendAll_L2 F ko0 ko2 ?_ _ _ _ h
  intro σ13 h
  exact z_vret F h dX1_lendAll_75
theorem ct1_lendAll {r : Unit} {o0 : Nat} {x1 : Int32} {o2 : Nat} {σ : St} (ko0 : kd o0 = 1) (ko2 : kd o2 = 4) (h : M1_lendAll o0 x1 o2 σ = some (r, σ')) : Met l yX1_lendAll (wsY yX1_lendAll cX1_lendAll 5 none) (rmL 1) (PcW g a [.ref (a o0), .int x1, .ref (a o2)] σ) (QvW g a r σ') 0 0 (Ad a) :=
  ct_V (by decide) (Nat.le_of_ble_eq_true rfl) (fun p e s m args below meth c F => zM1_lendAll F ko0 ko2 h)
theorem cl1_68 {r : Unit} {o0 : Nat} {x1 : Int32} {o2 : Nat} (F : Fx p s m args meth c cc nL RX1 rt R cz sz g a) (ko0 : kd o0 = 1) (ko2 : kd o2 = 4) (h : M1_lendAll o0 x1 o2 σ = some (r, σ1)) (hR : 1 + 1 ≤ R.frames ∧ 8 + (5 + 11) + 34 * 1 ≤ R.locals) (d : decode cc pc = .ok (.invokevirtual 68, 3)) (hrm : (rest.map fun v => v.category).sum ≤ 8) (z : Z p l e R s m args below meth c Q nL g a cz sz σ1 (pc + 3) lv (rest)) : Z p l e R s m args below meth c Q nL g a cz sz σ pc lv (.ref (a o2) :: .int x1 :: .ref (a o0) :: rest) :=
  z_callVV (nA := 2) (As := [.int x1, .ref (a o2)]) F (ct1_lendAll ko0 ko2 h) ⟨(tbm 497 (by decide +kernel) rfl), (tbm 499 (by decide +kernel) rfl), (tbs 18 (by decide +kernel) rfl), (tbm 5 (by decide +kernel) rfl), (tbm 500 (by decide +kernel) rfl)⟩ (by decide +kernel) rfl ko0 (by decide) rfl rfl rfl hR d rfl hrm z
theorem zM1_note {r : Unit} {o0 : Nat} {x1 : Int32} {x2 : Int32} {σ : St} (F : Fx p s m args meth c cX1_note 4 RX1 none (rmL 0) 0 0 g a) (ko0 : kd o0 = 1) (h : M1_note o0 x1 x2 σ = some (r, σ')) : Z p l e (rmL 0) s m args below meth c (MQ below (QvW g a r σ') args s 0 0 (Ad a)) 4 g a 0 0 σ 0 [(0, .ref (a o0)), (1, .int x1), (2, .int x2)] [] := by
  unfold M1_note at h
  refine z_iload_n (q := 1) F dX1_note_0 rfl rfl ?_
  refine z_bipush (v := 8) F dX1_note_1 rfl ?_
  refine z_imul F dX1_note_3 ?_
  refine z_iload_n (q := 2) F dX1_note_4 rfl rfl ?_
  refine z_iadd F dX1_note_5 ?_
  refine z_letI h (fun v1 h => ?_)
  refine z_istore_n (lv' := [(3, .int v1), (0, .ref (a o0)), (1, .int x1), (2, .int x2)]) F dX1_note_6 rfl (by decide) rfl ?_
  refine z_aload_n (q := 1) F dX1_note_7 rfl rfl ?_
  refine gf1_17 F ko0 dX1_note_8 ?_
  refine z_iload_n (q := 0) F dX1_note_11 rfl rfl ?_
  refine z_aload_n (q := 1) F dX1_note_12 rfl rfl ?_
  refine gf1_11 F ko0 dX1_note_13 ?_
  refine z_iload_n (q := 3) F dX1_note_16 rfl rfl ?_
  obtain ⟨g2, h⟩ := gd_of h
  refine z_aldH F (kf_1_0 ko0) (inb_in g2) dX1_note_17 ?_
  refine gf1_118 F (kdH (kf_1_0 ko0) g2) dX1_note_18 ?_
  obtain ⟨g3, h⟩ := gd_of h
  refine z_iast F (kf_1_1 ko0) (inl (lf_1_1 ko0) g3) dX1_note_21 ?_
  refine z_let h (fun σ4 h => ?_)
  refine z_aload_n (q := 1) F dX1_note_22 rfl rfl ?_
  refine gf1_21 F ko0 dX1_note_23 ?_
  refine z_iload_n (q := 0) F dX1_note_26 rfl rfl ?_
  refine z_aload_n (q := 1) F dX1_note_27 rfl rfl ?_
  refine gf1_11 F ko0 dX1_note_28 ?_
  refine z_iload_n (q := 3) F dX1_note_31 rfl rfl ?_
  refine z_aldH F (kf_1_0 ko0) (inb_in g2) dX1_note_32 ?_
  refine gf1_130 F (kdH (kf_1_0 ko0) g2) dX1_note_33 ?_
  refine z_iast F (kf_1_2 ko0) (inl (lf_1_2 ko0) g3) dX1_note_36 ?_
  refine z_let h (fun σ7 h => ?_)
  refine z_aload_n (q := 1) F dX1_note_37 rfl rfl ?_
  refine gf1_24 F ko0 dX1_note_38 ?_
  refine z_iload_n (q := 0) F dX1_note_41 rfl rfl ?_
  refine z_aload_n (q := 1) F dX1_note_42 rfl rfl ?_
  refine gf1_11 F ko0 dX1_note_43 ?_
  refine z_iload_n (q := 3) F dX1_note_46 rfl rfl ?_
  refine z_aldH F (kf_1_0 ko0) (inb_in g2) dX1_note_47 ?_
  refine gf1_88 F (kdH (kf_1_0 ko0) g2) dX1_note_48 ?_
  refine z_iast F (kf_1_3 ko0) (inl (lf_1_3 ko0) g3) dX1_note_51 ?_
  refine z_let h (fun σ10 h => ?_)
  exact z_vret F h dX1_note_52
theorem ct1_note {r : Unit} {o0 : Nat} {x1 : Int32} {x2 : Int32} {σ : St} (ko0 : kd o0 = 1) (h : M1_note o0 x1 x2 σ = some (r, σ')) : Met l yX1_note (wsY yX1_note cX1_note 4 none) (rmL 0) (PcW g a [.ref (a o0), .int x1, .int x2] σ) (QvW g a r σ') 0 0 (Ad a) :=
  ct_V (by decide) (Nat.le_of_ble_eq_true rfl) (fun p e s m args below meth c F => zM1_note F ko0 h)
theorem cl1_94 {r : Unit} {o0 : Nat} {x1 : Int32} {x2 : Int32} (F : Fx p s m args meth c cc nL RX1 rt R cz sz g a) (ko0 : kd o0 = 1) (h : M1_note o0 x1 x2 σ = some (r, σ1)) (hR : 0 + 1 ≤ R.frames ∧ 8 + (4 + 11) + 34 * 0 ≤ R.locals) (d : decode cc pc = .ok (.invokevirtual 94, 3)) (hrm : (rest.map fun v => v.category).sum ≤ 8) (z : Z p l e R s m args below meth c Q nL g a cz sz σ1 (pc + 3) lv (rest)) : Z p l e R s m args below meth c Q nL g a cz sz σ pc lv (.int x2 :: .int x1 :: .ref (a o0) :: rest) :=
  z_callVV (nA := 2) (As := [.int x1, .int x2]) F (ct1_note ko0 h) ⟨(tbm 530 (by decide +kernel) rfl), (tbm 532 (by decide +kernel) rfl), (tbs 26 (by decide +kernel) rfl), (tbm 5 (by decide +kernel) rfl), (tbm 533 (by decide +kernel) rfl)⟩ (by decide +kernel) rfl ko0 (by decide) rfl rfl rfl hR d rfl hrm z
theorem zM2_passDayOut_J84 {r : Unit} {o0 : Nat} {σ : St} (F : Fx p s m args meth c cX2_passDayOut 1 RX2 none (rmL 0) 0 0 g a) (ko0 : kd o0 = 2) (h : M2_passDayOut_J84 o0 σ = some (r, σ')) : Z p l e (rmL 0) s m args below meth c (MQ below (QvW g a r σ') args s 0 0 (Ad a)) 1 g a 0 0 σ 84 [(0, .ref (a o0))] [] := by
  unfold M2_passDayOut_J84 at h
  refine z_aload_n (q := 0) F dX2_passDayOut_84 rfl rfl ?_
  refine gf2_15 F ko0 dX2_passDayOut_85 ?_
  refine z_iconst (v := 1) F dX2_passDayOut_88 rfl ?_
  refine z_icmp_ne (tgt := 110) F dX2_passDayOut_89 rfl (fun c7 => ?_) (fun c7 => ?_)
  · have h := ite_F c7 h
    exact z_vret F h dX2_passDayOut_110
  · have h := ite_T c7 h
    refine z_aload_n (q := 0) F dX2_passDayOut_92 rfl rfl ?_
    refine gf2_24 F ko0 dX2_passDayOut_93 ?_
    refine z_iconst (v := 1) F dX2_passDayOut_96 rfl ?_
    refine z_icmp_le (tgt := 110) F dX2_passDayOut_97 rfl (fun c8 => ?_) (fun c8 => ?_)
    · have h := ite_T c8 h
      exact z_vret F h dX2_passDayOut_110
    · have h := ite_F c8 h
      refine z_aload_n (q := 0) F dX2_passDayOut_100 rfl rfl ?_
      refine z_dup F dX2_passDayOut_101 rfl ?_
      refine gf2_24 F ko0 dX2_passDayOut_102 ?_
      refine z_iconst (v := 1) F dX2_passDayOut_105 rfl ?_
      refine z_isub F dX2_passDayOut_106 ?_
      refine pf2_24 F ko0 dX2_passDayOut_107 ?_
      refine z_let h (fun σ9 h => ?_)
      exact z_vret F h dX2_passDayOut_110
theorem zM2_passDayOut_J57 {r : Unit} {o0 : Nat} {σ : St} (F : Fx p s m args meth c cX2_passDayOut 1 RX2 none (rmL 0) 0 0 g a) (ko0 : kd o0 = 2) (h : M2_passDayOut_J57 o0 σ = some (r, σ')) : Z p l e (rmL 0) s m args below meth c (MQ below (QvW g a r σ') args s 0 0 (Ad a)) 1 g a 0 0 σ 57 [(0, .ref (a o0))] [] := by
  unfold M2_passDayOut_J57 at h
  refine z_aload_n (q := 0) F dX2_passDayOut_57 rfl rfl ?_
  refine gf2_15 F ko0 dX2_passDayOut_58 ?_
  refine z_iconst (v := 2) F dX2_passDayOut_61 rfl ?_
  refine z_icmp_ne (tgt := 84) F dX2_passDayOut_62 rfl (fun c6 => ?_) (fun c6 => ?_)
  · have h := ite_F c6 h
    refine z_sub (lv' := [(0, .ref (a o0))]) [0] rfl ?_
    exact zM2_passDayOut_J84 F ko0 h
  · have h := ite_T c6 h
    refine z_aload_n (q := 0) F dX2_passDayOut_65 rfl rfl ?_
    refine gf2_24 F ko0 dX2_passDayOut_66 ?_
    refine z_bipush (v := 9) F dX2_passDayOut_69 rfl ?_
    refine z_icmp_ge (tgt := 84) F dX2_passDayOut_71 rfl (fun c10 => ?_) (fun c10 => ?_)
    · have h := ite_T c10 h
      refine z_sub (lv' := [(0, .ref (a o0))]) [0] rfl ?_
      exact zM2_passDayOut_J84 F ko0 h
    · have h := ite_F c10 h
      refine z_aload_n (q := 0) F dX2_passDayOut_74 rfl rfl ?_
      refine z_dup F dX2_passDayOut_75 rfl ?_
      refine gf2_24 F ko0 dX2_passDayOut_76 ?_
      refine z_iconst (v := 1) F dX2_passDayOut_79 rfl ?_
      refine z_iadd F dX2_passDayOut_80 ?_
      refine pf2_24 F ko0 dX2_passDayOut_81 ?_
      refine z_let h (fun σ11 h => ?_)
      refine z_sub (lv' := [(0, .ref (a o0))]) [0] rfl ?_
      exact zM2_passDayOut_J84 F ko0 h
theorem zM2_passDayOut {r : Unit} {o0 : Nat} {σ : St} (F : Fx p s m args meth c cX2_passDayOut 1 RX2 none (rmL 0) 0 0 g a) (ko0 : kd o0 = 2) (h : M2_passDayOut o0 σ = some (r, σ')) : Z p l e (rmL 0) s m args below meth c (MQ below (QvW g a r σ') args s 0 0 (Ad a)) 1 g a 0 0 σ 0 [(0, .ref (a o0))] [] := by
  unfold M2_passDayOut at h
  refine z_aload_n (q := 0) F dX2_passDayOut_0 rfl rfl ?_
  refine z_dup F dX2_passDayOut_1 rfl ?_
  refine gf2_33 F ko0 dX2_passDayOut_2 ?_
  refine z_iconst (v := 1) F dX2_passDayOut_5 rfl ?_
  refine z_iadd F dX2_passDayOut_6 ?_
  refine pf2_33 F ko0 dX2_passDayOut_7 ?_
  refine z_let h (fun σ1 h => ?_)
  refine z_aload_n (q := 0) F dX2_passDayOut_10 rfl rfl ?_
  refine gf2_27 F ko0 dX2_passDayOut_11 ?_
  refine z_if_eq (tgt := 29) F dX2_passDayOut_14 rfl (fun c2 => ?_) (fun c2 => ?_)
  · have h := ite_T c2 h
    exact z_vret F h dX2_passDayOut_29
  · have h := ite_F c2 h
    refine z_aload_n (q := 0) F dX2_passDayOut_17 rfl rfl ?_
    refine gf2_33 F ko0 dX2_passDayOut_18 ?_
    refine z_aload_n (q := 0) F dX2_passDayOut_21 rfl rfl ?_
    refine gf2_27 F ko0 dX2_passDayOut_22 ?_
    obtain ⟨g3, h⟩ := gd_of h
    refine z_irem F dX2_passDayOut_25 g3 ?_
    refine z_if_eq (tgt := 30) F dX2_passDayOut_26 rfl (fun c4 => ?_) (fun c4 => ?_)
    · have h := ite_T c4 h
      refine z_aload_n (q := 0) F dX2_passDayOut_30 rfl rfl ?_
      refine gf2_15 F ko0 dX2_passDayOut_31 ?_
      refine z_iconst (v := 2) F dX2_passDayOut_34 rfl ?_
      refine z_icmp_eq (tgt := 57) F dX2_passDayOut_35 rfl (fun c5 => ?_) (fun c5 => ?_)
      · have h := ite_T c5 h
        refine z_sub (lv' := [(0, .ref (a o0))]) [0] rfl ?_
        exact zM2_passDayOut_J57 F ko0 h
      · have h := ite_F c5 h
        refine z_aload_n (q := 0) F dX2_passDayOut_38 rfl rfl ?_
        refine gf2_21 F ko0 dX2_passDayOut_39 ?_
        refine z_bipush (v := 9) F dX2_passDayOut_42 rfl ?_
        refine z_icmp_ge (tgt := 57) F dX2_passDayOut_44 rfl (fun c12 => ?_) (fun c12 => ?_)
        · have h := ite_T c12 h
          refine z_sub (lv' := [(0, .ref (a o0))]) [0] rfl ?_
          exact zM2_passDayOut_J57 F ko0 h
        · have h := ite_F c12 h
          refine z_aload_n (q := 0) F dX2_passDayOut_47 rfl rfl ?_
          refine z_dup F dX2_passDayOut_48 rfl ?_
          refine gf2_21 F ko0 dX2_passDayOut_49 ?_
          refine z_iconst (v := 1) F dX2_passDayOut_52 rfl ?_
          refine z_iadd F dX2_passDayOut_53 ?_
          refine pf2_21 F ko0 dX2_passDayOut_54 ?_
          refine z_let h (fun σ13 h => ?_)
          refine z_sub (lv' := [(0, .ref (a o0))]) [0] rfl ?_
          exact zM2_passDayOut_J57 F ko0 h
    · have h := ite_F c4 h
      exact z_vret F h dX2_passDayOut_29
theorem ct2_passDayOut {r : Unit} {o0 : Nat} {σ : St} (ko0 : kd o0 = 2) (h : M2_passDayOut o0 σ = some (r, σ')) : Met l yX2_passDayOut (wsY yX2_passDayOut cX2_passDayOut 1 none) (rmL 0) (PcW g a [.ref (a o0)] σ) (QvW g a r σ') 0 0 (Ad a) :=
  ct_V (by decide) (Nat.le_of_ble_eq_true rfl) (fun p e s m args below meth c F => zM2_passDayOut F ko0 h)
theorem cl1_125 {r : Unit} {o0 : Nat} (F : Fx p s m args meth c cc nL RX1 rt R cz sz g a) (ko0 : kd o0 = 2) (h : M2_passDayOut o0 σ = some (r, σ1)) (hR : 0 + 1 ≤ R.frames ∧ 8 + (1 + 11) + 34 * 0 ≤ R.locals) (d : decode cc pc = .ok (.invokevirtual 125, 3)) (hrm : (rest.map fun v => v.category).sum ≤ 8) (z : Z p l e R s m args below meth c Q nL g a cz sz σ1 (pc + 3) lv (rest)) : Z p l e R s m args below meth c Q nL g a cz sz σ pc lv (.ref (a o0) :: rest) :=
  z_callVNV (host := "HoleBank") (nA := 0) (As := []) F (ct2_passDayOut ko0 h) ⟨(nlm 526 (by decide +kernel) rfl), (tbm 528 (by decide +kernel) rfl), (tbs 25 (by decide +kernel) rfl), (tbm 6 (by decide +kernel) rfl), (tbm 529 (by decide +kernel) rfl)⟩ (by decide +kernel) rfl ko0 (by decide) rfl rfl rfl hR d rfl hrm z
theorem zM1_passDayOut {r : Unit} {o0 : Nat} {x1 : Int32} {o2 : Nat} {o3 : Nat} {σ : St} (F : Fx p s m args meth c cX1_passDayOut 5 RX1 none (rmL 1) 0 0 g a) (ko0 : kd o0 = 1) (ko2 : kd o2 = 2) (ko3 : kd o3 = 4) (h : M1_passDayOut o0 x1 o2 o3 σ = some (r, σ')) : Z p l e (rmL 1) s m args below meth c (MQ below (QvW g a r σ') args s 0 0 (Ad a)) 5 g a 0 0 σ 0 [(0, .ref (a o0)), (1, .int x1), (2, .ref (a o2)), (3, .ref (a o3))] [] := by
  unfold M1_passDayOut at h
  refine z_aload_n (q := 2) F dX1_passDayOut_0 rfl rfl ?_
  obtain ⟨r1, σ1, hq1, h⟩ := bd_of h
  refine cl1_125 F ko2 hq1 ⟨Nat.le_of_ble_eq_true rfl, Nat.le_of_ble_eq_true rfl⟩ dX1_passDayOut_1 (Nat.le_of_ble_eq_true rfl) ?_
  refine z_aload_n (q := 2) F dX1_passDayOut_4 rfl rfl ?_
  refine gf1_88 F ko2 dX1_passDayOut_5 ?_
  refine z_letI h (fun v2 h => ?_)
  refine z_istore (lv' := [(4, .int v2), (0, .ref (a o0)), (1, .int x1), (2, .ref (a o2)), (3, .ref (a o3))]) F dX1_passDayOut_8 (by decide) rfl ?_
  refine z_aload_n (q := 3) F dX1_passDayOut_10 rfl rfl ?_
  refine gf1_127 F ko2 dX1_passDayOut_11 ?_
  refine z_aload_n (q := 4) F dX1_passDayOut_14 rfl rfl ?_
  refine z_iload (q := 0) F dX1_passDayOut_15 rfl ?_
  refine z_iconst (v := 3) F dX1_passDayOut_17 rfl ?_
  obtain ⟨r3, σ3, hq3, h⟩ := bd_of h
  refine cl1_106 F ko3 hq3 ⟨Nat.le_of_ble_eq_true rfl, Nat.le_of_ble_eq_true rfl⟩ dX1_passDayOut_18 (Nat.le_of_ble_eq_true rfl) ?_
  refine z_icmp_ge (tgt := 25) F dX1_passDayOut_21 rfl (fun c4 => ?_) (fun c4 => ?_)
  · have h := ite_T c4 h
    refine z_aload_n (q := 1) F dX1_passDayOut_25 rfl rfl ?_
    refine gf1_39 F ko0 dX1_passDayOut_26 ?_
    refine z_iload (q := 0) F dX1_passDayOut_29 rfl ?_
    refine z_aload_n (q := 3) F dX1_passDayOut_31 rfl rfl ?_
    refine gf1_118 F ko2 dX1_passDayOut_32 ?_
    refine z_aload_n (q := 3) F dX1_passDayOut_35 rfl rfl ?_
    refine gf1_130 F ko2 dX1_passDayOut_36 ?_
    refine z_imul F dX1_passDayOut_39 ?_
    refine z_aload_n (q := 3) F dX1_passDayOut_40 rfl rfl ?_
    refine gf1_132 F ko2 dX1_passDayOut_41 ?_
    refine z_isub F dX1_passDayOut_44 ?_
    obtain ⟨g5, h⟩ := gd_of h
    refine z_iast F (kf_1_8 ko0) (inl (lf_1_8 ko0) g5) dX1_passDayOut_45 ?_
    refine z_let h (fun σ6 h => ?_)
    refine z_aload_n (q := 3) F dX1_passDayOut_46 rfl rfl ?_
    refine gf1_114 F ko2 dX1_passDayOut_47 ?_
    refine z_if_eq (tgt := 66) F dX1_passDayOut_50 rfl (fun c7 => ?_) (fun c7 => ?_)
    · have h := ite_T c7 h
      refine z_aload_n (q := 3) F dX1_passDayOut_66 rfl rfl ?_
      refine z_iconst (v := (-1)) F dX1_passDayOut_67 rfl ?_
      refine pf1_88 F ko2 dX1_passDayOut_68 ?_
      refine z_let h (fun σ8 h => ?_)
      exact z_vret F h dX1_passDayOut_71
    · have h := ite_F c7 h
      refine z_aload_n (q := 1) F dX1_passDayOut_53 rfl rfl ?_
      refine gf1_36 F ko0 dX1_passDayOut_54 ?_
      refine z_iload (q := 0) F dX1_passDayOut_57 rfl ?_
      refine z_iload_n (q := 2) F dX1_passDayOut_59 rfl rfl ?_
      refine z_iast F (kf_1_7 ko0) (inl (lf_1_7 ko0) g5) dX1_passDayOut_60 ?_
      refine z_let h (fun σ10 h => ?_)
      refine z_aload_n (q := 3) F dX1_passDayOut_61 rfl rfl ?_
      refine z_iconst (v := 0) F dX1_passDayOut_62 rfl ?_
      refine pf1_114 F ko2 (by first | exact Or.inl rfl | exact Or.inr rfl) dX1_passDayOut_63 ?_
      refine z_let h (fun σ11 h => ?_)
      refine z_aload_n (q := 3) F dX1_passDayOut_66 rfl rfl ?_
      refine z_iconst (v := (-1)) F dX1_passDayOut_67 rfl ?_
      refine pf1_88 F ko2 dX1_passDayOut_68 ?_
      refine z_let h (fun σ12 h => ?_)
      exact z_vret F h dX1_passDayOut_71
  · have h := ite_F c4 h
    exact z_vret F h dX1_passDayOut_24
theorem ct1_passDayOut {r : Unit} {o0 : Nat} {x1 : Int32} {o2 : Nat} {o3 : Nat} {σ : St} (ko0 : kd o0 = 1) (ko2 : kd o2 = 2) (ko3 : kd o3 = 4) (h : M1_passDayOut o0 x1 o2 o3 σ = some (r, σ')) : Met l yX1_passDayOut (wsY yX1_passDayOut cX1_passDayOut 5 none) (rmL 1) (PcW g a [.ref (a o0), .int x1, .ref (a o2), .ref (a o3)] σ) (QvW g a r σ') 0 0 (Ad a) :=
  ct_V (by decide) (Nat.le_of_ble_eq_true rfl) (fun p e s m args below meth c F => zM1_passDayOut F ko0 ko2 ko3 h)
theorem cl1_90 {r : Unit} {o0 : Nat} {x1 : Int32} {o2 : Nat} {o3 : Nat} (F : Fx p s m args meth c cc nL RX1 rt R cz sz g a) (ko0 : kd o0 = 1) (ko2 : kd o2 = 2) (ko3 : kd o3 = 4) (h : M1_passDayOut o0 x1 o2 o3 σ = some (r, σ1)) (hR : 1 + 1 ≤ R.frames ∧ 8 + (5 + 11) + 34 * 1 ≤ R.locals) (d : decode cc pc = .ok (.invokevirtual 90, 3)) (hrm : (rest.map fun v => v.category).sum ≤ 8) (z : Z p l e R s m args below meth c Q nL g a cz sz σ1 (pc + 3) lv (rest)) : Z p l e R s m args below meth c Q nL g a cz sz σ pc lv (.ref (a o3) :: .ref (a o2) :: .int x1 :: .ref (a o0) :: rest) :=
  z_callVV (nA := 3) (As := [.int x1, .ref (a o2), .ref (a o3)]) F (ct1_passDayOut ko0 ko2 ko3 h) ⟨(tbm 522 (by decide +kernel) rfl), (tbm 524 (by decide +kernel) rfl), (tbs 24 (by decide +kernel) rfl), (tbm 5 (by decide +kernel) rfl), (tbm 525 (by decide +kernel) rfl)⟩ (by decide +kernel) rfl ko0 (by decide) rfl rfl rfl hR d rfl hrm z
theorem zM1_patchAll_J77 {r : Unit} {o0 : Nat} {x1 : Int32} {o2 : Nat} {x3 : Int32} {σ : St} (F : Fx p s m args meth c cX1_patchAll 5 RX1 none (rmL 1) 0 0 g a) (ko0 : kd o0 = 1) (ko2 : kd o2 = 4) {kb : Int32 → St → Option (Unit × St)} (hb : ∀ (w3 : Int32) (σ : St), kb w3 σ = some (r, σ') → Z p l e (rmL 1) s m args below meth c (MQ below (QvW g a r σ') args s 0 0 (Ad a)) 5 g a 0 0 σ 2 [(0, .ref (a o0)), (1, .int x1), (2, .ref (a o2)), (3, .int w3)] []) (h : M1_patchAll_J77 kb o0 x1 o2 x3 σ = some (r, σ')) : Z p l e (rmL 1) s m args below meth c (MQ below (QvW g a r σ') args s 0 0 (Ad a)) 5 g a 0 0 σ 77 [(0, .ref (a o0)), (1, .int x1), (2, .ref (a o2)), (3, .int x3)] [] := by
  unfold M1_patchAll_J77 at h
  refine z_iinc (q := 3) (v := x3 + 1) (lv' := [(3, .int (x3 + 1)), (0, .ref (a o0)), (1, .int x1), (2, .ref (a o2))]) F dX1_patchAll_77 rfl rfl (by decide) rfl ?_
  refine z_letL (s0 := 3) (lv := [(0, .ref (a o0)), (1, .int x1), (2, .ref (a o2))]) h (fun v5 h => ?_)
  refine z_goto (tgt := 2) F dX1_patchAll_80 rfl ?_
  refine z_sub (lv' := [(0, .ref (a o0)), (1, .int x1), (2, .ref (a o2)), (3, .int v5)]) [1, 2, 3, 0] rfl ?_
  exact hb _ _ h
theorem zM1_patchAll_L2 {r : Unit} {o0 : Nat} {x1 : Int32} {o2 : Nat} (F : Fx p s m args meth c cX1_patchAll 5 RX1 none (rmL 1) 0 0 g a) (ko0 : kd o0 = 1) (ko2 : kd o2 = 4) {kx : St → Option (Unit × St)} (hx : ∀ (σ : St), kx σ = some (r, σ') → Z p l e (rmL 1) s m args below meth c (MQ below (QvW g a r σ') args s 0 0 (Ad a)) 5 g a 0 0 σ 83 [] []) : ∀ (n : Nat) (x3 : Int32) (σ : St), M1_patchAll_L2 o0 x1 o2 kx n x3 σ = some (r, σ') → Z p l e (rmL 1) s m args below meth c (MQ below (QvW g a r σ') args s 0 0 (Ad a)) 5 g a 0 0 σ 2 [(0, .ref (a o0)), (1, .int x1), (2, .ref (a o2)), (3, .int x3)] [] := by
  intro n
  induction n with
  | zero => intro x3 σ h; rw [M1_patchAll_L2] at h; cases h
  | succ n ih =>
    intro x3 σ h
    rw [M1_patchAll_L2] at h
    refine z_iload_n (q := 3) F dX1_patchAll_2 rfl rfl ?_
    refine z_aload_n (q := 2) F dX1_patchAll_3 rfl rfl ?_
    refine gf1_101 F ko2 dX1_patchAll_4 ?_
    refine z_icmp_ge (tgt := 83) F dX1_patchAll_7 rfl (fun c1 => ?_) (fun c1 => ?_)
    · have h := ite_T c1 h
      refine z_sub (lv' := []) [] rfl ?_
      exact hx _ h
    · have h := ite_F c1 h
      refine z_aload_n (q := 2) F dX1_patchAll_10 rfl rfl ?_
      refine z_iload_n (q := 3) F dX1_patchAll_11 rfl rfl ?_
      refine z_iconst (v := 1) F dX1_patchAll_12 rfl ?_
      obtain ⟨r2, σ2, hq2, h⟩ := bd_of h
      refine cl1_106 F ko2 hq2 ⟨Nat.le_of_ble_eq_true rfl, Nat.le_of_ble_eq_true rfl⟩ dX1_patchAll_13 (Nat.le_of_ble_eq_true rfl) ?_
      refine z_istore (lv' := [(4, .int r2), (0, .ref (a o0)), (1, .int x1), (2, .ref (a o2)), (3, .int x3)]) F dX1_patchAll_16 (by decide) rfl ?_
      refine z_aload_n (q := 3) F dX1_patchAll_18 rfl rfl ?_
      refine z_iload_n (q := 4) F dX1_patchAll_19 rfl rfl ?_
      refine z_iconst (v := 0) F dX1_patchAll_20 rfl ?_
      obtain ⟨r3, σ3, hq3, h⟩ := bd_of h
      refine cl1_106 F ko2 hq3 ⟨Nat.le_of_ble_eq_true rfl, Nat.le_of_ble_eq_true rfl⟩ dX1_patchAll_21 (Nat.le_of_ble_eq_true rfl) ?_
      refine z_iload_n (q := 2) F dX1_patchAll_24 rfl rfl ?_
      refine z_icmp_ne (tgt := 77) F dX1_patchAll_25 rfl (fun c4 => ?_) (fun c4 => ?_)
      · have h := ite_F c4 h
        refine z_sub (lv' := [(0, .ref (a o0)), (1, .int x1), (2, .ref (a o2)), (3, .int x3)]) [1, 2, 3, 4] rfl ?_
        exact zM1_patchAll_J77 F ko0 ko2 ih h
      · have h := ite_T c4 h
        refine z_iload (q := 0) F dX1_patchAll_28 rfl ?_
        refine z_aload_n (q := 1) F dX1_patchAll_30 rfl rfl ?_
        refine gf1_42 F ko0 dX1_patchAll_31 ?_
        refine z_icmp_ge (tgt := 77) F dX1_patchAll_34 rfl (fun c6 => ?_) (fun c6 => ?_)
        · have h := ite_T c6 h
          refine z_sub (lv' := [(0, .ref (a o0)), (1, .int x1), (2, .ref (a o2)), (3, .int x3)]) [1, 2, 3, 4] rfl ?_
          exact zM1_patchAll_J77 F ko0 ko2 ih h
        · have h := ite_F c6 h
          refine z_aload_n (q := 1) F dX1_patchAll_37 rfl rfl ?_
          refine gf1_11 F ko0 dX1_patchAll_38 ?_
          refine z_iload (q := 0) F dX1_patchAll_41 rfl ?_
          obtain ⟨g7, h⟩ := gd_of h
          refine z_aldH F (kf_1_0 ko0) (inb_in g7) dX1_patchAll_43 ?_
          refine gf1_88 F (kdH (kf_1_0 ko0) g7) dX1_patchAll_44 ?_
          refine z_iconst (v := (-1)) F dX1_patchAll_47 rfl ?_
          refine z_icmp_ne (tgt := 77) F dX1_patchAll_48 rfl (fun c8 => ?_) (fun c8 => ?_)
          · have h := ite_F c8 h
            refine z_sub (lv' := [(0, .ref (a o0)), (1, .int x1), (2, .ref (a o2)), (3, .int x3)]) [1, 2, 3, 4] rfl ?_
            exact zM1_patchAll_J77 F ko0 ko2 ih h
          · have h := ite_T c8 h
            refine z_aload_n (q := 1) F dX1_patchAll_51 rfl rfl ?_
            refine gf1_11 F ko0 dX1_patchAll_52 ?_
            refine z_iload (q := 0) F dX1_patchAll_55 rfl ?_
            refine z_aldH F (kf_1_0 ko0) (inb_in g7) dX1_patchAll_57 ?_
            refine z_iconst (v := 1) F dX1_patchAll_58 rfl ?_
            refine z_aload_n (q := 1) F dX1_patchAll_59 rfl rfl ?_
            refine gf1_11 F ko0 dX1_patchAll_60 ?_
            refine z_iload (q := 0) F dX1_patchAll_63 rfl ?_
            refine z_aldH F (kf_1_0 ko0) (inb_in g7) dX1_patchAll_65 ?_
            refine gf1_118 F (kdH (kf_1_0 ko0) g7) dX1_patchAll_66 ?_
            refine z_iconst (v := 1) F dX1_patchAll_69 rfl ?_
            refine z_isub F dX1_patchAll_70 ?_
            refine z_mmax F (tbm 517 (by decide +kernel) rfl) (tbm 325 (by decide +kernel) rfl) (tbm 12 (by decide +kernel) rfl) (tbm 326 (by decide +kernel) rfl) (Nat.le_of_ble_eq_true rfl) (Nat.le_of_ble_eq_true rfl) dX1_patchAll_71 ?_
            refine pf1_118 F (kdH (kf_1_0 ko0) g7) dX1_patchAll_74 ?_
            refine z_let h (fun σ11 h => ?_)
            refine z_sub (lv' := [(0, .ref (a o0)), (1, .int x1), (2, .ref (a o2)), (3, .int x3)]) [1, 2, 3, 4] rfl ?_
            exact zM1_patchAll_J77 F ko0 ko2 ih h
theorem zM1_patchAll {r : Unit} {o0 : Nat} {x1 : Int32} {o2 : Nat} {σ : St} (F : Fx p s m args meth c cX1_patchAll 5 RX1 none (rmL 1) 0 0 g a) (ko0 : kd o0 = 1) (ko2 : kd o2 = 4) (h : M1_patchAll o0 x1 o2 σ = some (r, σ')) : Z p l e (rmL 1) s m args below meth c (MQ below (QvW g a r σ') args s 0 0 (Ad a)) 5 g a 0 0 σ 0 [(0, .ref (a o0)), (1, .int x1), (2, .ref (a o2))] [] := by
  unfold M1_patchAll at h
  refine z_iconst (v := 0) F dX1_patchAll_0 rfl ?_
  refine z_istore_n (lv' := [(3, .int 0), (0, .ref (a o0)), (1, .int x1), (2, .ref (a o2))]) F dX1_patchAll_1 rfl (by decide) rfl ?_
  refine z_sub (lv' := [(0, .ref (a o0)), (1, .int x1), (2, .ref (a o2)), (3, .int 0)]) [1, 2, 3, 0] rfl ?_
  refine zM1_patchAll_L2 F ko0 ko2 ?_ _ _ _ h
  intro σ12 h
  exact z_vret F h dX1_patchAll_83
theorem ct1_patchAll {r : Unit} {o0 : Nat} {x1 : Int32} {o2 : Nat} {σ : St} (ko0 : kd o0 = 1) (ko2 : kd o2 = 4) (h : M1_patchAll o0 x1 o2 σ = some (r, σ')) : Met l yX1_patchAll (wsY yX1_patchAll cX1_patchAll 5 none) (rmL 1) (PcW g a [.ref (a o0), .int x1, .ref (a o2)] σ) (QvW g a r σ') 0 0 (Ad a) :=
  ct_V (by decide) (Nat.le_of_ble_eq_true rfl) (fun p e s m args below meth c F => zM1_patchAll F ko0 ko2 h)
theorem cl1_81 {r : Unit} {o0 : Nat} {x1 : Int32} {o2 : Nat} (F : Fx p s m args meth c cc nL RX1 rt R cz sz g a) (ko0 : kd o0 = 1) (ko2 : kd o2 = 4) (h : M1_patchAll o0 x1 o2 σ = some (r, σ1)) (hR : 1 + 1 ≤ R.frames ∧ 8 + (5 + 11) + 34 * 1 ≤ R.locals) (d : decode cc pc = .ok (.invokevirtual 81, 3)) (hrm : (rest.map fun v => v.category).sum ≤ 8) (z : Z p l e R s m args below meth c Q nL g a cz sz σ1 (pc + 3) lv (rest)) : Z p l e R s m args below meth c Q nL g a cz sz σ pc lv (.ref (a o2) :: .int x1 :: .ref (a o0) :: rest) :=
  z_callVV (nA := 2) (As := [.int x1, .ref (a o2)]) F (ct1_patchAll ko0 ko2 h) ⟨(tbm 513 (by decide +kernel) rfl), (tbm 515 (by decide +kernel) rfl), (tbs 22 (by decide +kernel) rfl), (tbm 5 (by decide +kernel) rfl), (tbm 516 (by decide +kernel) rfl)⟩ (by decide +kernel) rfl ko0 (by decide) rfl rfl rfl hR d rfl hrm z
theorem zM6_figure {r : Int32} {o0 : Nat} {x1 : Int32} {x2 : Int32} {σ : St} (F : Fx p s m args meth c cX6_figure 3 RX6 (some .int) (rmL 0) 0 0 g a) (ko0 : kd o0 = 6) (h : M6_figure o0 x1 x2 σ = some (r, σ')) : Z p l e (rmL 0) s m args below meth c (MQ below (QiW g a r σ') args s 0 0 (Ad a)) 3 g a 0 0 σ 0 [(0, .ref (a o0)), (1, .int x1), (2, .int x2)] [] := by
  unfold M6_figure at h
  refine z_aload_n (q := 0) F dX6_figure_0 rfl rfl ?_
  refine gf6_15 F ko0 dX6_figure_1 ?_
  refine z_iload_n (q := 1) F dX6_figure_4 rfl rfl ?_
  refine z_iconst (v := 4) F dX6_figure_5 rfl ?_
  refine z_imul F dX6_figure_6 ?_
  refine z_iload_n (q := 2) F dX6_figure_7 rfl rfl ?_
  refine z_iadd F dX6_figure_8 ?_
  obtain ⟨g1, h⟩ := gd_of h
  refine z_iald F (kf_6_4 ko0) (inl (lf_6_4 ko0) g1) dX6_figure_9 ?_
  exact z_iret F h dX6_figure_10
theorem ct6_figure {r : Int32} {o0 : Nat} {x1 : Int32} {x2 : Int32} {σ : St} (ko0 : kd o0 = 6) (h : M6_figure o0 x1 x2 σ = some (r, σ')) : Met l yX6_figure (wsY yX6_figure cX6_figure 3 (some .int)) (rmL 0) (PcW g a [.ref (a o0), .int x1, .int x2] σ) (QiW g a r σ') 0 0 (Ad a) :=
  ct_I (by decide) (Nat.le_of_ble_eq_true rfl) (fun p e s m args below meth c F => zM6_figure F ko0 h)
theorem cl2_9 {r : Int32} {o0 : Nat} {x1 : Int32} {x2 : Int32} (F : Fx p s m args meth c cc nL RX2 rt R cz sz g a) (ko0 : kd o0 = 6) (h : M6_figure o0 x1 x2 σ = some (r, σ1)) (hR : 0 + 1 ≤ R.frames ∧ 8 + (3 + 11) + 34 * 0 ≤ R.locals) (d : decode cc pc = .ok (.invokevirtual 9, 3)) (hrm : (rest.map fun v => v.category).sum ≤ 8) (z : Z p l e R s m args below meth c Q nL g a cz sz σ1 (pc + 3) lv (.int r :: rest)) : Z p l e R s m args below meth c Q nL g a cz sz σ pc lv (.int x2 :: .int x1 :: .ref (a o0) :: rest) :=
  z_callVNI (host := "HoleBank") (nA := 2) (As := [.int x1, .int x2]) F (ct6_figure ko0 h) ⟨(nlm 493 (by decide +kernel) rfl), (tbm 411 (by decide +kernel) rfl), (tbs 7 (by decide +kernel) rfl), (tbm 2 (by decide +kernel) rfl), (tbm 412 (by decide +kernel) rfl)⟩ (by decide +kernel) rfl ko0 (by decide) rfl rfl rfl hR d rfl hrm z
theorem cl7_108 {r : Int32} {o0 : Nat} {x1 : Int32} {x2 : Int32} (F : Fx p s m args meth c cc nL RX7 rt R cz sz g a) (ko0 : kd o0 = 6) (h : M6_figure o0 x1 x2 σ = some (r, σ1)) (hR : 0 + 1 ≤ R.frames ∧ 8 + (3 + 11) + 34 * 0 ≤ R.locals) (d : decode cc pc = .ok (.invokevirtual 108, 3)) (hrm : (rest.map fun v => v.category).sum ≤ 8) (z : Z p l e R s m args below meth c Q nL g a cz sz σ1 (pc + 3) lv (.int r :: rest)) : Z p l e R s m args below meth c Q nL g a cz sz σ pc lv (.int x2 :: .int x1 :: .ref (a o0) :: rest) :=
  z_callVNI (host := "HoleBank") (nA := 2) (As := [.int x1, .int x2]) F (ct6_figure ko0 h) ⟨(nlm 409 (by decide +kernel) rfl), (tbm 411 (by decide +kernel) rfl), (tbs 7 (by decide +kernel) rfl), (tbm 2 (by decide +kernel) rfl), (tbm 412 (by decide +kernel) rfl)⟩ (by decide +kernel) rfl ko0 (by decide) rfl rfl rfl hR d rfl hrm z
theorem zM2_begin {r : Unit} {o0 : Nat} {o1 : Nat} {x2 : Int32} {σ : St} (F : Fx p s m args meth c cX2_begin 3 RX2 none (rmL 1) 0 0 g a) (ko0 : kd o0 = 2) (ko1 : kd o1 = 6) (h : M2_begin o0 o1 x2 σ = some (r, σ')) : Z p l e (rmL 1) s m args below meth c (MQ below (QvW g a r σ') args s 0 0 (Ad a)) 3 g a 0 0 σ 0 [(0, .ref (a o0)), (1, .ref (a o1)), (2, .int x2)] [] := by
  unfold M2_begin at h
  refine z_aload_n (q := 0) F dX2_begin_0 rfl rfl ?_
  refine z_aload_n (q := 1) F dX2_begin_1 rfl rfl ?_
  refine z_iload_n (q := 2) F dX2_begin_2 rfl rfl ?_
  refine z_iconst (v := 0) F dX2_begin_3 rfl ?_
  obtain ⟨r1, σ1, hq1, h⟩ := bd_of h
  refine cl2_9 F ko1 hq1 ⟨Nat.le_of_ble_eq_true rfl, Nat.le_of_ble_eq_true rfl⟩ dX2_begin_4 (Nat.le_of_ble_eq_true rfl) ?_
  refine pf2_15 F ko0 dX2_begin_7 ?_
  refine z_let h (fun σ2 h => ?_)
  refine z_aload_n (q := 0) F dX2_begin_10 rfl rfl ?_
  refine z_aload_n (q := 1) F dX2_begin_11 rfl rfl ?_
  refine z_iload_n (q := 2) F dX2_begin_12 rfl rfl ?_
  refine z_iconst (v := 1) F dX2_begin_13 rfl ?_
  obtain ⟨r3, σ3, hq3, h⟩ := bd_of h
  refine cl2_9 F ko1 hq3 ⟨Nat.le_of_ble_eq_true rfl, Nat.le_of_ble_eq_true rfl⟩ dX2_begin_14 (Nat.le_of_ble_eq_true rfl) ?_
  refine pf2_21 F ko0 dX2_begin_17 ?_
  refine z_let h (fun σ4 h => ?_)
  refine z_aload_n (q := 0) F dX2_begin_20 rfl rfl ?_
  refine z_aload_n (q := 1) F dX2_begin_21 rfl rfl ?_
  refine z_iload_n (q := 2) F dX2_begin_22 rfl rfl ?_
  refine z_iconst (v := 2) F dX2_begin_23 rfl ?_
  obtain ⟨r5, σ5, hq5, h⟩ := bd_of h
  refine cl2_9 F ko1 hq5 ⟨Nat.le_of_ble_eq_true rfl, Nat.le_of_ble_eq_true rfl⟩ dX2_begin_24 (Nat.le_of_ble_eq_true rfl) ?_
  refine pf2_24 F ko0 dX2_begin_27 ?_
  refine z_let h (fun σ6 h => ?_)
  refine z_aload_n (q := 0) F dX2_begin_30 rfl rfl ?_
  refine z_aload_n (q := 1) F dX2_begin_31 rfl rfl ?_
  refine z_iload_n (q := 2) F dX2_begin_32 rfl rfl ?_
  refine z_iconst (v := 3) F dX2_begin_33 rfl ?_
  obtain ⟨r7, σ7, hq7, h⟩ := bd_of h
  refine cl2_9 F ko1 hq7 ⟨Nat.le_of_ble_eq_true rfl, Nat.le_of_ble_eq_true rfl⟩ dX2_begin_34 (Nat.le_of_ble_eq_true rfl) ?_
  refine pf2_27 F ko0 dX2_begin_37 ?_
  refine z_let h (fun σ8 h => ?_)
  refine z_aload_n (q := 0) F dX2_begin_40 rfl rfl ?_
  refine z_iconst (v := (-1)) F dX2_begin_41 rfl ?_
  refine pf2_30 F ko0 dX2_begin_42 ?_
  refine z_let h (fun σ9 h => ?_)
  refine z_aload_n (q := 0) F dX2_begin_45 rfl rfl ?_
  refine z_iconst (v := 0) F dX2_begin_46 rfl ?_
  refine pf2_33 F ko0 dX2_begin_47 ?_
  refine z_let h (fun σ10 h => ?_)
  refine z_aload_n (q := 0) F dX2_begin_50 rfl rfl ?_
  refine z_iconst (v := 0) F dX2_begin_51 rfl ?_
  refine pf2_36 F ko0 dX2_begin_52 ?_
  refine z_let h (fun σ11 h => ?_)
  refine z_aload_n (q := 0) F dX2_begin_55 rfl rfl ?_
  refine z_iconst (v := 0) F dX2_begin_56 rfl ?_
  refine pf2_39 F ko0 (by first | exact Or.inl rfl | exact Or.inr rfl) dX2_begin_57 ?_
  refine z_let h (fun σ12 h => ?_)
  exact z_vret F h dX2_begin_60
theorem ct2_begin {r : Unit} {o0 : Nat} {o1 : Nat} {x2 : Int32} {σ : St} (ko0 : kd o0 = 2) (ko1 : kd o1 = 6) (h : M2_begin o0 o1 x2 σ = some (r, σ')) : Met l yX2_begin (wsY yX2_begin cX2_begin 3 none) (rmL 1) (PcW g a [.ref (a o0), .ref (a o1), .int x2] σ) (QvW g a r σ') 0 0 (Ad a) :=
  ct_V (by decide) (Nat.le_of_ble_eq_true rfl) (fun p e s m args below meth c F => zM2_begin F ko0 ko1 h)
theorem cl1_52 {r : Unit} {o0 : Nat} {o1 : Nat} {x2 : Int32} (F : Fx p s m args meth c cc nL RX1 rt R cz sz g a) (ko0 : kd o0 = 2) (ko1 : kd o1 = 6) (h : M2_begin o0 o1 x2 σ = some (r, σ1)) (hR : 1 + 1 ≤ R.frames ∧ 8 + (3 + 11) + 34 * 1 ≤ R.locals) (d : decode cc pc = .ok (.invokevirtual 52, 3)) (hrm : (rest.map fun v => v.category).sum ≤ 8) (z : Z p l e R s m args below meth c Q nL g a cz sz σ1 (pc + 3) lv (rest)) : Z p l e R s m args below meth c Q nL g a cz sz σ pc lv (.int x2 :: .ref (a o1) :: .ref (a o0) :: rest) :=
  z_callVNV (host := "HoleBank") (nA := 2) (As := [.ref (a o1), .int x2]) F (ct2_begin ko0 ko1 h) ⟨(nlm 489 (by decide +kernel) rfl), (tbm 491 (by decide +kernel) rfl), (tbs 17 (by decide +kernel) rfl), (tbm 6 (by decide +kernel) rfl), (tbm 492 (by decide +kernel) rfl)⟩ (by decide +kernel) rfl ko0 (by decide) rfl rfl rfl hR d rfl hrm z
theorem zM1_follow_J163 {r : Unit} {o0 : Nat} {o2 : Nat} {x3 : Int32} {x4 : Int32} {x5 : Int32} {σ : St} (F : Fx p s m args meth c cX1_follow 6 RX1 none (rmL 2) 0 0 g a) (ko0 : kd o0 = 1) (ko2 : kd o2 = 0) {kb : Int32 → St → Option (Unit × St)} (hb : ∀ (w5 : Int32) (σ : St), kb w5 σ = some (r, σ') → Z p l e (rmL 2) s m args below meth c (MQ below (QvW g a r σ') args s 0 0 (Ad a)) 6 g a 0 0 σ 123 [(0, .ref (a o0)), (2, .ref (a o2)), (3, .int x3), (4, .int x4), (5, .int w5)] []) (h : M1_follow_J163 kb o0 o2 x3 x4 x5 σ = some (r, σ')) : Z p l e (rmL 2) s m args below meth c (MQ below (QvW g a r σ') args s 0 0 (Ad a)) 6 g a 0 0 σ 163 [(0, .ref (a o0)), (2, .ref (a o2)), (3, .int x3), (4, .int x4), (5, .int x5)] [] := by
  unfold M1_follow_J163 at h
  refine z_aload_n (q := 0) F dX1_follow_163 rfl rfl ?_
  refine z_iload (q := 3) F dX1_follow_164 rfl ?_
  refine z_iload (q := 4) F dX1_follow_166 rfl ?_
  obtain ⟨r21, σ21, hq21, h⟩ := bd_of h
  refine cl1_94 F ko0 hq21 ⟨Nat.le_of_ble_eq_true rfl, Nat.le_of_ble_eq_true rfl⟩ dX1_follow_168 (Nat.le_of_ble_eq_true rfl) ?_
  refine z_iinc (q := 4) (v := x5 + 1) (lv' := [(5, .int (x5 + 1)), (0, .ref (a o0)), (2, .ref (a o2)), (3, .int x3), (4, .int x4)]) F dX1_follow_171 rfl rfl (by decide) rfl ?_
  refine z_letL (s0 := 5) (lv := [(0, .ref (a o0)), (2, .ref (a o2)), (3, .int x3), (4, .int x4)]) h (fun v22 h => ?_)
  refine z_goto (tgt := 123) F dX1_follow_174 rfl ?_
  refine z_sub (lv' := [(0, .ref (a o0)), (2, .ref (a o2)), (3, .int x3), (4, .int x4), (5, .int v22)]) [1, 2, 3, 4, 0] rfl ?_
  exact hb _ _ h
theorem zM1_follow_L123 {r : Unit} {o0 : Nat} {o2 : Nat} {x3 : Int32} {x4 : Int32} (F : Fx p s m args meth c cX1_follow 6 RX1 none (rmL 2) 0 0 g a) (ko0 : kd o0 = 1) (ko2 : kd o2 = 0) {kx : St → Option (Unit × St)} (hx : ∀ (σ : St), kx σ = some (r, σ') → Z p l e (rmL 2) s m args below meth c (MQ below (QvW g a r σ') args s 0 0 (Ad a)) 6 g a 0 0 σ 177 [(0, .ref (a o0)), (2, .ref (a o2)), (3, .int x3), (4, .int x4)] []) : ∀ (n : Nat) (x5 : Int32) (σ : St), M1_follow_L123 o0 o2 x3 x4 kx n x5 σ = some (r, σ') → Z p l e (rmL 2) s m args below meth c (MQ below (QvW g a r σ') args s 0 0 (Ad a)) 6 g a 0 0 σ 123 [(0, .ref (a o0)), (2, .ref (a o2)), (3, .int x3), (4, .int x4), (5, .int x5)] [] := by
  intro n
  induction n with
  | zero => intro x5 σ h; rw [M1_follow_L123] at h; cases h
  | succ n ih =>
    intro x5 σ h
    rw [M1_follow_L123] at h
    refine z_iload (q := 4) F dX1_follow_123 rfl ?_
    refine z_aload_n (q := 0) F dX1_follow_125 rfl rfl ?_
    refine gf1_42 F ko0 dX1_follow_126 ?_
    refine z_icmp_ge (tgt := 177) F dX1_follow_129 rfl (fun c18 => ?_) (fun c18 => ?_)
    · have h := ite_T c18 h
      refine z_sub (lv' := [(0, .ref (a o0)), (2, .ref (a o2)), (3, .int x3), (4, .int x4)]) [0, 1, 2, 3] rfl ?_
      exact hx _ h
    · have h := ite_F c18 h
      refine z_aload_n (q := 0) F dX1_follow_132 rfl rfl ?_
      refine gf1_11 F ko0 dX1_follow_133 ?_
      refine z_iload (q := 4) F dX1_follow_136 rfl ?_
      obtain ⟨g19, h⟩ := gd_of h
      refine z_aldH F (kf_1_0 ko0) (inb_in g19) dX1_follow_138 ?_
      refine gf1_88 F (kdH (kf_1_0 ko0) g19) dX1_follow_139 ?_
      refine z_iconst (v := (-1)) F dX1_follow_142 rfl ?_
      refine z_icmp_eq (tgt := 163) F dX1_follow_143 rfl (fun c20 => ?_) (fun c20 => ?_)
      · have h := ite_T c20 h
        refine z_sub (lv' := [(0, .ref (a o0)), (2, .ref (a o2)), (3, .int x3), (4, .int x4), (5, .int x5)]) [0, 1, 2, 3, 4] rfl ?_
        exact zM1_follow_J163 F ko0 ko2 ih h
      · have h := ite_F c20 h
        refine z_aload_n (q := 0) F dX1_follow_146 rfl rfl ?_
        refine z_iload (q := 3) F dX1_follow_147 rfl ?_
        refine z_aload_n (q := 0) F dX1_follow_149 rfl rfl ?_
        refine gf1_11 F ko0 dX1_follow_150 ?_
        refine z_iload (q := 4) F dX1_follow_153 rfl ?_
        refine z_aldH F (kf_1_0 ko0) (inb_in g19) dX1_follow_155 ?_
        refine z_aload_n (q := 1) F dX1_follow_156 rfl rfl ?_
        refine gf1_62 F ko2 dX1_follow_157 ?_
        obtain ⟨r24, σ24, hq24, h⟩ := bd_of h
        refine cl1_90 F ko0 (kdH (kf_1_0 ko0) g19) (kf_0_0 ko2) hq24 ⟨Nat.le_of_ble_eq_true rfl, Nat.le_of_ble_eq_true rfl⟩ dX1_follow_160 (Nat.le_of_ble_eq_true rfl) ?_
        refine z_sub (lv' := [(0, .ref (a o0)), (2, .ref (a o2)), (3, .int x3), (4, .int x4), (5, .int x5)]) [0, 1, 2, 3, 4] rfl ?_
        exact zM1_follow_J163 F ko0 ko2 ih h
theorem zM1_follow_L66 {r : Unit} {o0 : Nat} {o2 : Nat} {x3 : Int32} (F : Fx p s m args meth c cX1_follow 6 RX1 none (rmL 2) 0 0 g a) (ko0 : kd o0 = 1) (ko2 : kd o2 = 0) {kx : St → Option (Unit × St)} (hx : ∀ (σ : St), kx σ = some (r, σ') → Z p l e (rmL 2) s m args below meth c (MQ below (QvW g a r σ') args s 0 0 (Ad a)) 6 g a 0 0 σ 194 [] []) : ∀ (n : Nat) (x4 : Int32) (σ : St), M1_follow_L66 o0 o2 x3 kx n x4 σ = some (r, σ') → Z p l e (rmL 2) s m args below meth c (MQ below (QvW g a r σ') args s 0 0 (Ad a)) 6 g a 0 0 σ 66 [(0, .ref (a o0)), (2, .ref (a o2)), (3, .int x3), (4, .int x4)] [] := by
  intro n
  induction n with
  | zero => intro x4 σ h; rw [M1_follow_L66] at h; cases h
  | succ n ih =>
    intro x4 σ h
    rw [M1_follow_L66] at h
    refine z_iload (q := 3) F dX1_follow_66 rfl ?_
    refine z_iload_n (q := 2) F dX1_follow_68 rfl rfl ?_
    refine z_icmp_gt (tgt := 194) F dX1_follow_69 rfl (fun c10 => ?_) (fun c10 => ?_)
    · have h := ite_T c10 h
      refine z_sub (lv' := []) [] rfl ?_
      exact hx _ h
    · have h := ite_F c10 h
      refine z_iload (q := 3) F dX1_follow_72 rfl ?_
      refine z_bipush (v := 40) F dX1_follow_74 rfl ?_
      refine z_icmp_ge (tgt := 194) F dX1_follow_76 rfl (fun c11 => ?_) (fun c11 => ?_)
      · have h := ite_T c11 h
        refine z_sub (lv' := []) [] rfl ?_
        exact hx _ h
      · have h := ite_F c11 h
        refine z_aload_n (q := 0) F dX1_follow_79 rfl rfl ?_
        refine z_iload (q := 3) F dX1_follow_80 rfl ?_
        refine z_aload_n (q := 1) F dX1_follow_82 rfl rfl ?_
        refine gf1_62 F ko2 dX1_follow_83 ?_
        obtain ⟨r12, σ12, hq12, h⟩ := bd_of h
        refine cl1_68 F ko0 (kf_0_0 ko2) hq12 ⟨Nat.le_of_ble_eq_true rfl, Nat.le_of_ble_eq_true rfl⟩ dX1_follow_86 (Nat.le_of_ble_eq_true rfl) ?_
        refine z_aload_n (q := 0) F dX1_follow_89 rfl rfl ?_
        refine z_iload (q := 3) F dX1_follow_90 rfl ?_
        refine z_aload_n (q := 1) F dX1_follow_92 rfl rfl ?_
        refine gf1_72 F ko2 dX1_follow_93 ?_
        obtain ⟨r13, σ13, hq13, h⟩ := bd_of h
        refine cl1_75 F ko0 (kf_0_1 ko2) hq13 ⟨Nat.le_of_ble_eq_true rfl, Nat.le_of_ble_eq_true rfl⟩ dX1_follow_96 (Nat.le_of_ble_eq_true rfl) ?_
        refine z_aload_n (q := 0) F dX1_follow_99 rfl rfl ?_
        refine z_iload (q := 3) F dX1_follow_100 rfl ?_
        refine z_aload_n (q := 1) F dX1_follow_102 rfl rfl ?_
        refine gf1_78 F ko2 dX1_follow_103 ?_
        obtain ⟨r14, σ14, hq14, h⟩ := bd_of h
        refine cl1_81 F ko0 (kf_0_2 ko2) hq14 ⟨Nat.le_of_ble_eq_true rfl, Nat.le_of_ble_eq_true rfl⟩ dX1_follow_106 (Nat.le_of_ble_eq_true rfl) ?_
        refine z_aload_n (q := 0) F dX1_follow_109 rfl rfl ?_
        refine gf1_27 F ko0 dX1_follow_110 ?_
        refine z_iload (q := 3) F dX1_follow_113 rfl ?_
        refine z_aload_n (q := 0) F dX1_follow_115 rfl rfl ?_
        obtain ⟨r15, σ15, hq15, h⟩ := bd_of h
        refine cl1_84 F ko0 hq15 ⟨Nat.le_of_ble_eq_true rfl, Nat.le_of_ble_eq_true rfl⟩ dX1_follow_116 (Nat.le_of_ble_eq_true rfl) ?_
        obtain ⟨g16, h⟩ := gd_of h
        refine z_iast F (kf_1_4 ko0) (inl (lf_1_4 ko0) g16) dX1_follow_119 ?_
        refine z_let h (fun σ17 h => ?_)
        refine z_iconst (v := 0) F dX1_follow_120 rfl ?_
        refine z_istore (lv' := [(5, .int 0), (0, .ref (a o0)), (2, .ref (a o2)), (3, .int x3), (4, .int x4)]) F dX1_follow_121 (by decide) rfl ?_
        refine z_sub (lv' := [(0, .ref (a o0)), (2, .ref (a o2)), (3, .int x3), (4, .int x4), (5, .int 0)]) [1, 2, 3, 4, 0] rfl ?_
        refine zM1_follow_L123 F ko0 ko2 ?_ _ _ _ h
        intro σ25 h
        refine z_aload_n (q := 0) F dX1_follow_177 rfl rfl ?_
        refine gf1_30 F ko0 dX1_follow_178 ?_
        refine z_iload (q := 3) F dX1_follow_181 rfl ?_
        refine z_aload_n (q := 0) F dX1_follow_183 rfl rfl ?_
        obtain ⟨r26, σ26, hq26, h⟩ := bd_of h
        refine cl1_98 F ko0 hq26 ⟨Nat.le_of_ble_eq_true rfl, Nat.le_of_ble_eq_true rfl⟩ dX1_follow_184 (Nat.le_of_ble_eq_true rfl) ?_
        refine z_iast F (kf_1_5 ko0) (inl (lf_1_5 ko0) g16) dX1_follow_187 ?_
        refine z_let h (fun σ28 h => ?_)
        refine z_iinc (q := 3) (v := x4 + 1) (lv' := [(4, .int (x4 + 1)), (0, .ref (a o0)), (2, .ref (a o2)), (3, .int x3)]) F dX1_follow_188 rfl rfl (by decide) rfl ?_
        refine z_letL (s0 := 4) (lv := [(0, .ref (a o0)), (2, .ref (a o2)), (3, .int x3)]) h (fun v29 h => ?_)
        refine z_goto (tgt := 66) F dX1_follow_191 rfl ?_
        refine z_sub (lv' := [(0, .ref (a o0)), (2, .ref (a o2)), (3, .int x3), (4, .int v29)]) [1, 2, 3, 0] rfl ?_
        exact ih _ _ h
theorem zM1_follow_L11 {r : Unit} {o0 : Nat} {o1 : Nat} {o2 : Nat} {x3 : Int32} (F : Fx p s m args meth c cX1_follow 6 RX1 none (rmL 2) 0 0 g a) (ko0 : kd o0 = 1) (ko1 : kd o1 = 6) (ko2 : kd o2 = 0) {kx : St → Option (Unit × St)} (hx : ∀ (σ : St), kx σ = some (r, σ') → Z p l e (rmL 2) s m args below meth c (MQ below (QvW g a r σ') args s 0 0 (Ad a)) 6 g a 0 0 σ 39 [(0, .ref (a o0)), (2, .ref (a o2)), (3, .int x3)] []) : ∀ (n : Nat) (x4 : Int32) (σ : St), M1_follow_L11 o0 o1 o2 x3 kx n x4 σ = some (r, σ') → Z p l e (rmL 2) s m args below meth c (MQ below (QvW g a r σ') args s 0 0 (Ad a)) 6 g a 0 0 σ 11 [(0, .ref (a o0)), (1, .ref (a o1)), (2, .ref (a o2)), (3, .int x3), (4, .int x4)] [] := by
  intro n
  induction n with
  | zero => intro x4 σ h; rw [M1_follow_L11] at h; cases h
  | succ n ih =>
    intro x4 σ h
    rw [M1_follow_L11] at h
    refine z_iload (q := 4) F dX1_follow_11 rfl ?_
    refine z_aload_n (q := 0) F dX1_follow_13 rfl rfl ?_
    refine gf1_42 F ko0 dX1_follow_14 ?_
    refine z_icmp_ge (tgt := 39) F dX1_follow_17 rfl (fun c2 => ?_) (fun c2 => ?_)
    · have h := ite_T c2 h
      refine z_sub (lv' := [(0, .ref (a o0)), (2, .ref (a o2)), (3, .int x3)]) [0, 2, 3] rfl ?_
      exact hx _ h
    · have h := ite_F c2 h
      refine z_aload_n (q := 0) F dX1_follow_20 rfl rfl ?_
      refine gf1_11 F ko0 dX1_follow_21 ?_
      refine z_iload (q := 4) F dX1_follow_24 rfl ?_
      obtain ⟨g3, h⟩ := gd_of h
      refine z_aldH F (kf_1_0 ko0) (inb_in g3) dX1_follow_26 ?_
      refine z_aload_n (q := 1) F dX1_follow_27 rfl rfl ?_
      refine z_iload (q := 4) F dX1_follow_28 rfl ?_
      obtain ⟨r4, σ4, hq4, h⟩ := bd_of h
      refine cl1_52 F (kdH (kf_1_0 ko0) g3) ko1 hq4 ⟨Nat.le_of_ble_eq_true rfl, Nat.le_of_ble_eq_true rfl⟩ dX1_follow_30 (Nat.le_of_ble_eq_true rfl) ?_
      refine z_iinc (q := 4) (v := x4 + 1) (lv' := [(4, .int (x4 + 1)), (0, .ref (a o0)), (1, .ref (a o1)), (2, .ref (a o2)), (3, .int x3)]) F dX1_follow_33 rfl rfl (by decide) rfl ?_
      refine z_letL (s0 := 4) (lv := [(0, .ref (a o0)), (1, .ref (a o1)), (2, .ref (a o2)), (3, .int x3)]) h (fun v5 h => ?_)
      refine z_goto (tgt := 11) F dX1_follow_36 rfl ?_
      refine z_sub (lv' := [(0, .ref (a o0)), (1, .ref (a o1)), (2, .ref (a o2)), (3, .int x3), (4, .int v5)]) [1, 2, 3, 4, 0] rfl ?_
      exact ih _ _ h
theorem zM1_follow {r : Unit} {o0 : Nat} {o1 : Nat} {o2 : Nat} {x3 : Int32} {σ : St} (F : Fx p s m args meth c cX1_follow 6 RX1 none (rmL 2) 0 0 g a) (ko0 : kd o0 = 1) (ko1 : kd o1 = 6) (ko2 : kd o2 = 0) (h : M1_follow o0 o1 o2 x3 σ = some (r, σ')) : Z p l e (rmL 2) s m args below meth c (MQ below (QvW g a r σ') args s 0 0 (Ad a)) 6 g a 0 0 σ 0 [(0, .ref (a o0)), (1, .ref (a o1)), (2, .ref (a o2)), (3, .int x3)] [] := by
  unfold M1_follow at h
  refine z_aload_n (q := 0) F dX1_follow_0 rfl rfl ?_
  refine z_aload_n (q := 1) F dX1_follow_1 rfl rfl ?_
  refine gf1_47 F ko1 dX1_follow_2 ?_
  refine pf1_42 F ko0 dX1_follow_5 ?_
  refine z_let h (fun σ1 h => ?_)
  refine z_iconst (v := 0) F dX1_follow_8 rfl ?_
  refine z_istore (lv' := [(4, .int 0), (0, .ref (a o0)), (1, .ref (a o1)), (2, .ref (a o2)), (3, .int x3)]) F dX1_follow_9 (by decide) rfl ?_
  refine z_sub (lv' := [(0, .ref (a o0)), (1, .ref (a o1)), (2, .ref (a o2)), (3, .int x3), (4, .int 0)]) [1, 2, 3, 4, 0] rfl ?_
  refine zM1_follow_L11 F ko0 ko1 ko2 ?_ _ _ _ h
  intro σ6 h
  refine z_aload_n (q := 0) F dX1_follow_39 rfl rfl ?_
  refine gf1_33 F ko0 dX1_follow_40 ?_
  refine z_iconst (v := 0) F dX1_follow_43 rfl ?_
  obtain ⟨r7, σ7, hq7, h⟩ := bd_of h
  refine cl1_56 F (kf_1_6 ko0) hq7 ⟨Nat.le_of_ble_eq_true rfl, Nat.le_of_ble_eq_true rfl⟩ dX1_follow_44 (Nat.le_of_ble_eq_true rfl) ?_
  refine z_aload_n (q := 0) F dX1_follow_47 rfl rfl ?_
  refine gf1_36 F ko0 dX1_follow_48 ?_
  refine z_iconst (v := (-1)) F dX1_follow_51 rfl ?_
  obtain ⟨r8, σ8, hq8, h⟩ := bd_of h
  refine cl1_56 F (kf_1_7 ko0) hq8 ⟨Nat.le_of_ble_eq_true rfl, Nat.le_of_ble_eq_true rfl⟩ dX1_follow_52 (Nat.le_of_ble_eq_true rfl) ?_
  refine z_aload_n (q := 0) F dX1_follow_55 rfl rfl ?_
  refine gf1_39 F ko0 dX1_follow_56 ?_
  refine z_iconst (v := 0) F dX1_follow_59 rfl ?_
  obtain ⟨r9, σ9, hq9, h⟩ := bd_of h
  refine cl1_56 F (kf_1_8 ko0) hq9 ⟨Nat.le_of_ble_eq_true rfl, Nat.le_of_ble_eq_true rfl⟩ dX1_follow_60 (Nat.le_of_ble_eq_true rfl) ?_
  refine z_iconst (v := 0) F dX1_follow_63 rfl ?_
  refine z_istore (lv' := [(4, .int 0), (0, .ref (a o0)), (2, .ref (a o2)), (3, .int x3)]) F dX1_follow_64 (by decide) rfl ?_
  refine z_sub (lv' := [(0, .ref (a o0)), (2, .ref (a o2)), (3, .int x3), (4, .int 0)]) [1, 2, 3, 0] rfl ?_
  refine zM1_follow_L66 F ko0 ko2 ?_ _ _ _ h
  intro σ30 h
  exact z_vret F h dX1_follow_194
theorem ct1_follow {r : Unit} {o0 : Nat} {o1 : Nat} {o2 : Nat} {x3 : Int32} {σ : St} (ko0 : kd o0 = 1) (ko1 : kd o1 = 6) (ko2 : kd o2 = 0) (h : M1_follow o0 o1 o2 x3 σ = some (r, σ')) : Met l yX1_follow (wsY yX1_follow cX1_follow 6 none) (rmL 2) (PcW g a [.ref (a o0), .ref (a o1), .ref (a o2), .int x3] σ) (QvW g a r σ') 0 0 (Ad a) :=
  ct_V (by decide) (Nat.le_of_ble_eq_true rfl) (fun p e s m args below meth c F => zM1_follow F ko0 ko1 ko2 h)
theorem cl7_267 {r : Unit} {o0 : Nat} {o1 : Nat} {o2 : Nat} {x3 : Int32} (F : Fx p s m args meth c cc nL RX7 rt R cz sz g a) (ko0 : kd o0 = 1) (ko1 : kd o1 = 6) (ko2 : kd o2 = 0) (h : M1_follow o0 o1 o2 x3 σ = some (r, σ1)) (hR : 2 + 1 ≤ R.frames ∧ 8 + (6 + 11) + 34 * 2 ≤ R.locals) (d : decode cc pc = .ok (.invokevirtual 267, 3)) (hrm : (rest.map fun v => v.category).sum ≤ 8) (z : Z p l e R s m args below meth c Q nL g a cz sz σ1 (pc + 3) lv (rest)) : Z p l e R s m args below meth c Q nL g a cz sz σ pc lv (.int x3 :: .ref (a o2) :: .ref (a o1) :: .ref (a o0) :: rest) :=
  z_callVNV (host := "HoleBank") (nA := 3) (As := [.ref (a o1), .ref (a o2), .int x3]) F (ct1_follow ko0 ko1 ko2 h) ⟨(nlm 485 (by decide +kernel) rfl), (tbm 487 (by decide +kernel) rfl), (tbs 16 (by decide +kernel) rfl), (tbm 5 (by decide +kernel) rfl), (tbm 488 (by decide +kernel) rfl)⟩ (by decide +kernel) rfl ko0 (by decide) rfl rfl rfl hR d rfl hrm z
theorem zM1_loanBehind {r : Int32} {o0 : Nat} {x1 : Int32} {x2 : Int32} {σ : St} (F : Fx p s m args meth c cX1_loanBehind 3 RX1 (some .int) (rmL 0) 0 0 g a) (ko0 : kd o0 = 1) (h : M1_loanBehind o0 x1 x2 σ = some (r, σ')) : Z p l e (rmL 0) s m args below meth c (MQ below (QiW g a r σ') args s 0 0 (Ad a)) 3 g a 0 0 σ 0 [(0, .ref (a o0)), (1, .int x1), (2, .int x2)] [] := by
  unfold M1_loanBehind at h
  refine z_aload_n (q := 0) F dX1_loanBehind_0 rfl rfl ?_
  refine gf1_24 F ko0 dX1_loanBehind_1 ?_
  refine z_iload_n (q := 1) F dX1_loanBehind_4 rfl rfl ?_
  refine z_bipush (v := 8) F dX1_loanBehind_5 rfl ?_
  refine z_imul F dX1_loanBehind_7 ?_
  refine z_iload_n (q := 2) F dX1_loanBehind_8 rfl rfl ?_
  refine z_iadd F dX1_loanBehind_9 ?_
  obtain ⟨g1, h⟩ := gd_of h
  refine z_iald F (kf_1_3 ko0) (inl (lf_1_3 ko0) g1) dX1_loanBehind_10 ?_
  exact z_iret F h dX1_loanBehind_11
theorem ct1_loanBehind {r : Int32} {o0 : Nat} {x1 : Int32} {x2 : Int32} {σ : St} (ko0 : kd o0 = 1) (h : M1_loanBehind o0 x1 x2 σ = some (r, σ')) : Met l yX1_loanBehind (wsY yX1_loanBehind cX1_loanBehind 3 (some .int)) (rmL 0) (PcW g a [.ref (a o0), .int x1, .int x2] σ) (QiW g a r σ') 0 0 (Ad a) :=
  ct_I (by decide) (Nat.le_of_ble_eq_true rfl) (fun p e s m args below meth c F => zM1_loanBehind F ko0 h)
theorem cl1_135 {r : Int32} {o0 : Nat} {x1 : Int32} {x2 : Int32} (F : Fx p s m args meth c cc nL RX1 rt R cz sz g a) (ko0 : kd o0 = 1) (h : M1_loanBehind o0 x1 x2 σ = some (r, σ1)) (hR : 0 + 1 ≤ R.frames ∧ 8 + (3 + 11) + 34 * 0 ≤ R.locals) (d : decode cc pc = .ok (.invokevirtual 135, 3)) (hrm : (rest.map fun v => v.category).sum ≤ 8) (z : Z p l e R s m args below meth c Q nL g a cz sz σ1 (pc + 3) lv (.int r :: rest)) : Z p l e R s m args below meth c Q nL g a cz sz σ pc lv (.int x2 :: .int x1 :: .ref (a o0) :: rest) :=
  z_callVI (nA := 2) (As := [.int x1, .int x2]) F (ct1_loanBehind ko0 h) ⟨(tbm 559 (by decide +kernel) rfl), (tbm 548 (by decide +kernel) rfl), (tbs 30 (by decide +kernel) rfl), (tbm 5 (by decide +kernel) rfl), (tbm 549 (by decide +kernel) rfl)⟩ (by decide +kernel) rfl ko0 (by decide) rfl rfl rfl hR d rfl hrm z
theorem cl7_169 {r : Int32} {o0 : Nat} {x1 : Int32} {x2 : Int32} (F : Fx p s m args meth c cc nL RX7 rt R cz sz g a) (ko0 : kd o0 = 1) (h : M1_loanBehind o0 x1 x2 σ = some (r, σ1)) (hR : 0 + 1 ≤ R.frames ∧ 8 + (3 + 11) + 34 * 0 ≤ R.locals) (d : decode cc pc = .ok (.invokevirtual 169, 3)) (hrm : (rest.map fun v => v.category).sum ≤ 8) (z : Z p l e R s m args below meth c Q nL g a cz sz σ1 (pc + 3) lv (.int r :: rest)) : Z p l e R s m args below meth c Q nL g a cz sz σ pc lv (.int x2 :: .int x1 :: .ref (a o0) :: rest) :=
  z_callVNI (host := "HoleBank") (nA := 2) (As := [.int x1, .int x2]) F (ct1_loanBehind ko0 h) ⟨(nlm 546 (by decide +kernel) rfl), (tbm 548 (by decide +kernel) rfl), (tbs 30 (by decide +kernel) rfl), (tbm 5 (by decide +kernel) rfl), (tbm 549 (by decide +kernel) rfl)⟩ (by decide +kernel) rfl ko0 (by decide) rfl rfl rfl hR d rfl hrm z
theorem zM1_isOutBy {r : Int32} {o0 : Nat} {x1 : Int32} {x2 : Int32} {x3 : Int32} {σ : St} (F : Fx p s m args meth c cX1_isOutBy 4 RX1 (some .boolean) (rmL 1) 0 0 g a) (ko0 : kd o0 = 1) (h : M1_isOutBy o0 x1 x2 x3 σ = some (r, σ')) : Z p l e (rmL 1) s m args below meth c (MQ below (QiW g a r σ') args s 0 0 (Ad a)) 4 g a 0 0 σ 0 [(0, .ref (a o0)), (1, .int x1), (2, .int x2), (3, .int x3)] [] := by
  unfold M1_isOutBy at h
  refine z_iload_n (q := 2) F dX1_isOutBy_0 rfl rfl ?_
  refine z_aload_n (q := 0) F dX1_isOutBy_1 rfl rfl ?_
  refine gf1_42 F ko0 dX1_isOutBy_2 ?_
  refine z_icmp_ge (tgt := 22) F dX1_isOutBy_5 rfl (fun c1 => ?_) (fun c1 => ?_)
  · have h := ite_T c1 h
    refine z_iconst (v := 0) F dX1_isOutBy_22 rfl ?_
    exact z_bret F (by first | exact Or.inl rfl | exact Or.inr rfl) h dX1_isOutBy_23
  · have h := ite_F c1 h
    refine z_aload_n (q := 0) F dX1_isOutBy_8 rfl rfl ?_
    refine z_iload_n (q := 1) F dX1_isOutBy_9 rfl rfl ?_
    refine z_iload_n (q := 2) F dX1_isOutBy_10 rfl rfl ?_
    obtain ⟨r2, σ2, hq2, h⟩ := bd_of h
    refine cl1_135 F ko0 hq2 ⟨Nat.le_of_ble_eq_true rfl, Nat.le_of_ble_eq_true rfl⟩ dX1_isOutBy_11 (Nat.le_of_ble_eq_true rfl) ?_
    refine z_iload_n (q := 3) F dX1_isOutBy_14 rfl rfl ?_
    refine z_icmp_ne (tgt := 22) F dX1_isOutBy_15 rfl (fun c3 => ?_) (fun c3 => ?_)
    · try simp only [if_neg c3] at h
      refine z_iconst (v := 0) F dX1_isOutBy_22 rfl ?_
      exact z_bret F (by first | exact Or.inl rfl | exact Or.inr rfl) h dX1_isOutBy_23
    · try simp only [if_pos c3] at h
      refine z_iconst (v := 1) F dX1_isOutBy_18 rfl ?_
      refine z_goto (tgt := 23) F dX1_isOutBy_19 rfl ?_
      exact z_bret F (by first | exact Or.inl rfl | exact Or.inr rfl) h dX1_isOutBy_23
theorem ct1_isOutBy {r : Int32} {o0 : Nat} {x1 : Int32} {x2 : Int32} {x3 : Int32} {σ : St} (ko0 : kd o0 = 1) (h : M1_isOutBy o0 x1 x2 x3 σ = some (r, σ')) : Met l yX1_isOutBy (wsY yX1_isOutBy cX1_isOutBy 4 (some .boolean)) (rmL 1) (PcW g a [.ref (a o0), .int x1, .int x2, .int x3] σ) (QiW g a r σ') 0 0 (Ad a) :=
  ct_I (by decide) (Nat.le_of_ble_eq_true rfl) (fun p e s m args below meth c F => zM1_isOutBy F ko0 h)
theorem cl7_207 {r : Int32} {o0 : Nat} {x1 : Int32} {x2 : Int32} {x3 : Int32} (F : Fx p s m args meth c cc nL RX7 rt R cz sz g a) (ko0 : kd o0 = 1) (h : M1_isOutBy o0 x1 x2 x3 σ = some (r, σ1)) (hR : 1 + 1 ≤ R.frames ∧ 8 + (4 + 11) + 34 * 1 ≤ R.locals) (d : decode cc pc = .ok (.invokevirtual 207, 3)) (hrm : (rest.map fun v => v.category).sum ≤ 8) (z : Z p l e R s m args below meth c Q nL g a cz sz σ1 (pc + 3) lv (.int r :: rest)) : Z p l e R s m args below meth c Q nL g a cz sz σ pc lv (.int x3 :: .int x2 :: .int x1 :: .ref (a o0) :: rest) :=
  z_callVNI (host := "HoleBank") (nA := 3) (As := [.int x1, .int x2, .int x3]) F (ct1_isOutBy ko0 h) ⟨(nlm 632 (by decide +kernel) rfl), (tbm 634 (by decide +kernel) rfl), (tbs 42 (by decide +kernel) rfl), (tbm 5 (by decide +kernel) rfl), (tbm 635 (by decide +kernel) rfl)⟩ (by decide +kernel) rfl ko0 (by decide) rfl rfl rfl hR d rfl hrm z
theorem zM1_wideBehind {r : Int32} {o0 : Nat} {x1 : Int32} {x2 : Int32} {σ : St} (F : Fx p s m args meth c cX1_wideBehind 3 RX1 (some .int) (rmL 0) 0 0 g a) (ko0 : kd o0 = 1) (h : M1_wideBehind o0 x1 x2 σ = some (r, σ')) : Z p l e (rmL 0) s m args below meth c (MQ below (QiW g a r σ') args s 0 0 (Ad a)) 3 g a 0 0 σ 0 [(0, .ref (a o0)), (1, .int x1), (2, .int x2)] [] := by
  unfold M1_wideBehind at h
  refine z_aload_n (q := 0) F dX1_wideBehind_0 rfl rfl ?_
  refine gf1_17 F ko0 dX1_wideBehind_1 ?_
  refine z_iload_n (q := 1) F dX1_wideBehind_4 rfl rfl ?_
  refine z_bipush (v := 8) F dX1_wideBehind_5 rfl ?_
  refine z_imul F dX1_wideBehind_7 ?_
  refine z_iload_n (q := 2) F dX1_wideBehind_8 rfl rfl ?_
  refine z_iadd F dX1_wideBehind_9 ?_
  obtain ⟨g1, h⟩ := gd_of h
  refine z_iald F (kf_1_1 ko0) (inl (lf_1_1 ko0) g1) dX1_wideBehind_10 ?_
  exact z_iret F h dX1_wideBehind_11
theorem ct1_wideBehind {r : Int32} {o0 : Nat} {x1 : Int32} {x2 : Int32} {σ : St} (ko0 : kd o0 = 1) (h : M1_wideBehind o0 x1 x2 σ = some (r, σ')) : Met l yX1_wideBehind (wsY yX1_wideBehind cX1_wideBehind 3 (some .int)) (rmL 0) (PcW g a [.ref (a o0), .int x1, .int x2] σ) (QiW g a r σ') 0 0 (Ad a) :=
  ct_I (by decide) (Nat.le_of_ble_eq_true rfl) (fun p e s m args below meth c F => zM1_wideBehind F ko0 h)
theorem cl1_138 {r : Int32} {o0 : Nat} {x1 : Int32} {x2 : Int32} (F : Fx p s m args meth c cc nL RX1 rt R cz sz g a) (ko0 : kd o0 = 1) (h : M1_wideBehind o0 x1 x2 σ = some (r, σ1)) (hR : 0 + 1 ≤ R.frames ∧ 8 + (3 + 11) + 34 * 0 ≤ R.locals) (d : decode cc pc = .ok (.invokevirtual 138, 3)) (hrm : (rest.map fun v => v.category).sum ≤ 8) (z : Z p l e R s m args below meth c Q nL g a cz sz σ1 (pc + 3) lv (.int r :: rest)) : Z p l e R s m args below meth c Q nL g a cz sz σ pc lv (.int x2 :: .int x1 :: .ref (a o0) :: rest) :=
  z_callVI (nA := 2) (As := [.int x1, .int x2]) F (ct1_wideBehind ko0 h) ⟨(tbm 560 (by decide +kernel) rfl), (tbm 540 (by decide +kernel) rfl), (tbs 28 (by decide +kernel) rfl), (tbm 5 (by decide +kernel) rfl), (tbm 541 (by decide +kernel) rfl)⟩ (by decide +kernel) rfl ko0 (by decide) rfl rfl rfl hR d rfl hrm z
theorem cl7_163 {r : Int32} {o0 : Nat} {x1 : Int32} {x2 : Int32} (F : Fx p s m args meth c cc nL RX7 rt R cz sz g a) (ko0 : kd o0 = 1) (h : M1_wideBehind o0 x1 x2 σ = some (r, σ1)) (hR : 0 + 1 ≤ R.frames ∧ 8 + (3 + 11) + 34 * 0 ≤ R.locals) (d : decode cc pc = .ok (.invokevirtual 163, 3)) (hrm : (rest.map fun v => v.category).sum ≤ 8) (z : Z p l e R s m args below meth c Q nL g a cz sz σ1 (pc + 3) lv (.int r :: rest)) : Z p l e R s m args below meth c Q nL g a cz sz σ pc lv (.int x2 :: .int x1 :: .ref (a o0) :: rest) :=
  z_callVNI (host := "HoleBank") (nA := 2) (As := [.int x1, .int x2]) F (ct1_wideBehind ko0 h) ⟨(nlm 538 (by decide +kernel) rfl), (tbm 540 (by decide +kernel) rfl), (tbs 28 (by decide +kernel) rfl), (tbm 5 (by decide +kernel) rfl), (tbm 541 (by decide +kernel) rfl)⟩ (by decide +kernel) rfl ko0 (by decide) rfl rfl rfl hR d rfl hrm z
theorem zM1_sightOf {r : Int32} {o0 : Nat} {x1 : Int32} {x2 : Int32} {σ : St} (F : Fx p s m args meth c cX1_sightOf 3 RX1 (some .int) (rmL 1) 0 0 g a) (ko0 : kd o0 = 1) (h : M1_sightOf o0 x1 x2 σ = some (r, σ')) : Z p l e (rmL 1) s m args below meth c (MQ below (QiW g a r σ') args s 0 0 (Ad a)) 3 g a 0 0 σ 0 [(0, .ref (a o0)), (1, .int x1), (2, .int x2)] [] := by
  unfold M1_sightOf at h
  refine z_aload_n (q := 0) F dX1_sightOf_0 rfl rfl ?_
  refine z_iload_n (q := 1) F dX1_sightOf_1 rfl rfl ?_
  refine z_iload_n (q := 2) F dX1_sightOf_2 rfl rfl ?_
  obtain ⟨r1, σ1, hq1, h⟩ := bd_of h
  refine cl1_135 F ko0 hq1 ⟨Nat.le_of_ble_eq_true rfl, Nat.le_of_ble_eq_true rfl⟩ dX1_sightOf_3 (Nat.le_of_ble_eq_true rfl) ?_
  refine z_iconst (v := (-1)) F dX1_sightOf_6 rfl ?_
  refine z_icmp_ne (tgt := 19) F dX1_sightOf_7 rfl (fun c2 => ?_) (fun c2 => ?_)
  · have h := ite_F c2 h
    refine z_iconst (v := 0) F dX1_sightOf_19 rfl ?_
    exact z_iret F h dX1_sightOf_20
  · have h := ite_T c2 h
    refine z_aload_n (q := 0) F dX1_sightOf_10 rfl rfl ?_
    refine z_iload_n (q := 1) F dX1_sightOf_11 rfl rfl ?_
    refine z_iload_n (q := 2) F dX1_sightOf_12 rfl rfl ?_
    obtain ⟨r3, σ3, hq3, h⟩ := bd_of h
    refine cl1_138 F ko0 hq3 ⟨Nat.le_of_ble_eq_true rfl, Nat.le_of_ble_eq_true rfl⟩ dX1_sightOf_13 (Nat.le_of_ble_eq_true rfl) ?_
    refine z_goto (tgt := 20) F dX1_sightOf_16 rfl ?_
    exact z_iret F h dX1_sightOf_20
theorem ct1_sightOf {r : Int32} {o0 : Nat} {x1 : Int32} {x2 : Int32} {σ : St} (ko0 : kd o0 = 1) (h : M1_sightOf o0 x1 x2 σ = some (r, σ')) : Met l yX1_sightOf (wsY yX1_sightOf cX1_sightOf 3 (some .int)) (rmL 1) (PcW g a [.ref (a o0), .int x1, .int x2] σ) (QiW g a r σ') 0 0 (Ad a) :=
  ct_I (by decide) (Nat.le_of_ble_eq_true rfl) (fun p e s m args below meth c F => zM1_sightOf F ko0 h)
theorem cl7_302 {r : Int32} {o0 : Nat} {x1 : Int32} {x2 : Int32} (F : Fx p s m args meth c cc nL RX7 rt R cz sz g a) (ko0 : kd o0 = 1) (h : M1_sightOf o0 x1 x2 σ = some (r, σ1)) (hR : 1 + 1 ≤ R.frames ∧ 8 + (3 + 11) + 34 * 1 ≤ R.locals) (d : decode cc pc = .ok (.invokevirtual 302, 3)) (hrm : (rest.map fun v => v.category).sum ≤ 8) (z : Z p l e R s m args below meth c Q nL g a cz sz σ1 (pc + 3) lv (.int r :: rest)) : Z p l e R s m args below meth c Q nL g a cz sz σ pc lv (.int x2 :: .int x1 :: .ref (a o0) :: rest) :=
  z_callVNI (host := "HoleBank") (nA := 2) (As := [.int x1, .int x2]) F (ct1_sightOf ko0 h) ⟨(nlm 677 (by decide +kernel) rfl), (tbm 679 (by decide +kernel) rfl), (tbs 50 (by decide +kernel) rfl), (tbm 5 (by decide +kernel) rfl), (tbm 680 (by decide +kernel) rfl)⟩ (by decide +kernel) rfl ko0 (by decide) rfl rfl rfl hR d rfl hrm z
theorem zM1_vaultBehind_J38 {r : Int32} {o0 : Nat} {x1 : Int32} {x2 : Int32} {x3 : Int32} {σ : St} (F : Fx p s m args meth c cX1_vaultBehind 4 RX1 (some .int) (rmL 1) 0 0 g a) (ko0 : kd o0 = 1) {kb : Int32 → Int32 → St → Option (Int32 × St)} (hb : ∀ (w2 : Int32) (w3 : Int32) (σ : St), kb w2 w3 σ = some (r, σ') → Z p l e (rmL 1) s m args below meth c (MQ below (QiW g a r σ') args s 0 0 (Ad a)) 4 g a 0 0 σ 4 [(0, .ref (a o0)), (1, .int x1), (2, .int w2), (3, .int w3)] []) (h : M1_vaultBehind_J38 kb o0 x1 x2 x3 σ = some (r, σ')) : Z p l e (rmL 1) s m args below meth c (MQ below (QiW g a r σ') args s 0 0 (Ad a)) 4 g a 0 0 σ 38 [(0, .ref (a o0)), (1, .int x1), (2, .int x2), (3, .int x3)] [] := by
  unfold M1_vaultBehind_J38 at h
  refine z_iinc (q := 3) (v := x3 + 1) (lv' := [(3, .int (x3 + 1)), (0, .ref (a o0)), (1, .int x1), (2, .int x2)]) F dX1_vaultBehind_38 rfl rfl (by decide) rfl ?_
  refine z_letL (s0 := 3) (lv := [(0, .ref (a o0)), (1, .int x1), (2, .int x2)]) h (fun v4 h => ?_)
  refine z_goto (tgt := 4) F dX1_vaultBehind_41 rfl ?_
  refine z_sub (lv' := [(0, .ref (a o0)), (1, .int x1), (2, .int x2), (3, .int v4)]) [1, 2, 3, 0] rfl ?_
  exact hb _ _ _ h
theorem zM1_vaultBehind_L4 {r : Int32} {o0 : Nat} {x1 : Int32} (F : Fx p s m args meth c cX1_vaultBehind 4 RX1 (some .int) (rmL 1) 0 0 g a) (ko0 : kd o0 = 1) {kx : Int32 → St → Option (Int32 × St)} (hx : ∀ (w2 : Int32) (σ : St), kx w2 σ = some (r, σ') → Z p l e (rmL 1) s m args below meth c (MQ below (QiW g a r σ') args s 0 0 (Ad a)) 4 g a 0 0 σ 44 [(2, .int w2)] []) : ∀ (n : Nat) (x2 : Int32) (x3 : Int32) (σ : St), M1_vaultBehind_L4 o0 x1 kx n x2 x3 σ = some (r, σ') → Z p l e (rmL 1) s m args below meth c (MQ below (QiW g a r σ') args s 0 0 (Ad a)) 4 g a 0 0 σ 4 [(0, .ref (a o0)), (1, .int x1), (2, .int x2), (3, .int x3)] [] := by
  intro n
  induction n with
  | zero => intro x2 x3 σ h; rw [M1_vaultBehind_L4] at h; cases h
  | succ n ih =>
    intro x2 x3 σ h
    rw [M1_vaultBehind_L4] at h
    refine z_iload_n (q := 3) F dX1_vaultBehind_4 rfl rfl ?_
    refine z_aload_n (q := 0) F dX1_vaultBehind_5 rfl rfl ?_
    refine gf1_42 F ko0 dX1_vaultBehind_6 ?_
    refine z_icmp_ge (tgt := 44) F dX1_vaultBehind_9 rfl (fun c1 => ?_) (fun c1 => ?_)
    · have h := ite_T c1 h
      refine z_sub (lv' := [(2, .int x2)]) [2] rfl ?_
      exact hx _ _ h
    · have h := ite_F c1 h
      refine z_aload_n (q := 0) F dX1_vaultBehind_12 rfl rfl ?_
      refine z_iload_n (q := 1) F dX1_vaultBehind_13 rfl rfl ?_
      refine z_iload_n (q := 3) F dX1_vaultBehind_14 rfl rfl ?_
      obtain ⟨r2, σ2, hq2, h⟩ := bd_of h
      refine cl1_135 F ko0 hq2 ⟨Nat.le_of_ble_eq_true rfl, Nat.le_of_ble_eq_true rfl⟩ dX1_vaultBehind_15 (Nat.le_of_ble_eq_true rfl) ?_
      refine z_iconst (v := (-1)) F dX1_vaultBehind_18 rfl ?_
      refine z_icmp_ne (tgt := 38) F dX1_vaultBehind_19 rfl (fun c3 => ?_) (fun c3 => ?_)
      · have h := ite_F c3 h
        refine z_sub (lv' := [(0, .ref (a o0)), (1, .int x1), (2, .int x2), (3, .int x3)]) [0, 1, 2, 3] rfl ?_
        exact zM1_vaultBehind_J38 F ko0 ih h
      · have h := ite_T c3 h
        refine z_iload_n (q := 2) F dX1_vaultBehind_22 rfl rfl ?_
        refine z_aload_n (q := 0) F dX1_vaultBehind_23 rfl rfl ?_
        refine z_iload_n (q := 1) F dX1_vaultBehind_24 rfl rfl ?_
        refine z_iload_n (q := 3) F dX1_vaultBehind_25 rfl rfl ?_
        obtain ⟨r5, σ5, hq5, h⟩ := bd_of h
        refine cl1_138 F ko0 hq5 ⟨Nat.le_of_ble_eq_true rfl, Nat.le_of_ble_eq_true rfl⟩ dX1_vaultBehind_26 (Nat.le_of_ble_eq_true rfl) ?_
        refine z_aload_n (q := 0) F dX1_vaultBehind_29 rfl rfl ?_
        refine z_iload_n (q := 1) F dX1_vaultBehind_30 rfl rfl ?_
        refine z_iload_n (q := 3) F dX1_vaultBehind_31 rfl rfl ?_
        obtain ⟨r6, σ6, hq6, h⟩ := bd_of h
        refine cl1_141 F ko0 hq6 ⟨Nat.le_of_ble_eq_true rfl, Nat.le_of_ble_eq_true rfl⟩ dX1_vaultBehind_32 (Nat.le_of_ble_eq_true rfl) ?_
        refine z_imul F dX1_vaultBehind_35 ?_
        refine z_iadd F dX1_vaultBehind_36 ?_
        refine z_letI h (fun v7 h => ?_)
        refine z_istore_n (lv' := [(2, .int v7), (0, .ref (a o0)), (1, .int x1), (3, .int x3)]) F dX1_vaultBehind_37 rfl (by decide) rfl ?_
        refine z_sub (lv' := [(0, .ref (a o0)), (1, .int x1), (2, .int v7), (3, .int x3)]) [1, 2, 0, 3] rfl ?_
        exact zM1_vaultBehind_J38 F ko0 ih h
theorem zM1_vaultBehind {r : Int32} {o0 : Nat} {x1 : Int32} {σ : St} (F : Fx p s m args meth c cX1_vaultBehind 4 RX1 (some .int) (rmL 1) 0 0 g a) (ko0 : kd o0 = 1) (h : M1_vaultBehind o0 x1 σ = some (r, σ')) : Z p l e (rmL 1) s m args below meth c (MQ below (QiW g a r σ') args s 0 0 (Ad a)) 4 g a 0 0 σ 0 [(0, .ref (a o0)), (1, .int x1)] [] := by
  unfold M1_vaultBehind at h
  refine z_iconst (v := 0) F dX1_vaultBehind_0 rfl ?_
  refine z_istore_n (lv' := [(2, .int 0), (0, .ref (a o0)), (1, .int x1)]) F dX1_vaultBehind_1 rfl (by decide) rfl ?_
  refine z_iconst (v := 0) F dX1_vaultBehind_2 rfl ?_
  refine z_istore_n (lv' := [(3, .int 0), (2, .int 0), (0, .ref (a o0)), (1, .int x1)]) F dX1_vaultBehind_3 rfl (by decide) rfl ?_
  refine z_sub (lv' := [(0, .ref (a o0)), (1, .int x1), (2, .int 0), (3, .int 0)]) [2, 3, 1, 0] rfl ?_
  refine zM1_vaultBehind_L4 F ko0 ?_ _ _ _ _ h
  intro v8 σ9 h
  refine z_iload_n (q := 0) F dX1_vaultBehind_44 rfl rfl ?_
  exact z_iret F h dX1_vaultBehind_45
theorem ct1_vaultBehind {r : Int32} {o0 : Nat} {x1 : Int32} {σ : St} (ko0 : kd o0 = 1) (h : M1_vaultBehind o0 x1 σ = some (r, σ')) : Met l yX1_vaultBehind (wsY yX1_vaultBehind cX1_vaultBehind 4 (some .int)) (rmL 1) (PcW g a [.ref (a o0), .int x1] σ) (QiW g a r σ') 0 0 (Ad a) :=
  ct_I (by decide) (Nat.le_of_ble_eq_true rfl) (fun p e s m args below meth c F => zM1_vaultBehind F ko0 h)
theorem cl7_175 {r : Int32} {o0 : Nat} {x1 : Int32} (F : Fx p s m args meth c cc nL RX7 rt R cz sz g a) (ko0 : kd o0 = 1) (h : M1_vaultBehind o0 x1 σ = some (r, σ1)) (hR : 1 + 1 ≤ R.frames ∧ 8 + (4 + 11) + 34 * 1 ≤ R.locals) (d : decode cc pc = .ok (.invokevirtual 175, 3)) (hrm : (rest.map fun v => v.category).sum ≤ 8) (z : Z p l e R s m args below meth c Q nL g a cz sz σ1 (pc + 3) lv (.int r :: rest)) : Z p l e R s m args below meth c Q nL g a cz sz σ pc lv (.int x1 :: .ref (a o0) :: rest) :=
  z_callVNI (host := "HoleBank") (nA := 1) (As := [.int x1]) F (ct1_vaultBehind ko0 h) ⟨(nlm 555 (by decide +kernel) rfl), (tbm 557 (by decide +kernel) rfl), (tbs 31 (by decide +kernel) rfl), (tbm 5 (by decide +kernel) rfl), (tbm 558 (by decide +kernel) rfl)⟩ (by decide +kernel) rfl ko0 (by decide) rfl rfl rfl hR d rfl hrm z
theorem zM3_begin {r : Unit} {o0 : Nat} {x1 : Int32} {σ : St} (F : Fx p s m args meth c cX3_begin 2 RX3 none (rmL 0) 0 0 g a) (ko0 : kd o0 = 3) (h : M3_begin o0 x1 σ = some (r, σ')) : Z p l e (rmL 0) s m args below meth c (MQ below (QvW g a r σ') args s 0 0 (Ad a)) 2 g a 0 0 σ 0 [(0, .ref (a o0)), (1, .int x1)] [] := by
  unfold M3_begin at h
  refine z_aload_n (q := 0) F dX3_begin_0 rfl rfl ?_
  refine z_iload_n (q := 1) F dX3_begin_1 rfl rfl ?_
  refine pf3_21 F ko0 dX3_begin_2 ?_
  refine z_let h (fun σ1 h => ?_)
  exact z_vret F h dX3_begin_5
theorem ct3_begin {r : Unit} {o0 : Nat} {x1 : Int32} {σ : St} (ko0 : kd o0 = 3) (h : M3_begin o0 x1 σ = some (r, σ')) : Met l yX3_begin (wsY yX3_begin cX3_begin 2 none) (rmL 0) (PcW g a [.ref (a o0), .int x1] σ) (QvW g a r σ') 0 0 (Ad a) :=
  ct_V (by decide) (Nat.le_of_ble_eq_true rfl) (fun p e s m args below meth c F => zM3_begin F ko0 h)
theorem cl7_371 {r : Unit} {o0 : Nat} {x1 : Int32} (F : Fx p s m args meth c cc nL RX7 rt R cz sz g a) (ko0 : kd o0 = 3) (h : M3_begin o0 x1 σ = some (r, σ1)) (hR : 0 + 1 ≤ R.frames ∧ 8 + (2 + 11) + 34 * 0 ≤ R.locals) (d : decode cc pc = .ok (.invokevirtual 371, 3)) (hrm : (rest.map fun v => v.category).sum ≤ 8) (z : Z p l e R s m args below meth c Q nL g a cz sz σ1 (pc + 3) lv (rest)) : Z p l e R s m args below meth c Q nL g a cz sz σ pc lv (.int x1 :: .ref (a o0) :: rest) :=
  z_callVNV (host := "HoleBank") (nA := 1) (As := [.int x1]) F (ct3_begin ko0 h) ⟨(nlm 590 (by decide +kernel) rfl), (tbm 592 (by decide +kernel) rfl), (tbs 34 (by decide +kernel) rfl), (tbm 7 (by decide +kernel) rfl), (tbm 593 (by decide +kernel) rfl)⟩ (by decide +kernel) rfl ko0 (by decide) rfl rfl rfl hR d rfl hrm z
theorem zM3_leastHole_J75 {r : Int32} {o0 : Nat} {x1 : Int32} {x2 : Int32} {x3 : Int32} {x4 : Int32} {σ : St} (F : Fx p s m args meth c cX3_leastHole 5 RX3 (some .int) (rmL 0) 0 0 g a) (ko0 : kd o0 = 3) {kb : Int32 → St → Option (Int32 × St)} (hb : ∀ (w4 : Int32) (σ : St), kb w4 σ = some (r, σ') → Z p l e (rmL 0) s m args below meth c (MQ below (QiW g a r σ') args s 0 0 (Ad a)) 5 g a 0 0 σ 14 [(0, .ref (a o0)), (1, .int x1), (2, .int x2), (3, .int x3), (4, .int w4)] []) (h : M3_leastHole_J75 kb o0 x1 x2 x3 x4 σ = some (r, σ')) : Z p l e (rmL 0) s m args below meth c (MQ below (QiW g a r σ') args s 0 0 (Ad a)) 5 g a 0 0 σ 75 [(0, .ref (a o0)), (1, .int x1), (2, .int x2), (3, .int x3), (4, .int x4)] [] := by
  unfold M3_leastHole_J75 at h
  refine z_iinc (q := 4) (v := x4 + 1) (lv' := [(4, .int (x4 + 1)), (0, .ref (a o0)), (1, .int x1), (2, .int x2), (3, .int x3)]) F dX3_leastHole_75 rfl rfl (by decide) rfl ?_
  refine z_letL (s0 := 4) (lv := [(0, .ref (a o0)), (1, .int x1), (2, .int x2), (3, .int x3)]) h (fun v5 h => ?_)
  refine z_goto (tgt := 14) F dX3_leastHole_78 rfl ?_
  refine z_sub (lv' := [(0, .ref (a o0)), (1, .int x1), (2, .int x2), (3, .int x3), (4, .int v5)]) [1, 2, 3, 4, 0] rfl ?_
  exact hb _ _ h
theorem zM3_leastHole_L14 {r : Int32} {o0 : Nat} {x1 : Int32} {x2 : Int32} {x3 : Int32} (F : Fx p s m args meth c cX3_leastHole 5 RX3 (some .int) (rmL 0) 0 0 g a) (ko0 : kd o0 = 3) {kx : St → Option (Int32 × St)} (hx : ∀ (σ : St), kx σ = some (r, σ') → Z p l e (rmL 0) s m args below meth c (MQ below (QiW g a r σ') args s 0 0 (Ad a)) 5 g a 0 0 σ 81 [] []) : ∀ (n : Nat) (x4 : Int32) (σ : St), M3_leastHole_L14 o0 x1 x2 x3 kx n x4 σ = some (r, σ') → Z p l e (rmL 0) s m args below meth c (MQ below (QiW g a r σ') args s 0 0 (Ad a)) 5 g a 0 0 σ 14 [(0, .ref (a o0)), (1, .int x1), (2, .int x2), (3, .int x3), (4, .int x4)] [] := by
  intro n
  induction n with
  | zero => intro x4 σ h; rw [M3_leastHole_L14] at h; cases h
  | succ n ih =>
    intro x4 σ h
    rw [M3_leastHole_L14] at h
    refine z_iload (q := 4) F dX3_leastHole_14 rfl ?_
    refine z_bipush (v := 8) F dX3_leastHole_16 rfl ?_
    refine z_icmp_ge (tgt := 81) F dX3_leastHole_18 rfl (fun c3 => ?_) (fun c3 => ?_)
    · have h := ite_T c3 h
      refine z_sub (lv' := []) [] rfl ?_
      exact hx _ h
    · have h := ite_F c3 h
      refine z_iload_n (q := 3) F dX3_leastHole_21 rfl rfl ?_
      refine z_iload (q := 4) F dX3_leastHole_22 rfl ?_
      refine z_ishr F dX3_leastHole_24 ?_
      refine z_iconst (v := 1) F dX3_leastHole_25 rfl ?_
      refine z_iand F dX3_leastHole_26 ?_
      refine z_iconst (v := 1) F dX3_leastHole_27 rfl ?_
      refine z_icmp_ne (tgt := 75) F dX3_leastHole_28 rfl (fun c4 => ?_) (fun c4 => ?_)
      · have h := ite_F c4 h
        refine z_sub (lv' := [(0, .ref (a o0)), (1, .int x1), (2, .int x2), (3, .int x3), (4, .int x4)]) [0, 1, 2, 3, 4] rfl ?_
        exact zM3_leastHole_J75 F ko0 ih h
      · have h := ite_T c4 h
        refine z_aload_n (q := 0) F dX3_leastHole_31 rfl rfl ?_
        refine gf3_9 F ko0 dX3_leastHole_32 ?_
        refine z_iload_n (q := 1) F dX3_leastHole_35 rfl rfl ?_
        obtain ⟨g6, h⟩ := gd_of h
        refine z_iald F (kf_3_0 ko0) (inl (lf_3_0 ko0) g6) dX3_leastHole_36 ?_
        refine z_aload_n (q := 0) F dX3_leastHole_37 rfl rfl ?_
        refine gf3_18 F ko0 dX3_leastHole_38 ?_
        refine z_iload_n (q := 1) F dX3_leastHole_41 rfl rfl ?_
        refine z_iconst (v := 1) F dX3_leastHole_42 rfl ?_
        refine z_iadd F dX3_leastHole_43 ?_
        refine z_sipush (v := 256) F dX3_leastHole_44 rfl ?_
        refine z_imul F dX3_leastHole_47 ?_
        refine z_iload_n (q := 2) F dX3_leastHole_48 rfl rfl ?_
        refine z_iconst (v := 1) F dX3_leastHole_49 rfl ?_
        refine z_iload (q := 4) F dX3_leastHole_50 rfl ?_
        refine z_ishl F dX3_leastHole_52 ?_
        refine z_ior F dX3_leastHole_53 ?_
        refine z_iadd F dX3_leastHole_54 ?_
        obtain ⟨g7, h⟩ := gd_of h
        refine z_iald F (kf_3_2 ko0) (inl (lf_3_2 ko0) g7) dX3_leastHole_55 ?_
        refine z_iadd F dX3_leastHole_56 ?_
        refine z_aload_n (q := 0) F dX3_leastHole_57 rfl rfl ?_
        refine gf3_18 F ko0 dX3_leastHole_58 ?_
        refine z_iload_n (q := 1) F dX3_leastHole_61 rfl rfl ?_
        refine z_sipush (v := 256) F dX3_leastHole_62 rfl ?_
        refine z_imul F dX3_leastHole_65 ?_
        refine z_iload_n (q := 2) F dX3_leastHole_66 rfl rfl ?_
        refine z_iadd F dX3_leastHole_67 ?_
        obtain ⟨g8, h⟩ := gd_of h
        refine z_iald F (kf_3_2 ko0) (inl (lf_3_2 ko0) g8) dX3_leastHole_68 ?_
        refine z_icmp_ne (tgt := 75) F dX3_leastHole_69 rfl (fun c9 => ?_) (fun c9 => ?_)
        · have h := ite_F c9 h
          refine z_sub (lv' := [(0, .ref (a o0)), (1, .int x1), (2, .int x2), (3, .int x3), (4, .int x4)]) [0, 1, 2, 3, 4] rfl ?_
          exact zM3_leastHole_J75 F ko0 ih h
        · have h := ite_T c9 h
          refine z_iload (q := 4) F dX3_leastHole_72 rfl ?_
          exact z_iret F h dX3_leastHole_74
theorem zM3_leastHole {r : Int32} {o0 : Nat} {x1 : Int32} {x2 : Int32} {σ : St} (F : Fx p s m args meth c cX3_leastHole 5 RX3 (some .int) (rmL 0) 0 0 g a) (ko0 : kd o0 = 3) (h : M3_leastHole o0 x1 x2 σ = some (r, σ')) : Z p l e (rmL 0) s m args below meth c (MQ below (QiW g a r σ') args s 0 0 (Ad a)) 5 g a 0 0 σ 0 [(0, .ref (a o0)), (1, .int x1), (2, .int x2)] [] := by
  unfold M3_leastHole at h
  refine z_aload_n (q := 0) F dX3_leastHole_0 rfl rfl ?_
  refine gf3_15 F ko0 dX3_leastHole_1 ?_
  refine z_iload_n (q := 1) F dX3_leastHole_4 rfl rfl ?_
  obtain ⟨g1, h⟩ := gd_of h
  refine z_iald F (kf_3_1 ko0) (inl (lf_3_1 ko0) g1) dX3_leastHole_5 ?_
  refine z_iload_n (q := 2) F dX3_leastHole_6 rfl rfl ?_
  refine z_iconst (v := (-1)) F dX3_leastHole_7 rfl ?_
  refine z_ixor F dX3_leastHole_8 ?_
  refine z_iand F dX3_leastHole_9 ?_
  refine z_letI h (fun v2 h => ?_)
  refine z_istore_n (lv' := [(3, .int v2), (0, .ref (a o0)), (1, .int x1), (2, .int x2)]) F dX3_leastHole_10 rfl (by decide) rfl ?_
  refine z_iconst (v := 0) F dX3_leastHole_11 rfl ?_
  refine z_istore (lv' := [(4, .int 0), (3, .int v2), (0, .ref (a o0)), (1, .int x1), (2, .int x2)]) F dX3_leastHole_12 (by decide) rfl ?_
  refine z_sub (lv' := [(0, .ref (a o0)), (1, .int x1), (2, .int x2), (3, .int v2), (4, .int 0)]) [2, 3, 4, 1, 0] rfl ?_
  refine zM3_leastHole_L14 F ko0 ?_ _ _ _ h
  intro σ10 h
  refine z_iconst (v := (-1)) F dX3_leastHole_81 rfl ?_
  exact z_iret F h dX3_leastHole_82
theorem ct3_leastHole {r : Int32} {o0 : Nat} {x1 : Int32} {x2 : Int32} {σ : St} (ko0 : kd o0 = 3) (h : M3_leastHole o0 x1 x2 σ = some (r, σ')) : Met l yX3_leastHole (wsY yX3_leastHole cX3_leastHole 5 (some .int)) (rmL 0) (PcW g a [.ref (a o0), .int x1, .int x2] σ) (QiW g a r σ') 0 0 (Ad a) :=
  ct_I (by decide) (Nat.le_of_ble_eq_true rfl) (fun p e s m args below meth c F => zM3_leastHole F ko0 h)
theorem cl3_34 {r : Int32} {o0 : Nat} {x1 : Int32} {x2 : Int32} (F : Fx p s m args meth c cc nL RX3 rt R cz sz g a) (ko0 : kd o0 = 3) (h : M3_leastHole o0 x1 x2 σ = some (r, σ1)) (hR : 0 + 1 ≤ R.frames ∧ 8 + (5 + 11) + 34 * 0 ≤ R.locals) (d : decode cc pc = .ok (.invokevirtual 34, 3)) (hrm : (rest.map fun v => v.category).sum ≤ 8) (z : Z p l e R s m args below meth c Q nL g a cz sz σ1 (pc + 3) lv (.int r :: rest)) : Z p l e R s m args below meth c Q nL g a cz sz σ pc lv (.int x2 :: .int x1 :: .ref (a o0) :: rest) :=
  z_callVI (nA := 2) (As := [.int x1, .int x2]) F (ct3_leastHole ko0 h) ⟨(tbm 611 (by decide +kernel) rfl), (tbm 613 (by decide +kernel) rfl), (tbs 39 (by decide +kernel) rfl), (tbm 7 (by decide +kernel) rfl), (tbm 614 (by decide +kernel) rfl)⟩ (by decide +kernel) rfl ko0 (by decide) rfl rfl rfl hR d rfl hrm z
end WalkZ
