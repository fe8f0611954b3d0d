section WalkZ
variable {p : Program} {l : Launch} {e : Env} {R : Room} {s : State} {m : MethodId} {args : Array Value} {below : List Frame} {meth : Method} {c : Code} {Q : State → Prop} {cc : ByteArray} {nL : Nat} {own : String} {rt : Option FieldType} {g : Gd} {a : Nat → Nat} {cz sz : Nat} {σ σ1 σ' : St} {pc : Nat} {lv lv' : List (Nat × Value)} {st st0 rest : List Value}
theorem zM7_sixteenthsServed_J41 {r : Int32} {x2 : Int32} {x4 : Int32} {x5 : Int32} {x6 : Int32} {x7 : Int32} {y0 : Int32} {σ : St} (F : Fx p s m args meth c cX7_sixteenthsServed 9 RX7 (some .int) (rmL 2) 0 0 g a) (h : M7_sixteenthsServed_J41 x2 x4 x5 x6 x7 y0 σ = some (r, σ')) : Z p l e (rmL 2) s m args below meth c (MQ below (QiW g a r σ') args s 0 0 (Ad a)) 9 g a 0 0 σ 41 [(0, .ref (a 25)), (2, .int x2), (4, .int x4), (5, .int x5), (6, .int x6), (7, .int x7)] [.int y0] := by
  unfold M7_sixteenthsServed_J41 at h
  refine z_istore (lv' := [(8, .int y0), (0, .ref (a 25)), (2, .int x2), (4, .int x4), (5, .int x5), (6, .int x6), (7, .int x7)]) F dX7_sixteenthsServed_41 (by decide) rfl ?_
  refine z_aload_n (q := 1) F dX7_sixteenthsServed_43 rfl rfl ?_
  refine z_iload_n (q := 2) F dX7_sixteenthsServed_44 rfl rfl ?_
  refine z_iload (q := 3) F dX7_sixteenthsServed_45 rfl ?_
  refine z_bipush (v := 9) F dX7_sixteenthsServed_47 rfl ?_
  refine z_iload (q := 5) F dX7_sixteenthsServed_49 rfl ?_
  refine z_iconst (v := 1) F dX7_sixteenthsServed_51 rfl ?_
  refine z_iadd F dX7_sixteenthsServed_52 ?_
  refine z_mmin F (tbm 703 (by decide +kernel) rfl) (tbm 328 (by decide +kernel) rfl) (tbm 12 (by decide +kernel) rfl) (tbm 329 (by decide +kernel) rfl) (Nat.le_of_ble_eq_true rfl) (Nat.le_of_ble_eq_true rfl) dX7_sixteenthsServed_53 ?_
  refine z_iload (q := 6) F dX7_sixteenthsServed_56 rfl ?_
  obtain ⟨r5, σ5, hq5, h⟩ := bd_of h
  refine cl7_193 F hq5 ⟨Nat.le_of_ble_eq_true rfl, Nat.le_of_ble_eq_true rfl⟩ dX7_sixteenthsServed_58 (Nat.le_of_ble_eq_true rfl) ?_
  refine z_if_eq (tgt := 72) F dX7_sixteenthsServed_61 rfl (fun c6 => ?_) (fun c6 => ?_)
  · try simp only [if_pos c6] at h
    refine z_iload (q := 0) F dX7_sixteenthsServed_72 rfl ?_
    exact z_iret F h dX7_sixteenthsServed_74
  · try simp only [if_neg c6] at h
    refine z_iload (q := 0) F dX7_sixteenthsServed_64 rfl ?_
    refine z_iload (q := 4) F dX7_sixteenthsServed_66 rfl ?_
    refine z_iadd F dX7_sixteenthsServed_68 ?_
    refine z_goto (tgt := 74) F dX7_sixteenthsServed_69 rfl ?_
    exact z_iret F h dX7_sixteenthsServed_74
theorem zM7_sixteenthsServed {r : Int32} {o1 : Nat} {x2 : Int32} {x3 : Int32} {x4 : Int32} {x5 : Int32} {σ : St} (F : Fx p s m args meth c cX7_sixteenthsServed 9 RX7 (some .int) (rmL 2) 0 0 g a) (ko1 : kd o1 = 1) (h : M7_sixteenthsServed o1 x2 x3 x4 x5 σ = some (r, σ')) : Z p l e (rmL 2) s m args below meth c (MQ below (QiW g a r σ') args s 0 0 (Ad a)) 9 g a 0 0 σ 0 [(0, .ref (a 25)), (1, .ref (a o1)), (2, .int x2), (3, .int x3), (4, .int x4), (5, .int x5)] [] := by
  unfold M7_sixteenthsServed at h
  refine z_aload_n (q := 1) F dX7_sixteenthsServed_0 rfl rfl ?_
  refine z_iload_n (q := 3) F dX7_sixteenthsServed_1 rfl rfl ?_
  refine z_iload (q := 4) F dX7_sixteenthsServed_2 rfl ?_
  obtain ⟨r1, σ1, hq1, h⟩ := bd_of h
  refine cl7_163 F ko1 hq1 ⟨Nat.le_of_ble_eq_true rfl, Nat.le_of_ble_eq_true rfl⟩ dX7_sixteenthsServed_4 (Nat.le_of_ble_eq_true rfl) ?_
  refine z_istore (lv' := [(6, .int r1), (0, .ref (a 25)), (1, .ref (a o1)), (2, .int x2), (3, .int x3), (4, .int x4), (5, .int x5)]) F dX7_sixteenthsServed_7 (by decide) rfl ?_
  refine z_aload_n (q := 2) F dX7_sixteenthsServed_9 rfl rfl ?_
  refine z_iload_n (q := 4) F dX7_sixteenthsServed_10 rfl rfl ?_
  refine z_iload (q := 5) F dX7_sixteenthsServed_11 rfl ?_
  obtain ⟨r2, σ2, hq2, h⟩ := bd_of h
  refine cl7_166 F ko1 hq2 ⟨Nat.le_of_ble_eq_true rfl, Nat.le_of_ble_eq_true rfl⟩ dX7_sixteenthsServed_13 (Nat.le_of_ble_eq_true rfl) ?_
  refine z_istore (lv' := [(7, .int r2), (6, .int r1), (0, .ref (a 25)), (1, .ref (a o1)), (2, .int x2), (3, .int x3), (4, .int x4), (5, .int x5)]) F dX7_sixteenthsServed_16 (by decide) rfl ?_
  refine z_aload_n (q := 2) F dX7_sixteenthsServed_18 rfl rfl ?_
  refine z_iload_n (q := 4) F dX7_sixteenthsServed_19 rfl rfl ?_
  refine z_iload (q := 6) F dX7_sixteenthsServed_20 rfl ?_
  refine z_iload (q := 1) F dX7_sixteenthsServed_22 rfl ?_
  refine z_iload (q := 0) F dX7_sixteenthsServed_24 rfl ?_
  obtain ⟨r3, σ3, hq3, h⟩ := bd_of h
  refine cl7_193 F hq3 ⟨Nat.le_of_ble_eq_true rfl, Nat.le_of_ble_eq_true rfl⟩ dX7_sixteenthsServed_26 (Nat.le_of_ble_eq_true rfl) ?_
  refine z_if_eq (tgt := 40) F dX7_sixteenthsServed_29 rfl (fun c4 => ?_) (fun c4 => ?_)
  · try simp only [if_pos c4] at h
    refine z_iconst (v := 0) F dX7_sixteenthsServed_40 rfl ?_
    refine z_sub (lv' := [(0, .ref (a 25)), (2, .int x2), (4, .int x4), (5, .int x5), (6, .int r1), (7, .int r2)]) [2, 4, 6, 7, 1, 0] rfl ?_
    exact zM7_sixteenthsServed_J41 F h
  · try simp only [if_neg c4] at h
    refine z_bipush (v := 16) F dX7_sixteenthsServed_32 rfl ?_
    refine z_iload (q := 7) F dX7_sixteenthsServed_34 rfl ?_
    refine z_isub F dX7_sixteenthsServed_36 ?_
    refine z_goto (tgt := 41) F dX7_sixteenthsServed_37 rfl ?_
    refine z_sub (lv' := [(0, .ref (a 25)), (2, .int x2), (4, .int x4), (5, .int x5), (6, .int r1), (7, .int r2)]) [2, 4, 6, 7, 1, 0] rfl ?_
    exact zM7_sixteenthsServed_J41 F h
theorem ct7_sixteenthsServed {r : Int32} {o1 : Nat} {x2 : Int32} {x3 : Int32} {x4 : Int32} {x5 : Int32} {σ : St} (ko1 : kd o1 = 1) (h : M7_sixteenthsServed o1 x2 x3 x4 x5 σ = some (r, σ')) : Met l yX7_sixteenthsServed (wsY yX7_sixteenthsServed cX7_sixteenthsServed 9 (some .int)) (rmL 2) (PcW g a [.ref (a 25), .ref (a o1), .int x2, .int x3, .int x4, .int x5] σ) (QiW g a r σ') 0 0 (Ad a) :=
  ct_I (by decide) (Nat.le_of_ble_eq_true rfl) (fun p e s m args below meth c F => zM7_sixteenthsServed F ko1 h)
theorem cl7_249 {r : Int32} {o1 : Nat} {x2 : Int32} {x3 : Int32} {x4 : Int32} {x5 : Int32} (F : Fx p s m args meth c cc nL RX7 rt R cz sz g a) (ko1 : kd o1 = 1) (h : M7_sixteenthsServed o1 x2 x3 x4 x5 σ = some (r, σ1)) (hR : 2 + 1 ≤ R.frames ∧ 8 + (9 + 11) + 34 * 2 ≤ R.locals) (d : decode cc pc = .ok (.invokevirtual 249, 3)) (hrm : (rest.map fun v => v.category).sum ≤ 8) (z : Z p l e R s m args below meth c Q nL g a cz sz σ1 (pc + 3) lv (.int r :: rest)) : Z p l e R s m args below meth c Q nL g a cz sz σ pc lv (.int x5 :: .int x4 :: .int x3 :: .int x2 :: .ref (a o1) :: .ref (a 25) :: rest) :=
  z_callVI (nA := 5) (As := [.ref (a o1), .int x2, .int x3, .int x4, .int x5]) F (ct7_sixteenthsServed ko1 h) ⟨(tbm 699 (by decide +kernel) rfl), (tbm 701 (by decide +kernel) rfl), (tbs 53 (by decide +kernel) rfl), (tbm 1 (by decide +kernel) rfl), (tbm 702 (by decide +kernel) rfl)⟩ (by decide +kernel) rfl kdc_25 (by decide) rfl rfl rfl hR d rfl hrm z
theorem zM7_moths_J173 {r : Int64} {x4 : Int32} {x8 : Int64} {x10 : Int64} {σ : St} (F : Fx p s m args meth c cX7_moths 13 RX7 (some .long) (rmL 4) 0 0 g a) (h : M7_moths_J173 x4 x8 x10 σ = some (r, σ')) : Z p l e (rmL 4) s m args below meth c (MQ below (QlW g a r σ') args s 0 0 (Ad a)) 13 g a 0 0 σ 173 [(4, .int x4), (8, .long x8), (10, .long x10)] [] := by
  unfold M7_moths_J173 at h
  refine z_iload (q := 0) F dX7_moths_173 rfl ?_
  refine z_if_ne (tgt := 183) F dX7_moths_175 rfl (fun c35 => ?_) (fun c35 => ?_)
  · try simp only [if_neg c35] at h
    refine z_lload (q := 1) F dX7_moths_183 rfl ?_
    exact z_lret F h dX7_moths_185
  · try simp only [if_pos c35] at h
    refine z_lload (q := 2) F dX7_moths_178 rfl ?_
    refine z_goto (tgt := 185) F dX7_moths_180 rfl ?_
    exact z_lret F h dX7_moths_185
theorem zM7_moths_L122 {r : Int64} {x4 : Int32} (F : Fx p s m args meth c cX7_moths 13 RX7 (some .long) (rmL 4) 0 0 g a) {kx : Int64 → Int64 → St → Option (Int64 × St)} (hx : ∀ (w8 : Int64) (w10 : Int64) (σ : St), kx w8 w10 σ = some (r, σ') → Z p l e (rmL 4) s m args below meth c (MQ below (QlW g a r σ') args s 0 0 (Ad a)) 13 g a 0 0 σ 173 [(4, .int x4), (8, .long w8), (10, .long w10)] []) : ∀ (n : Nat) (x8 : Int64) (x10 : Int64) (x12 : Int32) (σ : St), M7_moths_L122 x4 kx n x8 x10 x12 σ = some (r, σ') → Z p l e (rmL 4) s m args below meth c (MQ below (QlW g a r σ') args s 0 0 (Ad a)) 13 g a 0 0 σ 122 [(4, .int x4), (8, .long x8), (10, .long x10), (12, .int x12)] [] := by
  intro n
  induction n with
  | zero => intro x8 x10 x12 σ h; rw [M7_moths_L122] at h; cases h
  | succ n ih =>
    intro x8 x10 x12 σ h
    rw [M7_moths_L122] at h
    refine z_iload (q := 3) F dX7_moths_122 rfl ?_
    refine z_bipush (v := 32) F dX7_moths_124 rfl ?_
    refine z_icmp_ge (tgt := 173) F dX7_moths_126 rfl (fun c22 => ?_) (fun c22 => ?_)
    · have h := ite_T c22 h
      refine z_sub (lv' := [(4, .int x4), (8, .long x8), (10, .long x10)]) [0, 1, 2] rfl ?_
      exact hx _ _ _ h
    · have h := ite_F c22 h
      refine z_lload (q := 1) F dX7_moths_129 rfl ?_
      refine z_ldc2 (v := 2) F dX7_moths_131 (tbm 705 (by decide +kernel) rfl) ?_
      refine z_lrem F dX7_moths_134 (by decide) ?_
      refine z_lconst (v := 0) F dX7_moths_135 rfl ?_
      refine z_lcmp F dX7_moths_136 ?_
      refine z_if_ne (tgt := 173) F dX7_moths_137 rfl (fun c24 => ?_) (fun c24 => ?_)
      · have h := ite_F c24 h
        refine z_sub (lv' := [(4, .int x4), (8, .long x8), (10, .long x10)]) [0, 1, 2] rfl ?_
        exact hx _ _ _ h
      · have h := ite_T c24 h
        refine z_lload (q := 2) F dX7_moths_140 rfl ?_
        refine z_ldc2 (v := 2) F dX7_moths_142 (tbm 705 (by decide +kernel) rfl) ?_
        refine z_lrem F dX7_moths_145 (by decide) ?_
        refine z_lconst (v := 0) F dX7_moths_146 rfl ?_
        refine z_lcmp F dX7_moths_147 ?_
        refine z_if_ne (tgt := 173) F dX7_moths_148 rfl (fun c26 => ?_) (fun c26 => ?_)
        · have h := ite_F c26 h
          refine z_sub (lv' := [(4, .int x4), (8, .long x8), (10, .long x10)]) [0, 1, 2] rfl ?_
          exact hx _ _ _ h
        · have h := ite_T c26 h
          refine z_lload (q := 2) F dX7_moths_151 rfl ?_
          refine z_ldc2 (v := 2) F dX7_moths_153 (tbm 705 (by decide +kernel) rfl) ?_
          refine z_ldiv F dX7_moths_156 (by decide) ?_
          refine z_letJ h (fun v28 h => ?_)
          refine z_lstore (lv' := [(10, .long v28), (4, .int x4), (8, .long x8), (12, .int x12)]) F dX7_moths_157 (by decide) rfl ?_
          refine z_lload (q := 2) F dX7_moths_159 rfl ?_
          refine z_ldc2 (v := 2) F dX7_moths_161 (tbm 705 (by decide +kernel) rfl) ?_
          refine z_ldiv F dX7_moths_164 (by decide) ?_
          refine z_letJ h (fun v30 h => ?_)
          refine z_lstore (lv' := [(8, .long v30), (10, .long v28), (4, .int x4), (12, .int x12)]) F dX7_moths_165 (by decide) rfl ?_
          refine z_iinc (q := 3) (v := x12 + 1) (lv' := [(12, .int (x12 + 1)), (8, .long v30), (10, .long v28), (4, .int x4)]) F dX7_moths_167 rfl rfl (by decide) rfl ?_
          refine z_letL (s0 := 12) (lv := [(8, .long v30), (10, .long v28), (4, .int x4)]) h (fun v31 h => ?_)
          refine z_goto (tgt := 122) F dX7_moths_170 rfl ?_
          refine z_sub (lv' := [(4, .int x4), (8, .long v30), (10, .long v28), (12, .int v31)]) [3, 1, 2, 0] rfl ?_
          exact ih _ _ _ _ h
theorem zM7_moths_J106 {r : Int64} {x1 : Int32} {x2 : Int32} {x3 : Int32} {x4 : Int32} {o5 : Nat} {x6 : Int64} {x8 : Int64} {x10 : Int32} {σ : St} (F : Fx p s m args meth c cX7_moths 13 RX7 (some .long) (rmL 4) 0 0 g a) (ko5 : kd o5 = 1) {kb : Int64 → Int64 → Int32 → St → Option (Int64 × St)} (hb : ∀ (w6 : Int64) (w8 : Int64) (w10 : Int32) (σ : St), kb w6 w8 w10 σ = some (r, σ') → Z p l e (rmL 4) s m args below meth c (MQ below (QlW g a r σ') args s 0 0 (Ad a)) 13 g a 0 0 σ 54 [(0, .ref (a 25)), (1, .int x1), (2, .int x2), (3, .int x3), (4, .int x4), (5, .ref (a o5)), (6, .long w6), (8, .long w8), (10, .int w10)] []) (h : M7_moths_J106 kb x1 x2 x3 x4 o5 x6 x8 x10 σ = some (r, σ')) : Z p l e (rmL 4) s m args below meth c (MQ below (QlW g a r σ') args s 0 0 (Ad a)) 13 g a 0 0 σ 106 [(0, .ref (a 25)), (1, .int x1), (2, .int x2), (3, .int x3), (4, .int x4), (5, .ref (a o5)), (6, .long x6), (8, .long x8), (10, .int x10)] [] := by
  unfold M7_moths_J106 at h
  refine z_iinc (q := 8) (v := x10 + 1) (lv' := [(10, .int (x10 + 1)), (0, .ref (a 25)), (1, .int x1), (2, .int x2), (3, .int x3), (4, .int x4), (5, .ref (a o5)), (6, .long x6), (8, .long x8)]) F dX7_moths_106 rfl rfl (by decide) rfl ?_
  refine z_letL (s0 := 10) (lv := [(0, .ref (a 25)), (1, .int x1), (2, .int x2), (3, .int x3), (4, .int x4), (5, .ref (a o5)), (6, .long x6), (8, .long x8)]) h (fun v14 h => ?_)
  refine z_goto (tgt := 54) F dX7_moths_109 rfl ?_
  refine z_sub (lv' := [(0, .ref (a 25)), (1, .int x1), (2, .int x2), (3, .int x3), (4, .int x4), (5, .ref (a o5)), (6, .long x6), (8, .long x8), (10, .int v14)]) [1, 2, 3, 4, 5, 6, 7, 8, 0] rfl ?_
  exact hb _ _ _ _ h
theorem zM7_moths_L54 {r : Int64} {x1 : Int32} {x2 : Int32} {x3 : Int32} {x4 : Int32} {o5 : Nat} (F : Fx p s m args meth c cX7_moths 13 RX7 (some .long) (rmL 4) 0 0 g a) (ko5 : kd o5 = 1) {kx : Int64 → Int64 → St → Option (Int64 × St)} (hx : ∀ (w6 : Int64) (w8 : Int64) (σ : St), kx w6 w8 σ = some (r, σ') → Z p l e (rmL 4) s m args below meth c (MQ below (QlW g a r σ') args s 0 0 (Ad a)) 13 g a 0 0 σ 112 [(4, .int x4), (6, .long w6), (8, .long w8)] []) : ∀ (n : Nat) (x6 : Int64) (x8 : Int64) (x10 : Int32) (σ : St), M7_moths_L54 x1 x2 x3 x4 o5 kx n x6 x8 x10 σ = some (r, σ') → Z p l e (rmL 4) s m args below meth c (MQ below (QlW g a r σ') args s 0 0 (Ad a)) 13 g a 0 0 σ 54 [(0, .ref (a 25)), (1, .int x1), (2, .int x2), (3, .int x3), (4, .int x4), (5, .ref (a o5)), (6, .long x6), (8, .long x8), (10, .int x10)] [] := by
  intro n
  induction n with
  | zero => intro x6 x8 x10 σ h; rw [M7_moths_L54] at h; cases h
  | succ n ih =>
    intro x6 x8 x10 σ h
    rw [M7_moths_L54] at h
    refine z_iload (q := 8) F dX7_moths_54 rfl ?_
    refine z_aload_n (q := 0) F dX7_moths_56 rfl rfl ?_
    refine gf7_16 F kdc_25 dX7_moths_57 ?_
    refine gf7_190 F kdc_26 dX7_moths_60 ?_
    refine z_icmp_ge (tgt := 112) F dX7_moths_63 rfl (fun c11 => ?_) (fun c11 => ?_)
    · have h := ite_T c11 h
      refine z_sub (lv' := [(4, .int x4), (6, .long x6), (8, .long x8)]) [4, 6, 7] rfl ?_
      exact hx _ _ _ h
    · have h := ite_F c11 h
      refine z_aload (q := 5) F dX7_moths_66 rfl ?_
      refine z_iload_n (q := 2) F dX7_moths_68 rfl rfl ?_
      refine z_iload (q := 8) F dX7_moths_69 rfl ?_
      obtain ⟨r12, σ12, hq12, h⟩ := bd_of h
      refine cl7_169 F ko5 hq12 ⟨Nat.le_of_ble_eq_true rfl, Nat.le_of_ble_eq_true rfl⟩ dX7_moths_71 (Nat.le_of_ble_eq_true rfl) ?_
      refine z_iconst (v := (-1)) F dX7_moths_74 rfl ?_
      refine z_icmp_ne (tgt := 106) F dX7_moths_75 rfl (fun c13 => ?_) (fun c13 => ?_)
      · have h := ite_F c13 h
        refine z_sub (lv' := [(0, .ref (a 25)), (1, .int x1), (2, .int x2), (3, .int x3), (4, .int x4), (5, .ref (a o5)), (6, .long x6), (8, .long x8), (10, .int x10)]) [0, 1, 2, 3, 4, 5, 6, 7, 8] rfl ?_
        exact zM7_moths_J106 F ko5 ih h
      · have h := ite_T c13 h
        refine z_lload (q := 6) F dX7_moths_78 rfl ?_
        refine z_bipush (v := 16) F dX7_moths_80 rfl ?_
        refine z_aload_n (q := 0) F dX7_moths_82 rfl rfl ?_
        refine z_aload (q := 5) F dX7_moths_83 rfl ?_
        refine z_iload_n (q := 3) F dX7_moths_85 rfl rfl ?_
        refine z_iload_n (q := 2) F dX7_moths_86 rfl rfl ?_
        refine z_iload (q := 8) F dX7_moths_87 rfl ?_
        refine z_iload_n (q := 1) F dX7_moths_89 rfl rfl ?_
        obtain ⟨r15, σ15, hq15, h⟩ := bd_of h
        refine cl7_249 F ko5 hq15 ⟨Nat.le_of_ble_eq_true rfl, Nat.le_of_ble_eq_true rfl⟩ dX7_moths_90 (Nat.le_of_ble_eq_true rfl) ?_
        refine z_isub F dX7_moths_93 ?_
        refine z_i2l F dX7_moths_94 ?_
        refine z_lmul F dX7_moths_95 ?_
        refine z_letJ h (fun v16 h => ?_)
        refine z_lstore (lv' := [(6, .long v16), (0, .ref (a 25)), (1, .int x1), (2, .int x2), (3, .int x3), (4, .int x4), (5, .ref (a o5)), (8, .long x8), (10, .int x10)]) F dX7_moths_96 (by decide) rfl ?_
        refine z_lload (q := 7) F dX7_moths_98 rfl ?_
        refine z_ldc2 (v := 16) F dX7_moths_100 (tbm 704 (by decide +kernel) rfl) ?_
        refine z_lmul F dX7_moths_103 ?_
        refine z_letJ h (fun v17 h => ?_)
        refine z_lstore (lv' := [(8, .long v17), (6, .long v16), (0, .ref (a 25)), (1, .int x1), (2, .int x2), (3, .int x3), (4, .int x4), (5, .ref (a o5)), (10, .int x10)]) F dX7_moths_104 (by decide) rfl ?_
        refine z_sub (lv' := [(0, .ref (a 25)), (1, .int x1), (2, .int x2), (3, .int x3), (4, .int x4), (5, .ref (a o5)), (6, .long v16), (8, .long v17), (10, .int x10)]) [2, 3, 4, 5, 6, 7, 1, 0, 8] rfl ?_
        exact zM7_moths_J106 F ko5 ih h
theorem zM7_moths {r : Int64} {x1 : Int32} {x2 : Int32} {x3 : Int32} {x4 : Int32} {σ : St} (F : Fx p s m args meth c cX7_moths 13 RX7 (some .long) (rmL 4) 0 0 g a) (h : M7_moths x1 x2 x3 x4 σ = some (r, σ')) : Z p l e (rmL 4) s m args below meth c (MQ below (QlW g a r σ') args s 0 0 (Ad a)) 13 g a 0 0 σ 0 [(0, .ref (a 25)), (1, .int x1), (2, .int x2), (3, .int x3), (4, .int x4)] [] := by
  unfold M7_moths at h
  refine z_iload_n (q := 1) F dX7_moths_0 rfl rfl ?_
  refine z_bipush (v := 17) F dX7_moths_1 rfl ?_
  obtain ⟨r1, σ1, hq1, h⟩ := bd_of h
  refine cl7_83 F hq1 ⟨Nat.le_of_ble_eq_true rfl, Nat.le_of_ble_eq_true rfl⟩ dX7_moths_3 (Nat.le_of_ble_eq_true rfl) ?_
  refine z_if_eq (tgt := 35) F dX7_moths_6 rfl (fun c2 => ?_) (fun c2 => ?_)
  · have h := ite_T c2 h
    refine z_ldc2 (v := (-9223372036854775806)) F dX7_moths_35 (tbm 698 (by decide +kernel) rfl) ?_
    exact z_lret F h dX7_moths_38
  · have h := ite_F c2 h
    refine z_iload_n (q := 2) F dX7_moths_9 rfl rfl ?_
    refine z_bipush (v := 40) F dX7_moths_10 rfl ?_
    obtain ⟨r3, σ3, hq3, h⟩ := bd_of h
    refine cl7_83 F hq3 ⟨Nat.le_of_ble_eq_true rfl, Nat.le_of_ble_eq_true rfl⟩ dX7_moths_12 (Nat.le_of_ble_eq_true rfl) ?_
    refine z_if_eq (tgt := 35) F dX7_moths_15 rfl (fun c4 => ?_) (fun c4 => ?_)
    · have h := ite_T c4 h
      refine z_ldc2 (v := (-9223372036854775806)) F dX7_moths_35 (tbm 698 (by decide +kernel) rfl) ?_
      exact z_lret F h dX7_moths_38
    · have h := ite_F c4 h
      refine z_aload_n (q := 0) F dX7_moths_18 rfl rfl ?_
      refine z_iload_n (q := 3) F dX7_moths_19 rfl rfl ?_
      obtain ⟨r5, σ5, hq5, h⟩ := bd_of h
      refine cl7_112 F hq5 ⟨Nat.le_of_ble_eq_true rfl, Nat.le_of_ble_eq_true rfl⟩ dX7_moths_20 (Nat.le_of_ble_eq_true rfl) ?_
      refine z_if_eq (tgt := 35) F dX7_moths_23 rfl (fun c6 => ?_) (fun c6 => ?_)
      · have h := ite_T c6 h
        refine z_ldc2 (v := (-9223372036854775806)) F dX7_moths_35 (tbm 698 (by decide +kernel) rfl) ?_
        exact z_lret F h dX7_moths_38
      · have h := ite_F c6 h
        refine z_iload (q := 4) F dX7_moths_26 rfl ?_
        refine z_iconst (v := 2) F dX7_moths_28 rfl ?_
        obtain ⟨r7, σ7, hq7, h⟩ := bd_of h
        refine cl7_83 F hq7 ⟨Nat.le_of_ble_eq_true rfl, Nat.le_of_ble_eq_true rfl⟩ dX7_moths_29 (Nat.le_of_ble_eq_true rfl) ?_
        refine z_if_ne (tgt := 39) F dX7_moths_32 rfl (fun c8 => ?_) (fun c8 => ?_)
        · have h := ite_F c8 h
          refine z_aload_n (q := 0) F dX7_moths_39 rfl rfl ?_
          obtain ⟨r9, σ9, hq9, h⟩ := bd_of h
          obtain ⟨g10, h⟩ := gd_of h
          refine cl7_159 F hq9 ⟨Nat.le_of_ble_eq_true rfl, Nat.le_of_ble_eq_true rfl⟩ dX7_moths_40 (Nat.le_of_ble_eq_true rfl) ?_
          refine z_astore (lv' := [(5, .ref (a r9)), (0, .ref (a 25)), (1, .int x1), (2, .int x2), (3, .int x3), (4, .int x4)]) F dX7_moths_43 (by decide) rfl ?_
          refine z_lconst (v := 1) F dX7_moths_45 rfl ?_
          refine z_lstore (lv' := [(6, .long 1), (5, .ref (a r9)), (0, .ref (a 25)), (1, .int x1), (2, .int x2), (3, .int x3), (4, .int x4)]) F dX7_moths_46 (by decide) rfl ?_
          refine z_lconst (v := 1) F dX7_moths_48 rfl ?_
          refine z_lstore (lv' := [(8, .long 1), (6, .long 1), (5, .ref (a r9)), (0, .ref (a 25)), (1, .int x1), (2, .int x2), (3, .int x3), (4, .int x4)]) F dX7_moths_49 (by decide) rfl ?_
          refine z_iconst (v := 0) F dX7_moths_51 rfl ?_
          refine z_istore (lv' := [(10, .int 0), (8, .long 1), (6, .long 1), (5, .ref (a r9)), (0, .ref (a 25)), (1, .int x1), (2, .int x2), (3, .int x3), (4, .int x4)]) F dX7_moths_52 (by decide) rfl ?_
          refine z_sub (lv' := [(0, .ref (a 25)), (1, .int x1), (2, .int x2), (3, .int x3), (4, .int x4), (5, .ref (a r9)), (6, .long 1), (8, .long 1), (10, .int 0)]) [4, 5, 6, 7, 8, 3, 2, 1, 0] rfl ?_
          refine zM7_moths_L54 F g10 ?_ _ _ _ _ _ h
          intro v18 v19 σ20 h
          refine z_lload (q := 2) F dX7_moths_112 rfl ?_
          refine z_lload (q := 1) F dX7_moths_114 rfl ?_
          refine z_lsub F dX7_moths_116 ?_
          refine z_letJ h (fun v21 h => ?_)
          refine z_lstore (lv' := [(10, .long v21), (4, .int x4), (6, .long v18), (8, .long v19)]) F dX7_moths_117 (by decide) rfl ?_
          refine z_iconst (v := 0) F dX7_moths_119 rfl ?_
          refine z_istore (lv' := [(12, .int 0), (10, .long v21), (4, .int x4), (6, .long v18), (8, .long v19)]) F dX7_moths_120 (by decide) rfl ?_
          refine z_sub (lv' := [(4, .int x4), (8, .long v19), (10, .long v21), (12, .int 0)]) [2, 4, 1, 0] rfl ?_
          refine zM7_moths_L122 F ?_ _ _ _ _ _ h
          intro v32 v33 σ34 h
          refine z_sub (lv' := [(4, .int x4), (8, .long v32), (10, .long v33)]) [0, 1, 2] rfl ?_
          exact zM7_moths_J173 F h
        · have h := ite_T c8 h
          refine z_ldc2 (v := (-9223372036854775806)) F dX7_moths_35 (tbm 698 (by decide +kernel) rfl) ?_
          exact z_lret F h dX7_moths_38
theorem ct7_moths {r : Int64} {x1 : Int32} {x2 : Int32} {x3 : Int32} {x4 : Int32} {σ : St} (h : M7_moths x1 x2 x3 x4 σ = some (r, σ')) : Met l yX7_moths (wsY yX7_moths cX7_moths 13 (some .long)) (rmL 4) (PcW g a [.ref (a 25), .int x1, .int x2, .int x3, .int x4] σ) (QlW g a r σ') 0 0 (Ad a) :=
  ct_L (by decide) (Nat.le_of_ble_eq_true rfl) (fun p e s m args below meth c F => zM7_moths F h)
theorem cl7_355 {r : Int64} {x1 : Int32} {x2 : Int32} {x3 : Int32} {x4 : Int32} (F : Fx p s m args meth c cc nL RX7 rt R cz sz g a) (h : M7_moths x1 x2 x3 x4 σ = some (r, σ1)) (hR : 4 + 1 ≤ R.frames ∧ 8 + (13 + 11) + 34 * 4 ≤ R.locals) (d : decode cc pc = .ok (.invokevirtual 355, 3)) (hrm : (rest.map fun v => v.category).sum ≤ 8) (z : Z p l e R s m args below meth c Q nL g a cz sz σ1 (pc + 3) lv (.long r :: rest)) : Z p l e R s m args below meth c Q nL g a cz sz σ pc lv (.int x4 :: .int x3 :: .int x2 :: .int x1 :: .ref (a 25) :: rest) :=
  z_callVL (nA := 4) (As := [.int x1, .int x2, .int x3, .int x4]) F (ct7_moths h) ⟨(tbm 790 (by decide +kernel) rfl), (tbm 695 (by decide +kernel) rfl), (tbm 696 (by decide +kernel) rfl), (tbm 1 (by decide +kernel) rfl), (tbm 697 (by decide +kernel) rfl)⟩ (by decide +kernel) rfl kdc_25 (by decide) rfl rfl rfl hR d rfl hrm z
theorem zM7_work {r : Int32} {x1 : Int32} {x2 : Int32} {σ : St} (F : Fx p s m args meth c cX7_work 3 RX7 (some .int) (rmL 2) 0 0 g a) (h : M7_work x1 x2 σ = some (r, σ')) : Z p l e (rmL 2) s m args below meth c (MQ below (QiW g a r σ') args s 0 0 (Ad a)) 3 g a 0 0 σ 0 [(0, .ref (a 25)), (1, .int x1), (2, .int x2)] [] := by
  unfold M7_work at h
  refine z_aload_n (q := 0) F dX7_work_0 rfl rfl ?_
  refine z_iload_n (q := 1) F dX7_work_1 rfl rfl ?_
  obtain ⟨r1, σ1, hq1, h⟩ := bd_of h
  refine cl7_112 F hq1 ⟨Nat.le_of_ble_eq_true rfl, Nat.le_of_ble_eq_true rfl⟩ dX7_work_2 (Nat.le_of_ble_eq_true rfl) ?_
  refine z_if_eq (tgt := 28) F dX7_work_5 rfl (fun c2 => ?_) (fun c2 => ?_)
  · have h := ite_T c2 h
    refine z_bipush (v := (-2)) F dX7_work_28 rfl ?_
    exact z_iret F h dX7_work_30
  · have h := ite_F c2 h
    refine z_iload_n (q := 2) F dX7_work_8 rfl rfl ?_
    refine z_iconst (v := 4) F dX7_work_9 rfl ?_
    obtain ⟨r3, σ3, hq3, h⟩ := bd_of h
    refine cl7_83 F hq3 ⟨Nat.le_of_ble_eq_true rfl, Nat.le_of_ble_eq_true rfl⟩ dX7_work_10 (Nat.le_of_ble_eq_true rfl) ?_
    refine z_if_eq (tgt := 28) F dX7_work_13 rfl (fun c4 => ?_) (fun c4 => ?_)
    · have h := ite_T c4 h
      refine z_bipush (v := (-2)) F dX7_work_28 rfl ?_
      exact z_iret F h dX7_work_30
    · have h := ite_F c4 h
      refine z_aload_n (q := 0) F dX7_work_16 rfl rfl ?_
      refine gf7_22 F kdc_25 dX7_work_17 ?_
      refine z_iload_n (q := 1) F dX7_work_20 rfl rfl ?_
      refine z_iload_n (q := 2) F dX7_work_21 rfl rfl ?_
      obtain ⟨r5, σ5, hq5, h⟩ := bd_of h
      refine cl7_108 F kdc_29 hq5 ⟨Nat.le_of_ble_eq_true rfl, Nat.le_of_ble_eq_true rfl⟩ dX7_work_22 (Nat.le_of_ble_eq_true rfl) ?_
      refine z_goto (tgt := 30) F dX7_work_25 rfl ?_
      exact z_iret F h dX7_work_30
theorem ct7_work {r : Int32} {x1 : Int32} {x2 : Int32} {σ : St} (h : M7_work x1 x2 σ = some (r, σ')) : Met l yX7_work (wsY yX7_work cX7_work 3 (some .int)) (rmL 2) (PcW g a [.ref (a 25), .int x1, .int x2] σ) (QiW g a r σ') 0 0 (Ad a) :=
  ct_I (by decide) (Nat.le_of_ble_eq_true rfl) (fun p e s m args below meth c F => zM7_work F h)
theorem cl7_349 {r : Int32} {x1 : Int32} {x2 : Int32} (F : Fx p s m args meth c cc nL RX7 rt R cz sz g a) (h : M7_work x1 x2 σ = some (r, σ1)) (hR : 2 + 1 ≤ R.frames ∧ 8 + (3 + 11) + 34 * 2 ≤ R.locals) (d : decode cc pc = .ok (.invokevirtual 349, 3)) (hrm : (rest.map fun v => v.category).sum ≤ 8) (z : Z p l e R s m args below meth c Q nL g a cz sz σ1 (pc + 3) lv (.int r :: rest)) : Z p l e R s m args below meth c Q nL g a cz sz σ pc lv (.int x2 :: .int x1 :: .ref (a 25) :: rest) :=
  z_callVI (nA := 2) (As := [.int x1, .int x2]) F (ct7_work h) ⟨(tbm 788 (by decide +kernel) rfl), (tbm 414 (by decide +kernel) rfl), (tbm 415 (by decide +kernel) rfl), (tbm 1 (by decide +kernel) rfl), (tbm 416 (by decide +kernel) rfl)⟩ (by decide +kernel) rfl kdc_25 (by decide) rfl rfl rfl hR d rfl hrm z
theorem zM7_digestWork_L6 {r : Int64} {x3 : Int32} (F : Fx p s m args meth c cX7_digestWork 7 RX7 (some .long) (rmL 5) 0 0 g a) {kx : Int64 → St → Option (Int64 × St)} (hx : ∀ (w4 : Int64) (σ : St), kx w4 σ = some (r, σ') → Z p l e (rmL 5) s m args below meth c (MQ below (QlW g a r σ') args s 0 0 (Ad a)) 7 g a 0 0 σ 35 [(0, .ref (a 25)), (3, .int x3), (4, .long w4)] []) : ∀ (n : Nat) (x4 : Int64) (x6 : Int32) (σ : St), M7_digestWork_L6 x3 kx n x4 x6 σ = some (r, σ') → Z p l e (rmL 5) s m args below meth c (MQ below (QlW g a r σ') args s 0 0 (Ad a)) 7 g a 0 0 σ 6 [(0, .ref (a 25)), (3, .int x3), (4, .long x4), (6, .int x6)] [] := by
  intro n
  induction n with
  | zero => intro x4 x6 σ h; rw [M7_digestWork_L6] at h; cases h
  | succ n ih =>
    intro x4 x6 σ h
    rw [M7_digestWork_L6] at h
    refine z_iload (q := 3) F dX7_digestWork_6 rfl ?_
    refine z_iconst (v := 4) F dX7_digestWork_8 rfl ?_
    refine z_icmp_ge (tgt := 35) F dX7_digestWork_9 rfl (fun c1 => ?_) (fun c1 => ?_)
    · have h := ite_T c1 h
      refine z_sub (lv' := [(0, .ref (a 25)), (3, .int x3), (4, .long x4)]) [0, 1, 2] rfl ?_
      exact hx _ _ h
    · have h := ite_F c1 h
      refine z_ldc2 (v := 31) F dX7_digestWork_12 (tbm 774 (by decide +kernel) rfl) ?_
      refine z_lload (q := 2) F dX7_digestWork_15 rfl ?_
      refine z_lmul F dX7_digestWork_17 ?_
      refine z_aload_n (q := 0) F dX7_digestWork_18 rfl rfl ?_
      refine z_iload_n (q := 1) F dX7_digestWork_19 rfl rfl ?_
      refine z_iload (q := 3) F dX7_digestWork_20 rfl ?_
      obtain ⟨r2, σ2, hq2, h⟩ := bd_of h
      refine cl7_349 F hq2 ⟨Nat.le_of_ble_eq_true rfl, Nat.le_of_ble_eq_true rfl⟩ dX7_digestWork_22 (Nat.le_of_ble_eq_true rfl) ?_
      refine z_i2l F dX7_digestWork_25 ?_
      refine z_ladd F dX7_digestWork_26 ?_
      refine z_letJ h (fun v3 h => ?_)
      refine z_lstore (lv' := [(4, .long v3), (0, .ref (a 25)), (3, .int x3), (6, .int x6)]) F dX7_digestWork_27 (by decide) rfl ?_
      refine z_iinc (q := 3) (v := x6 + 1) (lv' := [(6, .int (x6 + 1)), (4, .long v3), (0, .ref (a 25)), (3, .int x3)]) F dX7_digestWork_29 rfl rfl (by decide) rfl ?_
      refine z_letL (s0 := 6) (lv := [(4, .long v3), (0, .ref (a 25)), (3, .int x3)]) h (fun v4 h => ?_)
      refine z_goto (tgt := 6) F dX7_digestWork_32 rfl ?_
      refine z_sub (lv' := [(0, .ref (a 25)), (3, .int x3), (4, .long v3), (6, .int v4)]) [2, 3, 1, 0] rfl ?_
      exact ih _ _ _ h
theorem zM7_digestWork {r : Int64} {x1 : Int64} {x3 : Int32} {σ : St} (F : Fx p s m args meth c cX7_digestWork 7 RX7 (some .long) (rmL 5) 0 0 g a) (h : M7_digestWork x1 x3 σ = some (r, σ')) : Z p l e (rmL 5) s m args below meth c (MQ below (QlW g a r σ') args s 0 0 (Ad a)) 7 g a 0 0 σ 0 [(0, .ref (a 25)), (1, .long x1), (3, .int x3)] [] := by
  unfold M7_digestWork at h
  refine z_lload_n (q := 1) F dX7_digestWork_0 rfl rfl ?_
  refine z_lstore (lv' := [(4, .long x1), (0, .ref (a 25)), (1, .long x1), (3, .int x3)]) F dX7_digestWork_1 (by decide) rfl ?_
  refine z_iconst (v := 0) F dX7_digestWork_3 rfl ?_
  refine z_istore (lv' := [(6, .int 0), (4, .long x1), (0, .ref (a 25)), (1, .long x1), (3, .int x3)]) F dX7_digestWork_4 (by decide) rfl ?_
  refine z_sub (lv' := [(0, .ref (a 25)), (3, .int x3), (4, .long x1), (6, .int 0)]) [2, 4, 1, 0] rfl ?_
  refine zM7_digestWork_L6 F ?_ _ _ _ _ h
  intro v5 σ6 h
  refine z_ldc2 (v := 31) F dX7_digestWork_35 (tbm 774 (by decide +kernel) rfl) ?_
  refine z_lload (q := 2) F dX7_digestWork_38 rfl ?_
  refine z_lmul F dX7_digestWork_40 ?_
  refine z_aload_n (q := 0) F dX7_digestWork_41 rfl rfl ?_
  refine z_iload_n (q := 1) F dX7_digestWork_42 rfl rfl ?_
  refine z_iconst (v := 3) F dX7_digestWork_43 rfl ?_
  refine z_iconst (v := (-1)) F dX7_digestWork_44 rfl ?_
  obtain ⟨r7, σ7, hq7, h⟩ := bd_of h
  refine cl7_352 F hq7 ⟨Nat.le_of_ble_eq_true rfl, Nat.le_of_ble_eq_true rfl⟩ dX7_digestWork_45 (Nat.le_of_ble_eq_true rfl) ?_
  refine z_i2l F dX7_digestWork_48 ?_
  refine z_ladd F dX7_digestWork_49 ?_
  refine z_letJ h (fun v8 h => ?_)
  refine z_lstore (lv' := [(4, .long v8), (0, .ref (a 25)), (3, .int x3)]) F dX7_digestWork_50 (by decide) rfl ?_
  refine z_ldc2 (v := 31) F dX7_digestWork_52 (tbm 774 (by decide +kernel) rfl) ?_
  refine z_lload (q := 0) F dX7_digestWork_55 rfl ?_
  refine z_lmul F dX7_digestWork_57 ?_
  refine z_aload_n (q := 1) F dX7_digestWork_58 rfl rfl ?_
  refine z_iload_n (q := 2) F dX7_digestWork_59 rfl rfl ?_
  refine z_iconst (v := 3) F dX7_digestWork_60 rfl ?_
  refine z_iconst (v := 0) F dX7_digestWork_61 rfl ?_
  obtain ⟨r9, σ9, hq9, h⟩ := bd_of h
  refine cl7_352 F hq9 ⟨Nat.le_of_ble_eq_true rfl, Nat.le_of_ble_eq_true rfl⟩ dX7_digestWork_62 (Nat.le_of_ble_eq_true rfl) ?_
  refine z_i2l F dX7_digestWork_65 ?_
  refine z_ladd F dX7_digestWork_66 ?_
  refine z_letJ h (fun v10 h => ?_)
  refine z_lstore (lv' := [(4, .long v10), (0, .ref (a 25)), (3, .int x3)]) F dX7_digestWork_67 (by decide) rfl ?_
  refine z_ldc2 (v := 31) F dX7_digestWork_69 (tbm 774 (by decide +kernel) rfl) ?_
  refine z_lload (q := 0) F dX7_digestWork_72 rfl ?_
  refine z_lmul F dX7_digestWork_74 ?_
  refine z_aload_n (q := 1) F dX7_digestWork_75 rfl rfl ?_
  refine z_iconst (v := 5) F dX7_digestWork_76 rfl ?_
  refine z_bipush (v := 9) F dX7_digestWork_77 rfl ?_
  refine z_iload_n (q := 2) F dX7_digestWork_79 rfl rfl ?_
  refine z_iconst (v := 0) F dX7_digestWork_80 rfl ?_
  obtain ⟨r11, σ11, hq11, h⟩ := bd_of h
  refine cl7_355 F hq11 ⟨Nat.le_of_ble_eq_true rfl, Nat.le_of_ble_eq_true rfl⟩ dX7_digestWork_81 (Nat.le_of_ble_eq_true rfl) ?_
  refine z_ladd F dX7_digestWork_84 ?_
  refine z_letJ h (fun v12 h => ?_)
  refine z_lstore (lv' := [(4, .long v12), (0, .ref (a 25)), (3, .int x3)]) F dX7_digestWork_85 (by decide) rfl ?_
  refine z_ldc2 (v := 31) F dX7_digestWork_87 (tbm 774 (by decide +kernel) rfl) ?_
  refine z_lload (q := 0) F dX7_digestWork_90 rfl ?_
  refine z_lmul F dX7_digestWork_92 ?_
  refine z_aload_n (q := 1) F dX7_digestWork_93 rfl rfl ?_
  refine z_iconst (v := 5) F dX7_digestWork_94 rfl ?_
  refine z_bipush (v := 9) F dX7_digestWork_95 rfl ?_
  refine z_iload_n (q := 2) F dX7_digestWork_97 rfl rfl ?_
  refine z_iconst (v := 1) F dX7_digestWork_98 rfl ?_
  obtain ⟨r13, σ13, hq13, h⟩ := bd_of h
  refine cl7_355 F hq13 ⟨Nat.le_of_ble_eq_true rfl, Nat.le_of_ble_eq_true rfl⟩ dX7_digestWork_99 (Nat.le_of_ble_eq_true rfl) ?_
  refine z_ladd F dX7_digestWork_102 ?_
  exact z_lret F h dX7_digestWork_103
theorem ct7_digestWork {r : Int64} {x1 : Int64} {x3 : Int32} {σ : St} (h : M7_digestWork x1 x3 σ = some (r, σ')) : Met l yX7_digestWork (wsY yX7_digestWork cX7_digestWork 7 (some .long)) (rmL 5) (PcW g a [.ref (a 25), .long x1, .int x3] σ) (QlW g a r σ') 0 0 (Ad a) :=
  ct_L (by decide) (Nat.le_of_ble_eq_true rfl) (fun p e s m args below meth c F => zM7_digestWork F h)
theorem cl7_318 {r : Int64} {x1 : Int64} {x3 : Int32} (F : Fx p s m args meth c cc nL RX7 rt R cz sz g a) (h : M7_digestWork x1 x3 σ = some (r, σ1)) (hR : 5 + 1 ≤ R.frames ∧ 8 + (7 + 11) + 34 * 5 ≤ R.locals) (d : decode cc pc = .ok (.invokevirtual 318, 3)) (hrm : (rest.map fun v => v.category).sum ≤ 8) (z : Z p l e R s m args below meth c Q nL g a cz sz σ1 (pc + 3) lv (.long r :: rest)) : Z p l e R s m args below meth c Q nL g a cz sz σ pc lv (.int x3 :: .long x1 :: .ref (a 25) :: rest) :=
  z_callVL (nA := 2) (As := [.long x1, .int x3]) F (ct7_digestWork h) ⟨(tbm 784 (by decide +kernel) rfl), (tbm 786 (by decide +kernel) rfl), (tbs 60 (by decide +kernel) rfl), (tbm 1 (by decide +kernel) rfl), (tbm 787 (by decide +kernel) rfl)⟩ (by decide +kernel) rfl kdc_25 (by decide) rfl rfl rfl hR d rfl hrm z
theorem zM7_textOf {r : Nat} {x1 : Int32} {σ : St} (F : Fx p s m args meth c cX7_textOf 2 RX7 (some (.object "HoleBank$Text")) (rmL 0) 0 0 g a) (h : M7_textOf x1 σ = some (r, σ')) : Z p l e (rmL 0) s m args below meth c (MQ below (QrW g a r σ') args s 0 0 (Ad a)) 2 g a 0 0 σ 0 [(0, .ref (a 25)), (1, .int x1)] [] := by
  unfold M7_textOf at h
  refine z_iload_n (q := 1) F dX7_textOf_0 rfl rfl ?_
  refine z_if_ne (tgt := 11) F dX7_textOf_1 rfl (fun c1 => ?_) (fun c1 => ?_)
  · try simp only [if_neg c1] at h
    refine z_aload_n (q := 0) F dX7_textOf_11 rfl rfl ?_
    refine gf7_22 F kdc_25 dX7_textOf_12 ?_
    exact z_aret F h dX7_textOf_15
  · try simp only [if_pos c1] at h
    refine z_aload_n (q := 0) F dX7_textOf_4 rfl rfl ?_
    refine gf7_16 F kdc_25 dX7_textOf_5 ?_
    refine z_goto (tgt := 15) F dX7_textOf_8 rfl ?_
    exact z_aret F h dX7_textOf_15
theorem ct7_textOf {r : Nat} {x1 : Int32} {σ : St} (h : M7_textOf x1 σ = some (r, σ')) : Met l yX7_textOf (wsY yX7_textOf cX7_textOf 2 (some (.object "HoleBank$Text"))) (rmL 0) (PcW g a [.ref (a 25), .int x1] σ) (QrW g a r σ') 0 0 (Ad a) :=
  ct_R (by decide) (Nat.le_of_ble_eq_true rfl) (fun p e s m args below meth c F => zM7_textOf F h)
theorem cl7_87 {r : Nat} {x1 : Int32} (F : Fx p s m args meth c cc nL RX7 rt R cz sz g a) (h : M7_textOf x1 σ = some (r, σ1)) (hR : 0 + 1 ≤ R.frames ∧ 8 + (2 + 11) + 34 * 0 ≤ R.locals) (d : decode cc pc = .ok (.invokevirtual 87, 3)) (hrm : (rest.map fun v => v.category).sum ≤ 8) (z : Z p l e R s m args below meth c Q nL g a cz sz σ1 (pc + 3) lv (.ref (a r) :: rest)) : Z p l e R s m args below meth c Q nL g a cz sz σ pc lv (.int x1 :: .ref (a 25) :: rest) :=
  z_callVR (nA := 1) (As := [.int x1]) F (ct7_textOf h) ⟨(tbm 276 (by decide +kernel) rfl), (tbm 278 (by decide +kernel) rfl), (tbs 0 (by decide +kernel) rfl), (tbm 1 (by decide +kernel) rfl), (tbm 279 (by decide +kernel) rfl)⟩ (by decide +kernel) rfl kdc_25 (by decide) rfl rfl rfl hR d rfl hrm z
theorem zM7_fault {r : Int32} {x1 : Int32} {σ : St} (F : Fx p s m args meth c cX7_fault 2 RX7 (some .int) (rmL 1) 0 0 g a) (h : M7_fault x1 σ = some (r, σ')) : Z p l e (rmL 1) s m args below meth c (MQ below (QiW g a r σ') args s 0 0 (Ad a)) 2 g a 0 0 σ 0 [(0, .ref (a 25)), (1, .int x1)] [] := by
  unfold M7_fault at h
  refine z_iload_n (q := 1) F dX7_fault_0 rfl rfl ?_
  refine z_iconst (v := 2) F dX7_fault_1 rfl ?_
  obtain ⟨r1, σ1, hq1, h⟩ := bd_of h
  refine cl7_83 F hq1 ⟨Nat.le_of_ble_eq_true rfl, Nat.le_of_ble_eq_true rfl⟩ dX7_fault_2 (Nat.le_of_ble_eq_true rfl) ?_
  refine z_if_eq (tgt := 19) F dX7_fault_5 rfl (fun c2 => ?_) (fun c2 => ?_)
  · have h := ite_T c2 h
    refine z_bipush (v := (-2)) F dX7_fault_19 rfl ?_
    exact z_iret F h dX7_fault_21
  · have h := ite_F c2 h
    refine z_aload_n (q := 0) F dX7_fault_8 rfl rfl ?_
    refine z_iload_n (q := 1) F dX7_fault_9 rfl rfl ?_
    obtain ⟨r3, σ3, hq3, h⟩ := bd_of h
    obtain ⟨g4, h⟩ := gd_of h
    refine cl7_87 F hq3 ⟨Nat.le_of_ble_eq_true rfl, Nat.le_of_ble_eq_true rfl⟩ dX7_fault_10 (Nat.le_of_ble_eq_true rfl) ?_
    refine gf7_101 F g4 dX7_fault_13 ?_
    refine z_goto (tgt := 21) F dX7_fault_16 rfl ?_
    exact z_iret F h dX7_fault_21
theorem ct7_fault {r : Int32} {x1 : Int32} {σ : St} (h : M7_fault x1 σ = some (r, σ')) : Met l yX7_fault (wsY yX7_fault cX7_fault 2 (some .int)) (rmL 1) (PcW g a [.ref (a 25), .int x1] σ) (QiW g a r σ') 0 0 (Ad a) :=
  ct_I (by decide) (Nat.le_of_ble_eq_true rfl) (fun p e s m args below meth c F => zM7_fault F h)
theorem cl7_312 {r : Int32} {x1 : Int32} (F : Fx p s m args meth c cc nL RX7 rt R cz sz g a) (h : M7_fault x1 σ = some (r, σ1)) (hR : 1 + 1 ≤ R.frames ∧ 8 + (2 + 11) + 34 * 1 ≤ R.locals) (d : decode cc pc = .ok (.invokevirtual 312, 3)) (hrm : (rest.map fun v => v.category).sum ≤ 8) (z : Z p l e R s m args below meth c Q nL g a cz sz σ1 (pc + 3) lv (.int r :: rest)) : Z p l e R s m args below meth c Q nL g a cz sz σ pc lv (.int x1 :: .ref (a 25) :: rest) :=
  z_callVI (nA := 1) (As := [.int x1]) F (ct7_fault h) ⟨(tbm 776 (by decide +kernel) rfl), (tbm 398 (by decide +kernel) rfl), (tbm 399 (by decide +kernel) rfl), (tbm 1 (by decide +kernel) rfl), (tbm 400 (by decide +kernel) rfl)⟩ (by decide +kernel) rfl kdc_25 (by decide) rfl rfl rfl hR d rfl hrm z
theorem zM7_first_J55 {r : Int32} {o1 : Nat} {x2 : Int32} {x3 : Int32} {x4 : Int32} {σ : St} (F : Fx p s m args meth c cX7_first 6 RX7 (some .int) (rmL 4) 0 0 g a) (ko1 : kd o1 = 1) {kb : Int32 → Int32 → Int32 → St → Option (Int32 × St)} (hb : ∀ (w2 : Int32) (w3 : Int32) (w4 : Int32) (σ : St), kb w2 w3 w4 σ = some (r, σ') → Z p l e (rmL 4) s m args below meth c (MQ below (QiW g a r σ') args s 0 0 (Ad a)) 6 g a 0 0 σ 13 [(0, .ref (a 25)), (1, .ref (a o1)), (2, .int w2), (3, .int w3), (4, .int w4)] []) (h : M7_first_J55 kb o1 x2 x3 x4 σ = some (r, σ')) : Z p l e (rmL 4) s m args below meth c (MQ below (QiW g a r σ') args s 0 0 (Ad a)) 6 g a 0 0 σ 55 [(0, .ref (a 25)), (1, .ref (a o1)), (2, .int x2), (3, .int x3), (4, .int x4)] [] := by
  unfold M7_first_J55 at h
  refine z_iinc (q := 4) (v := x4 + 1) (lv' := [(4, .int (x4 + 1)), (0, .ref (a 25)), (1, .ref (a o1)), (2, .int x2), (3, .int x3)]) F dX7_first_55 rfl rfl (by decide) rfl ?_
  refine z_letL (s0 := 4) (lv := [(0, .ref (a 25)), (1, .ref (a o1)), (2, .int x2), (3, .int x3)]) h (fun v7 h => ?_)
  refine z_goto (tgt := 13) F dX7_first_58 rfl ?_
  refine z_sub (lv' := [(0, .ref (a 25)), (1, .ref (a o1)), (2, .int x2), (3, .int x3), (4, .int v7)]) [1, 2, 3, 4, 0] rfl ?_
  exact hb _ _ _ _ h
theorem zM7_first_L13 {r : Int32} {o1 : Nat} (F : Fx p s m args meth c cX7_first 6 RX7 (some .int) (rmL 4) 0 0 g a) (ko1 : kd o1 = 1) {kx : Int32 → St → Option (Int32 × St)} (hx : ∀ (w2 : Int32) (σ : St), kx w2 σ = some (r, σ') → Z p l e (rmL 4) s m args below meth c (MQ below (QiW g a r σ') args s 0 0 (Ad a)) 6 g a 0 0 σ 61 [(2, .int w2)] []) : ∀ (n : Nat) (x2 : Int32) (x3 : Int32) (x4 : Int32) (σ : St), M7_first_L13 o1 kx n x2 x3 x4 σ = some (r, σ') → Z p l e (rmL 4) s m args below meth c (MQ below (QiW g a r σ') args s 0 0 (Ad a)) 6 g a 0 0 σ 13 [(0, .ref (a 25)), (1, .ref (a o1)), (2, .int x2), (3, .int x3), (4, .int x4)] [] := by
  intro n
  induction n with
  | zero => intro x2 x3 x4 σ h; rw [M7_first_L13] at h; cases h
  | succ n ih =>
    intro x2 x3 x4 σ h
    rw [M7_first_L13] at h
    refine z_iload (q := 4) F dX7_first_13 rfl ?_
    refine z_aload_n (q := 0) F dX7_first_15 rfl rfl ?_
    refine gf7_30 F kdc_25 dX7_first_16 ?_
    refine gf7_119 F kdc_32 dX7_first_19 ?_
    refine gf7_140 F kdc_33 dX7_first_22 ?_
    refine z_icmp_ge (tgt := 61) F dX7_first_25 rfl (fun c3 => ?_) (fun c3 => ?_)
    · have h := ite_T c3 h
      refine z_sub (lv' := [(2, .int x2)]) [2] rfl ?_
      exact hx _ _ h
    · have h := ite_F c3 h
      refine z_aload_n (q := 1) F dX7_first_28 rfl rfl ?_
      refine gf7_184 F ko1 dX7_first_29 ?_
      refine z_iload (q := 4) F dX7_first_32 rfl ?_
      obtain ⟨g4, h⟩ := gd_of h
      refine z_iald F (kf_1_7 ko1) (inl (lf_1_7 ko1) g4) dX7_first_34 ?_
      refine z_letI h (fun v5 h => ?_)
      refine z_istore (lv' := [(5, .int v5), (0, .ref (a 25)), (1, .ref (a o1)), (2, .int x2), (3, .int x3), (4, .int x4)]) F dX7_first_35 (by decide) rfl ?_
      refine z_iload (q := 0) F dX7_first_37 rfl ?_
      refine z_iconst (v := (-1)) F dX7_first_39 rfl ?_
      refine z_icmp_eq (tgt := 55) F dX7_first_40 rfl (fun c6 => ?_) (fun c6 => ?_)
      · try simp only [if_pos c6] at h
        refine z_sub (lv' := [(0, .ref (a 25)), (1, .ref (a o1)), (2, .int x2), (3, .int x3), (4, .int x4)]) [1, 2, 3, 4, 5] rfl ?_
        exact zM7_first_J55 F ko1 ih h
      · try simp only [if_neg c6] at h
        refine z_iload (q := 0) F dX7_first_43 rfl ?_
        refine z_iload_n (q := 4) F dX7_first_45 rfl rfl ?_
        refine z_icmp_ge (tgt := 55) F dX7_first_46 rfl (fun c8 => ?_) (fun c8 => ?_)
        · try simp only [if_pos c8] at h
          refine z_sub (lv' := [(0, .ref (a 25)), (1, .ref (a o1)), (2, .int x2), (3, .int x3), (4, .int x4)]) [1, 2, 3, 4, 5] rfl ?_
          exact zM7_first_J55 F ko1 ih h
        · try simp only [if_neg c8] at h
          refine z_iload (q := 5) F dX7_first_49 rfl ?_
          refine z_istore_n (lv' := [(2, .int x4), (5, .int v5), (0, .ref (a 25)), (1, .ref (a o1)), (3, .int x3), (4, .int x4)]) F dX7_first_51 rfl (by decide) rfl ?_
          refine z_iload (q := 1) F dX7_first_52 rfl ?_
          refine z_istore_n (lv' := [(3, .int v5), (2, .int x4), (5, .int v5), (0, .ref (a 25)), (1, .ref (a o1)), (4, .int x4)]) F dX7_first_54 rfl (by decide) rfl ?_
          refine z_sub (lv' := [(0, .ref (a 25)), (1, .ref (a o1)), (2, .int x4), (3, .int v5), (4, .int x4)]) [3, 4, 1, 0, 5] rfl ?_
          exact zM7_first_J55 F ko1 ih h
theorem zM7_first {r : Int32} {σ : St} (F : Fx p s m args meth c cX7_first 6 RX7 (some .int) (rmL 4) 0 0 g a) (h : M7_first σ = some (r, σ')) : Z p l e (rmL 4) s m args below meth c (MQ below (QiW g a r σ') args s 0 0 (Ad a)) 6 g a 0 0 σ 0 [(0, .ref (a 25))] [] := by
  unfold M7_first at h
  refine z_aload_n (q := 0) F dX7_first_0 rfl rfl ?_
  obtain ⟨r1, σ1, hq1, h⟩ := bd_of h
  obtain ⟨g2, h⟩ := gd_of h
  refine cl7_159 F hq1 ⟨Nat.le_of_ble_eq_true rfl, Nat.le_of_ble_eq_true rfl⟩ dX7_first_1 (Nat.le_of_ble_eq_true rfl) ?_
  refine z_astore_n (lv' := [(1, .ref (a r1)), (0, .ref (a 25))]) F dX7_first_4 rfl (by decide) rfl ?_
  refine z_iconst (v := (-1)) F dX7_first_5 rfl ?_
  refine z_istore_n (lv' := [(2, .int ((-1))), (1, .ref (a r1)), (0, .ref (a 25))]) F dX7_first_6 rfl (by decide) rfl ?_
  refine z_bipush (v := 40) F dX7_first_7 rfl ?_
  refine z_istore_n (lv' := [(3, .int 40), (2, .int ((-1))), (1, .ref (a r1)), (0, .ref (a 25))]) F dX7_first_9 rfl (by decide) rfl ?_
  refine z_iconst (v := 0) F dX7_first_10 rfl ?_
  refine z_istore (lv' := [(4, .int 0), (3, .int 40), (2, .int ((-1))), (1, .ref (a r1)), (0, .ref (a 25))]) F dX7_first_11 (by decide) rfl ?_
  refine z_sub (lv' := [(0, .ref (a 25)), (1, .ref (a r1)), (2, .int ((-1))), (3, .int 40), (4, .int 0)]) [4, 3, 2, 1, 0] rfl ?_
  refine zM7_first_L13 F g2 ?_ _ _ _ _ _ h
  intro v9 σ10 h
  refine z_iload_n (q := 0) F dX7_first_61 rfl rfl ?_
  exact z_iret F h dX7_first_62
theorem ct7_first {r : Int32} {σ : St} (h : M7_first σ = some (r, σ')) : Met l yX7_first (wsY yX7_first cX7_first 6 (some .int)) (rmL 4) (PcW g a [.ref (a 25)] σ) (QiW g a r σ') 0 0 (Ad a) :=
  ct_I (by decide) (Nat.le_of_ble_eq_true rfl) (fun p e s m args below meth c F => zM7_first F h)
theorem cl7_330 {r : Int32} (F : Fx p s m args meth c cc nL RX7 rt R cz sz g a) (h : M7_first σ = some (r, σ1)) (hR : 4 + 1 ≤ R.frames ∧ 8 + (6 + 11) + 34 * 4 ≤ R.locals) (d : decode cc pc = .ok (.invokevirtual 330, 3)) (hrm : (rest.map fun v => v.category).sum ≤ 8) (z : Z p l e R s m args below meth c Q nL g a cz sz σ1 (pc + 3) lv (.int r :: rest)) : Z p l e R s m args below meth c Q nL g a cz sz σ pc lv (.ref (a 25) :: rest) :=
  z_callVI (nA := 0) (As := []) F (ct7_first h) ⟨(tbm 801 (by decide +kernel) rfl), (tbm 571 (by decide +kernel) rfl), (tbm 572 (by decide +kernel) rfl), (tbm 1 (by decide +kernel) rfl), (tbm 573 (by decide +kernel) rfl)⟩ (by decide +kernel) rfl kdc_25 (by decide) rfl rfl rfl hR d rfl hrm z
theorem zM7_never_J97 {r : Int32} {x1 : Int32} {x2 : Int32} {x3 : Int32} {x4 : Int32} {x5 : Int32} {σ : St} (F : Fx p s m args meth c cX7_never 7 RX7 (some .int) (rmL 4) 0 0 g a) {kb : Int32 → Int32 → St → Option (Int32 × St)} (hb : ∀ (w2 : Int32) (w5 : Int32) (σ : St), kb w2 w5 σ = some (r, σ') → Z p l e (rmL 4) s m args below meth c (MQ below (QiW g a r σ') args s 0 0 (Ad a)) 7 g a 0 0 σ 50 [(0, .ref (a 25)), (1, .int x1), (2, .int w2), (3, .int x3), (4, .int x4), (5, .int w5)] []) (h : M7_never_J97 kb x1 x2 x3 x4 x5 σ = some (r, σ')) : Z p l e (rmL 4) s m args below meth c (MQ below (QiW g a r σ') args s 0 0 (Ad a)) 7 g a 0 0 σ 97 [(0, .ref (a 25)), (1, .int x1), (2, .int x2), (3, .int x3), (4, .int x4), (5, .int x5)] [] := by
  unfold M7_never_J97 at h
  refine z_iinc (q := 5) (v := x5 + 1) (lv' := [(5, .int (x5 + 1)), (0, .ref (a 25)), (1, .int x1), (2, .int x2), (3, .int x3), (4, .int x4)]) F dX7_never_97 rfl rfl (by decide) rfl ?_
  refine z_letL (s0 := 5) (lv := [(0, .ref (a 25)), (1, .int x1), (2, .int x2), (3, .int x3), (4, .int x4)]) h (fun v11 h => ?_)
  refine z_goto (tgt := 50) F dX7_never_100 rfl ?_
  refine z_sub (lv' := [(0, .ref (a 25)), (1, .int x1), (2, .int x2), (3, .int x3), (4, .int x4), (5, .int v11)]) [1, 2, 3, 4, 5, 0] rfl ?_
  exact hb _ _ _ h
theorem zM7_never_J79 {r : Int32} {x1 : Int32} {x2 : Int32} {x3 : Int32} {x4 : Int32} {x5 : Int32} {y0 : Nat} {σ : St} (F : Fx p s m args meth c cX7_never 7 RX7 (some .int) (rmL 4) 0 0 g a) (ky0 : kd y0 = 1) {kb : Int32 → Int32 → St → Option (Int32 × St)} (hb : ∀ (w2 : Int32) (w5 : Int32) (σ : St), kb w2 w5 σ = some (r, σ') → Z p l e (rmL 4) s m args below meth c (MQ below (QiW g a r σ') args s 0 0 (Ad a)) 7 g a 0 0 σ 50 [(0, .ref (a 25)), (1, .int x1), (2, .int w2), (3, .int x3), (4, .int x4), (5, .int w5)] []) (h : M7_never_J79 kb x1 x2 x3 x4 x5 y0 σ = some (r, σ')) : Z p l e (rmL 4) s m args below meth c (MQ below (QiW g a r σ') args s 0 0 (Ad a)) 7 g a 0 0 σ 79 [(0, .ref (a 25)), (1, .int x1), (2, .int x2), (3, .int x3), (4, .int x4), (5, .int x5)] [.ref (a y0)] := by
  unfold M7_never_J79 at h
  refine z_astore (lv' := [(6, .ref (a y0)), (0, .ref (a 25)), (1, .int x1), (2, .int x2), (3, .int x3), (4, .int x4), (5, .int x5)]) F dX7_never_79 (by decide) rfl ?_
  refine z_aload_n (q := 1) F dX7_never_81 rfl rfl ?_
  refine z_aload (q := 0) F dX7_never_82 rfl ?_
  obtain ⟨r9, σ9, hq9, h⟩ := bd_of h
  refine cl7_225 F ky0 hq9 ⟨Nat.le_of_ble_eq_true rfl, Nat.le_of_ble_eq_true rfl⟩ dX7_never_84 (Nat.le_of_ble_eq_true rfl) ?_
  refine z_if_eq (tgt := 97) F dX7_never_87 rfl (fun c10 => ?_) (fun c10 => ?_)
  · have h := ite_T c10 h
    refine z_sub (lv' := [(0, .ref (a 25)), (1, .int x1), (2, .int x2), (3, .int x3), (4, .int x4), (5, .int x5)]) [1, 2, 3, 4, 5, 6] rfl ?_
    exact zM7_never_J97 F hb h
  · have h := ite_F c10 h
    refine z_iload_n (q := 3) F dX7_never_90 rfl rfl ?_
    refine z_iconst (v := 1) F dX7_never_91 rfl ?_
    refine z_iload (q := 6) F dX7_never_92 rfl ?_
    refine z_ishl F dX7_never_94 ?_
    refine z_ior F dX7_never_95 ?_
    refine z_letI h (fun v12 h => ?_)
    refine z_istore_n (lv' := [(2, .int v12), (6, .ref (a y0)), (0, .ref (a 25)), (1, .int x1), (3, .int x3), (4, .int x4), (5, .int x5)]) F dX7_never_96 rfl (by decide) rfl ?_
    refine z_sub (lv' := [(0, .ref (a 25)), (1, .int x1), (2, .int v12), (3, .int x3), (4, .int x4), (5, .int x5)]) [2, 3, 0, 4, 5, 6] rfl ?_
    exact zM7_never_J97 F hb h
theorem zM7_never_L50 {r : Int32} {x1 : Int32} {x3 : Int32} {x4 : Int32} (F : Fx p s m args meth c cX7_never 7 RX7 (some .int) (rmL 4) 0 0 g a) {kx : Int32 → St → Option (Int32 × St)} (hx : ∀ (w2 : Int32) (σ : St), kx w2 σ = some (r, σ') → Z p l e (rmL 4) s m args below meth c (MQ below (QiW g a r σ') args s 0 0 (Ad a)) 7 g a 0 0 σ 103 [(2, .int w2)] []) : ∀ (n : Nat) (x2 : Int32) (x5 : Int32) (σ : St), M7_never_L50 x1 x3 x4 kx n x2 x5 σ = some (r, σ') → Z p l e (rmL 4) s m args below meth c (MQ below (QiW g a r σ') args s 0 0 (Ad a)) 7 g a 0 0 σ 50 [(0, .ref (a 25)), (1, .int x1), (2, .int x2), (3, .int x3), (4, .int x4), (5, .int x5)] [] := by
  intro n
  induction n with
  | zero => intro x2 x5 σ h; rw [M7_never_L50] at h; cases h
  | succ n ih =>
    intro x2 x5 σ h
    rw [M7_never_L50] at h
    refine z_iload (q := 5) F dX7_never_50 rfl ?_
    refine z_iload_n (q := 3) F dX7_never_52 rfl rfl ?_
    refine z_icmp_ge (tgt := 103) F dX7_never_53 rfl (fun c5 => ?_) (fun c5 => ?_)
    · have h := ite_T c5 h
      refine z_sub (lv' := [(2, .int x2)]) [2] rfl ?_
      exact hx _ _ h
    · have h := ite_F c5 h
      refine z_iload_n (q := 1) F dX7_never_56 rfl rfl ?_
      refine z_if_ne (tgt := 71) F dX7_never_57 rfl (fun c6 => ?_) (fun c6 => ?_)
      · have h := ite_F c6 h
        refine z_aload_n (q := 0) F dX7_never_71 rfl rfl ?_
        refine z_iload (q := 5) F dX7_never_72 rfl ?_
        refine z_iload (q := 4) F dX7_never_74 rfl ?_
        obtain ⟨r7, σ7, hq7, h⟩ := bd_of h
        obtain ⟨g8, h⟩ := gd_of h
        refine cl7_222 F hq7 ⟨Nat.le_of_ble_eq_true rfl, Nat.le_of_ble_eq_true rfl⟩ dX7_never_76 (Nat.le_of_ble_eq_true rfl) ?_
        refine z_sub (lv' := [(0, .ref (a 25)), (1, .int x1), (2, .int x2), (3, .int x3), (4, .int x4), (5, .int x5)]) [0, 1, 2, 3, 4, 5] rfl ?_
        exact zM7_never_J79 F g8 ih h
      · have h := ite_T c6 h
        refine z_aload_n (q := 0) F dX7_never_60 rfl rfl ?_
        refine z_iload (q := 5) F dX7_never_61 rfl ?_
        refine z_iload (q := 4) F dX7_never_63 rfl ?_
        obtain ⟨r13, σ13, hq13, h⟩ := bd_of h
        obtain ⟨g14, h⟩ := gd_of h
        refine cl7_211 F hq13 ⟨Nat.le_of_ble_eq_true rfl, Nat.le_of_ble_eq_true rfl⟩ dX7_never_65 (Nat.le_of_ble_eq_true rfl) ?_
        refine z_goto (tgt := 79) F dX7_never_68 rfl ?_
        refine z_sub (lv' := [(0, .ref (a 25)), (1, .int x1), (2, .int x2), (3, .int x3), (4, .int x4), (5, .int x5)]) [0, 1, 2, 3, 4, 5] rfl ?_
        exact zM7_never_J79 F g14 ih h
theorem zM7_never_J40 {r : Int32} {x1 : Int32} {x2 : Int32} {y0 : Int32} {σ : St} (F : Fx p s m args meth c cX7_never 7 RX7 (some .int) (rmL 4) 0 0 g a) (h : M7_never_J40 x1 x2 y0 σ = some (r, σ')) : Z p l e (rmL 4) s m args below meth c (MQ below (QiW g a r σ') args s 0 0 (Ad a)) 7 g a 0 0 σ 40 [(0, .ref (a 25)), (1, .int x1), (2, .int x2)] [.int y0] := by
  unfold M7_never_J40 at h
  refine z_istore_n (lv' := [(3, .int y0), (0, .ref (a 25)), (1, .int x1), (2, .int x2)]) F dX7_never_40 rfl (by decide) rfl ?_
  refine z_aload_n (q := 1) F dX7_never_41 rfl rfl ?_
  obtain ⟨r4, σ4, hq4, h⟩ := bd_of h
  refine cl7_218 F hq4 ⟨Nat.le_of_ble_eq_true rfl, Nat.le_of_ble_eq_true rfl⟩ dX7_never_42 (Nat.le_of_ble_eq_true rfl) ?_
  refine z_istore (lv' := [(4, .int r4), (3, .int y0), (0, .ref (a 25)), (1, .int x1), (2, .int x2)]) F dX7_never_45 (by decide) rfl ?_
  refine z_iconst (v := 0) F dX7_never_47 rfl ?_
  refine z_istore (lv' := [(5, .int 0), (4, .int r4), (3, .int y0), (0, .ref (a 25)), (1, .int x1), (2, .int x2)]) F dX7_never_48 (by decide) rfl ?_
  refine z_sub (lv' := [(0, .ref (a 25)), (1, .int x1), (2, .int x2), (3, .int y0), (4, .int r4), (5, .int 0)]) [3, 4, 5, 2, 1, 0] rfl ?_
  refine zM7_never_L50 F ?_ _ _ _ _ h
  intro v15 σ16 h
  refine z_iload_n (q := 0) F dX7_never_103 rfl rfl ?_
  exact z_iret F h dX7_never_104
theorem zM7_never {r : Int32} {x1 : Int32} {σ : St} (F : Fx p s m args meth c cX7_never 7 RX7 (some .int) (rmL 4) 0 0 g a) (h : M7_never x1 σ = some (r, σ')) : Z p l e (rmL 4) s m args below meth c (MQ below (QiW g a r σ') args s 0 0 (Ad a)) 7 g a 0 0 σ 0 [(0, .ref (a 25)), (1, .int x1)] [] := by
  unfold M7_never at h
  refine z_iload_n (q := 1) F dX7_never_0 rfl rfl ?_
  refine z_iconst (v := 2) F dX7_never_1 rfl ?_
  obtain ⟨r1, σ1, hq1, h⟩ := bd_of h
  refine cl7_83 F hq1 ⟨Nat.le_of_ble_eq_true rfl, Nat.le_of_ble_eq_true rfl⟩ dX7_never_2 (Nat.le_of_ble_eq_true rfl) ?_
  refine z_if_ne (tgt := 11) F dX7_never_5 rfl (fun c2 => ?_) (fun c2 => ?_)
  · have h := ite_F c2 h
    refine z_iconst (v := 0) F dX7_never_11 rfl ?_
    refine z_istore_n (lv' := [(2, .int 0), (0, .ref (a 25)), (1, .int x1)]) F dX7_never_12 rfl (by decide) rfl ?_
    refine z_iload_n (q := 2) F dX7_never_13 rfl rfl ?_
    refine z_if_ne (tgt := 30) F dX7_never_14 rfl (fun c3 => ?_) (fun c3 => ?_)
    · try simp only [if_neg c3] at h
      refine z_aload_n (q := 1) F dX7_never_30 rfl rfl ?_
      refine gf7_30 F kdc_25 dX7_never_31 ?_
      refine gf7_137 F kdc_32 dX7_never_34 ?_
      refine gf7_140 F kdc_37 dX7_never_37 ?_
      refine z_sub (lv' := [(0, .ref (a 25)), (1, .int x1), (2, .int 0)]) [1, 2, 0] rfl ?_
      exact zM7_never_J40 F h
    · try simp only [if_pos c3] at h
      refine z_aload_n (q := 1) F dX7_never_17 rfl rfl ?_
      refine gf7_30 F kdc_25 dX7_never_18 ?_
      refine gf7_119 F kdc_32 dX7_never_21 ?_
      refine gf7_140 F kdc_33 dX7_never_24 ?_
      refine z_goto (tgt := 40) F dX7_never_27 rfl ?_
      refine z_sub (lv' := [(0, .ref (a 25)), (1, .int x1), (2, .int 0)]) [1, 2, 0] rfl ?_
      exact zM7_never_J40 F h
  · have h := ite_T c2 h
    refine z_bipush (v := (-2)) F dX7_never_8 rfl ?_
    exact z_iret F h dX7_never_10
theorem ct7_never {r : Int32} {x1 : Int32} {σ : St} (h : M7_never x1 σ = some (r, σ')) : Met l yX7_never (wsY yX7_never cX7_never 7 (some .int)) (rmL 4) (PcW g a [.ref (a 25), .int x1] σ) (QiW g a r σ') 0 0 (Ad a) :=
  ct_I (by decide) (Nat.le_of_ble_eq_true rfl) (fun p e s m args below meth c F => zM7_never F h)
theorem cl7_333 {r : Int32} {x1 : Int32} (F : Fx p s m args meth c cc nL RX7 rt R cz sz g a) (h : M7_never x1 σ = some (r, σ1)) (hR : 4 + 1 ≤ R.frames ∧ 8 + (7 + 11) + 34 * 4 ≤ R.locals) (d : decode cc pc = .ok (.invokevirtual 333, 3)) (hrm : (rest.map fun v => v.category).sum ≤ 8) (z : Z p l e R s m args below meth c Q nL g a cz sz σ1 (pc + 3) lv (.int r :: rest)) : Z p l e R s m args below meth c Q nL g a cz sz σ pc lv (.int x1 :: .ref (a 25) :: rest) :=
  z_callVI (nA := 1) (As := [.int x1]) F (ct7_never h) ⟨(tbm 802 (by decide +kernel) rfl), (tbm 662 (by decide +kernel) rfl), (tbm 663 (by decide +kernel) rfl), (tbm 1 (by decide +kernel) rfl), (tbm 664 (by decide +kernel) rfl)⟩ (by decide +kernel) rfl kdc_25 (by decide) rfl rfl rfl hR d rfl hrm z
theorem zM7_lotOf {r : Int32} {x0 : Int32} {x1 : Int32} {σ : St} (F : Fx p s m args meth c cX7_lotOf 2 RX7 (some .int) (rmL 0) 0 0 g a) (h : M7_lotOf x0 x1 σ = some (r, σ')) : Z p l e (rmL 0) s m args below meth c (MQ below (QiW g a r σ') args s 0 0 (Ad a)) 2 g a 0 0 σ 0 [(0, .int x0), (1, .int x1)] [] := by
  unfold M7_lotOf at h
  refine z_iload_n (q := 1) F dX7_lotOf_0 rfl rfl ?_
  refine z_iconst (v := 1) F dX7_lotOf_1 rfl ?_
  refine z_icmp_ge (tgt := 9) F dX7_lotOf_2 rfl (fun c1 => ?_) (fun c1 => ?_)
  · have h := ite_T c1 h
    refine z_iload_n (q := 0) F dX7_lotOf_9 rfl rfl ?_
    refine z_bipush (v := 16) F dX7_lotOf_10 rfl ?_
    refine z_iushr F dX7_lotOf_12 ?_
    refine z_iload_n (q := 1) F dX7_lotOf_13 rfl rfl ?_
    obtain ⟨g2, h⟩ := gd_of h
    refine z_irem F dX7_lotOf_14 g2 ?_
    exact z_iret F h dX7_lotOf_15
  · have h := ite_F c1 h
    refine z_iconst (v := 0) F dX7_lotOf_5 rfl ?_
    refine z_goto (tgt := 15) F dX7_lotOf_6 rfl ?_
    exact z_iret F h dX7_lotOf_15
theorem ct7_lotOf {r : Int32} {x0 : Int32} {x1 : Int32} {σ : St} (h : M7_lotOf x0 x1 σ = some (r, σ')) : Met l yX7_lotOf (wsY yX7_lotOf cX7_lotOf 2 (some .int)) (rmL 0) (PcW g a [.int x0, .int x1] σ) (QiW g a r σ') 0 0 (Ad a) :=
  ct_I (by decide) (Nat.le_of_ble_eq_true rfl) (fun p e s m args below meth c F => zM7_lotOf F h)
theorem cl7_264 {r : Int32} {x0 : Int32} {x1 : Int32} (F : Fx p s m args meth c cc nL RX7 rt R cz sz g a) (h : M7_lotOf x0 x1 σ = some (r, σ1)) (hR : 0 + 1 ≤ R.frames ∧ 8 + (2 + 11) + 34 * 0 ≤ R.locals) (d : decode cc pc = .ok (.invokestatic 264, 3)) (hrm : (rest.map fun v => v.category).sum ≤ 8) (z : Z p l e R s m args below meth c Q nL g a cz sz σ1 (pc + 3) lv (.int r :: rest)) : Z p l e R s m args below meth c Q nL g a cz sz σ pc lv (.int x1 :: .int x0 :: rest) :=
  z_callSI (nA := 2) (As := [.int x0, .int x1]) F (ct7_lotOf h) ⟨(tbm 714 (by decide +kernel) rfl), (tbm 715 (by decide +kernel) rfl), (tbm 1 (by decide +kernel) rfl), (tbm 716 (by decide +kernel) rfl)⟩ (by decide +kernel) rfl hR d rfl hrm z
theorem zM7_nextLot {r : Int32} {x0 : Int32} {σ : St} (F : Fx p s m args meth c cX7_nextLot 1 RX7 (some .int) (rmL 0) 0 0 g a) (h : M7_nextLot x0 σ = some (r, σ')) : Z p l e (rmL 0) s m args below meth c (MQ below (QiW g a r σ') args s 0 0 (Ad a)) 1 g a 0 0 σ 0 [(0, .int x0)] [] := by
  unfold M7_nextLot at h
  refine z_ldcw (v := 1103515245) F dX7_nextLot_0 (tbm 713 (by decide +kernel) rfl) ?_
  refine z_iload_n (q := 0) F dX7_nextLot_3 rfl rfl ?_
  refine z_imul F dX7_nextLot_4 ?_
  refine z_sipush (v := 12345) F dX7_nextLot_5 rfl ?_
  refine z_iadd F dX7_nextLot_8 ?_
  exact z_iret F h dX7_nextLot_9
theorem ct7_nextLot {r : Int32} {x0 : Int32} {σ : St} (h : M7_nextLot x0 σ = some (r, σ')) : Met l yX7_nextLot (wsY yX7_nextLot cX7_nextLot 1 (some .int)) (rmL 0) (PcW g a [.int x0] σ) (QiW g a r σ') 0 0 (Ad a) :=
  ct_I (by decide) (Nat.le_of_ble_eq_true rfl) (fun p e s m args below meth c F => zM7_nextLot F h)
theorem cl7_261 {r : Int32} {x0 : Int32} (F : Fx p s m args meth c cc nL RX7 rt R cz sz g a) (h : M7_nextLot x0 σ = some (r, σ1)) (hR : 0 + 1 ≤ R.frames ∧ 8 + (1 + 11) + 34 * 0 ≤ R.locals) (d : decode cc pc = .ok (.invokestatic 261, 3)) (hrm : (rest.map fun v => v.category).sum ≤ 8) (z : Z p l e R s m args below meth c Q nL g a cz sz σ1 (pc + 3) lv (.int r :: rest)) : Z p l e R s m args below meth c Q nL g a cz sz σ pc lv (.int x0 :: rest) :=
  z_callSI (nA := 1) (As := [.int x0]) F (ct7_nextLot h) ⟨(tbm 710 (by decide +kernel) rfl), (tbm 711 (by decide +kernel) rfl), (tbm 1 (by decide +kernel) rfl), (tbm 712 (by decide +kernel) rfl)⟩ (by decide +kernel) rfl hR d rfl hrm z
theorem zM7_run_L51 {r : Int32} {x2 : Int32} {x3 : Int32} (F : Fx p s m args meth c cX7_run 7 RX7 (some .int) (rmL 3) 0 0 g a) {kx : St → Option (Int32 × St)} (hx : ∀ (σ : St), kx σ = some (r, σ') → Z p l e (rmL 3) s m args below meth c (MQ below (QiW g a r σ') args s 0 0 (Ad a)) 7 g a 0 0 σ 116 [(0, .ref (a 25)), (2, .int x2), (3, .int x3)] []) : ∀ (n : Nat) (x4 : Int32) (x5 : Int32) (σ : St), M7_run_L51 x2 x3 kx n x4 x5 σ = some (r, σ') → Z p l e (rmL 3) s m args below meth c (MQ below (QiW g a r σ') args s 0 0 (Ad a)) 7 g a 0 0 σ 51 [(0, .ref (a 25)), (2, .int x2), (3, .int x3), (4, .int x4), (5, .int x5)] [] := by
  intro n
  induction n with
  | zero => intro x4 x5 σ h; rw [M7_run_L51] at h; cases h
  | succ n ih =>
    intro x4 x5 σ h
    rw [M7_run_L51] at h
    refine z_iload (q := 4) F dX7_run_51 rfl ?_
    refine z_iload_n (q := 1) F dX7_run_53 rfl rfl ?_
    refine z_icmp_ge (tgt := 116) F dX7_run_54 rfl (fun c7 => ?_) (fun c7 => ?_)
    · have h := ite_T c7 h
      refine z_sub (lv' := [(0, .ref (a 25)), (2, .int x2), (3, .int x3)]) [0, 1, 2] rfl ?_
      exact hx _ h
    · have h := ite_F c7 h
      refine z_iload (q := 3) F dX7_run_57 rfl ?_
      obtain ⟨r8, σ8, hq8, h⟩ := bd_of h
      refine cl7_261 F hq8 ⟨Nat.le_of_ble_eq_true rfl, Nat.le_of_ble_eq_true rfl⟩ dX7_run_59 (Nat.le_of_ble_eq_true rfl) ?_
      refine z_istore (lv' := [(4, .int r8), (0, .ref (a 25)), (2, .int x2), (3, .int x3), (5, .int x5)]) F dX7_run_62 (by decide) rfl ?_
      refine z_iload (q := 0) F dX7_run_64 rfl ?_
      refine z_aload_n (q := 1) F dX7_run_66 rfl rfl ?_
      refine gf7_16 F kdc_25 dX7_run_67 ?_
      refine gf7_190 F kdc_26 dX7_run_70 ?_
      obtain ⟨r9, σ9, hq9, h⟩ := bd_of h
      refine cl7_264 F hq9 ⟨Nat.le_of_ble_eq_true rfl, Nat.le_of_ble_eq_true rfl⟩ dX7_run_73 (Nat.le_of_ble_eq_true rfl) ?_
      refine z_istore (lv' := [(6, .int r9), (4, .int r8), (0, .ref (a 25)), (2, .int x2), (3, .int x3), (5, .int x5)]) F dX7_run_76 (by decide) rfl ?_
      refine z_iload (q := 1) F dX7_run_78 rfl ?_
      obtain ⟨r10, σ10, hq10, h⟩ := bd_of h
      refine cl7_261 F hq10 ⟨Nat.le_of_ble_eq_true rfl, Nat.le_of_ble_eq_true rfl⟩ dX7_run_80 (Nat.le_of_ble_eq_true rfl) ?_
      refine z_istore (lv' := [(4, .int r10), (6, .int r9), (0, .ref (a 25)), (2, .int x2), (3, .int x3), (5, .int x5)]) F dX7_run_83 (by decide) rfl ?_
      refine z_aload_n (q := 2) F dX7_run_85 rfl rfl ?_
      refine gf7_52 F kdc_25 dX7_run_86 ?_
      refine gf7_119 F kdc_39 dX7_run_89 ?_
      refine z_iload (q := 5) F dX7_run_92 rfl ?_
      refine z_iload (q := 1) F dX7_run_94 rfl ?_
      refine z_iconst (v := 0) F dX7_run_96 rfl ?_
      refine z_iload (q := 0) F dX7_run_97 rfl ?_
      refine z_bipush (v := 9) F dX7_run_99 rfl ?_
      obtain ⟨r11, σ11, hq11, h⟩ := bd_of h
      refine cl7_264 F hq11 ⟨Nat.le_of_ble_eq_true rfl, Nat.le_of_ble_eq_true rfl⟩ dX7_run_101 (Nat.le_of_ble_eq_true rfl) ?_
      refine z_iconst (v := 1) F dX7_run_104 rfl ?_
      refine z_iadd F dX7_run_105 ?_
      obtain ⟨r12, σ12, hq12, h⟩ := bd_of h
      refine cl7_126 F kdc_40 hq12 ⟨Nat.le_of_ble_eq_true rfl, Nat.le_of_ble_eq_true rfl⟩ dX7_run_106 (Nat.le_of_ble_eq_true rfl) ?_
      refine z_pop F dX7_run_109 rfl ?_
      refine z_iinc (q := 5) (v := x5 + 1) (lv' := [(5, .int (x5 + 1)), (4, .int r10), (6, .int r9), (0, .ref (a 25)), (2, .int x2), (3, .int x3)]) F dX7_run_110 rfl rfl (by decide) rfl ?_
      refine z_letL (s0 := 5) (lv := [(4, .int r10), (6, .int r9), (0, .ref (a 25)), (2, .int x2), (3, .int x3)]) h (fun v13 h => ?_)
      refine z_goto (tgt := 51) F dX7_run_113 rfl ?_
      refine z_sub (lv' := [(0, .ref (a 25)), (2, .int x2), (3, .int x3), (4, .int r10), (5, .int v13)]) [3, 4, 5, 1, 0] rfl ?_
      exact ih _ _ _ h
theorem zM7_run {r : Int32} {x1 : Int32} {x2 : Int32} {x3 : Int32} {σ : St} (F : Fx p s m args meth c cX7_run 7 RX7 (some .int) (rmL 3) 0 0 g a) (h : M7_run x1 x2 x3 σ = some (r, σ')) : Z p l e (rmL 3) s m args below meth c (MQ below (QiW g a r σ') args s 0 0 (Ad a)) 7 g a 0 0 σ 0 [(0, .ref (a 25)), (1, .int x1), (2, .int x2), (3, .int x3)] [] := by
  unfold M7_run at h
  refine z_iload_n (q := 2) F dX7_run_0 rfl rfl ?_
  refine z_iconst (v := 1) F dX7_run_1 rfl ?_
  refine z_icmp_lt (tgt := 19) F dX7_run_2 rfl (fun c1 => ?_) (fun c1 => ?_)
  · have h := ite_T c1 h
    refine z_bipush (v := (-2)) F dX7_run_19 rfl ?_
    exact z_iret F h dX7_run_21
  · have h := ite_F c1 h
    refine z_iload_n (q := 2) F dX7_run_5 rfl rfl ?_
    refine z_bipush (v := 40) F dX7_run_6 rfl ?_
    refine z_icmp_gt (tgt := 19) F dX7_run_8 rfl (fun c2 => ?_) (fun c2 => ?_)
    · have h := ite_T c2 h
      refine z_bipush (v := (-2)) F dX7_run_19 rfl ?_
      exact z_iret F h dX7_run_21
    · have h := ite_F c2 h
      refine z_iload_n (q := 3) F dX7_run_11 rfl rfl ?_
      refine z_iconst (v := 2) F dX7_run_12 rfl ?_
      obtain ⟨r3, σ3, hq3, h⟩ := bd_of h
      refine cl7_83 F hq3 ⟨Nat.le_of_ble_eq_true rfl, Nat.le_of_ble_eq_true rfl⟩ dX7_run_13 (Nat.le_of_ble_eq_true rfl) ?_
      refine z_if_ne (tgt := 22) F dX7_run_16 rfl (fun c4 => ?_) (fun c4 => ?_)
      · have h := ite_F c4 h
        refine z_aload_n (q := 0) F dX7_run_22 rfl rfl ?_
        refine gf7_16 F kdc_25 dX7_run_23 ?_
        refine gf7_190 F kdc_26 dX7_run_26 ?_
        refine z_if_ne (tgt := 34) F dX7_run_29 rfl (fun c5 => ?_) (fun c5 => ?_)
        · have h := ite_F c5 h
          refine z_aload_n (q := 0) F dX7_run_34 rfl rfl ?_
          refine gf7_52 F kdc_25 dX7_run_35 ?_
          refine z_aload_n (q := 0) F dX7_run_38 rfl rfl ?_
          refine gf7_30 F kdc_25 dX7_run_39 ?_
          obtain ⟨r6, σ6, hq6, h⟩ := bd_of h
          refine cl7_257 F kdc_39 kdc_32 hq6 ⟨Nat.le_of_ble_eq_true rfl, Nat.le_of_ble_eq_true rfl⟩ dX7_run_42 (Nat.le_of_ble_eq_true rfl) ?_
          refine z_iload_n (q := 1) F dX7_run_45 rfl rfl ?_
          refine z_istore (lv' := [(4, .int x1), (0, .ref (a 25)), (1, .int x1), (2, .int x2), (3, .int x3)]) F dX7_run_46 (by decide) rfl ?_
          refine z_iconst (v := 0) F dX7_run_48 rfl ?_
          refine z_istore (lv' := [(5, .int 0), (4, .int x1), (0, .ref (a 25)), (1, .int x1), (2, .int x2), (3, .int x3)]) F dX7_run_49 (by decide) rfl ?_
          refine z_sub (lv' := [(0, .ref (a 25)), (2, .int x2), (3, .int x3), (4, .int x1), (5, .int 0)]) [2, 4, 5, 1, 0] rfl ?_
          refine zM7_run_L51 F ?_ _ _ _ _ h
          intro σ14 h
          refine z_aload_n (q := 0) F dX7_run_116 rfl rfl ?_
          refine gf7_55 F kdc_25 dX7_run_117 ?_
          refine z_aload_n (q := 0) F dX7_run_120 rfl rfl ?_
          refine gf7_16 F kdc_25 dX7_run_121 ?_
          refine z_aload_n (q := 0) F dX7_run_124 rfl rfl ?_
          refine gf7_52 F kdc_25 dX7_run_125 ?_
          refine z_iload_n (q := 1) F dX7_run_128 rfl rfl ?_
          refine z_iconst (v := 1) F dX7_run_129 rfl ?_
          refine z_isub F dX7_run_130 ?_
          obtain ⟨r15, σ15, hq15, h⟩ := bd_of h
          refine cl7_267 F kdc_66 kdc_26 kdc_39 hq15 ⟨Nat.le_of_ble_eq_true rfl, Nat.le_of_ble_eq_true rfl⟩ dX7_run_131 (Nat.le_of_ble_eq_true rfl) ?_
          refine z_iload_n (q := 2) F dX7_run_134 rfl rfl ?_
          refine z_if_ne (tgt := 151) F dX7_run_135 rfl (fun c16 => ?_) (fun c16 => ?_)
          · have h := ite_F c16 h
            refine z_aload_n (q := 0) F dX7_run_151 rfl rfl ?_
            refine gf7_55 F kdc_25 dX7_run_152 ?_
            refine z_aload_n (q := 0) F dX7_run_155 rfl rfl ?_
            refine gf7_30 F kdc_25 dX7_run_156 ?_
            refine gf7_119 F kdc_32 dX7_run_159 ?_
            refine gf7_140 F kdc_33 dX7_run_162 ?_
            refine z_aload_n (q := 0) F dX7_run_165 rfl rfl ?_
            refine gf7_52 F kdc_25 dX7_run_166 ?_
            refine gf7_119 F kdc_39 dX7_run_169 ?_
            refine gf7_140 F kdc_40 dX7_run_172 ?_
            obtain ⟨r17, σ17, hq17, h⟩ := bd_of h
            refine cl7_271 F kdc_66 hq17 ⟨Nat.le_of_ble_eq_true rfl, Nat.le_of_ble_eq_true rfl⟩ dX7_run_175 (Nat.le_of_ble_eq_true rfl) ?_
            exact z_iret F h dX7_run_178
          · have h := ite_T c16 h
            refine z_aload_n (q := 0) F dX7_run_138 rfl rfl ?_
            refine gf7_55 F kdc_25 dX7_run_139 ?_
            refine z_iload_n (q := 1) F dX7_run_142 rfl rfl ?_
            refine z_iconst (v := 1) F dX7_run_143 rfl ?_
            refine z_isub F dX7_run_144 ?_
            obtain ⟨r18, σ18, hq18, h⟩ := bd_of h
            refine cl7_175 F kdc_66 hq18 ⟨Nat.le_of_ble_eq_true rfl, Nat.le_of_ble_eq_true rfl⟩ dX7_run_145 (Nat.le_of_ble_eq_true rfl) ?_
            refine z_goto (tgt := 178) F dX7_run_148 rfl ?_
            exact z_iret F h dX7_run_178
        · have h := ite_T c5 h
          refine z_iconst (v := 0) F dX7_run_32 rfl ?_
          exact z_iret F h dX7_run_33
      · have h := ite_T c4 h
        refine z_bipush (v := (-2)) F dX7_run_19 rfl ?_
        exact z_iret F h dX7_run_21
theorem ct7_run {r : Int32} {x1 : Int32} {x2 : Int32} {x3 : Int32} {σ : St} (h : M7_run x1 x2 x3 σ = some (r, σ')) : Met l yX7_run (wsY yX7_run cX7_run 7 (some .int)) (rmL 3) (PcW g a [.ref (a 25), .int x1, .int x2, .int x3] σ) (QiW g a r σ') 0 0 (Ad a) :=
  ct_I (by decide) (Nat.le_of_ble_eq_true rfl) (fun p e s m args below meth c F => zM7_run F h)
theorem cl7_336 {r : Int32} {x1 : Int32} {x2 : Int32} {x3 : Int32} (F : Fx p s m args meth c cc nL RX7 rt R cz sz g a) (h : M7_run x1 x2 x3 σ = some (r, σ1)) (hR : 3 + 1 ≤ R.frames ∧ 8 + (7 + 11) + 34 * 3 ≤ R.locals) (d : decode cc pc = .ok (.invokevirtual 336, 3)) (hrm : (rest.map fun v => v.category).sum ≤ 8) (z : Z p l e R s m args below meth c Q nL g a cz sz σ1 (pc + 3) lv (.int r :: rest)) : Z p l e R s m args below meth c Q nL g a cz sz σ pc lv (.int x3 :: .int x2 :: .int x1 :: .ref (a 25) :: rest) :=
  z_callVI (nA := 3) (As := [.int x1, .int x2, .int x3]) F (ct7_run h) ⟨(tbm 803 (by decide +kernel) rfl), (tbm 707 (by decide +kernel) rfl), (tbm 708 (by decide +kernel) rfl), (tbm 1 (by decide +kernel) rfl), (tbm 709 (by decide +kernel) rfl)⟩ (by decide +kernel) rfl kdc_25 (by decide) rfl rfl rfl hR d rfl hrm z
theorem zM7_digest_L185 {r : Int64} (F : Fx p s m args meth c cX7_digest 5 RX7 (some .long) (rmL 6) 0 0 g a) {kx : Int64 → St → Option (Int64 × St)} (hx : ∀ (w1 : Int64) (σ : St), kx w1 σ = some (r, σ') → Z p l e (rmL 6) s m args below meth c (MQ below (QlW g a r σ') args s 0 0 (Ad a)) 5 g a 0 0 σ 210 [(0, .ref (a 25)), (1, .long w1)] []) : ∀ (n : Nat) (x1 : Int64) (x3 : Int32) (σ : St), M7_digest_L185 kx n x1 x3 σ = some (r, σ') → Z p l e (rmL 6) s m args below meth c (MQ below (QlW g a r σ') args s 0 0 (Ad a)) 5 g a 0 0 σ 185 [(0, .ref (a 25)), (1, .long x1), (3, .int x3)] [] := by
  intro n
  induction n with
  | zero => intro x1 x3 σ h; rw [M7_digest_L185] at h; cases h
  | succ n ih =>
    intro x1 x3 σ h
    rw [M7_digest_L185] at h
    refine z_iload_n (q := 2) F dX7_digest_185 rfl rfl ?_
    refine z_bipush (v := 6) F dX7_digest_186 rfl ?_
    refine z_icmp_ge (tgt := 210) F dX7_digest_188 rfl (fun c36 => ?_) (fun c36 => ?_)
    · have h := ite_T c36 h
      refine z_sub (lv' := [(0, .ref (a 25)), (1, .long x1)]) [0, 1] rfl ?_
      exact hx _ _ h
    · have h := ite_F c36 h
      refine z_ldc2 (v := 31) F dX7_digest_191 (tbm 774 (by decide +kernel) rfl) ?_
      refine z_lload_n (q := 1) F dX7_digest_194 rfl rfl ?_
      refine z_lmul F dX7_digest_195 ?_
      refine z_aload_n (q := 0) F dX7_digest_196 rfl rfl ?_
      refine z_iload_n (q := 2) F dX7_digest_197 rfl rfl ?_
      obtain ⟨r37, σ37, hq37, h⟩ := bd_of h
      refine cl7_327 F hq37 ⟨Nat.le_of_ble_eq_true rfl, Nat.le_of_ble_eq_true rfl⟩ dX7_digest_198 (Nat.le_of_ble_eq_true rfl) ?_
      refine z_i2l F dX7_digest_201 ?_
      refine z_ladd F dX7_digest_202 ?_
      refine z_letJ h (fun v38 h => ?_)
      refine z_lstore_n (lv' := [(1, .long v38), (0, .ref (a 25)), (3, .int x3)]) F dX7_digest_203 rfl (by decide) rfl ?_
      refine z_iinc (q := 2) (v := x3 + 1) (lv' := [(3, .int (x3 + 1)), (1, .long v38), (0, .ref (a 25))]) F dX7_digest_204 rfl rfl (by decide) rfl ?_
      refine z_letL (s0 := 3) (lv := [(1, .long v38), (0, .ref (a 25))]) h (fun v39 h => ?_)
      refine z_goto (tgt := 185) F dX7_digest_207 rfl ?_
      refine z_sub (lv' := [(0, .ref (a 25)), (1, .long v38), (3, .int v39)]) [2, 1, 0] rfl ?_
      exact ih _ _ _ h
theorem zM7_digest_L128 {r : Int64} {x3 : Int32} (F : Fx p s m args meth c cX7_digest 5 RX7 (some .long) (rmL 6) 0 0 g a) {kx : Int64 → St → Option (Int64 × St)} (hx : ∀ (w1 : Int64) (σ : St), kx w1 σ = some (r, σ') → Z p l e (rmL 6) s m args below meth c (MQ below (QlW g a r σ') args s 0 0 (Ad a)) 5 g a 0 0 σ 155 [(0, .ref (a 25)), (1, .long w1), (3, .int x3)] []) : ∀ (n : Nat) (x1 : Int64) (x4 : Int32) (σ : St), M7_digest_L128 x3 kx n x1 x4 σ = some (r, σ') → Z p l e (rmL 6) s m args below meth c (MQ below (QlW g a r σ') args s 0 0 (Ad a)) 5 g a 0 0 σ 128 [(0, .ref (a 25)), (1, .long x1), (3, .int x3), (4, .int x4)] [] := by
  intro n
  induction n with
  | zero => intro x1 x4 σ h; rw [M7_digest_L128] at h; cases h
  | succ n ih =>
    intro x1 x4 σ h
    rw [M7_digest_L128] at h
    refine z_iload (q := 3) F dX7_digest_128 rfl ?_
    refine z_iconst (v := 3) F dX7_digest_130 rfl ?_
    refine z_icmp_ge (tgt := 155) F dX7_digest_131 rfl (fun c24 => ?_) (fun c24 => ?_)
    · have h := ite_T c24 h
      refine z_sub (lv' := [(0, .ref (a 25)), (1, .long x1), (3, .int x3)]) [0, 1, 2] rfl ?_
      exact hx _ _ h
    · have h := ite_F c24 h
      refine z_ldc2 (v := 31) F dX7_digest_134 (tbm 774 (by decide +kernel) rfl) ?_
      refine z_lload_n (q := 1) F dX7_digest_137 rfl rfl ?_
      refine z_lmul F dX7_digest_138 ?_
      refine z_aload_n (q := 0) F dX7_digest_139 rfl rfl ?_
      refine z_iload_n (q := 2) F dX7_digest_140 rfl rfl ?_
      refine z_iload (q := 3) F dX7_digest_141 rfl ?_
      obtain ⟨r25, σ25, hq25, h⟩ := bd_of h
      refine cl7_321 F hq25 ⟨Nat.le_of_ble_eq_true rfl, Nat.le_of_ble_eq_true rfl⟩ dX7_digest_143 (Nat.le_of_ble_eq_true rfl) ?_
      refine z_i2l F dX7_digest_146 ?_
      refine z_ladd F dX7_digest_147 ?_
      refine z_letJ h (fun v26 h => ?_)
      refine z_lstore_n (lv' := [(1, .long v26), (0, .ref (a 25)), (3, .int x3), (4, .int x4)]) F dX7_digest_148 rfl (by decide) rfl ?_
      refine z_iinc (q := 3) (v := x4 + 1) (lv' := [(4, .int (x4 + 1)), (1, .long v26), (0, .ref (a 25)), (3, .int x3)]) F dX7_digest_149 rfl rfl (by decide) rfl ?_
      refine z_letL (s0 := 4) (lv := [(1, .long v26), (0, .ref (a 25)), (3, .int x3)]) h (fun v27 h => ?_)
      refine z_goto (tgt := 128) F dX7_digest_152 rfl ?_
      refine z_sub (lv' := [(0, .ref (a 25)), (1, .long v26), (3, .int x3), (4, .int v27)]) [2, 1, 3, 0] rfl ?_
      exact ih _ _ _ h
theorem zM7_digest_L111 {r : Int64} (F : Fx p s m args meth c cX7_digest 5 RX7 (some .long) (rmL 6) 0 0 g a) {kx : Int64 → St → Option (Int64 × St)} (hx : ∀ (w1 : Int64) (σ : St), kx w1 σ = some (r, σ') → Z p l e (rmL 6) s m args below meth c (MQ below (QlW g a r σ') args s 0 0 (Ad a)) 5 g a 0 0 σ 161 [(0, .ref (a 25)), (1, .long w1)] []) : ∀ (n : Nat) (x1 : Int64) (x3 : Int32) (σ : St), M7_digest_L111 kx n x1 x3 σ = some (r, σ') → Z p l e (rmL 6) s m args below meth c (MQ below (QlW g a r σ') args s 0 0 (Ad a)) 5 g a 0 0 σ 111 [(0, .ref (a 25)), (1, .long x1), (3, .int x3)] [] := by
  intro n
  induction n with
  | zero => intro x1 x3 σ h; rw [M7_digest_L111] at h; cases h
  | succ n ih =>
    intro x1 x3 σ h
    rw [M7_digest_L111] at h
    refine z_iload_n (q := 2) F dX7_digest_111 rfl rfl ?_
    refine z_aload_n (q := 0) F dX7_digest_112 rfl rfl ?_
    refine gf7_30 F kdc_25 dX7_digest_113 ?_
    refine gf7_119 F kdc_32 dX7_digest_116 ?_
    refine gf7_140 F kdc_33 dX7_digest_119 ?_
    refine z_icmp_ge (tgt := 161) F dX7_digest_122 rfl (fun c23 => ?_) (fun c23 => ?_)
    · have h := ite_T c23 h
      refine z_sub (lv' := [(0, .ref (a 25)), (1, .long x1)]) [0, 1] rfl ?_
      exact hx _ _ h
    · have h := ite_F c23 h
      refine z_iconst (v := 0) F dX7_digest_125 rfl ?_
      refine z_istore (lv' := [(4, .int 0), (0, .ref (a 25)), (1, .long x1), (3, .int x3)]) F dX7_digest_126 (by decide) rfl ?_
      refine z_sub (lv' := [(0, .ref (a 25)), (1, .long x1), (3, .int x3), (4, .int 0)]) [1, 2, 3, 0] rfl ?_
      refine zM7_digest_L128 F ?_ _ _ _ _ h
      intro v28 σ29 h
      refine z_iinc (q := 2) (v := x3 + 1) (lv' := [(3, .int (x3 + 1)), (0, .ref (a 25)), (1, .long v28)]) F dX7_digest_155 rfl rfl (by decide) rfl ?_
      refine z_letL (s0 := 3) (lv := [(0, .ref (a 25)), (1, .long v28)]) h (fun v30 h => ?_)
      refine z_goto (tgt := 111) F dX7_digest_158 rfl ?_
      refine z_sub (lv' := [(0, .ref (a 25)), (1, .long v28), (3, .int v30)]) [1, 2, 0] rfl ?_
      exact ih _ _ _ h
theorem zM7_digest_L85 {r : Int64} (F : Fx p s m args meth c cX7_digest 5 RX7 (some .long) (rmL 6) 0 0 g a) {kx : Int64 → St → Option (Int64 × St)} (hx : ∀ (w1 : Int64) (σ : St), kx w1 σ = some (r, σ') → Z p l e (rmL 6) s m args below meth c (MQ below (QlW g a r σ') args s 0 0 (Ad a)) 5 g a 0 0 σ 109 [(0, .ref (a 25)), (1, .long w1)] []) : ∀ (n : Nat) (x1 : Int64) (x3 : Int32) (σ : St), M7_digest_L85 kx n x1 x3 σ = some (r, σ') → Z p l e (rmL 6) s m args below meth c (MQ below (QlW g a r σ') args s 0 0 (Ad a)) 5 g a 0 0 σ 85 [(0, .ref (a 25)), (1, .long x1), (3, .int x3)] [] := by
  intro n
  induction n with
  | zero => intro x1 x3 σ h; rw [M7_digest_L85] at h; cases h
  | succ n ih =>
    intro x1 x3 σ h
    rw [M7_digest_L85] at h
    refine z_iload_n (q := 2) F dX7_digest_85 rfl rfl ?_
    refine z_aload_n (q := 0) F dX7_digest_86 rfl rfl ?_
    refine gf7_22 F kdc_25 dX7_digest_87 ?_
    refine gf7_190 F kdc_29 dX7_digest_90 ?_
    refine z_icmp_ge (tgt := 109) F dX7_digest_93 rfl (fun c18 => ?_) (fun c18 => ?_)
    · have h := ite_T c18 h
      refine z_sub (lv' := [(0, .ref (a 25)), (1, .long x1)]) [0, 1] rfl ?_
      exact hx _ _ h
    · have h := ite_F c18 h
      refine z_aload_n (q := 0) F dX7_digest_96 rfl rfl ?_
      refine z_lload_n (q := 1) F dX7_digest_97 rfl rfl ?_
      refine z_iload_n (q := 2) F dX7_digest_98 rfl rfl ?_
      obtain ⟨r19, σ19, hq19, h⟩ := bd_of h
      refine cl7_318 F hq19 ⟨Nat.le_of_ble_eq_true rfl, Nat.le_of_ble_eq_true rfl⟩ dX7_digest_99 (Nat.le_of_ble_eq_true rfl) ?_
      refine z_lstore_n (lv' := [(1, .long r19), (0, .ref (a 25)), (3, .int x3)]) F dX7_digest_102 rfl (by decide) rfl ?_
      refine z_iinc (q := 2) (v := x3 + 1) (lv' := [(3, .int (x3 + 1)), (1, .long r19), (0, .ref (a 25))]) F dX7_digest_103 rfl rfl (by decide) rfl ?_
      refine z_letL (s0 := 3) (lv := [(1, .long r19), (0, .ref (a 25))]) h (fun v20 h => ?_)
      refine z_goto (tgt := 85) F dX7_digest_106 rfl ?_
      refine z_sub (lv' := [(0, .ref (a 25)), (1, .long r19), (3, .int v20)]) [2, 1, 0] rfl ?_
      exact ih _ _ _ h
theorem zM7_digest_L59 {r : Int64} (F : Fx p s m args meth c cX7_digest 5 RX7 (some .long) (rmL 6) 0 0 g a) {kx : Int64 → St → Option (Int64 × St)} (hx : ∀ (w1 : Int64) (σ : St), kx w1 σ = some (r, σ') → Z p l e (rmL 6) s m args below meth c (MQ below (QlW g a r σ') args s 0 0 (Ad a)) 5 g a 0 0 σ 83 [(0, .ref (a 25)), (1, .long w1)] []) : ∀ (n : Nat) (x1 : Int64) (x3 : Int32) (σ : St), M7_digest_L59 kx n x1 x3 σ = some (r, σ') → Z p l e (rmL 6) s m args below meth c (MQ below (QlW g a r σ') args s 0 0 (Ad a)) 5 g a 0 0 σ 59 [(0, .ref (a 25)), (1, .long x1), (3, .int x3)] [] := by
  intro n
  induction n with
  | zero => intro x1 x3 σ h; rw [M7_digest_L59] at h; cases h
  | succ n ih =>
    intro x1 x3 σ h
    rw [M7_digest_L59] at h
    refine z_iload_n (q := 2) F dX7_digest_59 rfl rfl ?_
    refine z_aload_n (q := 0) F dX7_digest_60 rfl rfl ?_
    refine gf7_16 F kdc_25 dX7_digest_61 ?_
    refine gf7_190 F kdc_26 dX7_digest_64 ?_
    refine z_icmp_ge (tgt := 83) F dX7_digest_67 rfl (fun c13 => ?_) (fun c13 => ?_)
    · have h := ite_T c13 h
      refine z_sub (lv' := [(0, .ref (a 25)), (1, .long x1)]) [0, 1] rfl ?_
      exact hx _ _ h
    · have h := ite_F c13 h
      refine z_aload_n (q := 0) F dX7_digest_70 rfl rfl ?_
      refine z_lload_n (q := 1) F dX7_digest_71 rfl rfl ?_
      refine z_iload_n (q := 2) F dX7_digest_72 rfl rfl ?_
      obtain ⟨r14, σ14, hq14, h⟩ := bd_of h
      refine cl7_314 F hq14 ⟨Nat.le_of_ble_eq_true rfl, Nat.le_of_ble_eq_true rfl⟩ dX7_digest_73 (Nat.le_of_ble_eq_true rfl) ?_
      refine z_lstore_n (lv' := [(1, .long r14), (0, .ref (a 25)), (3, .int x3)]) F dX7_digest_76 rfl (by decide) rfl ?_
      refine z_iinc (q := 2) (v := x3 + 1) (lv' := [(3, .int (x3 + 1)), (1, .long r14), (0, .ref (a 25))]) F dX7_digest_77 rfl rfl (by decide) rfl ?_
      refine z_letL (s0 := 3) (lv := [(1, .long r14), (0, .ref (a 25))]) h (fun v15 h => ?_)
      refine z_goto (tgt := 59) F dX7_digest_80 rfl ?_
      refine z_sub (lv' := [(0, .ref (a 25)), (1, .long r14), (3, .int v15)]) [2, 1, 0] rfl ?_
      exact ih _ _ _ h
theorem zM7_digest_L33 {r : Int64} (F : Fx p s m args meth c cX7_digest 5 RX7 (some .long) (rmL 6) 0 0 g a) {kx : Int64 → St → Option (Int64 × St)} (hx : ∀ (w1 : Int64) (σ : St), kx w1 σ = some (r, σ') → Z p l e (rmL 6) s m args below meth c (MQ below (QlW g a r σ') args s 0 0 (Ad a)) 5 g a 0 0 σ 57 [(0, .ref (a 25)), (1, .long w1)] []) : ∀ (n : Nat) (x1 : Int64) (x3 : Int32) (σ : St), M7_digest_L33 kx n x1 x3 σ = some (r, σ') → Z p l e (rmL 6) s m args below meth c (MQ below (QlW g a r σ') args s 0 0 (Ad a)) 5 g a 0 0 σ 33 [(0, .ref (a 25)), (1, .long x1), (3, .int x3)] [] := by
  intro n
  induction n with
  | zero => intro x1 x3 σ h; rw [M7_digest_L33] at h; cases h
  | succ n ih =>
    intro x1 x3 σ h
    rw [M7_digest_L33] at h
    refine z_iload_n (q := 2) F dX7_digest_33 rfl rfl ?_
    refine z_iconst (v := 2) F dX7_digest_34 rfl ?_
    refine z_icmp_ge (tgt := 57) F dX7_digest_35 rfl (fun c7 => ?_) (fun c7 => ?_)
    · have h := ite_T c7 h
      refine z_sub (lv' := [(0, .ref (a 25)), (1, .long x1)]) [0, 1] rfl ?_
      exact hx _ _ h
    · have h := ite_F c7 h
      refine z_ldc2 (v := 31) F dX7_digest_38 (tbm 774 (by decide +kernel) rfl) ?_
      refine z_lload_n (q := 1) F dX7_digest_41 rfl rfl ?_
      refine z_lmul F dX7_digest_42 ?_
      refine z_aload_n (q := 0) F dX7_digest_43 rfl rfl ?_
      refine z_iload_n (q := 2) F dX7_digest_44 rfl rfl ?_
      obtain ⟨r8, σ8, hq8, h⟩ := bd_of h
      refine cl7_312 F hq8 ⟨Nat.le_of_ble_eq_true rfl, Nat.le_of_ble_eq_true rfl⟩ dX7_digest_45 (Nat.le_of_ble_eq_true rfl) ?_
      refine z_i2l F dX7_digest_48 ?_
      refine z_ladd F dX7_digest_49 ?_
      refine z_letJ h (fun v9 h => ?_)
      refine z_lstore_n (lv' := [(1, .long v9), (0, .ref (a 25)), (3, .int x3)]) F dX7_digest_50 rfl (by decide) rfl ?_
      refine z_iinc (q := 2) (v := x3 + 1) (lv' := [(3, .int (x3 + 1)), (1, .long v9), (0, .ref (a 25))]) F dX7_digest_51 rfl rfl (by decide) rfl ?_
      refine z_letL (s0 := 3) (lv := [(1, .long v9), (0, .ref (a 25))]) h (fun v10 h => ?_)
      refine z_goto (tgt := 33) F dX7_digest_54 rfl ?_
      refine z_sub (lv' := [(0, .ref (a 25)), (1, .long v9), (3, .int v10)]) [2, 1, 0] rfl ?_
      exact ih _ _ _ h
theorem zM7_digest_L6 {r : Int64} (F : Fx p s m args meth c cX7_digest 5 RX7 (some .long) (rmL 6) 0 0 g a) {kx : Int64 → St → Option (Int64 × St)} (hx : ∀ (w1 : Int64) (σ : St), kx w1 σ = some (r, σ') → Z p l e (rmL 6) s m args below meth c (MQ below (QlW g a r σ') args s 0 0 (Ad a)) 5 g a 0 0 σ 31 [(0, .ref (a 25)), (1, .long w1)] []) : ∀ (n : Nat) (x1 : Int64) (x3 : Int32) (σ : St), M7_digest_L6 kx n x1 x3 σ = some (r, σ') → Z p l e (rmL 6) s m args below meth c (MQ below (QlW g a r σ') args s 0 0 (Ad a)) 5 g a 0 0 σ 6 [(0, .ref (a 25)), (1, .long x1), (3, .int x3)] [] := by
  intro n
  induction n with
  | zero => intro x1 x3 σ h; rw [M7_digest_L6] at h; cases h
  | succ n ih =>
    intro x1 x3 σ h
    rw [M7_digest_L6] at h
    refine z_iload_n (q := 2) F dX7_digest_6 rfl rfl ?_
    refine z_bipush (v := 7) F dX7_digest_7 rfl ?_
    refine z_icmp_gt (tgt := 31) F dX7_digest_9 rfl (fun c1 => ?_) (fun c1 => ?_)
    · have h := ite_T c1 h
      refine z_sub (lv' := [(0, .ref (a 25)), (1, .long x1)]) [0, 1] rfl ?_
      exact hx _ _ h
    · have h := ite_F c1 h
      refine z_ldc2 (v := 31) F dX7_digest_12 (tbm 774 (by decide +kernel) rfl) ?_
      refine z_lload_n (q := 1) F dX7_digest_15 rfl rfl ?_
      refine z_lmul F dX7_digest_16 ?_
      refine z_aload_n (q := 0) F dX7_digest_17 rfl rfl ?_
      refine z_iload_n (q := 2) F dX7_digest_18 rfl rfl ?_
      obtain ⟨r2, σ2, hq2, h⟩ := bd_of h
      refine cl7_309 F hq2 ⟨Nat.le_of_ble_eq_true rfl, Nat.le_of_ble_eq_true rfl⟩ dX7_digest_19 (Nat.le_of_ble_eq_true rfl) ?_
      refine z_i2l F dX7_digest_22 ?_
      refine z_ladd F dX7_digest_23 ?_
      refine z_letJ h (fun v3 h => ?_)
      refine z_lstore_n (lv' := [(1, .long v3), (0, .ref (a 25)), (3, .int x3)]) F dX7_digest_24 rfl (by decide) rfl ?_
      refine z_iinc (q := 2) (v := x3 + 1) (lv' := [(3, .int (x3 + 1)), (1, .long v3), (0, .ref (a 25))]) F dX7_digest_25 rfl rfl (by decide) rfl ?_
      refine z_letL (s0 := 3) (lv := [(1, .long v3), (0, .ref (a 25))]) h (fun v4 h => ?_)
      refine z_goto (tgt := 6) F dX7_digest_28 rfl ?_
      refine z_sub (lv' := [(0, .ref (a 25)), (1, .long v3), (3, .int v4)]) [2, 1, 0] rfl ?_
      exact ih _ _ _ h
theorem zM7_digest {r : Int64} {σ : St} (F : Fx p s m args meth c cX7_digest 5 RX7 (some .long) (rmL 6) 0 0 g a) (h : M7_digest σ = some (r, σ')) : Z p l e (rmL 6) s m args below meth c (MQ below (QlW g a r σ') args s 0 0 (Ad a)) 5 g a 0 0 σ 0 [(0, .ref (a 25))] [] := by
  unfold M7_digest at h
  refine z_ldc2 (v := 17) F dX7_digest_0 (tbm 773 (by decide +kernel) rfl) ?_
  refine z_lstore_n (lv' := [(1, .long 17), (0, .ref (a 25))]) F dX7_digest_3 rfl (by decide) rfl ?_
  refine z_iconst (v := 0) F dX7_digest_4 rfl ?_
  refine z_istore_n (lv' := [(3, .int 0), (1, .long 17), (0, .ref (a 25))]) F dX7_digest_5 rfl (by decide) rfl ?_
  refine z_sub (lv' := [(0, .ref (a 25)), (1, .long 17), (3, .int 0)]) [2, 1, 0] rfl ?_
  refine zM7_digest_L6 F ?_ _ _ _ _ h
  intro v5 σ6 h
  refine z_iconst (v := 0) F dX7_digest_31 rfl ?_
  refine z_istore_n (lv' := [(3, .int 0), (0, .ref (a 25)), (1, .long v5)]) F dX7_digest_32 rfl (by decide) rfl ?_
  refine z_sub (lv' := [(0, .ref (a 25)), (1, .long v5), (3, .int 0)]) [1, 2, 0] rfl ?_
  refine zM7_digest_L33 F ?_ _ _ _ _ h
  intro v11 σ12 h
  refine z_iconst (v := 0) F dX7_digest_57 rfl ?_
  refine z_istore_n (lv' := [(3, .int 0), (0, .ref (a 25)), (1, .long v11)]) F dX7_digest_58 rfl (by decide) rfl ?_
  refine z_sub (lv' := [(0, .ref (a 25)), (1, .long v11), (3, .int 0)]) [1, 2, 0] rfl ?_
  refine zM7_digest_L59 F ?_ _ _ _ _ h
  intro v16 σ17 h
  refine z_iconst (v := 0) F dX7_digest_83 rfl ?_
  refine z_istore_n (lv' := [(3, .int 0), (0, .ref (a 25)), (1, .long v16)]) F dX7_digest_84 rfl (by decide) rfl ?_
  refine z_sub (lv' := [(0, .ref (a 25)), (1, .long v16), (3, .int 0)]) [1, 2, 0] rfl ?_
  refine zM7_digest_L85 F ?_ _ _ _ _ h
  intro v21 σ22 h
  refine z_iconst (v := 0) F dX7_digest_109 rfl ?_
  refine z_istore_n (lv' := [(3, .int 0), (0, .ref (a 25)), (1, .long v21)]) F dX7_digest_110 rfl (by decide) rfl ?_
  refine z_sub (lv' := [(0, .ref (a 25)), (1, .long v21), (3, .int 0)]) [1, 2, 0] rfl ?_
  refine zM7_digest_L111 F ?_ _ _ _ _ h
  intro v31 σ32 h
  refine z_aload_n (q := 0) F dX7_digest_161 rfl rfl ?_
  refine z_lload_n (q := 1) F dX7_digest_162 rfl rfl ?_
  refine z_iconst (v := 0) F dX7_digest_163 rfl ?_
  obtain ⟨r33, σ33, hq33, h⟩ := bd_of h
  refine cl7_324 F hq33 ⟨Nat.le_of_ble_eq_true rfl, Nat.le_of_ble_eq_true rfl⟩ dX7_digest_164 (Nat.le_of_ble_eq_true rfl) ?_
  refine z_lstore_n (lv' := [(1, .long r33), (0, .ref (a 25))]) F dX7_digest_167 rfl (by decide) rfl ?_
  refine z_aload_n (q := 1) F dX7_digest_168 rfl rfl ?_
  refine z_lload_n (q := 0) F dX7_digest_169 rfl rfl ?_
  refine z_iconst (v := 5) F dX7_digest_170 rfl ?_
  obtain ⟨r34, σ34, hq34, h⟩ := bd_of h
  refine cl7_324 F hq34 ⟨Nat.le_of_ble_eq_true rfl, Nat.le_of_ble_eq_true rfl⟩ dX7_digest_171 (Nat.le_of_ble_eq_true rfl) ?_
  refine z_lstore_n (lv' := [(1, .long r34), (0, .ref (a 25))]) F dX7_digest_174 rfl (by decide) rfl ?_
  refine z_aload_n (q := 1) F dX7_digest_175 rfl rfl ?_
  refine z_lload_n (q := 0) F dX7_digest_176 rfl rfl ?_
  refine z_bipush (v := 39) F dX7_digest_177 rfl ?_
  obtain ⟨r35, σ35, hq35, h⟩ := bd_of h
  refine cl7_324 F hq35 ⟨Nat.le_of_ble_eq_true rfl, Nat.le_of_ble_eq_true rfl⟩ dX7_digest_179 (Nat.le_of_ble_eq_true rfl) ?_
  refine z_lstore_n (lv' := [(1, .long r35), (0, .ref (a 25))]) F dX7_digest_182 rfl (by decide) rfl ?_
  refine z_iconst (v := 0) F dX7_digest_183 rfl ?_
  refine z_istore_n (lv' := [(3, .int 0), (1, .long r35), (0, .ref (a 25))]) F dX7_digest_184 rfl (by decide) rfl ?_
  refine z_sub (lv' := [(0, .ref (a 25)), (1, .long r35), (3, .int 0)]) [2, 1, 0] rfl ?_
  refine zM7_digest_L185 F ?_ _ _ _ _ h
  intro v40 σ41 h
  refine z_ldc2 (v := 31) F dX7_digest_210 (tbm 774 (by decide +kernel) rfl) ?_
  refine z_lload_n (q := 1) F dX7_digest_213 rfl rfl ?_
  refine z_lmul F dX7_digest_214 ?_
  refine z_aload_n (q := 0) F dX7_digest_215 rfl rfl ?_
  obtain ⟨r42, σ42, hq42, h⟩ := bd_of h
  refine cl7_330 F hq42 ⟨Nat.le_of_ble_eq_true rfl, Nat.le_of_ble_eq_true rfl⟩ dX7_digest_216 (Nat.le_of_ble_eq_true rfl) ?_
  refine z_i2l F dX7_digest_219 ?_
  refine z_ladd F dX7_digest_220 ?_
  refine z_letJ h (fun v43 h => ?_)
  refine z_lstore_n (lv' := [(1, .long v43), (0, .ref (a 25))]) F dX7_digest_221 rfl (by decide) rfl ?_
  refine z_ldc2 (v := 31) F dX7_digest_222 (tbm 774 (by decide +kernel) rfl) ?_
  refine z_lload_n (q := 0) F dX7_digest_225 rfl rfl ?_
  refine z_lmul F dX7_digest_226 ?_
  refine z_aload_n (q := 1) F dX7_digest_227 rfl rfl ?_
  refine z_iconst (v := 0) F dX7_digest_228 rfl ?_
  obtain ⟨r44, σ44, hq44, h⟩ := bd_of h
  refine cl7_333 F hq44 ⟨Nat.le_of_ble_eq_true rfl, Nat.le_of_ble_eq_true rfl⟩ dX7_digest_229 (Nat.le_of_ble_eq_true rfl) ?_
  refine z_i2l F dX7_digest_232 ?_
  refine z_ladd F dX7_digest_233 ?_
  refine z_letJ h (fun v45 h => ?_)
  refine z_lstore_n (lv' := [(1, .long v45), (0, .ref (a 25))]) F dX7_digest_234 rfl (by decide) rfl ?_
  refine z_ldc2 (v := 31) F dX7_digest_235 (tbm 774 (by decide +kernel) rfl) ?_
  refine z_lload_n (q := 0) F dX7_digest_238 rfl rfl ?_
  refine z_lmul F dX7_digest_239 ?_
  refine z_aload_n (q := 1) F dX7_digest_240 rfl rfl ?_
  refine z_iconst (v := 1) F dX7_digest_241 rfl ?_
  obtain ⟨r46, σ46, hq46, h⟩ := bd_of h
  refine cl7_333 F hq46 ⟨Nat.le_of_ble_eq_true rfl, Nat.le_of_ble_eq_true rfl⟩ dX7_digest_242 (Nat.le_of_ble_eq_true rfl) ?_
  refine z_i2l F dX7_digest_245 ?_
  refine z_ladd F dX7_digest_246 ?_
  refine z_letJ h (fun v47 h => ?_)
  refine z_lstore_n (lv' := [(1, .long v47), (0, .ref (a 25))]) F dX7_digest_247 rfl (by decide) rfl ?_
  refine z_ldc2 (v := 31) F dX7_digest_248 (tbm 774 (by decide +kernel) rfl) ?_
  refine z_lload_n (q := 0) F dX7_digest_251 rfl rfl ?_
  refine z_lmul F dX7_digest_252 ?_
  refine z_aload_n (q := 1) F dX7_digest_253 rfl rfl ?_
  refine z_bipush (v := 7) F dX7_digest_254 rfl ?_
  refine z_bipush (v := 20) F dX7_digest_256 rfl ?_
  refine z_iconst (v := 0) F dX7_digest_258 rfl ?_
  obtain ⟨r48, σ48, hq48, h⟩ := bd_of h
  refine cl7_336 F hq48 ⟨Nat.le_of_ble_eq_true rfl, Nat.le_of_ble_eq_true rfl⟩ dX7_digest_259 (Nat.le_of_ble_eq_true rfl) ?_
  refine z_i2l F dX7_digest_262 ?_
  refine z_ladd F dX7_digest_263 ?_
  refine z_letJ h (fun v49 h => ?_)
  refine z_lstore_n (lv' := [(1, .long v49), (0, .ref (a 25))]) F dX7_digest_264 rfl (by decide) rfl ?_
  refine z_ldc2 (v := 31) F dX7_digest_265 (tbm 774 (by decide +kernel) rfl) ?_
  refine z_lload_n (q := 0) F dX7_digest_268 rfl rfl ?_
  refine z_lmul F dX7_digest_269 ?_
  refine z_aload_n (q := 1) F dX7_digest_270 rfl rfl ?_
  refine z_bipush (v := 7) F dX7_digest_271 rfl ?_
  refine z_bipush (v := 20) F dX7_digest_273 rfl ?_
  refine z_iconst (v := 1) F dX7_digest_275 rfl ?_
  obtain ⟨r50, σ50, hq50, h⟩ := bd_of h
  refine cl7_336 F hq50 ⟨Nat.le_of_ble_eq_true rfl, Nat.le_of_ble_eq_true rfl⟩ dX7_digest_276 (Nat.le_of_ble_eq_true rfl) ?_
  refine z_i2l F dX7_digest_279 ?_
  refine z_ladd F dX7_digest_280 ?_
  exact z_lret F h dX7_digest_281
theorem ct7_digest {r : Int64} {σ : St} (h : M7_digest σ = some (r, σ')) : Met l yX7_digest (wsY yX7_digest cX7_digest 5 (some .long)) (rmL 6) (PcW g a [.ref (a 25)] σ) (QlW g a r σ') 0 0 (Ad a) :=
  ct_L (by decide) (Nat.le_of_ble_eq_true rfl) (fun p e s m args below meth c F => zM7_digest F h)

end WalkZ
