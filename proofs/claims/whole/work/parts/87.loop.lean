section LoopL
variable {p : Program} {l : Launch} {e : Env} {R : Room} {s : State} {m : MethodId} {args : Array Value} {below : List Frame} {meth : Method} {c : Code} {Q : State → Prop} {cc : ByteArray} {nL : Nat} {own : String} {rt : Option FieldType} {g : Gd} {a : Nat → Nat} {cz sz : Nat} {σ σ1 σ' : St} {pc : Nat} {lv lv' : List (Nat × Value)} {st st0 rest : List Value} {b L : Nat} {xs : Nat → Int32}
theorem law_sw {i : Nat} {A : AB} (F : Fx p s m #[Value.ref b] meth c cL_law 4 RL ret room_1 cz sz g a) (X : ScL s a b L xs) (hi : i + 5 < L) (hA : okAB A) (hC : RC A σ) (hM : RM A σ) (kk : ∀ A' σ', okAB A' → RC A' σ' → RM A' σ' → Z p l e room_1 s m #[Value.ref b] below meth c (lw_Z below #[Value.ref b] s) 4 g a cz sz σ' 1325 [(0, .ref b), (1, .ref (a 25)), (2, .ref (a 0)), (3, .int (nI i))] []) : Z p l e room_1 s m #[Value.ref b] below meth c (lw_Z below #[Value.ref b] s) 4 g a cz sz σ 33 [(0, .ref b), (1, .ref (a 25)), (2, .ref (a 0)), (3, .int (nI i))] [.int (xs i &&& 63)] := by
      by_cases c0 : xs i &&& 63 = 0
      · exact z_tabIn (off := 155) (tgt := 188) F dL_law_33 (by rw [c0]; decide) (by rw [c0]; decide) (by rw [c0]; rfl) rfl (br_type F X (by omega) hA hC hM kk)
      by_cases c1 : xs i &&& 63 = 1
      · exact z_tabIn (off := 188) (tgt := 221) F dL_law_33 (by rw [c1]; decide) (by rw [c1]; decide) (by rw [c1]; rfl) rfl (br_wipe F X (by omega) hA hC hM kk)
      by_cases c2 : xs i &&& 63 = 2
      · exact z_tabIn (off := 211) (tgt := 244) F dL_law_33 (by rw [c2]; decide) (by rw [c2]; decide) (by rw [c2]; rfl) rfl (br_undo F X (by omega) hA hC hM kk)
      by_cases c3 : xs i &&& 63 = 3
      · exact z_tabIn (off := 234) (tgt := 267) F dL_law_33 (by rw [c3]; decide) (by rw [c3]; decide) (by rw [c3]; rfl) rfl (br_fault F X (by omega) hA hC hM kk)
      by_cases c4 : xs i &&& 63 = 4
      · exact z_tabIn (off := 257) (tgt := 290) F dL_law_33 (by rw [c4]; decide) (by rw [c4]; decide) (by rw [c4]; rfl) rfl (br_hole F X (by omega) hA hC hM kk)
      by_cases c5 : xs i &&& 63 = 5
      · exact z_tabIn (off := 290) (tgt := 323) F dL_law_33 (by rw [c5]; decide) (by rw [c5]; decide) (by rw [c5]; rfl) rfl (br_work F X (by omega) hA hC hM kk)
      by_cases c6 : xs i &&& 63 = 6
      · exact z_tabIn (off := 323) (tgt := 356) F dL_law_33 (by rw [c6]; decide) (by rw [c6]; decide) (by rw [c6]; rfl) rfl (br_loan F X (by omega) hA hC hM kk)
      by_cases c7 : xs i &&& 63 = 7
      · exact z_tabIn (off := 376) (tgt := 409) F dL_law_33 (by rw [c7]; decide) (by rw [c7]; decide) (by rw [c7]; rfl) rfl (br_fill F X (by omega) hA hC hM kk)
      by_cases c8 : xs i &&& 63 = 8
      · exact z_tabIn (off := 409) (tgt := 442) F dL_law_33 (by rw [c8]; decide) (by rw [c8]; decide) (by rw [c8]; rfl) rfl (br_patch F X (by omega) hA hC hM kk)
      by_cases c9 : xs i &&& 63 = 9
      · exact z_tabIn (off := 442) (tgt := 475) F dL_law_33 (by rw [c9]; decide) (by rw [c9]; decide) (by rw [c9]; rfl) rfl (br_back F X (by omega) hA hC hM kk)
      by_cases c10 : xs i &&& 63 = 10
      · exact z_tabIn (off := 465) (tgt := 498) F dL_law_33 (by rw [c10]; decide) (by rw [c10]; decide) (by rw [c10]; rfl) rfl (br_read F X (by omega) hA hC hM kk)
      by_cases c11 : xs i &&& 63 = 11
      · exact z_tabIn (off := 488) (tgt := 521) F dL_law_33 (by rw [c11]; decide) (by rw [c11]; decide) (by rw [c11]; rfl) rfl (br_ease F X (by omega) hA hC hM kk)
      by_cases c12 : xs i &&& 63 = 12
      · exact z_tabIn (off := 511) (tgt := 544) F dL_law_33 (by rw [c12]; decide) (by rw [c12]; decide) (by rw [c12]; rfl) rfl (br_is F X (by omega) hA hC hM kk)
      by_cases c13 : xs i &&& 63 = 13
      · exact z_tabIn (off := 554) (tgt := 587) F dL_law_33 (by rw [c13]; decide) (by rw [c13]; decide) (by rw [c13]; rfl) rfl (br_behind F X (by omega) hA hC hM kk)
      by_cases c14 : xs i &&& 63 = 14
      · exact z_tabIn (off := 587) (tgt := 620) F dL_law_33 (by rw [c14]; decide) (by rw [c14]; decide) (by rw [c14]; rfl) rfl (br_came F X (by omega) hA hC hM kk)
      by_cases c15 : xs i &&& 63 = 15
      · exact z_tabIn (off := 620) (tgt := 653) F dL_law_33 (by rw [c15]; decide) (by rw [c15]; decide) (by rw [c15]; rfl) rfl (br_breaches F X (by omega) hA hC hM kk)
      by_cases c16 : xs i &&& 63 = 16
      · exact z_tabIn (off := 643) (tgt := 676) F dL_law_33 (by rw [c16]; decide) (by rw [c16]; decide) (by rw [c16]; rfl) rfl (br_first F X (by omega) hA hC hM kk)
      by_cases c17 : xs i &&& 63 = 17
      · exact z_tabIn (off := 656) (tgt := 689) F dL_law_33 (by rw [c17]; decide) (by rw [c17]; decide) (by rw [c17]; rfl) rfl (br_serves F X (by omega) hA hC hM kk)
      by_cases c18 : xs i &&& 63 = 18
      · exact z_tabIn (off := 689) (tgt := 722) F dL_law_33 (by rw [c18]; decide) (by rw [c18]; decide) (by rw [c18]; rfl) rfl (br_best F X (by omega) hA hC hM kk)
      by_cases c19 : xs i &&& 63 = 19
      · exact z_tabIn (off := 722) (tgt := 755) F dL_law_33 (by rw [c19]; decide) (by rw [c19]; decide) (by rw [c19]; rfl) rfl (br_mend F X (by omega) hA hC hM kk)
      by_cases c20 : xs i &&& 63 = 20
      · exact z_tabIn (off := 765) (tgt := 798) F dL_law_33 (by rw [c20]; decide) (by rw [c20]; decide) (by rw [c20]; rfl) rfl (br_call F X (by omega) hA hC hM kk)
      by_cases c21 : xs i &&& 63 = 21
      · exact z_tabIn (off := 798) (tgt := 831) F dL_law_33 (by rw [c21]; decide) (by rw [c21]; decide) (by rw [c21]; rfl) rfl (br_seen F X (by omega) hA hC hM kk)
      by_cases c22 : xs i &&& 63 = 22
      · exact z_tabIn (off := 841) (tgt := 874) F dL_law_33 (by rw [c22]; decide) (by rw [c22]; decide) (by rw [c22]; rfl) rfl (br_forget F X (by omega) hA hC hM kk)
      by_cases c23 : xs i &&& 63 = 23
      · exact z_tabIn (off := 854) (tgt := 887) F dL_law_33 (by rw [c23]; decide) (by rw [c23]; decide) (by rw [c23]; rfl) rfl (br_never F X (by omega) hA hC hM kk)
      by_cases c24 : xs i &&& 63 = 24
      · exact z_tabIn (off := 877) (tgt := 910) F dL_law_33 (by rw [c24]; decide) (by rw [c24]; decide) (by rw [c24]; rfl) rfl (br_look F X (by omega) hA hC hM kk)
      by_cases c25 : xs i &&& 63 = 25
      · exact z_tabIn (off := 900) (tgt := 933) F dL_law_33 (by rw [c25]; decide) (by rw [c25]; decide) (by rw [c25]; rfl) rfl (br_moths F X (by omega) hA hC hM kk)
      by_cases c26 : xs i &&& 63 = 26
      · exact z_tabIn (off := 954) (tgt := 987) F dL_law_33 (by rw [c26]; decide) (by rw [c26]; decide) (by rw [c26]; rfl) rfl (br_run F X (by omega) hA hC hM kk)
      by_cases c27 : xs i &&& 63 = 27
      · exact z_tabIn (off := 997) (tgt := 1030) F dL_law_33 (by rw [c27]; decide) (by rw [c27]; decide) (by rw [c27]; rfl) rfl (br_sheet F X (by omega) hA hC hM kk)
      by_cases c28 : xs i &&& 63 = 28
      · exact z_tabIn (off := 1040) (tgt := 1073) F dL_law_33 (by rw [c28]; decide) (by rw [c28]; decide) (by rw [c28]; rfl) rfl (br_lose F X (by omega) hA hC hM kk)
      by_cases c29 : xs i &&& 63 = 29
      · exact z_tabIn (off := 1063) (tgt := 1096) F dL_law_33 (by rw [c29]; decide) (by rw [c29]; decide) (by rw [c29]; rfl) rfl (br_lay F X (by omega) hA hC hM kk)
      by_cases c30 : xs i &&& 63 = 30
      · exact z_tabIn (off := 1116) (tgt := 1149) F dL_law_33 (by rw [c30]; decide) (by rw [c30]; decide) (by rw [c30]; rfl) rfl (br_get F X (by omega) hA hC hM kk)
      by_cases c31 : xs i &&& 63 = 31
      · exact z_tabIn (off := 1159) (tgt := 1192) F dL_law_33 (by rw [c31]; decide) (by rw [c31]; decide) (by rw [c31]; rfl) rfl (br_copy F X (by omega) hA hC hM kk)
      by_cases c32 : xs i &&& 63 = 32
      · exact z_tabIn (off := 1222) (tgt := 1255) F dL_law_33 (by rw [c32]; decide) (by rw [c32]; decide) (by rw [c32]; rfl) rfl (br_write F X (by omega) hA hC hM kk)
      by_cases c33 : xs i &&& 63 = 33
      · exact z_tabIn (off := 1255) (tgt := 1288) F dL_law_33 (by rw [c33]; decide) (by rw [c33]; decide) (by rw [c33]; rfl) rfl (br_count F X (by omega) hA hC hM kk)
      by_cases c34 : xs i &&& 63 = 34
      · exact z_tabIn (off := 1278) (tgt := 1311) F dL_law_33 (by rw [c34]; decide) (by rw [c34]; decide) (by rw [c34]; rfl) rfl (br_digest F X (by omega) hA hC hM kk)
      refine z_tabOut (tgt := 1325) F dL_law_33 (by have e0 := sw_ne (n := 0) c0 (by decide); have e1 := sw_ne (n := 1) c1 (by decide); have e2 := sw_ne (n := 2) c2 (by decide); have e3 := sw_ne (n := 3) c3 (by decide); have e4 := sw_ne (n := 4) c4 (by decide); have e5 := sw_ne (n := 5) c5 (by decide); have e6 := sw_ne (n := 6) c6 (by decide); have e7 := sw_ne (n := 7) c7 (by decide); have e8 := sw_ne (n := 8) c8 (by decide); have e9 := sw_ne (n := 9) c9 (by decide); have e10 := sw_ne (n := 10) c10 (by decide); have e11 := sw_ne (n := 11) c11 (by decide); have e12 := sw_ne (n := 12) c12 (by decide); have e13 := sw_ne (n := 13) c13 (by decide); have e14 := sw_ne (n := 14) c14 (by decide); have e15 := sw_ne (n := 15) c15 (by decide); have e16 := sw_ne (n := 16) c16 (by decide); have e17 := sw_ne (n := 17) c17 (by decide); have e18 := sw_ne (n := 18) c18 (by decide); have e19 := sw_ne (n := 19) c19 (by decide); have e20 := sw_ne (n := 20) c20 (by decide); have e21 := sw_ne (n := 21) c21 (by decide); have e22 := sw_ne (n := 22) c22 (by decide); have e23 := sw_ne (n := 23) c23 (by decide); have e24 := sw_ne (n := 24) c24 (by decide); have e25 := sw_ne (n := 25) c25 (by decide); have e26 := sw_ne (n := 26) c26 (by decide); have e27 := sw_ne (n := 27) c27 (by decide); have e28 := sw_ne (n := 28) c28 (by decide); have e29 := sw_ne (n := 29) c29 (by decide); have e30 := sw_ne (n := 30) c30 (by decide); have e31 := sw_ne (n := 31) c31 (by decide); have e32 := sw_ne (n := 32) c32 (by decide); have e33 := sw_ne (n := 33) c33 (by decide); have e34 := sw_ne (n := 34) c34 (by decide); omega) rfl ?_
      exact kk A σ hA hC hM
theorem law_loop (F : Fx p s m #[Value.ref b] meth c cL_law 4 RL ret room_1 cz sz g a) (X : ScL s a b L xs) : ∀ (n i : Nat) (A : AB) (σ : St), i ≤ 390 → L < i + 6 * n → okAB A → RC A σ → RM A σ → Z p l e room_1 s m #[Value.ref b] below meth c (lw_Z below #[Value.ref b] s) 4 g a cz sz σ 18 [(0, .ref b), (1, .ref (a 25)), (2, .ref (a 0)), (3, .int (nI i))] [] := by
  intro n
  induction n with
  | zero =>
    intro i A σ hi hn hA hC hM
    refine z_iload_n (q := 3) F dL_law_18 rfl rfl ?_
    refine z_aload_n (q := 0) F dL_law_19 rfl rfl ?_
    refine z_slen F X dL_law_20 ?_
    refine z_bipush (v := 6) F dL_law_21 (by decide) ?_
    refine z_isub F dL_law_23 ?_
    refine z_icmp_gt (tgt := 1331) F dL_law_24 rfl (fun _ => ?_) (fun h => ?_)
    · refine z_iconst (v := 1) F dL_law_1331 (by decide) ?_
      exact z_end F X dL_law_1332
    · have := law_go X.2.2.2.1 hi h
      omega
  | succ n ih =>
    intro i A σ hi hn hA hC hM
    refine z_iload_n (q := 3) F dL_law_18 rfl rfl ?_
    refine z_aload_n (q := 0) F dL_law_19 rfl rfl ?_
    refine z_slen F X dL_law_20 ?_
    refine z_bipush (v := 6) F dL_law_21 (by decide) ?_
    refine z_isub F dL_law_23 ?_
    refine z_icmp_gt (tgt := 1331) F dL_law_24 rfl (fun _ => ?_) (fun h => ?_)
    · refine z_iconst (v := 1) F dL_law_1331 (by decide) ?_
      exact z_end F X dL_law_1332
    · have hg := law_go X.2.2.2.1 hi h
      have h4 := X.2.2.2.1
      refine z_aload_n (q := 0) F dL_law_27 rfl rfl ?_
      refine z_iload_n (q := 3) F dL_law_28 rfl rfl ?_
      refine z_sld (j := i) F X rfl (by omega) dL_law_29 ?_
      refine z_bipush (v := 63) F dL_law_30 (by decide) ?_
      refine z_iand F dL_law_32 ?_
      refine law_sw F X (by omega) hA hC hM (fun A' σ' hA' hC' hM' => ?_)
      refine z_iinc (q := 3) (v := nI (i + 6)) (lv' := [(3, .int (nI (i + 6))), (0, .ref b), (1, .ref (a 25)), (2, .ref (a 0))]) F dL_law_1325 rfl (nI_c i 6) (by decide) rfl ?_
      refine z_goto (tgt := 18) F dL_law_1328 rfl ?_
      refine z_sub (lv' := [(0, .ref b), (1, .ref (a 25)), (2, .ref (a 0)), (3, .int (nI (i + 6)))]) [1, 2, 3, 0] rfl ?_
      exact ih (i + 6) A' σ' (by omega) (by omega) hA' hC' hM'
end LoopL
