section BranchL
variable {p : Program} {l : Launch} {e : Env} {R : Room} {s : State} {m : MethodId} {args : Array Value} {below : List Frame} {meth : Method} {c : Code} {Q : State → Prop} {cc : ByteArray} {nL : Nat} {own : String} {rt : Option FieldType} {g : Gd} {a : Nat → Nat} {cz sz : Nat} {σ σ1 σ' : St} {pc : Nat} {lv lv' : List (Nat × Value)} {st st0 rest : List Value} {b L : Nat} {xs : Nat → Int32}
theorem br_type {i : Nat} {A : AB} (F : Fx p s m #[Value.ref b] meth c cL_law 4 RL ret room_1 cz sz g a) (X : ScL s a b L xs) (hi : i + 5 < L) (hA : okAB A) (hC : RC A σ) (hM : RM A σ) (kk : ∀ A' σ', okAB A' → RC A' σ' → RM A' σ' → Z p l e room_1 s m #[Value.ref b] below meth c (lw_Z below #[Value.ref b] s) 4 g a cz sz σ' 1325 [(0, .ref b), (1, .ref (a 25)), (2, .ref (a 0)), (3, .int (nI i))] []) : Z p l e room_1 s m #[Value.ref b] below meth c (lw_Z below #[Value.ref b] s) 4 g a cz sz σ 188 [(0, .ref b), (1, .ref (a 25)), (2, .ref (a 0)), (3, .int (nI i))] [] := by
  obtain ⟨r7, σ7, e7, h7, hC7, hlo⟩ := c_type (xs (i + 1)) (xs (i + 2)) hC hA
  have hM7 := RM.frame hM hlo
  obtain ⟨r8, σ8, e8, h8, hM8, hhi⟩ := m_type (xs (i + 1)) (xs (i + 2)) hM7 hA
  have hA8 := ok_type (xs (i + 1)) (xs (i + 2)) hA
  have hC8 := RC.frame hA8 hC7 (fun c h _ => hhi c h)
  refine z_aload_n (q := 1) F dL_law_188 rfl rfl ?_
  refine z_aload_n (q := 0) F dL_law_189 rfl rfl ?_
  refine z_iload_n (q := 3) F dL_law_190 rfl rfl ?_
  refine z_iconst (v := nI 1) F dL_law_191 rfl ?_
  refine z_iadd F dL_law_192 ?_
  refine z_sld (j := i + 1) F X (nI_c i 1) (by omega) dL_law_193 ?_
  refine z_aload_n (q := 0) F dL_law_194 rfl rfl ?_
  refine z_iload_n (q := 3) F dL_law_195 rfl rfl ?_
  refine z_iconst (v := nI 2) F dL_law_196 rfl ?_
  refine z_iadd F dL_law_197 ?_
  refine z_sld (j := i + 2) F X (nI_c i 2) (by omega) dL_law_198 ?_
  refine clL_13 F e7 ⟨(Nat.le_of_ble_eq_true rfl), (Nat.le_of_ble_eq_true rfl)⟩ dL_law_199 (Nat.le_of_ble_eq_true rfl) ?_
  refine z_aload_n (q := 2) F dL_law_202 rfl rfl ?_
  refine z_aload_n (q := 0) F dL_law_203 rfl rfl ?_
  refine z_iload_n (q := 3) F dL_law_204 rfl rfl ?_
  refine z_iconst (v := nI 1) F dL_law_205 rfl ?_
  refine z_iadd F dL_law_206 ?_
  refine z_sld (j := i + 1) F X (nI_c i 1) (by omega) dL_law_207 ?_
  refine z_aload_n (q := 0) F dL_law_208 rfl rfl ?_
  refine z_iload_n (q := 3) F dL_law_209 rfl rfl ?_
  refine z_iconst (v := nI 2) F dL_law_210 rfl ?_
  refine z_iadd F dL_law_211 ?_
  refine z_sld (j := i + 2) F X (nI_c i 2) (by omega) dL_law_212 ?_
  refine clL_17 F e8 ⟨(Nat.le_of_ble_eq_true rfl), (Nat.le_of_ble_eq_true rfl)⟩ dL_law_213 (Nat.le_of_ble_eq_true rfl) ?_
  exact z_icmp_eq (tgt := 1325) F dL_law_216 rfl (fun _ => kk _ σ8 hA8 hC8 hM8) (fun hn => absurd (h7.trans h8.symm) hn)
theorem br_wipe {i : Nat} {A : AB} (F : Fx p s m #[Value.ref b] meth c cL_law 4 RL ret room_1 cz sz g a) (X : ScL s a b L xs) (hi : i + 5 < L) (hA : okAB A) (hC : RC A σ) (hM : RM A σ) (kk : ∀ A' σ', okAB A' → RC A' σ' → RM A' σ' → Z p l e room_1 s m #[Value.ref b] below meth c (lw_Z below #[Value.ref b] s) 4 g a cz sz σ' 1325 [(0, .ref b), (1, .ref (a 25)), (2, .ref (a 0)), (3, .int (nI i))] []) : Z p l e room_1 s m #[Value.ref b] below meth c (lw_Z below #[Value.ref b] s) 4 g a cz sz σ 221 [(0, .ref b), (1, .ref (a 25)), (2, .ref (a 0)), (3, .int (nI i))] [] := by
  obtain ⟨r7, σ7, e7, h7, hC7, hlo⟩ := c_wipe (xs (i + 1)) hC hA
  have hM7 := RM.frame hM hlo
  obtain ⟨r8, σ8, e8, h8, hM8, hhi⟩ := m_wipe (xs (i + 1)) hM7 hA
  have hA8 := ok_wipe (xs (i + 1)) hA
  have hC8 := RC.frame hA8 hC7 (fun c h _ => hhi c h)
  refine z_aload_n (q := 1) F dL_law_221 rfl rfl ?_
  refine z_aload_n (q := 0) F dL_law_222 rfl rfl ?_
  refine z_iload_n (q := 3) F dL_law_223 rfl rfl ?_
  refine z_iconst (v := nI 1) F dL_law_224 rfl ?_
  refine z_iadd F dL_law_225 ?_
  refine z_sld (j := i + 1) F X (nI_c i 1) (by omega) dL_law_226 ?_
  refine clL_18 F e7 ⟨(Nat.le_of_ble_eq_true rfl), (Nat.le_of_ble_eq_true rfl)⟩ dL_law_227 (Nat.le_of_ble_eq_true rfl) ?_
  refine z_aload_n (q := 2) F dL_law_230 rfl rfl ?_
  refine z_aload_n (q := 0) F dL_law_231 rfl rfl ?_
  refine z_iload_n (q := 3) F dL_law_232 rfl rfl ?_
  refine z_iconst (v := nI 1) F dL_law_233 rfl ?_
  refine z_iadd F dL_law_234 ?_
  refine z_sld (j := i + 1) F X (nI_c i 1) (by omega) dL_law_235 ?_
  refine clL_22 F e8 ⟨(Nat.le_of_ble_eq_true rfl), (Nat.le_of_ble_eq_true rfl)⟩ dL_law_236 (Nat.le_of_ble_eq_true rfl) ?_
  exact z_icmp_eq (tgt := 1325) F dL_law_239 rfl (fun _ => kk _ σ8 hA8 hC8 hM8) (fun hn => absurd (h7.trans h8.symm) hn)
theorem br_undo {i : Nat} {A : AB} (F : Fx p s m #[Value.ref b] meth c cL_law 4 RL ret room_1 cz sz g a) (X : ScL s a b L xs) (hi : i + 5 < L) (hA : okAB A) (hC : RC A σ) (hM : RM A σ) (kk : ∀ A' σ', okAB A' → RC A' σ' → RM A' σ' → Z p l e room_1 s m #[Value.ref b] below meth c (lw_Z below #[Value.ref b] s) 4 g a cz sz σ' 1325 [(0, .ref b), (1, .ref (a 25)), (2, .ref (a 0)), (3, .int (nI i))] []) : Z p l e room_1 s m #[Value.ref b] below meth c (lw_Z below #[Value.ref b] s) 4 g a cz sz σ 244 [(0, .ref b), (1, .ref (a 25)), (2, .ref (a 0)), (3, .int (nI i))] [] := by
  obtain ⟨r7, σ7, e7, h7, hC7, hlo⟩ := c_undo (xs (i + 1)) hC hA
  have hM7 := RM.frame hM hlo
  obtain ⟨r8, σ8, e8, h8, hM8, hhi⟩ := m_undo (xs (i + 1)) hM7 hA
  have hA8 := ok_undo (xs (i + 1)) hA
  have hC8 := RC.frame hA8 hC7 (fun c h _ => hhi c h)
  refine z_aload_n (q := 1) F dL_law_244 rfl rfl ?_
  refine z_aload_n (q := 0) F dL_law_245 rfl rfl ?_
  refine z_iload_n (q := 3) F dL_law_246 rfl rfl ?_
  refine z_iconst (v := nI 1) F dL_law_247 rfl ?_
  refine z_iadd F dL_law_248 ?_
  refine z_sld (j := i + 1) F X (nI_c i 1) (by omega) dL_law_249 ?_
  refine clL_23 F e7 ⟨(Nat.le_of_ble_eq_true rfl), (Nat.le_of_ble_eq_true rfl)⟩ dL_law_250 (Nat.le_of_ble_eq_true rfl) ?_
  refine z_aload_n (q := 2) F dL_law_253 rfl rfl ?_
  refine z_aload_n (q := 0) F dL_law_254 rfl rfl ?_
  refine z_iload_n (q := 3) F dL_law_255 rfl rfl ?_
  refine z_iconst (v := nI 1) F dL_law_256 rfl ?_
  refine z_iadd F dL_law_257 ?_
  refine z_sld (j := i + 1) F X (nI_c i 1) (by omega) dL_law_258 ?_
  refine clL_26 F e8 ⟨(Nat.le_of_ble_eq_true rfl), (Nat.le_of_ble_eq_true rfl)⟩ dL_law_259 (Nat.le_of_ble_eq_true rfl) ?_
  exact z_icmp_eq (tgt := 1325) F dL_law_262 rfl (fun _ => kk _ σ8 hA8 hC8 hM8) (fun hn => absurd (h7.trans h8.symm) hn)
theorem br_fault {i : Nat} {A : AB} (F : Fx p s m #[Value.ref b] meth c cL_law 4 RL ret room_1 cz sz g a) (X : ScL s a b L xs) (hi : i + 5 < L) (hA : okAB A) (hC : RC A σ) (hM : RM A σ) (kk : ∀ A' σ', okAB A' → RC A' σ' → RM A' σ' → Z p l e room_1 s m #[Value.ref b] below meth c (lw_Z below #[Value.ref b] s) 4 g a cz sz σ' 1325 [(0, .ref b), (1, .ref (a 25)), (2, .ref (a 0)), (3, .int (nI i))] []) : Z p l e room_1 s m #[Value.ref b] below meth c (lw_Z below #[Value.ref b] s) 4 g a cz sz σ 267 [(0, .ref b), (1, .ref (a 25)), (2, .ref (a 0)), (3, .int (nI i))] [] := by
  obtain ⟨r7, σ7, e7, h7, hC7, hlo⟩ := c_fault (xs (i + 1)) hC hA
  have hM7 := RM.frame hM hlo
  obtain ⟨r8, σ8, e8, h8, hM8, hhi⟩ := m_fault (xs (i + 1)) hM7 hA
  have hA8 := okn_fault (xs (i + 1)) hA
  have hC8 := RC.frame hA8 hC7 (fun c h _ => hhi c h)
  refine z_aload_n (q := 1) F dL_law_267 rfl rfl ?_
  refine z_aload_n (q := 0) F dL_law_268 rfl rfl ?_
  refine z_iload_n (q := 3) F dL_law_269 rfl rfl ?_
  refine z_iconst (v := nI 1) F dL_law_270 rfl ?_
  refine z_iadd F dL_law_271 ?_
  refine z_sld (j := i + 1) F X (nI_c i 1) (by omega) dL_law_272 ?_
  refine clL_27 F e7 ⟨(Nat.le_of_ble_eq_true rfl), (Nat.le_of_ble_eq_true rfl)⟩ dL_law_273 (Nat.le_of_ble_eq_true rfl) ?_
  refine z_aload_n (q := 2) F dL_law_276 rfl rfl ?_
  refine z_aload_n (q := 0) F dL_law_277 rfl rfl ?_
  refine z_iload_n (q := 3) F dL_law_278 rfl rfl ?_
  refine z_iconst (v := nI 1) F dL_law_279 rfl ?_
  refine z_iadd F dL_law_280 ?_
  refine z_sld (j := i + 1) F X (nI_c i 1) (by omega) dL_law_281 ?_
  refine clL_30 F e8 ⟨(Nat.le_of_ble_eq_true rfl), (Nat.le_of_ble_eq_true rfl)⟩ dL_law_282 (Nat.le_of_ble_eq_true rfl) ?_
  exact z_icmp_eq (tgt := 1325) F dL_law_285 rfl (fun _ => kk _ σ8 hA8 hC8 hM8) (fun hn => absurd (h7.trans h8.symm) hn)
theorem br_hole {i : Nat} {A : AB} (F : Fx p s m #[Value.ref b] meth c cL_law 4 RL ret room_1 cz sz g a) (X : ScL s a b L xs) (hi : i + 5 < L) (hA : okAB A) (hC : RC A σ) (hM : RM A σ) (kk : ∀ A' σ', okAB A' → RC A' σ' → RM A' σ' → Z p l e room_1 s m #[Value.ref b] below meth c (lw_Z below #[Value.ref b] s) 4 g a cz sz σ' 1325 [(0, .ref b), (1, .ref (a 25)), (2, .ref (a 0)), (3, .int (nI i))] []) : Z p l e room_1 s m #[Value.ref b] below meth c (lw_Z below #[Value.ref b] s) 4 g a cz sz σ 290 [(0, .ref b), (1, .ref (a 25)), (2, .ref (a 0)), (3, .int (nI i))] [] := by
  obtain ⟨r7, σ7, e7, h7, hC7, hlo⟩ := c_hole (xs (i + 1)) (xs (i + 2)) hC hA
  have hM7 := RM.frame hM hlo
  obtain ⟨r8, σ8, e8, h8, hM8, hhi⟩ := m_hole (xs (i + 1)) (xs (i + 2)) hM7 hA
  have hA8 := okn_hole (xs (i + 1)) (xs (i + 2)) hA
  have hC8 := RC.frame hA8 hC7 (fun c h _ => hhi c h)
  refine z_aload_n (q := 1) F dL_law_290 rfl rfl ?_
  refine z_aload_n (q := 0) F dL_law_291 rfl rfl ?_
  refine z_iload_n (q := 3) F dL_law_292 rfl rfl ?_
  refine z_iconst (v := nI 1) F dL_law_293 rfl ?_
  refine z_iadd F dL_law_294 ?_
  refine z_sld (j := i + 1) F X (nI_c i 1) (by omega) dL_law_295 ?_
  refine z_aload_n (q := 0) F dL_law_296 rfl rfl ?_
  refine z_iload_n (q := 3) F dL_law_297 rfl rfl ?_
  refine z_iconst (v := nI 2) F dL_law_298 rfl ?_
  refine z_iadd F dL_law_299 ?_
  refine z_sld (j := i + 2) F X (nI_c i 2) (by omega) dL_law_300 ?_
  refine clL_31 F e7 ⟨(Nat.le_of_ble_eq_true rfl), (Nat.le_of_ble_eq_true rfl)⟩ dL_law_301 (Nat.le_of_ble_eq_true rfl) ?_
  refine z_aload_n (q := 2) F dL_law_304 rfl rfl ?_
  refine z_aload_n (q := 0) F dL_law_305 rfl rfl ?_
  refine z_iload_n (q := 3) F dL_law_306 rfl rfl ?_
  refine z_iconst (v := nI 1) F dL_law_307 rfl ?_
  refine z_iadd F dL_law_308 ?_
  refine z_sld (j := i + 1) F X (nI_c i 1) (by omega) dL_law_309 ?_
  refine z_aload_n (q := 0) F dL_law_310 rfl rfl ?_
  refine z_iload_n (q := 3) F dL_law_311 rfl rfl ?_
  refine z_iconst (v := nI 2) F dL_law_312 rfl ?_
  refine z_iadd F dL_law_313 ?_
  refine z_sld (j := i + 2) F X (nI_c i 2) (by omega) dL_law_314 ?_
  refine clL_34 F e8 ⟨(Nat.le_of_ble_eq_true rfl), (Nat.le_of_ble_eq_true rfl)⟩ dL_law_315 (Nat.le_of_ble_eq_true rfl) ?_
  exact z_icmp_eq (tgt := 1325) F dL_law_318 rfl (fun _ => kk _ σ8 hA8 hC8 hM8) (fun hn => absurd (h7.trans h8.symm) hn)
theorem br_work {i : Nat} {A : AB} (F : Fx p s m #[Value.ref b] meth c cL_law 4 RL ret room_1 cz sz g a) (X : ScL s a b L xs) (hi : i + 5 < L) (hA : okAB A) (hC : RC A σ) (hM : RM A σ) (kk : ∀ A' σ', okAB A' → RC A' σ' → RM A' σ' → Z p l e room_1 s m #[Value.ref b] below meth c (lw_Z below #[Value.ref b] s) 4 g a cz sz σ' 1325 [(0, .ref b), (1, .ref (a 25)), (2, .ref (a 0)), (3, .int (nI i))] []) : Z p l e room_1 s m #[Value.ref b] below meth c (lw_Z below #[Value.ref b] s) 4 g a cz sz σ 323 [(0, .ref b), (1, .ref (a 25)), (2, .ref (a 0)), (3, .int (nI i))] [] := by
  obtain ⟨r7, σ7, e7, h7, hC7, hlo⟩ := c_work (xs (i + 1)) (xs (i + 2)) hC hA
  have hM7 := RM.frame hM hlo
  obtain ⟨r8, σ8, e8, h8, hM8, hhi⟩ := m_work (xs (i + 1)) (xs (i + 2)) hM7 hA
  have hA8 := okn_work (xs (i + 1)) (xs (i + 2)) hA
  have hC8 := RC.frame hA8 hC7 (fun c h _ => hhi c h)
  refine z_aload_n (q := 1) F dL_law_323 rfl rfl ?_
  refine z_aload_n (q := 0) F dL_law_324 rfl rfl ?_
  refine z_iload_n (q := 3) F dL_law_325 rfl rfl ?_
  refine z_iconst (v := nI 1) F dL_law_326 rfl ?_
  refine z_iadd F dL_law_327 ?_
  refine z_sld (j := i + 1) F X (nI_c i 1) (by omega) dL_law_328 ?_
  refine z_aload_n (q := 0) F dL_law_329 rfl rfl ?_
  refine z_iload_n (q := 3) F dL_law_330 rfl rfl ?_
  refine z_iconst (v := nI 2) F dL_law_331 rfl ?_
  refine z_iadd F dL_law_332 ?_
  refine z_sld (j := i + 2) F X (nI_c i 2) (by omega) dL_law_333 ?_
  refine clL_35 F e7 ⟨(Nat.le_of_ble_eq_true rfl), (Nat.le_of_ble_eq_true rfl)⟩ dL_law_334 (Nat.le_of_ble_eq_true rfl) ?_
  refine z_aload_n (q := 2) F dL_law_337 rfl rfl ?_
  refine z_aload_n (q := 0) F dL_law_338 rfl rfl ?_
  refine z_iload_n (q := 3) F dL_law_339 rfl rfl ?_
  refine z_iconst (v := nI 1) F dL_law_340 rfl ?_
  refine z_iadd F dL_law_341 ?_
  refine z_sld (j := i + 1) F X (nI_c i 1) (by omega) dL_law_342 ?_
  refine z_aload_n (q := 0) F dL_law_343 rfl rfl ?_
  refine z_iload_n (q := 3) F dL_law_344 rfl rfl ?_
  refine z_iconst (v := nI 2) F dL_law_345 rfl ?_
  refine z_iadd F dL_law_346 ?_
  refine z_sld (j := i + 2) F X (nI_c i 2) (by omega) dL_law_347 ?_
  refine clL_38 F e8 ⟨(Nat.le_of_ble_eq_true rfl), (Nat.le_of_ble_eq_true rfl)⟩ dL_law_348 (Nat.le_of_ble_eq_true rfl) ?_
  exact z_icmp_eq (tgt := 1325) F dL_law_351 rfl (fun _ => kk _ σ8 hA8 hC8 hM8) (fun hn => absurd (h7.trans h8.symm) hn)
theorem br_loan {i : Nat} {A : AB} (F : Fx p s m #[Value.ref b] meth c cL_law 4 RL ret room_1 cz sz g a) (X : ScL s a b L xs) (hi : i + 5 < L) (hA : okAB A) (hC : RC A σ) (hM : RM A σ) (kk : ∀ A' σ', okAB A' → RC A' σ' → RM A' σ' → Z p l e room_1 s m #[Value.ref b] below meth c (lw_Z below #[Value.ref b] s) 4 g a cz sz σ' 1325 [(0, .ref b), (1, .ref (a 25)), (2, .ref (a 0)), (3, .int (nI i))] []) : Z p l e room_1 s m #[Value.ref b] below meth c (lw_Z below #[Value.ref b] s) 4 g a cz sz σ 356 [(0, .ref b), (1, .ref (a 25)), (2, .ref (a 0)), (3, .int (nI i))] [] := by
  obtain ⟨r7, σ7, e7, h7, hC7, hlo⟩ := c_loan (xs (i + 1)) (xs (i + 2)) (xs (i + 3)) (xs (i + 4)) hC hA
  have hM7 := RM.frame hM hlo
  obtain ⟨r8, σ8, e8, h8, hM8, hhi⟩ := m_loan (xs (i + 1)) (xs (i + 2)) (xs (i + 3)) (xs (i + 4)) hM7 hA
  have hA8 := ok_loan (xs (i + 1)) (xs (i + 2)) (xs (i + 3)) (xs (i + 4)) hA
  have hC8 := RC.frame hA8 hC7 (fun c h _ => hhi c h)
  refine z_aload_n (q := 1) F dL_law_356 rfl rfl ?_
  refine z_aload_n (q := 0) F dL_law_357 rfl rfl ?_
  refine z_iload_n (q := 3) F dL_law_358 rfl rfl ?_
  refine z_iconst (v := nI 1) F dL_law_359 rfl ?_
  refine z_iadd F dL_law_360 ?_
  refine z_sld (j := i + 1) F X (nI_c i 1) (by omega) dL_law_361 ?_
  refine z_aload_n (q := 0) F dL_law_362 rfl rfl ?_
  refine z_iload_n (q := 3) F dL_law_363 rfl rfl ?_
  refine z_iconst (v := nI 2) F dL_law_364 rfl ?_
  refine z_iadd F dL_law_365 ?_
  refine z_sld (j := i + 2) F X (nI_c i 2) (by omega) dL_law_366 ?_
  refine z_aload_n (q := 0) F dL_law_367 rfl rfl ?_
  refine z_iload_n (q := 3) F dL_law_368 rfl rfl ?_
  refine z_iconst (v := nI 3) F dL_law_369 rfl ?_
  refine z_iadd F dL_law_370 ?_
  refine z_sld (j := i + 3) F X (nI_c i 3) (by omega) dL_law_371 ?_
  refine z_aload_n (q := 0) F dL_law_372 rfl rfl ?_
  refine z_iload_n (q := 3) F dL_law_373 rfl rfl ?_
  refine z_iconst (v := nI 4) F dL_law_374 rfl ?_
  refine z_iadd F dL_law_375 ?_
  refine z_sld (j := i + 4) F X (nI_c i 4) (by omega) dL_law_376 ?_
  refine clL_39 F e7 ⟨(Nat.le_of_ble_eq_true rfl), (Nat.le_of_ble_eq_true rfl)⟩ dL_law_377 (Nat.le_of_ble_eq_true rfl) ?_
  refine z_aload_n (q := 2) F dL_law_380 rfl rfl ?_
  refine z_aload_n (q := 0) F dL_law_381 rfl rfl ?_
  refine z_iload_n (q := 3) F dL_law_382 rfl rfl ?_
  refine z_iconst (v := nI 1) F dL_law_383 rfl ?_
  refine z_iadd F dL_law_384 ?_
  refine z_sld (j := i + 1) F X (nI_c i 1) (by omega) dL_law_385 ?_
  refine z_aload_n (q := 0) F dL_law_386 rfl rfl ?_
  refine z_iload_n (q := 3) F dL_law_387 rfl rfl ?_
  refine z_iconst (v := nI 2) F dL_law_388 rfl ?_
  refine z_iadd F dL_law_389 ?_
  refine z_sld (j := i + 2) F X (nI_c i 2) (by omega) dL_law_390 ?_
  refine z_aload_n (q := 0) F dL_law_391 rfl rfl ?_
  refine z_iload_n (q := 3) F dL_law_392 rfl rfl ?_
  refine z_iconst (v := nI 3) F dL_law_393 rfl ?_
  refine z_iadd F dL_law_394 ?_
  refine z_sld (j := i + 3) F X (nI_c i 3) (by omega) dL_law_395 ?_
  refine z_aload_n (q := 0) F dL_law_396 rfl rfl ?_
  refine z_iload_n (q := 3) F dL_law_397 rfl rfl ?_
  refine z_iconst (v := nI 4) F dL_law_398 rfl ?_
  refine z_iadd F dL_law_399 ?_
  refine z_sld (j := i + 4) F X (nI_c i 4) (by omega) dL_law_400 ?_
  refine clL_43 F e8 ⟨(Nat.le_of_ble_eq_true rfl), (Nat.le_of_ble_eq_true rfl)⟩ dL_law_401 (Nat.le_of_ble_eq_true rfl) ?_
  exact z_icmp_eq (tgt := 1325) F dL_law_404 rfl (fun _ => kk _ σ8 hA8 hC8 hM8) (fun hn => absurd (h7.trans h8.symm) hn)
theorem br_fill {i : Nat} {A : AB} (F : Fx p s m #[Value.ref b] meth c cL_law 4 RL ret room_1 cz sz g a) (X : ScL s a b L xs) (hi : i + 5 < L) (hA : okAB A) (hC : RC A σ) (hM : RM A σ) (kk : ∀ A' σ', okAB A' → RC A' σ' → RM A' σ' → Z p l e room_1 s m #[Value.ref b] below meth c (lw_Z below #[Value.ref b] s) 4 g a cz sz σ' 1325 [(0, .ref b), (1, .ref (a 25)), (2, .ref (a 0)), (3, .int (nI i))] []) : Z p l e room_1 s m #[Value.ref b] below meth c (lw_Z below #[Value.ref b] s) 4 g a cz sz σ 409 [(0, .ref b), (1, .ref (a 25)), (2, .ref (a 0)), (3, .int (nI i))] [] := by
  obtain ⟨r7, σ7, e7, h7, hC7, hlo⟩ := c_fill (xs (i + 1)) (xs (i + 2)) hC hA
  have hM7 := RM.frame hM hlo
  obtain ⟨r8, σ8, e8, h8, hM8, hhi⟩ := m_fill (xs (i + 1)) (xs (i + 2)) hM7 hA
  have hA8 := ok_fill (xs (i + 1)) (xs (i + 2)) hA
  have hC8 := RC.frame hA8 hC7 (fun c h _ => hhi c h)
  refine z_aload_n (q := 1) F dL_law_409 rfl rfl ?_
  refine z_aload_n (q := 0) F dL_law_410 rfl rfl ?_
  refine z_iload_n (q := 3) F dL_law_411 rfl rfl ?_
  refine z_iconst (v := nI 1) F dL_law_412 rfl ?_
  refine z_iadd F dL_law_413 ?_
  refine z_sld (j := i + 1) F X (nI_c i 1) (by omega) dL_law_414 ?_
  refine z_aload_n (q := 0) F dL_law_415 rfl rfl ?_
  refine z_iload_n (q := 3) F dL_law_416 rfl rfl ?_
  refine z_iconst (v := nI 2) F dL_law_417 rfl ?_
  refine z_iadd F dL_law_418 ?_
  refine z_sld (j := i + 2) F X (nI_c i 2) (by omega) dL_law_419 ?_
  refine clL_44 F e7 ⟨(Nat.le_of_ble_eq_true rfl), (Nat.le_of_ble_eq_true rfl)⟩ dL_law_420 (Nat.le_of_ble_eq_true rfl) ?_
  refine z_aload_n (q := 2) F dL_law_423 rfl rfl ?_
  refine z_aload_n (q := 0) F dL_law_424 rfl rfl ?_
  refine z_iload_n (q := 3) F dL_law_425 rfl rfl ?_
  refine z_iconst (v := nI 1) F dL_law_426 rfl ?_
  refine z_iadd F dL_law_427 ?_
  refine z_sld (j := i + 1) F X (nI_c i 1) (by omega) dL_law_428 ?_
  refine z_aload_n (q := 0) F dL_law_429 rfl rfl ?_
  refine z_iload_n (q := 3) F dL_law_430 rfl rfl ?_
  refine z_iconst (v := nI 2) F dL_law_431 rfl ?_
  refine z_iadd F dL_law_432 ?_
  refine z_sld (j := i + 2) F X (nI_c i 2) (by omega) dL_law_433 ?_
  refine clL_47 F e8 ⟨(Nat.le_of_ble_eq_true rfl), (Nat.le_of_ble_eq_true rfl)⟩ dL_law_434 (Nat.le_of_ble_eq_true rfl) ?_
  exact z_icmp_eq (tgt := 1325) F dL_law_437 rfl (fun _ => kk _ σ8 hA8 hC8 hM8) (fun hn => absurd (h7.trans h8.symm) hn)
theorem br_patch {i : Nat} {A : AB} (F : Fx p s m #[Value.ref b] meth c cL_law 4 RL ret room_1 cz sz g a) (X : ScL s a b L xs) (hi : i + 5 < L) (hA : okAB A) (hC : RC A σ) (hM : RM A σ) (kk : ∀ A' σ', okAB A' → RC A' σ' → RM A' σ' → Z p l e room_1 s m #[Value.ref b] below meth c (lw_Z below #[Value.ref b] s) 4 g a cz sz σ' 1325 [(0, .ref b), (1, .ref (a 25)), (2, .ref (a 0)), (3, .int (nI i))] []) : Z p l e room_1 s m #[Value.ref b] below meth c (lw_Z below #[Value.ref b] s) 4 g a cz sz σ 442 [(0, .ref b), (1, .ref (a 25)), (2, .ref (a 0)), (3, .int (nI i))] [] := by
  obtain ⟨r7, σ7, e7, h7, hC7, hlo⟩ := c_patch (xs (i + 1)) (xs (i + 2)) hC hA
  have hM7 := RM.frame hM hlo
  obtain ⟨r8, σ8, e8, h8, hM8, hhi⟩ := m_patch (xs (i + 1)) (xs (i + 2)) hM7 hA
  have hA8 := ok_patch (xs (i + 1)) (xs (i + 2)) hA
  have hC8 := RC.frame hA8 hC7 (fun c h _ => hhi c h)
  refine z_aload_n (q := 1) F dL_law_442 rfl rfl ?_
  refine z_aload_n (q := 0) F dL_law_443 rfl rfl ?_
  refine z_iload_n (q := 3) F dL_law_444 rfl rfl ?_
  refine z_iconst (v := nI 1) F dL_law_445 rfl ?_
  refine z_iadd F dL_law_446 ?_
  refine z_sld (j := i + 1) F X (nI_c i 1) (by omega) dL_law_447 ?_
  refine z_aload_n (q := 0) F dL_law_448 rfl rfl ?_
  refine z_iload_n (q := 3) F dL_law_449 rfl rfl ?_
  refine z_iconst (v := nI 2) F dL_law_450 rfl ?_
  refine z_iadd F dL_law_451 ?_
  refine z_sld (j := i + 2) F X (nI_c i 2) (by omega) dL_law_452 ?_
  refine clL_48 F e7 ⟨(Nat.le_of_ble_eq_true rfl), (Nat.le_of_ble_eq_true rfl)⟩ dL_law_453 (Nat.le_of_ble_eq_true rfl) ?_
  refine z_aload_n (q := 2) F dL_law_456 rfl rfl ?_
  refine z_aload_n (q := 0) F dL_law_457 rfl rfl ?_
  refine z_iload_n (q := 3) F dL_law_458 rfl rfl ?_
  refine z_iconst (v := nI 1) F dL_law_459 rfl ?_
  refine z_iadd F dL_law_460 ?_
  refine z_sld (j := i + 1) F X (nI_c i 1) (by omega) dL_law_461 ?_
  refine z_aload_n (q := 0) F dL_law_462 rfl rfl ?_
  refine z_iload_n (q := 3) F dL_law_463 rfl rfl ?_
  refine z_iconst (v := nI 2) F dL_law_464 rfl ?_
  refine z_iadd F dL_law_465 ?_
  refine z_sld (j := i + 2) F X (nI_c i 2) (by omega) dL_law_466 ?_
  refine clL_51 F e8 ⟨(Nat.le_of_ble_eq_true rfl), (Nat.le_of_ble_eq_true rfl)⟩ dL_law_467 (Nat.le_of_ble_eq_true rfl) ?_
  exact z_icmp_eq (tgt := 1325) F dL_law_470 rfl (fun _ => kk _ σ8 hA8 hC8 hM8) (fun hn => absurd (h7.trans h8.symm) hn)
theorem br_back {i : Nat} {A : AB} (F : Fx p s m #[Value.ref b] meth c cL_law 4 RL ret room_1 cz sz g a) (X : ScL s a b L xs) (hi : i + 5 < L) (hA : okAB A) (hC : RC A σ) (hM : RM A σ) (kk : ∀ A' σ', okAB A' → RC A' σ' → RM A' σ' → Z p l e room_1 s m #[Value.ref b] below meth c (lw_Z below #[Value.ref b] s) 4 g a cz sz σ' 1325 [(0, .ref b), (1, .ref (a 25)), (2, .ref (a 0)), (3, .int (nI i))] []) : Z p l e room_1 s m #[Value.ref b] below meth c (lw_Z below #[Value.ref b] s) 4 g a cz sz σ 475 [(0, .ref b), (1, .ref (a 25)), (2, .ref (a 0)), (3, .int (nI i))] [] := by
  obtain ⟨r7, σ7, e7, h7, hC7, hlo⟩ := c_back (xs (i + 1)) hC hA
  have hM7 := RM.frame hM hlo
  obtain ⟨r8, σ8, e8, h8, hM8, hhi⟩ := m_back (xs (i + 1)) hM7 hA
  have hA8 := ok_back (xs (i + 1)) hA
  have hC8 := RC.frame hA8 hC7 (fun c h _ => hhi c h)
  refine z_aload_n (q := 1) F dL_law_475 rfl rfl ?_
  refine z_aload_n (q := 0) F dL_law_476 rfl rfl ?_
  refine z_iload_n (q := 3) F dL_law_477 rfl rfl ?_
  refine z_iconst (v := nI 1) F dL_law_478 rfl ?_
  refine z_iadd F dL_law_479 ?_
  refine z_sld (j := i + 1) F X (nI_c i 1) (by omega) dL_law_480 ?_
  refine clL_52 F e7 ⟨(Nat.le_of_ble_eq_true rfl), (Nat.le_of_ble_eq_true rfl)⟩ dL_law_481 (Nat.le_of_ble_eq_true rfl) ?_
  refine z_aload_n (q := 2) F dL_law_484 rfl rfl ?_
  refine z_aload_n (q := 0) F dL_law_485 rfl rfl ?_
  refine z_iload_n (q := 3) F dL_law_486 rfl rfl ?_
  refine z_iconst (v := nI 1) F dL_law_487 rfl ?_
  refine z_iadd F dL_law_488 ?_
  refine z_sld (j := i + 1) F X (nI_c i 1) (by omega) dL_law_489 ?_
  refine clL_55 F e8 ⟨(Nat.le_of_ble_eq_true rfl), (Nat.le_of_ble_eq_true rfl)⟩ dL_law_490 (Nat.le_of_ble_eq_true rfl) ?_
  exact z_icmp_eq (tgt := 1325) F dL_law_493 rfl (fun _ => kk _ σ8 hA8 hC8 hM8) (fun hn => absurd (h7.trans h8.symm) hn)
theorem br_read {i : Nat} {A : AB} (F : Fx p s m #[Value.ref b] meth c cL_law 4 RL ret room_1 cz sz g a) (X : ScL s a b L xs) (hi : i + 5 < L) (hA : okAB A) (hC : RC A σ) (hM : RM A σ) (kk : ∀ A' σ', okAB A' → RC A' σ' → RM A' σ' → Z p l e room_1 s m #[Value.ref b] below meth c (lw_Z below #[Value.ref b] s) 4 g a cz sz σ' 1325 [(0, .ref b), (1, .ref (a 25)), (2, .ref (a 0)), (3, .int (nI i))] []) : Z p l e room_1 s m #[Value.ref b] below meth c (lw_Z below #[Value.ref b] s) 4 g a cz sz σ 498 [(0, .ref b), (1, .ref (a 25)), (2, .ref (a 0)), (3, .int (nI i))] [] := by
  obtain ⟨r7, σ7, e7, h7, hC7, hlo⟩ := c_read (xs (i + 1)) hC hA
  have hM7 := RM.frame hM hlo
  obtain ⟨r8, σ8, e8, h8, hM8, hhi⟩ := m_read (xs (i + 1)) hM7 hA
  have hA8 := ok_read (xs (i + 1)) hA
  have hC8 := RC.frame hA8 hC7 (fun c h _ => hhi c h)
  refine z_aload_n (q := 1) F dL_law_498 rfl rfl ?_
  refine z_aload_n (q := 0) F dL_law_499 rfl rfl ?_
  refine z_iload_n (q := 3) F dL_law_500 rfl rfl ?_
  refine z_iconst (v := nI 1) F dL_law_501 rfl ?_
  refine z_iadd F dL_law_502 ?_
  refine z_sld (j := i + 1) F X (nI_c i 1) (by omega) dL_law_503 ?_
  refine clL_56 F e7 ⟨(Nat.le_of_ble_eq_true rfl), (Nat.le_of_ble_eq_true rfl)⟩ dL_law_504 (Nat.le_of_ble_eq_true rfl) ?_
  refine z_aload_n (q := 2) F dL_law_507 rfl rfl ?_
  refine z_aload_n (q := 0) F dL_law_508 rfl rfl ?_
  refine z_iload_n (q := 3) F dL_law_509 rfl rfl ?_
  refine z_iconst (v := nI 1) F dL_law_510 rfl ?_
  refine z_iadd F dL_law_511 ?_
  refine z_sld (j := i + 1) F X (nI_c i 1) (by omega) dL_law_512 ?_
  refine clL_59 F e8 ⟨(Nat.le_of_ble_eq_true rfl), (Nat.le_of_ble_eq_true rfl)⟩ dL_law_513 (Nat.le_of_ble_eq_true rfl) ?_
  exact z_icmp_eq (tgt := 1325) F dL_law_516 rfl (fun _ => kk _ σ8 hA8 hC8 hM8) (fun hn => absurd (h7.trans h8.symm) hn)
theorem br_ease {i : Nat} {A : AB} (F : Fx p s m #[Value.ref b] meth c cL_law 4 RL ret room_1 cz sz g a) (X : ScL s a b L xs) (hi : i + 5 < L) (hA : okAB A) (hC : RC A σ) (hM : RM A σ) (kk : ∀ A' σ', okAB A' → RC A' σ' → RM A' σ' → Z p l e room_1 s m #[Value.ref b] below meth c (lw_Z below #[Value.ref b] s) 4 g a cz sz σ' 1325 [(0, .ref b), (1, .ref (a 25)), (2, .ref (a 0)), (3, .int (nI i))] []) : Z p l e room_1 s m #[Value.ref b] below meth c (lw_Z below #[Value.ref b] s) 4 g a cz sz σ 521 [(0, .ref b), (1, .ref (a 25)), (2, .ref (a 0)), (3, .int (nI i))] [] := by
  obtain ⟨r7, σ7, e7, h7, hC7, hlo⟩ := c_ease (xs (i + 1)) hC hA
  have hM7 := RM.frame hM hlo
  obtain ⟨r8, σ8, e8, h8, hM8, hhi⟩ := m_ease (xs (i + 1)) hM7 hA
  have hA8 := ok_ease (xs (i + 1)) hA
  have hC8 := RC.frame hA8 hC7 (fun c h _ => hhi c h)
  refine z_aload_n (q := 1) F dL_law_521 rfl rfl ?_
  refine z_aload_n (q := 0) F dL_law_522 rfl rfl ?_
  refine z_iload_n (q := 3) F dL_law_523 rfl rfl ?_
  refine z_iconst (v := nI 1) F dL_law_524 rfl ?_
  refine z_iadd F dL_law_525 ?_
  refine z_sld (j := i + 1) F X (nI_c i 1) (by omega) dL_law_526 ?_
  refine clL_60 F e7 ⟨(Nat.le_of_ble_eq_true rfl), (Nat.le_of_ble_eq_true rfl)⟩ dL_law_527 (Nat.le_of_ble_eq_true rfl) ?_
  refine z_aload_n (q := 2) F dL_law_530 rfl rfl ?_
  refine z_aload_n (q := 0) F dL_law_531 rfl rfl ?_
  refine z_iload_n (q := 3) F dL_law_532 rfl rfl ?_
  refine z_iconst (v := nI 1) F dL_law_533 rfl ?_
  refine z_iadd F dL_law_534 ?_
  refine z_sld (j := i + 1) F X (nI_c i 1) (by omega) dL_law_535 ?_
  refine clL_63 F e8 ⟨(Nat.le_of_ble_eq_true rfl), (Nat.le_of_ble_eq_true rfl)⟩ dL_law_536 (Nat.le_of_ble_eq_true rfl) ?_
  exact z_icmp_eq (tgt := 1325) F dL_law_539 rfl (fun _ => kk _ σ8 hA8 hC8 hM8) (fun hn => absurd (h7.trans h8.symm) hn)
theorem br_is {i : Nat} {A : AB} (F : Fx p s m #[Value.ref b] meth c cL_law 4 RL ret room_1 cz sz g a) (X : ScL s a b L xs) (hi : i + 5 < L) (hA : okAB A) (hC : RC A σ) (hM : RM A σ) (kk : ∀ A' σ', okAB A' → RC A' σ' → RM A' σ' → Z p l e room_1 s m #[Value.ref b] below meth c (lw_Z below #[Value.ref b] s) 4 g a cz sz σ' 1325 [(0, .ref b), (1, .ref (a 25)), (2, .ref (a 0)), (3, .int (nI i))] []) : Z p l e room_1 s m #[Value.ref b] below meth c (lw_Z below #[Value.ref b] s) 4 g a cz sz σ 544 [(0, .ref b), (1, .ref (a 25)), (2, .ref (a 0)), (3, .int (nI i))] [] := by
  obtain ⟨r7, σ7, e7, h7, hC7, hlo⟩ := c_is (xs (i + 1)) (xs (i + 2)) (xs (i + 3)) hC hA
  have hM7 := RM.frame hM hlo
  obtain ⟨r8, σ8, e8, h8, hM8, hhi⟩ := m_is (xs (i + 1)) (xs (i + 2)) (xs (i + 3)) hM7 hA
  have hA8 := okn_is (xs (i + 1)) (xs (i + 2)) (xs (i + 3)) hA
  have hC8 := RC.frame hA8 hC7 (fun c h _ => hhi c h)
  refine z_aload_n (q := 1) F dL_law_544 rfl rfl ?_
  refine z_aload_n (q := 0) F dL_law_545 rfl rfl ?_
  refine z_iload_n (q := 3) F dL_law_546 rfl rfl ?_
  refine z_iconst (v := nI 1) F dL_law_547 rfl ?_
  refine z_iadd F dL_law_548 ?_
  refine z_sld (j := i + 1) F X (nI_c i 1) (by omega) dL_law_549 ?_
  refine z_aload_n (q := 0) F dL_law_550 rfl rfl ?_
  refine z_iload_n (q := 3) F dL_law_551 rfl rfl ?_
  refine z_iconst (v := nI 2) F dL_law_552 rfl ?_
  refine z_iadd F dL_law_553 ?_
  refine z_sld (j := i + 2) F X (nI_c i 2) (by omega) dL_law_554 ?_
  refine z_aload_n (q := 0) F dL_law_555 rfl rfl ?_
  refine z_iload_n (q := 3) F dL_law_556 rfl rfl ?_
  refine z_iconst (v := nI 3) F dL_law_557 rfl ?_
  refine z_iadd F dL_law_558 ?_
  refine z_sld (j := i + 3) F X (nI_c i 3) (by omega) dL_law_559 ?_
  refine clL_64 F e7 ⟨(Nat.le_of_ble_eq_true rfl), (Nat.le_of_ble_eq_true rfl)⟩ dL_law_560 (Nat.le_of_ble_eq_true rfl) ?_
  refine z_aload_n (q := 2) F dL_law_563 rfl rfl ?_
  refine z_aload_n (q := 0) F dL_law_564 rfl rfl ?_
  refine z_iload_n (q := 3) F dL_law_565 rfl rfl ?_
  refine z_iconst (v := nI 1) F dL_law_566 rfl ?_
  refine z_iadd F dL_law_567 ?_
  refine z_sld (j := i + 1) F X (nI_c i 1) (by omega) dL_law_568 ?_
  refine z_aload_n (q := 0) F dL_law_569 rfl rfl ?_
  refine z_iload_n (q := 3) F dL_law_570 rfl rfl ?_
  refine z_iconst (v := nI 2) F dL_law_571 rfl ?_
  refine z_iadd F dL_law_572 ?_
  refine z_sld (j := i + 2) F X (nI_c i 2) (by omega) dL_law_573 ?_
  refine z_aload_n (q := 0) F dL_law_574 rfl rfl ?_
  refine z_iload_n (q := 3) F dL_law_575 rfl rfl ?_
  refine z_iconst (v := nI 3) F dL_law_576 rfl ?_
  refine z_iadd F dL_law_577 ?_
  refine z_sld (j := i + 3) F X (nI_c i 3) (by omega) dL_law_578 ?_
  refine clL_68 F e8 ⟨(Nat.le_of_ble_eq_true rfl), (Nat.le_of_ble_eq_true rfl)⟩ dL_law_579 (Nat.le_of_ble_eq_true rfl) ?_
  exact z_icmp_eq (tgt := 1325) F dL_law_582 rfl (fun _ => kk _ σ8 hA8 hC8 hM8) (fun hn => absurd (h7.trans h8.symm) hn)
theorem br_behind {i : Nat} {A : AB} (F : Fx p s m #[Value.ref b] meth c cL_law 4 RL ret room_1 cz sz g a) (X : ScL s a b L xs) (hi : i + 5 < L) (hA : okAB A) (hC : RC A σ) (hM : RM A σ) (kk : ∀ A' σ', okAB A' → RC A' σ' → RM A' σ' → Z p l e room_1 s m #[Value.ref b] below meth c (lw_Z below #[Value.ref b] s) 4 g a cz sz σ' 1325 [(0, .ref b), (1, .ref (a 25)), (2, .ref (a 0)), (3, .int (nI i))] []) : Z p l e room_1 s m #[Value.ref b] below meth c (lw_Z below #[Value.ref b] s) 4 g a cz sz σ 587 [(0, .ref b), (1, .ref (a 25)), (2, .ref (a 0)), (3, .int (nI i))] [] := by
  obtain ⟨r7, σ7, e7, h7, hC7, hlo⟩ := c_behind (xs (i + 1)) (xs (i + 2)) hC hA
  have hM7 := RM.frame hM hlo
  obtain ⟨r8, σ8, e8, h8, hM8, hhi⟩ := m_behind (xs (i + 1)) (xs (i + 2)) hM7 hA
  have hA8 := okn_behind (xs (i + 1)) (xs (i + 2)) hA
  have hC8 := RC.frame hA8 hC7 (fun c h _ => hhi c h)
  refine z_aload_n (q := 1) F dL_law_587 rfl rfl ?_
  refine z_aload_n (q := 0) F dL_law_588 rfl rfl ?_
  refine z_iload_n (q := 3) F dL_law_589 rfl rfl ?_
  refine z_iconst (v := nI 1) F dL_law_590 rfl ?_
  refine z_iadd F dL_law_591 ?_
  refine z_sld (j := i + 1) F X (nI_c i 1) (by omega) dL_law_592 ?_
  refine z_aload_n (q := 0) F dL_law_593 rfl rfl ?_
  refine z_iload_n (q := 3) F dL_law_594 rfl rfl ?_
  refine z_iconst (v := nI 2) F dL_law_595 rfl ?_
  refine z_iadd F dL_law_596 ?_
  refine z_sld (j := i + 2) F X (nI_c i 2) (by omega) dL_law_597 ?_
  refine clL_69 F e7 ⟨(Nat.le_of_ble_eq_true rfl), (Nat.le_of_ble_eq_true rfl)⟩ dL_law_598 (Nat.le_of_ble_eq_true rfl) ?_
  refine z_aload_n (q := 2) F dL_law_601 rfl rfl ?_
  refine z_aload_n (q := 0) F dL_law_602 rfl rfl ?_
  refine z_iload_n (q := 3) F dL_law_603 rfl rfl ?_
  refine z_iconst (v := nI 1) F dL_law_604 rfl ?_
  refine z_iadd F dL_law_605 ?_
  refine z_sld (j := i + 1) F X (nI_c i 1) (by omega) dL_law_606 ?_
  refine z_aload_n (q := 0) F dL_law_607 rfl rfl ?_
  refine z_iload_n (q := 3) F dL_law_608 rfl rfl ?_
  refine z_iconst (v := nI 2) F dL_law_609 rfl ?_
  refine z_iadd F dL_law_610 ?_
  refine z_sld (j := i + 2) F X (nI_c i 2) (by omega) dL_law_611 ?_
  refine clL_72 F e8 ⟨(Nat.le_of_ble_eq_true rfl), (Nat.le_of_ble_eq_true rfl)⟩ dL_law_612 (Nat.le_of_ble_eq_true rfl) ?_
  exact z_icmp_eq (tgt := 1325) F dL_law_615 rfl (fun _ => kk _ σ8 hA8 hC8 hM8) (fun hn => absurd (h7.trans h8.symm) hn)
theorem br_came {i : Nat} {A : AB} (F : Fx p s m #[Value.ref b] meth c cL_law 4 RL ret room_1 cz sz g a) (X : ScL s a b L xs) (hi : i + 5 < L) (hA : okAB A) (hC : RC A σ) (hM : RM A σ) (kk : ∀ A' σ', okAB A' → RC A' σ' → RM A' σ' → Z p l e room_1 s m #[Value.ref b] below meth c (lw_Z below #[Value.ref b] s) 4 g a cz sz σ' 1325 [(0, .ref b), (1, .ref (a 25)), (2, .ref (a 0)), (3, .int (nI i))] []) : Z p l e room_1 s m #[Value.ref b] below meth c (lw_Z below #[Value.ref b] s) 4 g a cz sz σ 620 [(0, .ref b), (1, .ref (a 25)), (2, .ref (a 0)), (3, .int (nI i))] [] := by
  obtain ⟨r7, σ7, e7, h7, hC7, hlo⟩ := c_came (xs (i + 1)) (xs (i + 2)) hC hA
  have hM7 := RM.frame hM hlo
  obtain ⟨r8, σ8, e8, h8, hM8, hhi⟩ := m_came (xs (i + 1)) (xs (i + 2)) hM7 hA
  have hA8 := okn_came (xs (i + 1)) (xs (i + 2)) hA
  have hC8 := RC.frame hA8 hC7 (fun c h _ => hhi c h)
  refine z_aload_n (q := 1) F dL_law_620 rfl rfl ?_
  refine z_aload_n (q := 0) F dL_law_621 rfl rfl ?_
  refine z_iload_n (q := 3) F dL_law_622 rfl rfl ?_
  refine z_iconst (v := nI 1) F dL_law_623 rfl ?_
  refine z_iadd F dL_law_624 ?_
  refine z_sld (j := i + 1) F X (nI_c i 1) (by omega) dL_law_625 ?_
  refine z_aload_n (q := 0) F dL_law_626 rfl rfl ?_
  refine z_iload_n (q := 3) F dL_law_627 rfl rfl ?_
  refine z_iconst (v := nI 2) F dL_law_628 rfl ?_
  refine z_iadd F dL_law_629 ?_
  refine z_sld (j := i + 2) F X (nI_c i 2) (by omega) dL_law_630 ?_
  refine clL_73 F e7 ⟨(Nat.le_of_ble_eq_true rfl), (Nat.le_of_ble_eq_true rfl)⟩ dL_law_631 (Nat.le_of_ble_eq_true rfl) ?_
  refine z_aload_n (q := 2) F dL_law_634 rfl rfl ?_
  refine z_aload_n (q := 0) F dL_law_635 rfl rfl ?_
  refine z_iload_n (q := 3) F dL_law_636 rfl rfl ?_
  refine z_iconst (v := nI 1) F dL_law_637 rfl ?_
  refine z_iadd F dL_law_638 ?_
  refine z_sld (j := i + 1) F X (nI_c i 1) (by omega) dL_law_639 ?_
  refine z_aload_n (q := 0) F dL_law_640 rfl rfl ?_
  refine z_iload_n (q := 3) F dL_law_641 rfl rfl ?_
  refine z_iconst (v := nI 2) F dL_law_642 rfl ?_
  refine z_iadd F dL_law_643 ?_
  refine z_sld (j := i + 2) F X (nI_c i 2) (by omega) dL_law_644 ?_
  refine clL_76 F e8 ⟨(Nat.le_of_ble_eq_true rfl), (Nat.le_of_ble_eq_true rfl)⟩ dL_law_645 (Nat.le_of_ble_eq_true rfl) ?_
  exact z_icmp_eq (tgt := 1325) F dL_law_648 rfl (fun _ => kk _ σ8 hA8 hC8 hM8) (fun hn => absurd (h7.trans h8.symm) hn)
theorem br_breaches {i : Nat} {A : AB} (F : Fx p s m #[Value.ref b] meth c cL_law 4 RL ret room_1 cz sz g a) (X : ScL s a b L xs) (hi : i + 5 < L) (hA : okAB A) (hC : RC A σ) (hM : RM A σ) (kk : ∀ A' σ', okAB A' → RC A' σ' → RM A' σ' → Z p l e room_1 s m #[Value.ref b] below meth c (lw_Z below #[Value.ref b] s) 4 g a cz sz σ' 1325 [(0, .ref b), (1, .ref (a 25)), (2, .ref (a 0)), (3, .int (nI i))] []) : Z p l e room_1 s m #[Value.ref b] below meth c (lw_Z below #[Value.ref b] s) 4 g a cz sz σ 653 [(0, .ref b), (1, .ref (a 25)), (2, .ref (a 0)), (3, .int (nI i))] [] := by
  obtain ⟨r7, σ7, e7, h7, hC7, hlo⟩ := c_breaches (xs (i + 1)) hC hA
  have hM7 := RM.frame hM hlo
  obtain ⟨r8, σ8, e8, h8, hM8, hhi⟩ := m_breaches (xs (i + 1)) hM7 hA
  have hA8 := okn_breaches (xs (i + 1)) hA
  have hC8 := RC.frame hA8 hC7 (fun c h _ => hhi c h)
  refine z_aload_n (q := 1) F dL_law_653 rfl rfl ?_
  refine z_aload_n (q := 0) F dL_law_654 rfl rfl ?_
  refine z_iload_n (q := 3) F dL_law_655 rfl rfl ?_
  refine z_iconst (v := nI 1) F dL_law_656 rfl ?_
  refine z_iadd F dL_law_657 ?_
  refine z_sld (j := i + 1) F X (nI_c i 1) (by omega) dL_law_658 ?_
  refine clL_77 F e7 ⟨(Nat.le_of_ble_eq_true rfl), (Nat.le_of_ble_eq_true rfl)⟩ dL_law_659 (Nat.le_of_ble_eq_true rfl) ?_
  refine z_aload_n (q := 2) F dL_law_662 rfl rfl ?_
  refine z_aload_n (q := 0) F dL_law_663 rfl rfl ?_
  refine z_iload_n (q := 3) F dL_law_664 rfl rfl ?_
  refine z_iconst (v := nI 1) F dL_law_665 rfl ?_
  refine z_iadd F dL_law_666 ?_
  refine z_sld (j := i + 1) F X (nI_c i 1) (by omega) dL_law_667 ?_
  refine clL_80 F e8 ⟨(Nat.le_of_ble_eq_true rfl), (Nat.le_of_ble_eq_true rfl)⟩ dL_law_668 (Nat.le_of_ble_eq_true rfl) ?_
  exact z_icmp_eq (tgt := 1325) F dL_law_671 rfl (fun _ => kk _ σ8 hA8 hC8 hM8) (fun hn => absurd (h7.trans h8.symm) hn)
theorem br_first {i : Nat} {A : AB} (F : Fx p s m #[Value.ref b] meth c cL_law 4 RL ret room_1 cz sz g a) (X : ScL s a b L xs) (hi : i + 5 < L) (hA : okAB A) (hC : RC A σ) (hM : RM A σ) (kk : ∀ A' σ', okAB A' → RC A' σ' → RM A' σ' → Z p l e room_1 s m #[Value.ref b] below meth c (lw_Z below #[Value.ref b] s) 4 g a cz sz σ' 1325 [(0, .ref b), (1, .ref (a 25)), (2, .ref (a 0)), (3, .int (nI i))] []) : Z p l e room_1 s m #[Value.ref b] below meth c (lw_Z below #[Value.ref b] s) 4 g a cz sz σ 676 [(0, .ref b), (1, .ref (a 25)), (2, .ref (a 0)), (3, .int (nI i))] [] := by
  obtain ⟨r7, σ7, e7, h7, hC7, hlo⟩ := c_first hC hA
  have hM7 := RM.frame hM hlo
  obtain ⟨r8, σ8, e8, h8, hM8, hhi⟩ := m_first hM7 hA
  have hA8 := okn_first hA
  have hC8 := RC.frame hA8 hC7 (fun c h _ => hhi c h)
  refine z_aload_n (q := 1) F dL_law_676 rfl rfl ?_
  refine clL_81 F e7 ⟨(Nat.le_of_ble_eq_true rfl), (Nat.le_of_ble_eq_true rfl)⟩ dL_law_677 (Nat.le_of_ble_eq_true rfl) ?_
  refine z_aload_n (q := 2) F dL_law_680 rfl rfl ?_
  refine clL_85 F e8 ⟨(Nat.le_of_ble_eq_true rfl), (Nat.le_of_ble_eq_true rfl)⟩ dL_law_681 (Nat.le_of_ble_eq_true rfl) ?_
  exact z_icmp_eq (tgt := 1325) F dL_law_684 rfl (fun _ => kk _ σ8 hA8 hC8 hM8) (fun hn => absurd (h7.trans h8.symm) hn)
theorem br_serves {i : Nat} {A : AB} (F : Fx p s m #[Value.ref b] meth c cL_law 4 RL ret room_1 cz sz g a) (X : ScL s a b L xs) (hi : i + 5 < L) (hA : okAB A) (hC : RC A σ) (hM : RM A σ) (kk : ∀ A' σ', okAB A' → RC A' σ' → RM A' σ' → Z p l e room_1 s m #[Value.ref b] below meth c (lw_Z below #[Value.ref b] s) 4 g a cz sz σ' 1325 [(0, .ref b), (1, .ref (a 25)), (2, .ref (a 0)), (3, .int (nI i))] []) : Z p l e room_1 s m #[Value.ref b] below meth c (lw_Z below #[Value.ref b] s) 4 g a cz sz σ 689 [(0, .ref b), (1, .ref (a 25)), (2, .ref (a 0)), (3, .int (nI i))] [] := by
  obtain ⟨r7, σ7, e7, h7, hC7, hlo⟩ := c_serves (xs (i + 1)) (xs (i + 2)) hC hA
  have hM7 := RM.frame hM hlo
  obtain ⟨r8, σ8, e8, h8, hM8, hhi⟩ := m_serves (xs (i + 1)) (xs (i + 2)) hM7 hA
  have hA8 := okn_serves (xs (i + 1)) (xs (i + 2)) hA
  have hC8 := RC.frame hA8 hC7 (fun c h _ => hhi c h)
  refine z_aload_n (q := 1) F dL_law_689 rfl rfl ?_
  refine z_aload_n (q := 0) F dL_law_690 rfl rfl ?_
  refine z_iload_n (q := 3) F dL_law_691 rfl rfl ?_
  refine z_iconst (v := nI 1) F dL_law_692 rfl ?_
  refine z_iadd F dL_law_693 ?_
  refine z_sld (j := i + 1) F X (nI_c i 1) (by omega) dL_law_694 ?_
  refine z_aload_n (q := 0) F dL_law_695 rfl rfl ?_
  refine z_iload_n (q := 3) F dL_law_696 rfl rfl ?_
  refine z_iconst (v := nI 2) F dL_law_697 rfl ?_
  refine z_iadd F dL_law_698 ?_
  refine z_sld (j := i + 2) F X (nI_c i 2) (by omega) dL_law_699 ?_
  refine clL_86 F e7 ⟨(Nat.le_of_ble_eq_true rfl), (Nat.le_of_ble_eq_true rfl)⟩ dL_law_700 (Nat.le_of_ble_eq_true rfl) ?_
  refine z_aload_n (q := 2) F dL_law_703 rfl rfl ?_
  refine z_aload_n (q := 0) F dL_law_704 rfl rfl ?_
  refine z_iload_n (q := 3) F dL_law_705 rfl rfl ?_
  refine z_iconst (v := nI 1) F dL_law_706 rfl ?_
  refine z_iadd F dL_law_707 ?_
  refine z_sld (j := i + 1) F X (nI_c i 1) (by omega) dL_law_708 ?_
  refine z_aload_n (q := 0) F dL_law_709 rfl rfl ?_
  refine z_iload_n (q := 3) F dL_law_710 rfl rfl ?_
  refine z_iconst (v := nI 2) F dL_law_711 rfl ?_
  refine z_iadd F dL_law_712 ?_
  refine z_sld (j := i + 2) F X (nI_c i 2) (by omega) dL_law_713 ?_
  refine clL_89 F e8 ⟨(Nat.le_of_ble_eq_true rfl), (Nat.le_of_ble_eq_true rfl)⟩ dL_law_714 (Nat.le_of_ble_eq_true rfl) ?_
  exact z_icmp_eq (tgt := 1325) F dL_law_717 rfl (fun _ => kk _ σ8 hA8 hC8 hM8) (fun hn => absurd (h7.trans h8.symm) hn)
theorem br_best {i : Nat} {A : AB} (F : Fx p s m #[Value.ref b] meth c cL_law 4 RL ret room_1 cz sz g a) (X : ScL s a b L xs) (hi : i + 5 < L) (hA : okAB A) (hC : RC A σ) (hM : RM A σ) (kk : ∀ A' σ', okAB A' → RC A' σ' → RM A' σ' → Z p l e room_1 s m #[Value.ref b] below meth c (lw_Z below #[Value.ref b] s) 4 g a cz sz σ' 1325 [(0, .ref b), (1, .ref (a 25)), (2, .ref (a 0)), (3, .int (nI i))] []) : Z p l e room_1 s m #[Value.ref b] below meth c (lw_Z below #[Value.ref b] s) 4 g a cz sz σ 722 [(0, .ref b), (1, .ref (a 25)), (2, .ref (a 0)), (3, .int (nI i))] [] := by
  obtain ⟨r7, σ7, e7, h7, hC7, hlo⟩ := c_best (xs (i + 1)) (xs (i + 2)) hC hA
  have hM7 := RM.frame hM hlo
  obtain ⟨r8, σ8, e8, h8, hM8, hhi⟩ := m_best (xs (i + 1)) (xs (i + 2)) hM7 hA
  have hA8 := okn_best (xs (i + 1)) (xs (i + 2)) hA
  have hC8 := RC.frame hA8 hC7 (fun c h _ => hhi c h)
  refine z_aload_n (q := 1) F dL_law_722 rfl rfl ?_
  refine z_aload_n (q := 0) F dL_law_723 rfl rfl ?_
  refine z_iload_n (q := 3) F dL_law_724 rfl rfl ?_
  refine z_iconst (v := nI 1) F dL_law_725 rfl ?_
  refine z_iadd F dL_law_726 ?_
  refine z_sld (j := i + 1) F X (nI_c i 1) (by omega) dL_law_727 ?_
  refine z_aload_n (q := 0) F dL_law_728 rfl rfl ?_
  refine z_iload_n (q := 3) F dL_law_729 rfl rfl ?_
  refine z_iconst (v := nI 2) F dL_law_730 rfl ?_
  refine z_iadd F dL_law_731 ?_
  refine z_sld (j := i + 2) F X (nI_c i 2) (by omega) dL_law_732 ?_
  refine clL_90 F e7 ⟨(Nat.le_of_ble_eq_true rfl), (Nat.le_of_ble_eq_true rfl)⟩ dL_law_733 (Nat.le_of_ble_eq_true rfl) ?_
  refine z_aload_n (q := 2) F dL_law_736 rfl rfl ?_
  refine z_aload_n (q := 0) F dL_law_737 rfl rfl ?_
  refine z_iload_n (q := 3) F dL_law_738 rfl rfl ?_
  refine z_iconst (v := nI 1) F dL_law_739 rfl ?_
  refine z_iadd F dL_law_740 ?_
  refine z_sld (j := i + 1) F X (nI_c i 1) (by omega) dL_law_741 ?_
  refine z_aload_n (q := 0) F dL_law_742 rfl rfl ?_
  refine z_iload_n (q := 3) F dL_law_743 rfl rfl ?_
  refine z_iconst (v := nI 2) F dL_law_744 rfl ?_
  refine z_iadd F dL_law_745 ?_
  refine z_sld (j := i + 2) F X (nI_c i 2) (by omega) dL_law_746 ?_
  refine clL_93 F e8 ⟨(Nat.le_of_ble_eq_true rfl), (Nat.le_of_ble_eq_true rfl)⟩ dL_law_747 (Nat.le_of_ble_eq_true rfl) ?_
  exact z_icmp_eq (tgt := 1325) F dL_law_750 rfl (fun _ => kk _ σ8 hA8 hC8 hM8) (fun hn => absurd (h7.trans h8.symm) hn)
theorem br_mend {i : Nat} {A : AB} (F : Fx p s m #[Value.ref b] meth c cL_law 4 RL ret room_1 cz sz g a) (X : ScL s a b L xs) (hi : i + 5 < L) (hA : okAB A) (hC : RC A σ) (hM : RM A σ) (kk : ∀ A' σ', okAB A' → RC A' σ' → RM A' σ' → Z p l e room_1 s m #[Value.ref b] below meth c (lw_Z below #[Value.ref b] s) 4 g a cz sz σ' 1325 [(0, .ref b), (1, .ref (a 25)), (2, .ref (a 0)), (3, .int (nI i))] []) : Z p l e room_1 s m #[Value.ref b] below meth c (lw_Z below #[Value.ref b] s) 4 g a cz sz σ 755 [(0, .ref b), (1, .ref (a 25)), (2, .ref (a 0)), (3, .int (nI i))] [] := by
  obtain ⟨r7, σ7, e7, h7, hC7, hlo⟩ := c_mend (xs (i + 1)) (xs (i + 2)) (xs (i + 3)) hC hA
  have hM7 := RM.frame hM hlo
  obtain ⟨r8, σ8, e8, h8, hM8, hhi⟩ := m_mend (xs (i + 1)) (xs (i + 2)) (xs (i + 3)) hM7 hA
  have hA8 := okn_mend (xs (i + 1)) (xs (i + 2)) (xs (i + 3)) hA
  have hC8 := RC.frame hA8 hC7 (fun c h _ => hhi c h)
  refine z_aload_n (q := 1) F dL_law_755 rfl rfl ?_
  refine z_aload_n (q := 0) F dL_law_756 rfl rfl ?_
  refine z_iload_n (q := 3) F dL_law_757 rfl rfl ?_
  refine z_iconst (v := nI 1) F dL_law_758 rfl ?_
  refine z_iadd F dL_law_759 ?_
  refine z_sld (j := i + 1) F X (nI_c i 1) (by omega) dL_law_760 ?_
  refine z_aload_n (q := 0) F dL_law_761 rfl rfl ?_
  refine z_iload_n (q := 3) F dL_law_762 rfl rfl ?_
  refine z_iconst (v := nI 2) F dL_law_763 rfl ?_
  refine z_iadd F dL_law_764 ?_
  refine z_sld (j := i + 2) F X (nI_c i 2) (by omega) dL_law_765 ?_
  refine z_aload_n (q := 0) F dL_law_766 rfl rfl ?_
  refine z_iload_n (q := 3) F dL_law_767 rfl rfl ?_
  refine z_iconst (v := nI 3) F dL_law_768 rfl ?_
  refine z_iadd F dL_law_769 ?_
  refine z_sld (j := i + 3) F X (nI_c i 3) (by omega) dL_law_770 ?_
  refine clL_94 F e7 ⟨(Nat.le_of_ble_eq_true rfl), (Nat.le_of_ble_eq_true rfl)⟩ dL_law_771 (Nat.le_of_ble_eq_true rfl) ?_
  refine z_aload_n (q := 2) F dL_law_774 rfl rfl ?_
  refine z_aload_n (q := 0) F dL_law_775 rfl rfl ?_
  refine z_iload_n (q := 3) F dL_law_776 rfl rfl ?_
  refine z_iconst (v := nI 1) F dL_law_777 rfl ?_
  refine z_iadd F dL_law_778 ?_
  refine z_sld (j := i + 1) F X (nI_c i 1) (by omega) dL_law_779 ?_
  refine z_aload_n (q := 0) F dL_law_780 rfl rfl ?_
  refine z_iload_n (q := 3) F dL_law_781 rfl rfl ?_
  refine z_iconst (v := nI 2) F dL_law_782 rfl ?_
  refine z_iadd F dL_law_783 ?_
  refine z_sld (j := i + 2) F X (nI_c i 2) (by omega) dL_law_784 ?_
  refine z_aload_n (q := 0) F dL_law_785 rfl rfl ?_
  refine z_iload_n (q := 3) F dL_law_786 rfl rfl ?_
  refine z_iconst (v := nI 3) F dL_law_787 rfl ?_
  refine z_iadd F dL_law_788 ?_
  refine z_sld (j := i + 3) F X (nI_c i 3) (by omega) dL_law_789 ?_
  refine clL_97 F e8 ⟨(Nat.le_of_ble_eq_true rfl), (Nat.le_of_ble_eq_true rfl)⟩ dL_law_790 (Nat.le_of_ble_eq_true rfl) ?_
  exact z_icmp_eq (tgt := 1325) F dL_law_793 rfl (fun _ => kk _ σ8 hA8 hC8 hM8) (fun hn => absurd (h7.trans h8.symm) hn)
theorem br_call {i : Nat} {A : AB} (F : Fx p s m #[Value.ref b] meth c cL_law 4 RL ret room_1 cz sz g a) (X : ScL s a b L xs) (hi : i + 5 < L) (hA : okAB A) (hC : RC A σ) (hM : RM A σ) (kk : ∀ A' σ', okAB A' → RC A' σ' → RM A' σ' → Z p l e room_1 s m #[Value.ref b] below meth c (lw_Z below #[Value.ref b] s) 4 g a cz sz σ' 1325 [(0, .ref b), (1, .ref (a 25)), (2, .ref (a 0)), (3, .int (nI i))] []) : Z p l e room_1 s m #[Value.ref b] below meth c (lw_Z below #[Value.ref b] s) 4 g a cz sz σ 798 [(0, .ref b), (1, .ref (a 25)), (2, .ref (a 0)), (3, .int (nI i))] [] := by
  obtain ⟨r7, σ7, e7, h7, hC7, hlo⟩ := c_call (xs (i + 1)) (xs (i + 2)) hC hA
  have hM7 := RM.frame hM hlo
  obtain ⟨r8, σ8, e8, h8, hM8, hhi⟩ := m_call (xs (i + 1)) (xs (i + 2)) hM7 hA
  have hA8 := okn_call (xs (i + 1)) (xs (i + 2)) hA
  have hC8 := RC.frame hA8 hC7 (fun c h _ => hhi c h)
  refine z_aload_n (q := 1) F dL_law_798 rfl rfl ?_
  refine z_aload_n (q := 0) F dL_law_799 rfl rfl ?_
  refine z_iload_n (q := 3) F dL_law_800 rfl rfl ?_
  refine z_iconst (v := nI 1) F dL_law_801 rfl ?_
  refine z_iadd F dL_law_802 ?_
  refine z_sld (j := i + 1) F X (nI_c i 1) (by omega) dL_law_803 ?_
  refine z_aload_n (q := 0) F dL_law_804 rfl rfl ?_
  refine z_iload_n (q := 3) F dL_law_805 rfl rfl ?_
  refine z_iconst (v := nI 2) F dL_law_806 rfl ?_
  refine z_iadd F dL_law_807 ?_
  refine z_sld (j := i + 2) F X (nI_c i 2) (by omega) dL_law_808 ?_
  refine clL_98 F e7 ⟨(Nat.le_of_ble_eq_true rfl), (Nat.le_of_ble_eq_true rfl)⟩ dL_law_809 (Nat.le_of_ble_eq_true rfl) ?_
  refine z_aload_n (q := 2) F dL_law_812 rfl rfl ?_
  refine z_aload_n (q := 0) F dL_law_813 rfl rfl ?_
  refine z_iload_n (q := 3) F dL_law_814 rfl rfl ?_
  refine z_iconst (v := nI 1) F dL_law_815 rfl ?_
  refine z_iadd F dL_law_816 ?_
  refine z_sld (j := i + 1) F X (nI_c i 1) (by omega) dL_law_817 ?_
  refine z_aload_n (q := 0) F dL_law_818 rfl rfl ?_
  refine z_iload_n (q := 3) F dL_law_819 rfl rfl ?_
  refine z_iconst (v := nI 2) F dL_law_820 rfl ?_
  refine z_iadd F dL_law_821 ?_
  refine z_sld (j := i + 2) F X (nI_c i 2) (by omega) dL_law_822 ?_
  refine clL_101 F e8 ⟨(Nat.le_of_ble_eq_true rfl), (Nat.le_of_ble_eq_true rfl)⟩ dL_law_823 (Nat.le_of_ble_eq_true rfl) ?_
  exact z_icmp_eq (tgt := 1325) F dL_law_826 rfl (fun _ => kk _ σ8 hA8 hC8 hM8) (fun hn => absurd (h7.trans h8.symm) hn)
theorem br_seen {i : Nat} {A : AB} (F : Fx p s m #[Value.ref b] meth c cL_law 4 RL ret room_1 cz sz g a) (X : ScL s a b L xs) (hi : i + 5 < L) (hA : okAB A) (hC : RC A σ) (hM : RM A σ) (kk : ∀ A' σ', okAB A' → RC A' σ' → RM A' σ' → Z p l e room_1 s m #[Value.ref b] below meth c (lw_Z below #[Value.ref b] s) 4 g a cz sz σ' 1325 [(0, .ref b), (1, .ref (a 25)), (2, .ref (a 0)), (3, .int (nI i))] []) : Z p l e room_1 s m #[Value.ref b] below meth c (lw_Z below #[Value.ref b] s) 4 g a cz sz σ 831 [(0, .ref b), (1, .ref (a 25)), (2, .ref (a 0)), (3, .int (nI i))] [] := by
  obtain ⟨r7, σ7, e7, h7, hC7, hlo⟩ := c_seen (xs (i + 1)) (xs (i + 2)) (xs (i + 3)) hC hA
  have hM7 := RM.frame hM hlo
  obtain ⟨r8, σ8, e8, h8, hM8, hhi⟩ := m_seen (xs (i + 1)) (xs (i + 2)) (xs (i + 3)) hM7 hA
  have hA8 := ok_seen (xs (i + 1)) (xs (i + 2)) (xs (i + 3)) hA
  have hC8 := RC.frame hA8 hC7 (fun c h _ => hhi c h)
  refine z_aload_n (q := 1) F dL_law_831 rfl rfl ?_
  refine z_aload_n (q := 0) F dL_law_832 rfl rfl ?_
  refine z_iload_n (q := 3) F dL_law_833 rfl rfl ?_
  refine z_iconst (v := nI 1) F dL_law_834 rfl ?_
  refine z_iadd F dL_law_835 ?_
  refine z_sld (j := i + 1) F X (nI_c i 1) (by omega) dL_law_836 ?_
  refine z_aload_n (q := 0) F dL_law_837 rfl rfl ?_
  refine z_iload_n (q := 3) F dL_law_838 rfl rfl ?_
  refine z_iconst (v := nI 2) F dL_law_839 rfl ?_
  refine z_iadd F dL_law_840 ?_
  refine z_sld (j := i + 2) F X (nI_c i 2) (by omega) dL_law_841 ?_
  refine z_aload_n (q := 0) F dL_law_842 rfl rfl ?_
  refine z_iload_n (q := 3) F dL_law_843 rfl rfl ?_
  refine z_iconst (v := nI 3) F dL_law_844 rfl ?_
  refine z_iadd F dL_law_845 ?_
  refine z_sld (j := i + 3) F X (nI_c i 3) (by omega) dL_law_846 ?_
  refine clL_102 F e7 ⟨(Nat.le_of_ble_eq_true rfl), (Nat.le_of_ble_eq_true rfl)⟩ dL_law_847 (Nat.le_of_ble_eq_true rfl) ?_
  refine z_aload_n (q := 2) F dL_law_850 rfl rfl ?_
  refine z_aload_n (q := 0) F dL_law_851 rfl rfl ?_
  refine z_iload_n (q := 3) F dL_law_852 rfl rfl ?_
  refine z_iconst (v := nI 1) F dL_law_853 rfl ?_
  refine z_iadd F dL_law_854 ?_
  refine z_sld (j := i + 1) F X (nI_c i 1) (by omega) dL_law_855 ?_
  refine z_aload_n (q := 0) F dL_law_856 rfl rfl ?_
  refine z_iload_n (q := 3) F dL_law_857 rfl rfl ?_
  refine z_iconst (v := nI 2) F dL_law_858 rfl ?_
  refine z_iadd F dL_law_859 ?_
  refine z_sld (j := i + 2) F X (nI_c i 2) (by omega) dL_law_860 ?_
  refine z_aload_n (q := 0) F dL_law_861 rfl rfl ?_
  refine z_iload_n (q := 3) F dL_law_862 rfl rfl ?_
  refine z_iconst (v := nI 3) F dL_law_863 rfl ?_
  refine z_iadd F dL_law_864 ?_
  refine z_sld (j := i + 3) F X (nI_c i 3) (by omega) dL_law_865 ?_
  refine clL_105 F e8 ⟨(Nat.le_of_ble_eq_true rfl), (Nat.le_of_ble_eq_true rfl)⟩ dL_law_866 (Nat.le_of_ble_eq_true rfl) ?_
  exact z_icmp_eq (tgt := 1325) F dL_law_869 rfl (fun _ => kk _ σ8 hA8 hC8 hM8) (fun hn => absurd (h7.trans h8.symm) hn)
theorem br_forget {i : Nat} {A : AB} (F : Fx p s m #[Value.ref b] meth c cL_law 4 RL ret room_1 cz sz g a) (X : ScL s a b L xs) (hi : i + 5 < L) (hA : okAB A) (hC : RC A σ) (hM : RM A σ) (kk : ∀ A' σ', okAB A' → RC A' σ' → RM A' σ' → Z p l e room_1 s m #[Value.ref b] below meth c (lw_Z below #[Value.ref b] s) 4 g a cz sz σ' 1325 [(0, .ref b), (1, .ref (a 25)), (2, .ref (a 0)), (3, .int (nI i))] []) : Z p l e room_1 s m #[Value.ref b] below meth c (lw_Z below #[Value.ref b] s) 4 g a cz sz σ 874 [(0, .ref b), (1, .ref (a 25)), (2, .ref (a 0)), (3, .int (nI i))] [] := by
  obtain ⟨r7, σ7, e7, h7, hC7, hlo⟩ := c_forget hC hA
  have hM7 := RM.frame hM hlo
  obtain ⟨r8, σ8, e8, h8, hM8, hhi⟩ := m_forget hM7 hA
  have hA8 := ok_forget hA
  have hC8 := RC.frame hA8 hC7 (fun c h _ => hhi c h)
  refine z_aload_n (q := 1) F dL_law_874 rfl rfl ?_
  refine clL_106 F e7 ⟨(Nat.le_of_ble_eq_true rfl), (Nat.le_of_ble_eq_true rfl)⟩ dL_law_875 (Nat.le_of_ble_eq_true rfl) ?_
  refine z_aload_n (q := 2) F dL_law_878 rfl rfl ?_
  refine clL_109 F e8 ⟨(Nat.le_of_ble_eq_true rfl), (Nat.le_of_ble_eq_true rfl)⟩ dL_law_879 (Nat.le_of_ble_eq_true rfl) ?_
  exact z_icmp_eq (tgt := 1325) F dL_law_882 rfl (fun _ => kk _ σ8 hA8 hC8 hM8) (fun hn => absurd (h7.trans h8.symm) hn)
theorem br_never {i : Nat} {A : AB} (F : Fx p s m #[Value.ref b] meth c cL_law 4 RL ret room_1 cz sz g a) (X : ScL s a b L xs) (hi : i + 5 < L) (hA : okAB A) (hC : RC A σ) (hM : RM A σ) (kk : ∀ A' σ', okAB A' → RC A' σ' → RM A' σ' → Z p l e room_1 s m #[Value.ref b] below meth c (lw_Z below #[Value.ref b] s) 4 g a cz sz σ' 1325 [(0, .ref b), (1, .ref (a 25)), (2, .ref (a 0)), (3, .int (nI i))] []) : Z p l e room_1 s m #[Value.ref b] below meth c (lw_Z below #[Value.ref b] s) 4 g a cz sz σ 887 [(0, .ref b), (1, .ref (a 25)), (2, .ref (a 0)), (3, .int (nI i))] [] := by
  obtain ⟨r7, σ7, e7, h7, hC7, hlo⟩ := c_never (xs (i + 1)) hC hA
  have hM7 := RM.frame hM hlo
  obtain ⟨r8, σ8, e8, h8, hM8, hhi⟩ := m_never (xs (i + 1)) hM7 hA
  have hA8 := okn_never (xs (i + 1)) hA
  have hC8 := RC.frame hA8 hC7 (fun c h _ => hhi c h)
  refine z_aload_n (q := 1) F dL_law_887 rfl rfl ?_
  refine z_aload_n (q := 0) F dL_law_888 rfl rfl ?_
  refine z_iload_n (q := 3) F dL_law_889 rfl rfl ?_
  refine z_iconst (v := nI 1) F dL_law_890 rfl ?_
  refine z_iadd F dL_law_891 ?_
  refine z_sld (j := i + 1) F X (nI_c i 1) (by omega) dL_law_892 ?_
  refine clL_110 F e7 ⟨(Nat.le_of_ble_eq_true rfl), (Nat.le_of_ble_eq_true rfl)⟩ dL_law_893 (Nat.le_of_ble_eq_true rfl) ?_
  refine z_aload_n (q := 2) F dL_law_896 rfl rfl ?_
  refine z_aload_n (q := 0) F dL_law_897 rfl rfl ?_
  refine z_iload_n (q := 3) F dL_law_898 rfl rfl ?_
  refine z_iconst (v := nI 1) F dL_law_899 rfl ?_
  refine z_iadd F dL_law_900 ?_
  refine z_sld (j := i + 1) F X (nI_c i 1) (by omega) dL_law_901 ?_
  refine clL_113 F e8 ⟨(Nat.le_of_ble_eq_true rfl), (Nat.le_of_ble_eq_true rfl)⟩ dL_law_902 (Nat.le_of_ble_eq_true rfl) ?_
  exact z_icmp_eq (tgt := 1325) F dL_law_905 rfl (fun _ => kk _ σ8 hA8 hC8 hM8) (fun hn => absurd (h7.trans h8.symm) hn)
theorem br_look {i : Nat} {A : AB} (F : Fx p s m #[Value.ref b] meth c cL_law 4 RL ret room_1 cz sz g a) (X : ScL s a b L xs) (hi : i + 5 < L) (hA : okAB A) (hC : RC A σ) (hM : RM A σ) (kk : ∀ A' σ', okAB A' → RC A' σ' → RM A' σ' → Z p l e room_1 s m #[Value.ref b] below meth c (lw_Z below #[Value.ref b] s) 4 g a cz sz σ' 1325 [(0, .ref b), (1, .ref (a 25)), (2, .ref (a 0)), (3, .int (nI i))] []) : Z p l e room_1 s m #[Value.ref b] below meth c (lw_Z below #[Value.ref b] s) 4 g a cz sz σ 910 [(0, .ref b), (1, .ref (a 25)), (2, .ref (a 0)), (3, .int (nI i))] [] := by
  obtain ⟨r7, σ7, e7, h7, hC7, hlo⟩ := c_look (xs (i + 1)) hC hA
  have hM7 := RM.frame hM hlo
  obtain ⟨r8, σ8, e8, h8, hM8, hhi⟩ := m_look (xs (i + 1)) hM7 hA
  have hA8 := okn_look (xs (i + 1)) hA
  have hC8 := RC.frame hA8 hC7 (fun c h _ => hhi c h)
  refine z_aload_n (q := 1) F dL_law_910 rfl rfl ?_
  refine z_aload_n (q := 0) F dL_law_911 rfl rfl ?_
  refine z_iload_n (q := 3) F dL_law_912 rfl rfl ?_
  refine z_iconst (v := nI 1) F dL_law_913 rfl ?_
  refine z_iadd F dL_law_914 ?_
  refine z_sld (j := i + 1) F X (nI_c i 1) (by omega) dL_law_915 ?_
  refine clL_114 F e7 ⟨(Nat.le_of_ble_eq_true rfl), (Nat.le_of_ble_eq_true rfl)⟩ dL_law_916 (Nat.le_of_ble_eq_true rfl) ?_
  refine z_aload_n (q := 2) F dL_law_919 rfl rfl ?_
  refine z_aload_n (q := 0) F dL_law_920 rfl rfl ?_
  refine z_iload_n (q := 3) F dL_law_921 rfl rfl ?_
  refine z_iconst (v := nI 1) F dL_law_922 rfl ?_
  refine z_iadd F dL_law_923 ?_
  refine z_sld (j := i + 1) F X (nI_c i 1) (by omega) dL_law_924 ?_
  refine clL_117 F e8 ⟨(Nat.le_of_ble_eq_true rfl), (Nat.le_of_ble_eq_true rfl)⟩ dL_law_925 (Nat.le_of_ble_eq_true rfl) ?_
  exact z_icmp_eq (tgt := 1325) F dL_law_928 rfl (fun _ => kk _ σ8 hA8 hC8 hM8) (fun hn => absurd (h7.trans h8.symm) hn)
theorem br_moths {i : Nat} {A : AB} (F : Fx p s m #[Value.ref b] meth c cL_law 4 RL ret room_1 cz sz g a) (X : ScL s a b L xs) (hi : i + 5 < L) (hA : okAB A) (hC : RC A σ) (hM : RM A σ) (kk : ∀ A' σ', okAB A' → RC A' σ' → RM A' σ' → Z p l e room_1 s m #[Value.ref b] below meth c (lw_Z below #[Value.ref b] s) 4 g a cz sz σ' 1325 [(0, .ref b), (1, .ref (a 25)), (2, .ref (a 0)), (3, .int (nI i))] []) : Z p l e room_1 s m #[Value.ref b] below meth c (lw_Z below #[Value.ref b] s) 4 g a cz sz σ 933 [(0, .ref b), (1, .ref (a 25)), (2, .ref (a 0)), (3, .int (nI i))] [] := by
  obtain ⟨r7, σ7, e7, h7, hC7, hlo⟩ := c_moths (xs (i + 1)) (xs (i + 2)) (xs (i + 3)) (xs (i + 4)) hC hA
  have hM7 := RM.frame hM hlo
  obtain ⟨r8, σ8, e8, h8, hM8, hhi⟩ := m_moths (xs (i + 1)) (xs (i + 2)) (xs (i + 3)) (xs (i + 4)) hM7 hA
  have hA8 := okn_moths (xs (i + 1)) (xs (i + 2)) (xs (i + 3)) (xs (i + 4)) hA
  have hC8 := RC.frame hA8 hC7 (fun c h _ => hhi c h)
  refine z_aload_n (q := 1) F dL_law_933 rfl rfl ?_
  refine z_aload_n (q := 0) F dL_law_934 rfl rfl ?_
  refine z_iload_n (q := 3) F dL_law_935 rfl rfl ?_
  refine z_iconst (v := nI 1) F dL_law_936 rfl ?_
  refine z_iadd F dL_law_937 ?_
  refine z_sld (j := i + 1) F X (nI_c i 1) (by omega) dL_law_938 ?_
  refine z_aload_n (q := 0) F dL_law_939 rfl rfl ?_
  refine z_iload_n (q := 3) F dL_law_940 rfl rfl ?_
  refine z_iconst (v := nI 2) F dL_law_941 rfl ?_
  refine z_iadd F dL_law_942 ?_
  refine z_sld (j := i + 2) F X (nI_c i 2) (by omega) dL_law_943 ?_
  refine z_aload_n (q := 0) F dL_law_944 rfl rfl ?_
  refine z_iload_n (q := 3) F dL_law_945 rfl rfl ?_
  refine z_iconst (v := nI 3) F dL_law_946 rfl ?_
  refine z_iadd F dL_law_947 ?_
  refine z_sld (j := i + 3) F X (nI_c i 3) (by omega) dL_law_948 ?_
  refine z_aload_n (q := 0) F dL_law_949 rfl rfl ?_
  refine z_iload_n (q := 3) F dL_law_950 rfl rfl ?_
  refine z_iconst (v := nI 4) F dL_law_951 rfl ?_
  refine z_iadd F dL_law_952 ?_
  refine z_sld (j := i + 4) F X (nI_c i 4) (by omega) dL_law_953 ?_
  refine clL_118 F e7 ⟨(Nat.le_of_ble_eq_true rfl), (Nat.le_of_ble_eq_true rfl)⟩ dL_law_954 (Nat.le_of_ble_eq_true rfl) ?_
  refine z_aload_n (q := 2) F dL_law_957 rfl rfl ?_
  refine z_aload_n (q := 0) F dL_law_958 rfl rfl ?_
  refine z_iload_n (q := 3) F dL_law_959 rfl rfl ?_
  refine z_iconst (v := nI 1) F dL_law_960 rfl ?_
  refine z_iadd F dL_law_961 ?_
  refine z_sld (j := i + 1) F X (nI_c i 1) (by omega) dL_law_962 ?_
  refine z_aload_n (q := 0) F dL_law_963 rfl rfl ?_
  refine z_iload_n (q := 3) F dL_law_964 rfl rfl ?_
  refine z_iconst (v := nI 2) F dL_law_965 rfl ?_
  refine z_iadd F dL_law_966 ?_
  refine z_sld (j := i + 2) F X (nI_c i 2) (by omega) dL_law_967 ?_
  refine z_aload_n (q := 0) F dL_law_968 rfl rfl ?_
  refine z_iload_n (q := 3) F dL_law_969 rfl rfl ?_
  refine z_iconst (v := nI 3) F dL_law_970 rfl ?_
  refine z_iadd F dL_law_971 ?_
  refine z_sld (j := i + 3) F X (nI_c i 3) (by omega) dL_law_972 ?_
  refine z_aload_n (q := 0) F dL_law_973 rfl rfl ?_
  refine z_iload_n (q := 3) F dL_law_974 rfl rfl ?_
  refine z_iconst (v := nI 4) F dL_law_975 rfl ?_
  refine z_iadd F dL_law_976 ?_
  refine z_sld (j := i + 4) F X (nI_c i 4) (by omega) dL_law_977 ?_
  refine clL_122 F e8 ⟨(Nat.le_of_ble_eq_true rfl), (Nat.le_of_ble_eq_true rfl)⟩ dL_law_978 (Nat.le_of_ble_eq_true rfl) ?_
  refine z_lcmp F dL_law_981 ?_
  exact z_if_eq (tgt := 1325) F dL_law_982 rfl (fun _ => kk _ σ8 hA8 hC8 hM8) (fun hn => absurd ((lg_cmp_eq _ _).mpr (h7.trans h8.symm)) hn)
theorem br_run {i : Nat} {A : AB} (F : Fx p s m #[Value.ref b] meth c cL_law 4 RL ret room_1 cz sz g a) (X : ScL s a b L xs) (hi : i + 5 < L) (hA : okAB A) (hC : RC A σ) (hM : RM A σ) (kk : ∀ A' σ', okAB A' → RC A' σ' → RM A' σ' → Z p l e room_1 s m #[Value.ref b] below meth c (lw_Z below #[Value.ref b] s) 4 g a cz sz σ' 1325 [(0, .ref b), (1, .ref (a 25)), (2, .ref (a 0)), (3, .int (nI i))] []) : Z p l e room_1 s m #[Value.ref b] below meth c (lw_Z below #[Value.ref b] s) 4 g a cz sz σ 987 [(0, .ref b), (1, .ref (a 25)), (2, .ref (a 0)), (3, .int (nI i))] [] := by
  obtain ⟨r7, σ7, e7, h7, hC7, hlo⟩ := c_run (xs (i + 1)) (xs (i + 2)) (xs (i + 3)) hC hA
  have hM7 := RM.frame hM hlo
  obtain ⟨r8, σ8, e8, h8, hM8, hhi⟩ := m_run (xs (i + 1)) (xs (i + 2)) (xs (i + 3)) hM7 hA
  have hA8 := okn_run (xs (i + 1)) (xs (i + 2)) (xs (i + 3)) hA
  have hC8 := RC.frame hA8 hC7 (fun c h _ => hhi c h)
  refine z_aload_n (q := 1) F dL_law_987 rfl rfl ?_
  refine z_aload_n (q := 0) F dL_law_988 rfl rfl ?_
  refine z_iload_n (q := 3) F dL_law_989 rfl rfl ?_
  refine z_iconst (v := nI 1) F dL_law_990 rfl ?_
  refine z_iadd F dL_law_991 ?_
  refine z_sld (j := i + 1) F X (nI_c i 1) (by omega) dL_law_992 ?_
  refine z_aload_n (q := 0) F dL_law_993 rfl rfl ?_
  refine z_iload_n (q := 3) F dL_law_994 rfl rfl ?_
  refine z_iconst (v := nI 2) F dL_law_995 rfl ?_
  refine z_iadd F dL_law_996 ?_
  refine z_sld (j := i + 2) F X (nI_c i 2) (by omega) dL_law_997 ?_
  refine z_aload_n (q := 0) F dL_law_998 rfl rfl ?_
  refine z_iload_n (q := 3) F dL_law_999 rfl rfl ?_
  refine z_iconst (v := nI 3) F dL_law_1000 rfl ?_
  refine z_iadd F dL_law_1001 ?_
  refine z_sld (j := i + 3) F X (nI_c i 3) (by omega) dL_law_1002 ?_
  refine clL_123 F e7 ⟨(Nat.le_of_ble_eq_true rfl), (Nat.le_of_ble_eq_true rfl)⟩ dL_law_1003 (Nat.le_of_ble_eq_true rfl) ?_
  refine z_aload_n (q := 2) F dL_law_1006 rfl rfl ?_
  refine z_aload_n (q := 0) F dL_law_1007 rfl rfl ?_
  refine z_iload_n (q := 3) F dL_law_1008 rfl rfl ?_
  refine z_iconst (v := nI 1) F dL_law_1009 rfl ?_
  refine z_iadd F dL_law_1010 ?_
  refine z_sld (j := i + 1) F X (nI_c i 1) (by omega) dL_law_1011 ?_
  refine z_aload_n (q := 0) F dL_law_1012 rfl rfl ?_
  refine z_iload_n (q := 3) F dL_law_1013 rfl rfl ?_
  refine z_iconst (v := nI 2) F dL_law_1014 rfl ?_
  refine z_iadd F dL_law_1015 ?_
  refine z_sld (j := i + 2) F X (nI_c i 2) (by omega) dL_law_1016 ?_
  refine z_aload_n (q := 0) F dL_law_1017 rfl rfl ?_
  refine z_iload_n (q := 3) F dL_law_1018 rfl rfl ?_
  refine z_iconst (v := nI 3) F dL_law_1019 rfl ?_
  refine z_iadd F dL_law_1020 ?_
  refine z_sld (j := i + 3) F X (nI_c i 3) (by omega) dL_law_1021 ?_
  refine clL_126 F e8 ⟨(Nat.le_of_ble_eq_true rfl), (Nat.le_of_ble_eq_true rfl)⟩ dL_law_1022 (Nat.le_of_ble_eq_true rfl) ?_
  exact z_icmp_eq (tgt := 1325) F dL_law_1025 rfl (fun _ => kk _ σ8 hA8 hC8 hM8) (fun hn => absurd (h7.trans h8.symm) hn)
theorem br_sheet {i : Nat} {A : AB} (F : Fx p s m #[Value.ref b] meth c cL_law 4 RL ret room_1 cz sz g a) (X : ScL s a b L xs) (hi : i + 5 < L) (hA : okAB A) (hC : RC A σ) (hM : RM A σ) (kk : ∀ A' σ', okAB A' → RC A' σ' → RM A' σ' → Z p l e room_1 s m #[Value.ref b] below meth c (lw_Z below #[Value.ref b] s) 4 g a cz sz σ' 1325 [(0, .ref b), (1, .ref (a 25)), (2, .ref (a 0)), (3, .int (nI i))] []) : Z p l e room_1 s m #[Value.ref b] below meth c (lw_Z below #[Value.ref b] s) 4 g a cz sz σ 1030 [(0, .ref b), (1, .ref (a 25)), (2, .ref (a 0)), (3, .int (nI i))] [] := by
  obtain ⟨r7, σ7, e7, h7, hC7, hlo⟩ := c_sheet (xs (i + 1)) (xs (i + 2)) (xs (i + 3)) hC hA
  have hM7 := RM.frame hM hlo
  obtain ⟨r8, σ8, e8, h8, hM8, hhi⟩ := m_sheet (xs (i + 1)) (xs (i + 2)) (xs (i + 3)) hM7 hA
  have hA8 := ok_sheet (xs (i + 1)) (xs (i + 2)) (xs (i + 3)) hA
  have hC8 := RC.frame hA8 hC7 (fun c h _ => hhi c h)
  refine z_aload_n (q := 1) F dL_law_1030 rfl rfl ?_
  refine z_aload_n (q := 0) F dL_law_1031 rfl rfl ?_
  refine z_iload_n (q := 3) F dL_law_1032 rfl rfl ?_
  refine z_iconst (v := nI 1) F dL_law_1033 rfl ?_
  refine z_iadd F dL_law_1034 ?_
  refine z_sld (j := i + 1) F X (nI_c i 1) (by omega) dL_law_1035 ?_
  refine z_aload_n (q := 0) F dL_law_1036 rfl rfl ?_
  refine z_iload_n (q := 3) F dL_law_1037 rfl rfl ?_
  refine z_iconst (v := nI 2) F dL_law_1038 rfl ?_
  refine z_iadd F dL_law_1039 ?_
  refine z_sld (j := i + 2) F X (nI_c i 2) (by omega) dL_law_1040 ?_
  refine z_aload_n (q := 0) F dL_law_1041 rfl rfl ?_
  refine z_iload_n (q := 3) F dL_law_1042 rfl rfl ?_
  refine z_iconst (v := nI 3) F dL_law_1043 rfl ?_
  refine z_iadd F dL_law_1044 ?_
  refine z_sld (j := i + 3) F X (nI_c i 3) (by omega) dL_law_1045 ?_
  refine clL_127 F e7 ⟨(Nat.le_of_ble_eq_true rfl), (Nat.le_of_ble_eq_true rfl)⟩ dL_law_1046 (Nat.le_of_ble_eq_true rfl) ?_
  refine z_aload_n (q := 2) F dL_law_1049 rfl rfl ?_
  refine z_aload_n (q := 0) F dL_law_1050 rfl rfl ?_
  refine z_iload_n (q := 3) F dL_law_1051 rfl rfl ?_
  refine z_iconst (v := nI 1) F dL_law_1052 rfl ?_
  refine z_iadd F dL_law_1053 ?_
  refine z_sld (j := i + 1) F X (nI_c i 1) (by omega) dL_law_1054 ?_
  refine z_aload_n (q := 0) F dL_law_1055 rfl rfl ?_
  refine z_iload_n (q := 3) F dL_law_1056 rfl rfl ?_
  refine z_iconst (v := nI 2) F dL_law_1057 rfl ?_
  refine z_iadd F dL_law_1058 ?_
  refine z_sld (j := i + 2) F X (nI_c i 2) (by omega) dL_law_1059 ?_
  refine z_aload_n (q := 0) F dL_law_1060 rfl rfl ?_
  refine z_iload_n (q := 3) F dL_law_1061 rfl rfl ?_
  refine z_iconst (v := nI 3) F dL_law_1062 rfl ?_
  refine z_iadd F dL_law_1063 ?_
  refine z_sld (j := i + 3) F X (nI_c i 3) (by omega) dL_law_1064 ?_
  refine clL_130 F e8 ⟨(Nat.le_of_ble_eq_true rfl), (Nat.le_of_ble_eq_true rfl)⟩ dL_law_1065 (Nat.le_of_ble_eq_true rfl) ?_
  exact z_icmp_eq (tgt := 1325) F dL_law_1068 rfl (fun _ => kk _ σ8 hA8 hC8 hM8) (fun hn => absurd (h7.trans h8.symm) hn)
theorem br_lose {i : Nat} {A : AB} (F : Fx p s m #[Value.ref b] meth c cL_law 4 RL ret room_1 cz sz g a) (X : ScL s a b L xs) (hi : i + 5 < L) (hA : okAB A) (hC : RC A σ) (hM : RM A σ) (kk : ∀ A' σ', okAB A' → RC A' σ' → RM A' σ' → Z p l e room_1 s m #[Value.ref b] below meth c (lw_Z below #[Value.ref b] s) 4 g a cz sz σ' 1325 [(0, .ref b), (1, .ref (a 25)), (2, .ref (a 0)), (3, .int (nI i))] []) : Z p l e room_1 s m #[Value.ref b] below meth c (lw_Z below #[Value.ref b] s) 4 g a cz sz σ 1073 [(0, .ref b), (1, .ref (a 25)), (2, .ref (a 0)), (3, .int (nI i))] [] := by
  obtain ⟨r7, σ7, e7, h7, hC7, hlo⟩ := c_lose (xs (i + 1)) hC hA
  have hM7 := RM.frame hM hlo
  obtain ⟨r8, σ8, e8, h8, hM8, hhi⟩ := m_lose (xs (i + 1)) hM7 hA
  have hA8 := ok_lose (xs (i + 1)) hA
  have hC8 := RC.frame hA8 hC7 (fun c h _ => hhi c h)
  refine z_aload_n (q := 1) F dL_law_1073 rfl rfl ?_
  refine z_aload_n (q := 0) F dL_law_1074 rfl rfl ?_
  refine z_iload_n (q := 3) F dL_law_1075 rfl rfl ?_
  refine z_iconst (v := nI 1) F dL_law_1076 rfl ?_
  refine z_iadd F dL_law_1077 ?_
  refine z_sld (j := i + 1) F X (nI_c i 1) (by omega) dL_law_1078 ?_
  refine clL_131 F e7 ⟨(Nat.le_of_ble_eq_true rfl), (Nat.le_of_ble_eq_true rfl)⟩ dL_law_1079 (Nat.le_of_ble_eq_true rfl) ?_
  refine z_aload_n (q := 2) F dL_law_1082 rfl rfl ?_
  refine z_aload_n (q := 0) F dL_law_1083 rfl rfl ?_
  refine z_iload_n (q := 3) F dL_law_1084 rfl rfl ?_
  refine z_iconst (v := nI 1) F dL_law_1085 rfl ?_
  refine z_iadd F dL_law_1086 ?_
  refine z_sld (j := i + 1) F X (nI_c i 1) (by omega) dL_law_1087 ?_
  refine clL_134 F e8 ⟨(Nat.le_of_ble_eq_true rfl), (Nat.le_of_ble_eq_true rfl)⟩ dL_law_1088 (Nat.le_of_ble_eq_true rfl) ?_
  exact z_icmp_eq (tgt := 1325) F dL_law_1091 rfl (fun _ => kk _ σ8 hA8 hC8 hM8) (fun hn => absurd (h7.trans h8.symm) hn)
theorem br_lay {i : Nat} {A : AB} (F : Fx p s m #[Value.ref b] meth c cL_law 4 RL ret room_1 cz sz g a) (X : ScL s a b L xs) (hi : i + 5 < L) (hA : okAB A) (hC : RC A σ) (hM : RM A σ) (kk : ∀ A' σ', okAB A' → RC A' σ' → RM A' σ' → Z p l e room_1 s m #[Value.ref b] below meth c (lw_Z below #[Value.ref b] s) 4 g a cz sz σ' 1325 [(0, .ref b), (1, .ref (a 25)), (2, .ref (a 0)), (3, .int (nI i))] []) : Z p l e room_1 s m #[Value.ref b] below meth c (lw_Z below #[Value.ref b] s) 4 g a cz sz σ 1096 [(0, .ref b), (1, .ref (a 25)), (2, .ref (a 0)), (3, .int (nI i))] [] := by
  obtain ⟨r7, σ7, e7, h7, hC7, hlo⟩ := c_lay (xs (i + 1)) (xs (i + 2)) (xs (i + 3)) (xs (i + 4)) hC hA
  have hM7 := RM.frame hM hlo
  obtain ⟨r8, σ8, e8, h8, hM8, hhi⟩ := m_lay (xs (i + 1)) (xs (i + 2)) (xs (i + 3)) (xs (i + 4)) hM7 hA
  have hA8 := ok_lay (xs (i + 1)) (xs (i + 2)) (xs (i + 3)) (xs (i + 4)) hA
  have hC8 := RC.frame hA8 hC7 (fun c h _ => hhi c h)
  refine z_aload_n (q := 1) F dL_law_1096 rfl rfl ?_
  refine z_aload_n (q := 0) F dL_law_1097 rfl rfl ?_
  refine z_iload_n (q := 3) F dL_law_1098 rfl rfl ?_
  refine z_iconst (v := nI 1) F dL_law_1099 rfl ?_
  refine z_iadd F dL_law_1100 ?_
  refine z_sld (j := i + 1) F X (nI_c i 1) (by omega) dL_law_1101 ?_
  refine z_aload_n (q := 0) F dL_law_1102 rfl rfl ?_
  refine z_iload_n (q := 3) F dL_law_1103 rfl rfl ?_
  refine z_iconst (v := nI 2) F dL_law_1104 rfl ?_
  refine z_iadd F dL_law_1105 ?_
  refine z_sld (j := i + 2) F X (nI_c i 2) (by omega) dL_law_1106 ?_
  refine z_aload_n (q := 0) F dL_law_1107 rfl rfl ?_
  refine z_iload_n (q := 3) F dL_law_1108 rfl rfl ?_
  refine z_iconst (v := nI 3) F dL_law_1109 rfl ?_
  refine z_iadd F dL_law_1110 ?_
  refine z_sld (j := i + 3) F X (nI_c i 3) (by omega) dL_law_1111 ?_
  refine z_aload_n (q := 0) F dL_law_1112 rfl rfl ?_
  refine z_iload_n (q := 3) F dL_law_1113 rfl rfl ?_
  refine z_iconst (v := nI 4) F dL_law_1114 rfl ?_
  refine z_iadd F dL_law_1115 ?_
  refine z_sld (j := i + 4) F X (nI_c i 4) (by omega) dL_law_1116 ?_
  refine clL_135 F e7 ⟨(Nat.le_of_ble_eq_true rfl), (Nat.le_of_ble_eq_true rfl)⟩ dL_law_1117 (Nat.le_of_ble_eq_true rfl) ?_
  refine z_aload_n (q := 2) F dL_law_1120 rfl rfl ?_
  refine z_aload_n (q := 0) F dL_law_1121 rfl rfl ?_
  refine z_iload_n (q := 3) F dL_law_1122 rfl rfl ?_
  refine z_iconst (v := nI 1) F dL_law_1123 rfl ?_
  refine z_iadd F dL_law_1124 ?_
  refine z_sld (j := i + 1) F X (nI_c i 1) (by omega) dL_law_1125 ?_
  refine z_aload_n (q := 0) F dL_law_1126 rfl rfl ?_
  refine z_iload_n (q := 3) F dL_law_1127 rfl rfl ?_
  refine z_iconst (v := nI 2) F dL_law_1128 rfl ?_
  refine z_iadd F dL_law_1129 ?_
  refine z_sld (j := i + 2) F X (nI_c i 2) (by omega) dL_law_1130 ?_
  refine z_aload_n (q := 0) F dL_law_1131 rfl rfl ?_
  refine z_iload_n (q := 3) F dL_law_1132 rfl rfl ?_
  refine z_iconst (v := nI 3) F dL_law_1133 rfl ?_
  refine z_iadd F dL_law_1134 ?_
  refine z_sld (j := i + 3) F X (nI_c i 3) (by omega) dL_law_1135 ?_
  refine z_aload_n (q := 0) F dL_law_1136 rfl rfl ?_
  refine z_iload_n (q := 3) F dL_law_1137 rfl rfl ?_
  refine z_iconst (v := nI 4) F dL_law_1138 rfl ?_
  refine z_iadd F dL_law_1139 ?_
  refine z_sld (j := i + 4) F X (nI_c i 4) (by omega) dL_law_1140 ?_
  refine clL_138 F e8 ⟨(Nat.le_of_ble_eq_true rfl), (Nat.le_of_ble_eq_true rfl)⟩ dL_law_1141 (Nat.le_of_ble_eq_true rfl) ?_
  exact z_icmp_eq (tgt := 1325) F dL_law_1144 rfl (fun _ => kk _ σ8 hA8 hC8 hM8) (fun hn => absurd (h7.trans h8.symm) hn)
theorem br_get {i : Nat} {A : AB} (F : Fx p s m #[Value.ref b] meth c cL_law 4 RL ret room_1 cz sz g a) (X : ScL s a b L xs) (hi : i + 5 < L) (hA : okAB A) (hC : RC A σ) (hM : RM A σ) (kk : ∀ A' σ', okAB A' → RC A' σ' → RM A' σ' → Z p l e room_1 s m #[Value.ref b] below meth c (lw_Z below #[Value.ref b] s) 4 g a cz sz σ' 1325 [(0, .ref b), (1, .ref (a 25)), (2, .ref (a 0)), (3, .int (nI i))] []) : Z p l e room_1 s m #[Value.ref b] below meth c (lw_Z below #[Value.ref b] s) 4 g a cz sz σ 1149 [(0, .ref b), (1, .ref (a 25)), (2, .ref (a 0)), (3, .int (nI i))] [] := by
  obtain ⟨r7, σ7, e7, h7, hC7, hlo⟩ := c_get (xs (i + 1)) (xs (i + 2)) (xs (i + 3)) hC hA
  have hM7 := RM.frame hM hlo
  obtain ⟨r8, σ8, e8, h8, hM8, hhi⟩ := m_get (xs (i + 1)) (xs (i + 2)) (xs (i + 3)) hM7 hA
  have hA8 := ok_get (xs (i + 1)) (xs (i + 2)) (xs (i + 3)) hA
  have hC8 := RC.frame hA8 hC7 (fun c h _ => hhi c h)
  refine z_aload_n (q := 1) F dL_law_1149 rfl rfl ?_
  refine z_aload_n (q := 0) F dL_law_1150 rfl rfl ?_
  refine z_iload_n (q := 3) F dL_law_1151 rfl rfl ?_
  refine z_iconst (v := nI 1) F dL_law_1152 rfl ?_
  refine z_iadd F dL_law_1153 ?_
  refine z_sld (j := i + 1) F X (nI_c i 1) (by omega) dL_law_1154 ?_
  refine z_aload_n (q := 0) F dL_law_1155 rfl rfl ?_
  refine z_iload_n (q := 3) F dL_law_1156 rfl rfl ?_
  refine z_iconst (v := nI 2) F dL_law_1157 rfl ?_
  refine z_iadd F dL_law_1158 ?_
  refine z_sld (j := i + 2) F X (nI_c i 2) (by omega) dL_law_1159 ?_
  refine z_aload_n (q := 0) F dL_law_1160 rfl rfl ?_
  refine z_iload_n (q := 3) F dL_law_1161 rfl rfl ?_
  refine z_iconst (v := nI 3) F dL_law_1162 rfl ?_
  refine z_iadd F dL_law_1163 ?_
  refine z_sld (j := i + 3) F X (nI_c i 3) (by omega) dL_law_1164 ?_
  refine clL_139 F e7 ⟨(Nat.le_of_ble_eq_true rfl), (Nat.le_of_ble_eq_true rfl)⟩ dL_law_1165 (Nat.le_of_ble_eq_true rfl) ?_
  refine z_aload_n (q := 2) F dL_law_1168 rfl rfl ?_
  refine z_aload_n (q := 0) F dL_law_1169 rfl rfl ?_
  refine z_iload_n (q := 3) F dL_law_1170 rfl rfl ?_
  refine z_iconst (v := nI 1) F dL_law_1171 rfl ?_
  refine z_iadd F dL_law_1172 ?_
  refine z_sld (j := i + 1) F X (nI_c i 1) (by omega) dL_law_1173 ?_
  refine z_aload_n (q := 0) F dL_law_1174 rfl rfl ?_
  refine z_iload_n (q := 3) F dL_law_1175 rfl rfl ?_
  refine z_iconst (v := nI 2) F dL_law_1176 rfl ?_
  refine z_iadd F dL_law_1177 ?_
  refine z_sld (j := i + 2) F X (nI_c i 2) (by omega) dL_law_1178 ?_
  refine z_aload_n (q := 0) F dL_law_1179 rfl rfl ?_
  refine z_iload_n (q := 3) F dL_law_1180 rfl rfl ?_
  refine z_iconst (v := nI 3) F dL_law_1181 rfl ?_
  refine z_iadd F dL_law_1182 ?_
  refine z_sld (j := i + 3) F X (nI_c i 3) (by omega) dL_law_1183 ?_
  refine clL_142 F e8 ⟨(Nat.le_of_ble_eq_true rfl), (Nat.le_of_ble_eq_true rfl)⟩ dL_law_1184 (Nat.le_of_ble_eq_true rfl) ?_
  exact z_icmp_eq (tgt := 1325) F dL_law_1187 rfl (fun _ => kk _ σ8 hA8 hC8 hM8) (fun hn => absurd (h7.trans h8.symm) hn)
theorem br_copy {i : Nat} {A : AB} (F : Fx p s m #[Value.ref b] meth c cL_law 4 RL ret room_1 cz sz g a) (X : ScL s a b L xs) (hi : i + 5 < L) (hA : okAB A) (hC : RC A σ) (hM : RM A σ) (kk : ∀ A' σ', okAB A' → RC A' σ' → RM A' σ' → Z p l e room_1 s m #[Value.ref b] below meth c (lw_Z below #[Value.ref b] s) 4 g a cz sz σ' 1325 [(0, .ref b), (1, .ref (a 25)), (2, .ref (a 0)), (3, .int (nI i))] []) : Z p l e room_1 s m #[Value.ref b] below meth c (lw_Z below #[Value.ref b] s) 4 g a cz sz σ 1192 [(0, .ref b), (1, .ref (a 25)), (2, .ref (a 0)), (3, .int (nI i))] [] := by
  obtain ⟨r7, σ7, e7, h7, hC7, hlo⟩ := c_copy (xs (i + 1)) (xs (i + 2)) (xs (i + 3)) (xs (i + 4)) (xs (i + 5)) hC hA
  have hM7 := RM.frame hM hlo
  obtain ⟨r8, σ8, e8, h8, hM8, hhi⟩ := m_copy (xs (i + 1)) (xs (i + 2)) (xs (i + 3)) (xs (i + 4)) (xs (i + 5)) hM7 hA
  have hA8 := ok_copy (xs (i + 1)) (xs (i + 2)) (xs (i + 3)) (xs (i + 4)) (xs (i + 5)) hA
  have hC8 := RC.frame hA8 hC7 (fun c h _ => hhi c h)
  refine z_aload_n (q := 1) F dL_law_1192 rfl rfl ?_
  refine z_aload_n (q := 0) F dL_law_1193 rfl rfl ?_
  refine z_iload_n (q := 3) F dL_law_1194 rfl rfl ?_
  refine z_iconst (v := nI 1) F dL_law_1195 rfl ?_
  refine z_iadd F dL_law_1196 ?_
  refine z_sld (j := i + 1) F X (nI_c i 1) (by omega) dL_law_1197 ?_
  refine z_aload_n (q := 0) F dL_law_1198 rfl rfl ?_
  refine z_iload_n (q := 3) F dL_law_1199 rfl rfl ?_
  refine z_iconst (v := nI 2) F dL_law_1200 rfl ?_
  refine z_iadd F dL_law_1201 ?_
  refine z_sld (j := i + 2) F X (nI_c i 2) (by omega) dL_law_1202 ?_
  refine z_aload_n (q := 0) F dL_law_1203 rfl rfl ?_
  refine z_iload_n (q := 3) F dL_law_1204 rfl rfl ?_
  refine z_iconst (v := nI 3) F dL_law_1205 rfl ?_
  refine z_iadd F dL_law_1206 ?_
  refine z_sld (j := i + 3) F X (nI_c i 3) (by omega) dL_law_1207 ?_
  refine z_aload_n (q := 0) F dL_law_1208 rfl rfl ?_
  refine z_iload_n (q := 3) F dL_law_1209 rfl rfl ?_
  refine z_iconst (v := nI 4) F dL_law_1210 rfl ?_
  refine z_iadd F dL_law_1211 ?_
  refine z_sld (j := i + 4) F X (nI_c i 4) (by omega) dL_law_1212 ?_
  refine z_aload_n (q := 0) F dL_law_1213 rfl rfl ?_
  refine z_iload_n (q := 3) F dL_law_1214 rfl rfl ?_
  refine z_iconst (v := nI 5) F dL_law_1215 rfl ?_
  refine z_iadd F dL_law_1216 ?_
  refine z_sld (j := i + 5) F X (nI_c i 5) (by omega) dL_law_1217 ?_
  refine clL_143 F e7 ⟨(Nat.le_of_ble_eq_true rfl), (Nat.le_of_ble_eq_true rfl)⟩ dL_law_1218 (Nat.le_of_ble_eq_true rfl) ?_
  refine z_aload_n (q := 2) F dL_law_1221 rfl rfl ?_
  refine z_aload_n (q := 0) F dL_law_1222 rfl rfl ?_
  refine z_iload_n (q := 3) F dL_law_1223 rfl rfl ?_
  refine z_iconst (v := nI 1) F dL_law_1224 rfl ?_
  refine z_iadd F dL_law_1225 ?_
  refine z_sld (j := i + 1) F X (nI_c i 1) (by omega) dL_law_1226 ?_
  refine z_aload_n (q := 0) F dL_law_1227 rfl rfl ?_
  refine z_iload_n (q := 3) F dL_law_1228 rfl rfl ?_
  refine z_iconst (v := nI 2) F dL_law_1229 rfl ?_
  refine z_iadd F dL_law_1230 ?_
  refine z_sld (j := i + 2) F X (nI_c i 2) (by omega) dL_law_1231 ?_
  refine z_aload_n (q := 0) F dL_law_1232 rfl rfl ?_
  refine z_iload_n (q := 3) F dL_law_1233 rfl rfl ?_
  refine z_iconst (v := nI 3) F dL_law_1234 rfl ?_
  refine z_iadd F dL_law_1235 ?_
  refine z_sld (j := i + 3) F X (nI_c i 3) (by omega) dL_law_1236 ?_
  refine z_aload_n (q := 0) F dL_law_1237 rfl rfl ?_
  refine z_iload_n (q := 3) F dL_law_1238 rfl rfl ?_
  refine z_iconst (v := nI 4) F dL_law_1239 rfl ?_
  refine z_iadd F dL_law_1240 ?_
  refine z_sld (j := i + 4) F X (nI_c i 4) (by omega) dL_law_1241 ?_
  refine z_aload_n (q := 0) F dL_law_1242 rfl rfl ?_
  refine z_iload_n (q := 3) F dL_law_1243 rfl rfl ?_
  refine z_iconst (v := nI 5) F dL_law_1244 rfl ?_
  refine z_iadd F dL_law_1245 ?_
  refine z_sld (j := i + 5) F X (nI_c i 5) (by omega) dL_law_1246 ?_
  refine clL_147 F e8 ⟨(Nat.le_of_ble_eq_true rfl), (Nat.le_of_ble_eq_true rfl)⟩ dL_law_1247 (Nat.le_of_ble_eq_true rfl) ?_
  exact z_icmp_eq (tgt := 1325) F dL_law_1250 rfl (fun _ => kk _ σ8 hA8 hC8 hM8) (fun hn => absurd (h7.trans h8.symm) hn)
theorem br_write {i : Nat} {A : AB} (F : Fx p s m #[Value.ref b] meth c cL_law 4 RL ret room_1 cz sz g a) (X : ScL s a b L xs) (hi : i + 5 < L) (hA : okAB A) (hC : RC A σ) (hM : RM A σ) (kk : ∀ A' σ', okAB A' → RC A' σ' → RM A' σ' → Z p l e room_1 s m #[Value.ref b] below meth c (lw_Z below #[Value.ref b] s) 4 g a cz sz σ' 1325 [(0, .ref b), (1, .ref (a 25)), (2, .ref (a 0)), (3, .int (nI i))] []) : Z p l e room_1 s m #[Value.ref b] below meth c (lw_Z below #[Value.ref b] s) 4 g a cz sz σ 1255 [(0, .ref b), (1, .ref (a 25)), (2, .ref (a 0)), (3, .int (nI i))] [] := by
  obtain ⟨r7, σ7, e7, h7, hC7, hlo⟩ := c_write (xs (i + 1)) (xs (i + 2)) hC hA
  have hM7 := RM.frame hM hlo
  obtain ⟨r8, σ8, e8, h8, hM8, hhi⟩ := m_write (xs (i + 1)) (xs (i + 2)) hM7 hA
  have hA8 := ok_write (xs (i + 1)) (xs (i + 2)) hA
  have hC8 := RC.frame hA8 hC7 (fun c h _ => hhi c h)
  refine z_aload_n (q := 1) F dL_law_1255 rfl rfl ?_
  refine z_aload_n (q := 0) F dL_law_1256 rfl rfl ?_
  refine z_iload_n (q := 3) F dL_law_1257 rfl rfl ?_
  refine z_iconst (v := nI 1) F dL_law_1258 rfl ?_
  refine z_iadd F dL_law_1259 ?_
  refine z_sld (j := i + 1) F X (nI_c i 1) (by omega) dL_law_1260 ?_
  refine z_aload_n (q := 0) F dL_law_1261 rfl rfl ?_
  refine z_iload_n (q := 3) F dL_law_1262 rfl rfl ?_
  refine z_iconst (v := nI 2) F dL_law_1263 rfl ?_
  refine z_iadd F dL_law_1264 ?_
  refine z_sld (j := i + 2) F X (nI_c i 2) (by omega) dL_law_1265 ?_
  refine clL_148 F e7 ⟨(Nat.le_of_ble_eq_true rfl), (Nat.le_of_ble_eq_true rfl)⟩ dL_law_1266 (Nat.le_of_ble_eq_true rfl) ?_
  refine z_aload_n (q := 2) F dL_law_1269 rfl rfl ?_
  refine z_aload_n (q := 0) F dL_law_1270 rfl rfl ?_
  refine z_iload_n (q := 3) F dL_law_1271 rfl rfl ?_
  refine z_iconst (v := nI 1) F dL_law_1272 rfl ?_
  refine z_iadd F dL_law_1273 ?_
  refine z_sld (j := i + 1) F X (nI_c i 1) (by omega) dL_law_1274 ?_
  refine z_aload_n (q := 0) F dL_law_1275 rfl rfl ?_
  refine z_iload_n (q := 3) F dL_law_1276 rfl rfl ?_
  refine z_iconst (v := nI 2) F dL_law_1277 rfl ?_
  refine z_iadd F dL_law_1278 ?_
  refine z_sld (j := i + 2) F X (nI_c i 2) (by omega) dL_law_1279 ?_
  refine clL_151 F e8 ⟨(Nat.le_of_ble_eq_true rfl), (Nat.le_of_ble_eq_true rfl)⟩ dL_law_1280 (Nat.le_of_ble_eq_true rfl) ?_
  exact z_icmp_eq (tgt := 1325) F dL_law_1283 rfl (fun _ => kk _ σ8 hA8 hC8 hM8) (fun hn => absurd (h7.trans h8.symm) hn)
theorem br_count {i : Nat} {A : AB} (F : Fx p s m #[Value.ref b] meth c cL_law 4 RL ret room_1 cz sz g a) (X : ScL s a b L xs) (hi : i + 5 < L) (hA : okAB A) (hC : RC A σ) (hM : RM A σ) (kk : ∀ A' σ', okAB A' → RC A' σ' → RM A' σ' → Z p l e room_1 s m #[Value.ref b] below meth c (lw_Z below #[Value.ref b] s) 4 g a cz sz σ' 1325 [(0, .ref b), (1, .ref (a 25)), (2, .ref (a 0)), (3, .int (nI i))] []) : Z p l e room_1 s m #[Value.ref b] below meth c (lw_Z below #[Value.ref b] s) 4 g a cz sz σ 1288 [(0, .ref b), (1, .ref (a 25)), (2, .ref (a 0)), (3, .int (nI i))] [] := by
  obtain ⟨r7, σ7, e7, h7, hC7, hlo⟩ := c_count (xs (i + 1)) hC hA
  have hM7 := RM.frame hM hlo
  obtain ⟨r8, σ8, e8, h8, hM8, hhi⟩ := m_count (xs (i + 1)) hM7 hA
  have hA8 := okn_count (xs (i + 1)) hA
  have hC8 := RC.frame hA8 hC7 (fun c h _ => hhi c h)
  refine z_aload_n (q := 1) F dL_law_1288 rfl rfl ?_
  refine z_aload_n (q := 0) F dL_law_1289 rfl rfl ?_
  refine z_iload_n (q := 3) F dL_law_1290 rfl rfl ?_
  refine z_iconst (v := nI 1) F dL_law_1291 rfl ?_
  refine z_iadd F dL_law_1292 ?_
  refine z_sld (j := i + 1) F X (nI_c i 1) (by omega) dL_law_1293 ?_
  refine clL_152 F e7 ⟨(Nat.le_of_ble_eq_true rfl), (Nat.le_of_ble_eq_true rfl)⟩ dL_law_1294 (Nat.le_of_ble_eq_true rfl) ?_
  refine z_aload_n (q := 2) F dL_law_1297 rfl rfl ?_
  refine z_aload_n (q := 0) F dL_law_1298 rfl rfl ?_
  refine z_iload_n (q := 3) F dL_law_1299 rfl rfl ?_
  refine z_iconst (v := nI 1) F dL_law_1300 rfl ?_
  refine z_iadd F dL_law_1301 ?_
  refine z_sld (j := i + 1) F X (nI_c i 1) (by omega) dL_law_1302 ?_
  refine clL_155 F e8 ⟨(Nat.le_of_ble_eq_true rfl), (Nat.le_of_ble_eq_true rfl)⟩ dL_law_1303 (Nat.le_of_ble_eq_true rfl) ?_
  exact z_icmp_eq (tgt := 1325) F dL_law_1306 rfl (fun _ => kk _ σ8 hA8 hC8 hM8) (fun hn => absurd (h7.trans h8.symm) hn)
theorem br_digest {i : Nat} {A : AB} (F : Fx p s m #[Value.ref b] meth c cL_law 4 RL ret room_1 cz sz g a) (X : ScL s a b L xs) (hi : i + 5 < L) (hA : okAB A) (hC : RC A σ) (hM : RM A σ) (kk : ∀ A' σ', okAB A' → RC A' σ' → RM A' σ' → Z p l e room_1 s m #[Value.ref b] below meth c (lw_Z below #[Value.ref b] s) 4 g a cz sz σ' 1325 [(0, .ref b), (1, .ref (a 25)), (2, .ref (a 0)), (3, .int (nI i))] []) : Z p l e room_1 s m #[Value.ref b] below meth c (lw_Z below #[Value.ref b] s) 4 g a cz sz σ 1311 [(0, .ref b), (1, .ref (a 25)), (2, .ref (a 0)), (3, .int (nI i))] [] := by
  obtain ⟨r7, σ7, e7, h7, hC7, hlo⟩ := c_digest hC hA
  have hM7 := RM.frame hM hlo
  obtain ⟨r8, σ8, e8, h8, hM8, hhi⟩ := m_digest hM7 hA
  have hA8 := okn_digest hA
  have hC8 := RC.frame hA8 hC7 (fun c h _ => hhi c h)
  refine z_aload_n (q := 1) F dL_law_1311 rfl rfl ?_
  refine clL_156 F e7 ⟨(Nat.le_of_ble_eq_true rfl), (Nat.le_of_ble_eq_true rfl)⟩ dL_law_1312 (Nat.le_of_ble_eq_true rfl) ?_
  refine z_aload_n (q := 2) F dL_law_1315 rfl rfl ?_
  refine clL_160 F e8 ⟨(Nat.le_of_ble_eq_true rfl), (Nat.le_of_ble_eq_true rfl)⟩ dL_law_1316 (Nat.le_of_ble_eq_true rfl) ?_
  refine z_lcmp F dL_law_1319 ?_
  exact z_if_eq (tgt := 1325) F dL_law_1320 rfl (fun _ => kk _ σ8 hA8 hC8 hM8) (fun hn => absurd ((lg_cmp_eq _ _).mpr (h7.trans h8.symm)) hn)
end BranchL
