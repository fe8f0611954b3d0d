-- ===== YOUR PART BEGINS =====
/-- YOUR PART: from the entry, for every script of at most 384 ints, the law comes to its end with true -/
theorem whole_start {p : Program} {e : Env} {s : State} {m : MethodId} {below : List Frame} {meth : Method} {c : Code} (l : Launch) {b L : Nat} {xs : Nat → Int32} (hL : L ≤ 384) (C0 : lw_At p s m meth c b L xs) : W p l e room_1 s m #[Value.ref b] below meth c s.heap [] 0 0 (lw_Z below #[Value.ref b] s) (entryFrame m ([Value.ref b] : List Value).toArray 4) := by
  obtain ⟨hx, hb, hr, hml, hown, hts, hX, hbl, hlocks, hgv⟩ := id C0
  obtain ⟨g, hK⟩ := law_g hts
  obtain ⟨aK, aV, hStr, hev⟩ := law_str hgv
  have hCS := law_cs hts hgv
  have kc : KC g aK s := law_kc hts hK hev
  have F : FK p s m #[Value.ref b] c cL_law 4 RL g aK (fun q => s.heap.size ≤ q) := ⟨hx, hb, hml, hown, fun w hw => hts w (tb_lw hw), kc, fun q h => h⟩
  have hl := lv_entry ([.ref b]) (n := 4) (Nat.le_of_ble_eq_true rfl)
  rw [lg_entry_eq]
  have main : ZK p l e room_1 s m #[Value.ref b] below meth c (lw_Z below #[Value.ref b] s) 4 g (fun q => s.heap.size ≤ q) [] 0 0 0 [(0, .ref b)] [] := by
    refine k_new (ci := 7) (fs := [.null, .null, .null, .null, .null, .int 0, .null, .null, .null, .null, .null, .int 0, .int 0]) (C := RX7) (T := TX7) (N := 13) (ty := tyX7) (ws' := fun q1 => [(q1, .inr (7, [.null, .null, .null, .null, .null, .int 0, .null, .null, .null, .null, .null, .int 0, .int 0]))]) F inTB7 tyX7_ok (tbm 18 (by decide +kernel) rfl) (tbm 19 (by decide +kernel) rfl) (tbm 1 (by decide +kernel) rfl) rfl df7 (Nat.le_of_ble_eq_true rfl) (Nat.le_of_ble_eq_true rfl) dL_law_0 (fun _ => rfl) (fun q1 => ?_)
    refine k_dup F dL_law_3 rfl ?_
    refine k_initV (nA := 0) (As := []) (rest := [.ref q1]) (ws' := fun u1 => bw7 g aK q1 u1) ([]) F (ci7 q1) rfl (tbm 20 (by decide +kernel) rfl) (tbm 21 (by decide +kernel) rfl) (tbm 1 (by decide +kernel) rfl) (tbm 22 (by decide +kernel) rfl) rfl (by decide +kernel) rfl ⟨(Nat.le_of_ble_eq_true rfl), (Nat.le_of_ble_eq_true rfl)⟩ ⟨(Nat.le_of_ble_eq_true rfl), (Nat.le_of_ble_eq_true rfl)⟩ dL_law_4 rfl (Nat.le_of_ble_eq_true rfl) (fun _ => rfl) (fun u1 => ?_)
    refine k_astore_n (lv' := [(1, .ref q1), (0, .ref b)]) F dL_law_7 rfl (by decide) rfl ?_
    refine k_new (ci := 8) (fs := [.null, .null, .null, .null, .int 0, .null, .null, .null, .null, .int 0, .null, .int 0, .null, .int 0, .null, .int 0, .null, .null, .null, .null, .null, .int 0, .null, .null, .null, .null, .int 0, .int 0, .null, .null, .int 0, .null, .null, .int 0]) (C := RX8) (T := TX8) (N := 34) (ty := tyX8) (ws' := fun q2 => bw7 g aK q1 u1 ++ [(q2, .inr (8, [.null, .null, .null, .null, .int 0, .null, .null, .null, .null, .int 0, .null, .int 0, .null, .int 0, .null, .int 0, .null, .null, .null, .null, .null, .int 0, .null, .null, .null, .null, .int 0, .int 0, .null, .null, .int 0, .null, .null, .int 0]))]) F inTB8 tyX8_ok (tbm 804 (by decide +kernel) rfl) (tbm 805 (by decide +kernel) rfl) (tbm 9 (by decide +kernel) rfl) rfl df8 (Nat.le_of_ble_eq_true rfl) (Nat.le_of_ble_eq_true rfl) dL_law_8 (fun _ => rfl) (fun q2 => ?_)
    refine k_dup F dL_law_11 rfl ?_
    refine k_initV (nA := 0) (As := []) (rest := [.ref q2]) (ws' := fun u2 => W0 g q1 q2 u1 u2 aK) (bw7 g aK q1 u1) F (ci8 q2) rfl (tbm 806 (by decide +kernel) rfl) (tbm 807 (by decide +kernel) rfl) (tbm 9 (by decide +kernel) rfl) (tbm 808 (by decide +kernel) rfl) rfl (by decide +kernel) rfl ⟨(Nat.le_of_ble_eq_true rfl), (Nat.le_of_ble_eq_true rfl)⟩ ⟨(Nat.le_of_ble_eq_true rfl), (Nat.le_of_ble_eq_true rfl)⟩ dL_law_12 rfl (Nat.le_of_ble_eq_true rfl) (fun _ => rfl) (fun u2 => ?_)
    refine k_astore_n (lv' := [(2, .ref q2), (1, .ref q1), (0, .ref b)]) F dL_law_15 rfl (by decide) rfl ?_
    refine k_iconst (v := nI 0) F dL_law_16 rfl ?_
    refine k_istore_n (lv' := [(3, .int (nI 0)), (2, .ref q2), (1, .ref q1), (0, .ref b)]) F dL_law_17 rfl (by decide) rfl ?_
    intro H locs ls hP hD hS hl
    have hPw := w1_P (aV := aV) hP
    have hDw := w1_D (aV := aV) hD
    have hInj : Inj (adr q1 q2 u1 u2 aK aV) := fun i j hi hj e => hDw.1 i j _ _ (wl_get hi) (wl_get hj) e
    have hge : ∀ k, k < NN → s.heap.size ≤ (adr q1 q2 u1 u2 aK aV) k := fun k hk => hDw.2 k _ (wl_get hk)
    have hnot : ∀ q, Ad (adr q1 q2 u1 u2 aK aV) q → s.heap.size ≤ q := by
      rintro q ⟨k, hk, e⟩
      rw [e]
      exact hge k hk
    have hS2 := vk_S.narrow hStr hnot
    have SKa : SK (adr q1 q2 u1 u2 aK aV) s := by
      refine ⟨⟨fun i hi => ?_, fun i j hi hj e => ?_⟩, va_Z.narrow hCS hnot⟩
      · rcases (show i = 0 ∨ i = 1 by omega) with rfl | rfl
        · exact hS2.1 0 (by decide)
        · exact hS2.1 1 (by decide)
      · rcases (show i = 0 ∨ i = 1 by omega) with rfl | rfl <;> rcases (show j = 0 ∨ j = 1 by omega) with rfl | rfl
        · rfl
        · exact hS2.2 0 1 (by decide) (by decide) e
        · exact hS2.2 1 0 (by decide) (by decide) e
        · rfl
    have Fz : Fx p s m #[Value.ref b] meth c cL_law 4 RL ret room_1 (0 + 1 + 72 + 1 + 24) (0 + 13 + 5821 + 34 + 3361) g (adr q1 q2 u1 u2 aK aV) := ⟨hx, hb, hml, hown, fun w hw => hts w (tb_lw hw), ⟨hK, hInj, kc.2.1, SKa⟩, hr, hlocks, (Nat.le_of_ble_eq_true rfl), (Nat.le_of_ble_eq_true rfl)⟩
    have X : ScL s (adr q1 q2 u1 u2 aK aV) b L xs := ⟨hX, hbl, fun h => absurd (hnot b h) (Nat.not_le.mpr hbl), hL, hge⟩
    refine va_forget hS.2.2 ?_
    exact law_loop Fz X 65 0 A0 σ0 (by omega) (by omega) ok_0 rc_0 rm_0 H [] ls hPw ⟨hS.1, fun q h1 _ => hS.2.1 q h1 (Nat.not_le.mpr h1), fun l h => by cases h⟩ (lv_sub hl [3, 2, 1, 0] rfl)
  exact main _ _ _ (fun k q h => by simp at h) ⟨fun i j p q h => by simp at h, fun k q h => by simp at h⟩ va_S.rf hl
-- ===== YOUR PART ENDS =====
set_option maxHeartbeats 4000000 in
theorem lw_walk (l : Launch) (b : Addr) (xs : List Int32) : MetFree l x (headSpec (Jvm.Cond.code x code maxLocals ret :: tables_1) room_1) (lw_P b xs) (fun _ _ _ _ _ => True) lw_Q := by
  refine MetFree.of_bodyS (code := code) (maxLocals := maxLocals) (ret := ret) (by decide) ?_ ?_
  · intro args s m h hn
    obtain ⟨meth, c, h1, h2, h3, h4, h5, h6, -, -⟩ := Cond.code_spec hn (atoms_spec (ws := Jvm.Cond.code x code maxLocals ret :: tables_1) h _ List.mem_cons_self)
    exact ⟨meth, c, h1, h2, h3, h4, h5, h6⟩
  · intro p e s m args below meth c s₁ B hml0 hP _
    obtain ⟨rfl, hx, hbd, hgv⟩ := hP
    obtain ⟨scr, harrAt, hlist, hof, hsmall⟩ := hx
    obtain ⟨hcb, hkn, -, -⟩ := State.arrayAt?_spec harrAt
    have hown : s.vm.findClass R_law = some m.cls := findClass_of_methodNamed B.named
    have hts0 : ∀ c ∈ (Jvm.Cond.code x code maxLocals ret :: tables_1), c.before #[Value.ref b] s = true := atoms_spec (ws := Jvm.Cond.code x code maxLocals ret :: tables_1) B.pre
    have hts : ∀ w ∈ lw_tbl, w.before #[Value.ref b] s = true := k2_hts_sels lw_privs (fun w hw => hts0 w (List.mem_cons_of_mem _ hw)) lw_privs_ok
    have hml : c.maxLocals = 4 := B.maxLocals_eq (hts0 _ List.mem_cons_self)
    have X₀ : Stand p l e room_1 s m #[Value.ref b] below meth c s₁ [] 0 0 := Stand.of_body B
    have hh0 : s₁.heap = s.heap := by rw [B.state]; rfl
    have hsz : scr.slots.size = xs.length := by rw [← Array.length_toList, hlist, List.length_map]
    have hval : ∀ j : Nat, j < xs.length → scr.slots[j]? = some (.int (xs.getD j 0)) := fun j hj => by
      rw [← Array.getElem?_toList, hlist]
      simp [hj]
    have hbl : b < s.heap.size := (Array.getElem?_eq_some_iff.mp hcb).1
    have hX : va_X b xs.length (fun j => xs.getD j 0) s s.heap := ⟨scr, hcb, hof, hkn, hsz, hval⟩
    have K : W p l e room_1 s m #[Value.ref b] below meth c s₁.heap [] 0 0 (lw_Z below #[Value.ref b] s) (entryFrame m ([Value.ref b] : List Value).toArray 4) := by
      rw [hh0]
      exact whole_start l hbd ⟨B.exec, B.bytes, B.returns, hml, hown, hts, hX, hbl, B.notSynchronized, hgv⟩
    obtain ⟨t, a1, o, b1, b2, b3⟩ := K s₁ rfl X₀
    exact ⟨t, o, a1, b1, b2, b3⟩
theorem lw_pre_spec {args : Array Value} {s : State} (h : (Jvm.Cond.and given_1 narrow_1).before args s = true) (hr : rest_1_c.before args s = true) : ∃ (b : Addr) (xs : List Int32), lw_P b xs args s := by
  have hs := flat_of_before _ h
  have hq := flat_of_before _ hr
  have hc : (Cond.count 1).before args s = true := hs _ (by decide +kernel)
  have harr : (Cond.arrayOf (.arg 0) .int).before args s = true := hs _ (by decide +kernel)
  have hle : (Cond.le (.length (.arg 0)) (.int 384)).before args s = true := hs _ (by decide +kernel)
  have hlen : (Cond.isInt (.length (.arg 0))).before args s = true := hq _ (by decide +kernel)
  have hall : (Cond.all (.arg 0) (.isInt (.elem (.arg 0) (.index 0)))).before args s = true := hq _ (by decide +kernel)
  obtain ⟨b, xs, hb, hx⟩ := State.ints_of_pre rfl harr hlen hall
  have hsm : xs.length < 2 ^ 31 := hx.choose_spec.2.2.2
  have hev : (Term.length (.arg 0)).eval args s none [] s = some (.int xs.length.toInt32) := hx.length_eval hb
  have hv := Cond.le_ints hev (show (Term.int 384).eval args s none [] s = some (.int 384) from rfl)
  have hd : xs.length.toInt32 ≤ 384 := by
    simpa [Cond.before, Cond.holds, hv] using hle
  have hN : xs.length ≤ 384 := (Int32.ofNat_le_ofNat hsm (by decide)).mp (show Int32.ofNat xs.length ≤ Int32.ofNat 384 from hd)
  exact ⟨b, xs, Cond.one_arg hc (show args[0]? = some (.ref b) from hb), hx, hN, h⟩
theorem lw_comes (l : Launch) : Comes l x (Jvm.Cond.code x code maxLocals ret :: tables_1) room_1 (fun tb e args s => Calls_1 tb e args s ∧ rest_1 tb e args s ∧ Pre_1 tb e args s)
    (fun _ _ args s o t => lw_Q args s o t) := by
  intro p e ha hc hk s m args below hf hfit hheap happ hpre
  obtain ⟨b, xs, hP⟩ := lw_pre_spec hpre.2.2 hpre.2.1
  obtain ⟨k, o, h1, h2, h3, hQ⟩ := lw_walk l b xs p e ha hc hk s m args below hf ((Spec.applies_iff_loose hf).mp happ).1 hP trivial
  exact ⟨k, o, h1, h2, h3, hQ⟩
theorem lw_frame {s t : State} {o : Outcome} {args : Array Value} (h : Framed s o t [] 600000 7302250) :
    Framed s o t (fieldLocs frame_1_writes args s ++ arrayLocs frame_1_arrays args s ++ staticLocs frame_1_statics s) 600000 7302250 := h
theorem lw_limb (L : Cond) (hL : ∀ (args : Array Value) (s t : State), L.after args s (.returned (some (.int 1))) t = true) :
    ArmFor flags0 classFile x code maxLocals ret World_1 tables_1 room_1 Calls_1 rest_1 Pre_1
      (fun tb e a s o t => postC L tb e a s o t ∧ Framed s o t (fieldLocs frame_1_writes a s ++ arrayLocs frame_1_arrays a s ++ staticLocs frame_1_statics s) 600000 7302250) := by
  intro l _ _ _ p e ha hc hk s m args below hf hfit hheap happ hpre
  obtain ⟨k, o, h1, h2, h3, rfl, hF⟩ := lw_comes l p e ha hc hk s m args below hf hfit hheap happ hpre
  exact ⟨k, _, h1, h2, h3, hL args s _, lw_frame hF⟩
theorem i_vc : Claimed_1_1 ∧ Claimed_1_2 := ⟨lw_limb limb_1_1 (fun args s t => by simp [limb_1_1, Cond.after, Cond.holds, Cond.value]), lw_limb limb_1_2 (fun args s t => Cond.after_iff.mpr (by
  first | (rw [show limb_1_2 = Cond.eq .result (.int 1) from rfl, Cond.eq_ints (x := 1) (y := 1) rfl rfl]; simp; done) | (simp [limb_1_2, Cond.value, Term.eval]; done)))⟩
