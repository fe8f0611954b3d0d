def A0 : AB := ([], [], [], [], [], [], 2, fun _ => none, 0)
def fS0 : List (Nat → Int32) := [fun j => ([0, 0, 0, 0, 0, 0, 0, 0, 0, 0, 0, 0, 0, 0, 0, 2, 0, 0, 0, 0, 0, 0, 0, 0, 0, 0, -1, -1, 0, 0, 0, 0, 0, 0] : List Int32).getD j 0, upd (upd (upd (upd (fun _ => 0) 0 (-1 : Int32)) 1 (-1 : Int32)) 2 (-1 : Int32)) 3 (-1 : Int32), fun _ => 0, fun _ => 0, fun _ => 0, fun _ => 0, fun _ => 0, fun _ => 0, fun _ => 0, fun _ => 0, fun _ => 0, fun _ => 0, fun _ => 0, fun _ => 0, fun _ => 0, fun _ => 0, fun _ => 0, fun _ => 0, fun _ => 0, fun _ => 0, fun _ => 0, fun _ => 0, fun _ => 0, fun _ => 0, fun _ => 0, fun j => ([0, 0, 0, 0, 0, 1, 0, 0, 0, 0, 0, 2, 0] : List Int32).getD j 0, fun j => ([0, 1, 0, 0, 0, 0, -1, 0] : List Int32).getD j 0, fun _ => 0, fun _ => 0, fun j => ([0, 0, 1, 0, 0, 0, -1, 0] : List Int32).getD j 0, fun _ => 0, fun _ => 0, fun j => ([0, 0, 0] : List Int32).getD j 0, fun j => ([12, 0, 0] : List Int32).getD j 0, fun _ => 0, fun j => ([8, 0, 0] : List Int32).getD j 0, fun _ => 0, fun j => ([8, 0, 0] : List Int32).getD j 0, fun _ => 0, fun j => ([0, 0, 0] : List Int32).getD j 0, fun j => ([52, 0, 0] : List Int32).getD j 0, fun _ => 0, fun j => ([8, 0, 0] : List Int32).getD j 0, fun _ => 0, fun j => ([8, 0, 0] : List Int32).getD j 0, fun _ => 0, fun j => ([8, 0, 0] : List Int32).getD j 0, fun _ => 0, fun j => ([0, 0, 0, 0, 0, 0, 0, 0, 0, 0] : List Int32).getD j 0, fun _ => 0, fun _ => 0, fun _ => 0, fun _ => 0, fun _ => 0, fun _ => 0, fun _ => 0, fun _ => 0, fun _ => 0, fun j => ([0, 0, 0, 0, 0, 0, 0, 0] : List Int32).getD j 0, fun j => ([0, 0, 0, 0, 0, 0, 0, 0] : List Int32).getD j 0, fun j => ([0, 0, 0, 0, 0, 0, 0, 0] : List Int32).getD j 0, fun j => ([0, 0, 0, 0, 0, 0, 0, 0] : List Int32).getD j 0, fun j => ([0, 0, 0, 0, 0, 0, 0, 0] : List Int32).getD j 0, fun j => ([0, 0, 0, 0, 0, 0, 0, 0] : List Int32).getD j 0, fun j => ([0, 0, 0, 0, 0, 0, 0, 0] : List Int32).getD j 0, fun j => ([0, 0, 0, 0, 0, 0, 0, 0] : List Int32).getD j 0, fun j => ([0, 0, 0, 0, 0, 0, 0, 0, 0, 0] : List Int32).getD j 0, fun _ => 0, fun _ => 0, fun _ => 0, fun _ => 0, fun _ => 0, fun _ => 0, fun _ => 0, fun _ => 0, fun _ => 0, fun j => ([0, 0, 0, 0, 0, 0, 0, 0] : List Int32).getD j 0, fun j => ([0, 0, 0, 0, 0, 0, 0, 0] : List Int32).getD j 0, fun j => ([0, 0, 0, 0, 0, 0, 0, 0] : List Int32).getD j 0, fun j => ([0, 0, 0, 0, 0, 0, 0, 0] : List Int32).getD j 0, fun j => ([0, 0, 0, 0, 0, 0, 0, 0] : List Int32).getD j 0, fun j => ([0, 0, 0, 0, 0, 0, 0, 0] : List Int32).getD j 0, fun j => ([0, 0, 0, 0, 0, 0, 0, 0] : List Int32).getD j 0, fun j => ([0, 0, 0, 0, 0, 0, 0, 0] : List Int32).getD j 0, fun j => ([0, 0, 0, 0] : List Int32).getD j 0, fun _ => 0, fun _ => 0, fun _ => 0, fun _ => 0, fun _ => 0, fun j => ([0, 1, 0, 0] : List Int32).getD j 0, fun _ => 0, fun j => ([0, 1, 0, 0] : List Int32).getD j 0, fun _ => 0, fun j => ([0, 1, 0, 0] : List Int32).getD j 0, fun _ => 0, fun j => ([0, 1, 0, 0] : List Int32).getD j 0, fun _ => 0]
def σ0 : St := fun k => fS0.getD k (fun _ => 0)
theorem ok_0 : okAB A0 := by
  refine ⟨⟨Nat.zero_le _, Nat.zero_le _, fun i => ?_, fun i => ?_⟩, ⟨fun k hk => absurd hk (Nat.not_lt_zero k), Nat.zero_le _⟩, ⟨fun k hk => absurd hk (Nat.not_lt_zero k), Nat.zero_le _⟩, ⟨fun k hk => absurd hk (Nat.not_lt_zero k), Nat.zero_le _⟩, ⟨fun k hk => absurd hk (Nat.not_lt_zero k), Nat.zero_le _⟩, by decide, (fun k f l _ h => (by cases h)), by decide⟩
  · show ([] : List Nat).getD i 0 < 256; simp
  · show ([] : List Nat).getD i 0 < 256; simp
theorem t0_0 {t : Nat} (ht : t < 2) : fpos t [] = none ∧ itm t [] = 0 := by
  rcases (show t = 0 ∨ t = 1 by omega) with rfl | rfl <;> exact ⟨rfl, rfl⟩
theorem tC_0 {t o : Nat} (h : (t = 0 ∧ o = 26) ∨ (t = 1 ∧ o = 29)) : tC σ0 t o [] := by
  rcases h with ⟨rfl, rfl⟩ | ⟨rfl, rfl⟩
  · refine ⟨⟨rfl, by decide, rfl, by decide, fun i hi => absurd hi (Nat.not_lt_zero i), fun i => by simp, rfl, rfl⟩, ?_, ?_, fun k w hk _ => ?_⟩
    · rw [(t0_0 (t := 0) (by decide)).1]; rfl
    · rw [(t0_0 (t := 0) (by decide)).2]; rfl
    · rw [(t0_0 (t := 0) (by decide)).2] at hk; exact absurd hk (Nat.not_lt_zero k)
  · refine ⟨⟨rfl, by decide, rfl, by decide, fun i hi => absurd hi (Nat.not_lt_zero i), fun i => by simp, rfl, rfl⟩, ?_, ?_, fun k w hk _ => ?_⟩
    · rw [(t0_0 (t := 1) (by decide)).1]; rfl
    · rw [(t0_0 (t := 1) (by decide)).2]; rfl
    · rw [(t0_0 (t := 1) (by decide)).2] at hk; exact absurd hk (Nat.not_lt_zero k)
theorem rc_0 : RC A0 σ0 := by
  refine ⟨tC_0 (Or.inl ⟨rfl, rfl⟩), tC_0 (Or.inr ⟨rfl, rfl⟩), ⟨rfl, by decide, by decide, fun k c hk => absurd hk (Nat.not_lt_zero k)⟩, ⟨rfl, by decide, by decide, fun k c hk => absurd hk (Nat.not_lt_zero k)⟩, ⟨rfl, by decide, by decide, fun k c hk => absurd hk (Nat.not_lt_zero k)⟩, ⟨rfl, by decide, by decide, fun k c hk => absurd hk (Nat.not_lt_zero k)⟩, ⟨rfl, rfl, rfl, rfl, rfl, rfl, rfl⟩, rfl, fun k hk => ?_, rfl, Or.inl rfl⟩
  rcases (show k = 0 ∨ k = 1 ∨ k = 2 ∨ k = 3 by omega) with rfl | rfl | rfl | rfl <;> rfl
theorem rm_0 : RM A0 σ0 := by
  refine ⟨⟨rfl, by decide, fun i hi => absurd hi (Nat.not_lt_zero i), fun i => by show ([] : List Nat).getD i 0 < 256; simp⟩, ⟨rfl, by decide, fun i hi => absurd hi (Nat.not_lt_zero i), fun i => by show ([] : List Nat).getD i 0 < 256; simp⟩, ⟨rfl, fun k hk => absurd hk (Nat.not_lt_zero k)⟩, ⟨rfl, fun k hk => absurd hk (Nat.not_lt_zero k)⟩, ⟨rfl, fun k hk => absurd hk (Nat.not_lt_zero k)⟩, ⟨rfl, fun k hk => absurd hk (Nat.not_lt_zero k)⟩, rfl, fun k hk => ?_, rfl, rfl, rfl⟩
  rcases (show k = 0 ∨ k = 1 ∨ k = 2 ∨ k = 3 by omega) with rfl | rfl | rfl | rfl <;> rfl
theorem arr_int {s : State} {A : Array Value} (h : (Cond.arrayClass .int).before A s = true) : ∃ cA : ClassId, ArrOfT s cA .int ∧ va_RA s cA .int := by
  obtain ⟨cA, kA, comp, hfind, hk, hkind⟩ := Cond.arrayClass_spec h
  exact ⟨cA, fun n z => ⟨fun k h => (by cases h), kA, hk, comp, hkind⟩, hfind⟩
theorem arr_ov {s : State} {A : Array Value} {C : String} (h : (Cond.arrayOver (.object C)).before A s = true) : ∃ cA : ClassId, ArrOfT s cA (.object C) ∧ va_RA s cA (.object C) := by
  obtain ⟨comp, c, k, h1, h2, h3, h4, h5⟩ := Cond.arrayOver_spec h
  exact ⟨c, fun n z => ⟨fun k h => (by cases h), k, h3, comp, h4⟩, k, comp, h3, h4, h1, h5⟩
theorem lwm {w : Cond} (i : Nat) (h : tables_1[i]? = some w) : w ∈ lw_tbl := List.mem_append_right _ (List.mem_of_getElem? h)
theorem tb_lw {w : Cond} (h : w ∈ TB) : w ∈ lw_tbl := (List.mem_filter.mp h).1
theorem law_g {s : State} {A : Array Value} (hts : ∀ w ∈ lw_tbl, w.before A s = true) : ∃ g : Gd, va_K g.1 cls (tysG g) s := by
  obtain ⟨c0, i0, k0⟩ := u_known (C := RX0) (T := TX0) (N := 3) (n := 3) hts (fun w hw => tb_lw (inTB0 w hw)) (hts _ (lwm 66 (by decide +kernel)))
  obtain ⟨c1, i1, k1⟩ := u_known (C := RX1) (T := TX1) (N := 10) (n := 10) hts (fun w hw => tb_lw (inTB1 w hw)) (hts _ (lwm 108 (by decide +kernel)))
  obtain ⟨c2, i2, k2⟩ := u_known (C := RX2) (T := TX2) (N := 8) (n := 8) hts (fun w hw => tb_lw (inTB2 w hw)) (hts _ (lwm 115 (by decide +kernel)))
  obtain ⟨c3, i3, k3⟩ := u_known (C := RX3) (T := TX3) (N := 4) (n := 4) hts (fun w hw => tb_lw (inTB3 w hw)) (hts _ (lwm 187 (by decide +kernel)))
  obtain ⟨c4, i4, k4⟩ := u_known (C := RX4) (T := TX4) (N := 3) (n := 3) hts (fun w hw => tb_lw (inTB4 w hw)) (hts _ (lwm 72 (by decide +kernel)))
  obtain ⟨c5, i5, k5⟩ := u_known (C := RX5) (T := TX5) (N := 4) (n := 4) hts (fun w hw => tb_lw (inTB5 w hw)) (hts _ (lwm 207 (by decide +kernel)))
  obtain ⟨c6, i6, k6⟩ := u_known (C := RX6) (T := TX6) (N := 8) (n := 8) hts (fun w hw => tb_lw (inTB6 w hw)) (hts _ (lwm 27 (by decide +kernel)))
  obtain ⟨c7, i7, k7⟩ := u_known (C := RX7) (T := TX7) (N := 13) (n := 13) hts (fun w hw => tb_lw (inTB7 w hw)) (hts _ (lwm 19 (by decide +kernel)))
  obtain ⟨c8, i8, k8⟩ := u_known (C := RX8) (T := TX8) (N := 34) (n := 34) hts (fun w hw => tb_lw (inTB8 w hw)) (hts _ (lwm 805 (by decide +kernel)))
  obtain ⟨cI, n1, n2⟩ := arr_int (hts _ (lwm 63 (by decide +kernel)))
  obtain ⟨cH, n3, n4⟩ := arr_ov (C := RX2) (hts _ (lwm 114 (by decide +kernel)))
  obtain ⟨cS, n5, n6⟩ := arr_ov (C := RX5) (hts _ (lwm 206 (by decide +kernel)))
  refine ⟨((fun k => ([c0, c1, c2, c3, c4, c5, c6, c7, c8] : List ClassId).getD k c0, fun k => ([i0, i1, i2, i3, i4, i5, i6, i7, i8] : List (Nat → Nat)).getD k i0), cI, cH, cS), ?_, ?_⟩
  · intro k q hq
    have hk : k < 9 := (List.getElem?_eq_some_iff.mp hq).1
    rcases (show k = 0 ∨ k = 1 ∨ k = 2 ∨ k = 3 ∨ k = 4 ∨ k = 5 ∨ k = 6 ∨ k = 7 ∨ k = 8 by omega) with rfl | rfl | rfl | rfl | rfl | rfl | rfl | rfl | rfl
    · cases hq; exact k0
    · cases hq; exact k1
    · cases hq; exact k2
    · cases hq; exact k3
    · cases hq; exact k4
    · cases hq; exact k5
    · cases hq; exact k6
    · cases hq; exact k7
    · cases hq; exact k8
  · intro k q hq
    have hk : k < 3 := (List.getElem?_eq_some_iff.mp hq).1
    rcases (show k = 0 ∨ k = 1 ∨ k = 2 by omega) with rfl | rfl | rfl
    · cases hq; exact ⟨n1, n2⟩
    · cases hq; exact ⟨n3, n4⟩
    · cases hq; exact ⟨n5, n6⟩
def tmS (i : Nat) : Term := .string RX7 (if i = 0 then 11 else 20)
theorem law_str {s : State} {A : Array Value} (hgv : (Jvm.Cond.and given_1 narrow_1).before A s = true) : ∃ aK aV : Nat → Nat, vk_S 2 [3, 4] [[114, 115, 108], [114, 115, 108, 97]] aK aV (fun q => s.heap.size ≤ q) s s.heap ∧ ∀ i : Nat, i < 2 → (tmS i).eval A s none [] s = some (.ref (aK i)) := by
  have hs := flat_of_before _ hgv
  have r2 : ∀ {i : Nat}, i < 2 → i = 0 ∨ i = 1 := by omega
  refine vk_Sof (tm := tmS) ?_ ?_ ?_ ?_ ?_ ?_ ?_ (fun a h q => absurd h (Nat.not_lt.mpr q))
  · intro i hi; rcases r2 hi with rfl | rfl <;> decide
  · intro i hi; rcases r2 hi with rfl | rfl <;> exact hs _ (by decide +kernel)
  · intro i hi; rcases r2 hi with rfl | rfl <;> exact hs _ (by decide +kernel)
  · intro i hi; rcases r2 hi with rfl | rfl <;> exact hs _ (by decide +kernel)
  · intro i hi; rcases r2 hi with rfl | rfl <;> exact hs _ (by decide +kernel)
  · intro i hi j hj
    rcases r2 hi with rfl | rfl
    · have hj' : j < 3 := hj
      rcases (show j = 0 ∨ j = 1 ∨ j = 2 by omega) with rfl | rfl | rfl <;> exact hs _ (by decide +kernel)
    · have hj' : j < 4 := hj
      rcases (show j = 0 ∨ j = 1 ∨ j = 2 ∨ j = 3 by omega) with rfl | rfl | rfl | rfl <;> exact hs _ (by decide +kernel)
  · intro i j hi hj hij
    rcases r2 hi with rfl | rfl <;> rcases r2 hj with rfl | rfl
    · exact absurd rfl hij
    · exact Or.inl (hs _ (by decide +kernel))
    · exact Or.inr (hs _ (by decide +kernel))
    · exact absurd rfl hij
theorem law_cs {s : State} {A : Array Value} (hts : ∀ w ∈ lw_tbl, w.before A s = true) (hgv : (Jvm.Cond.and given_1 narrow_1).before A s = true) : va_Z "java/lang/String" "COMPACT_STRINGS" "Z" (.int 1) (fun q => s.heap.size ≤ q) s s.heap :=
  va_Zof (hts _ (lwm 309 (by decide +kernel))) (hts _ (lwm 10 (by decide +kernel))) (va_eqt (flat_of_before _ hgv (.eq (.static "java/lang/String" "COMPACT_STRINGS" "Z") (.int 1)) (by decide +kernel))) (fun a h q => absurd h (Nat.not_lt.mpr q))
theorem law_kc {s : State} {A : Array Value} {g : Gd} {aK : Nat → Nat} (hts : ∀ w ∈ lw_tbl, w.before A s = true) (hK : va_K g.1 cls (tysG g) s) (hs : ∀ i : Nat, i < 2 → (tmS i).eval A s none [] s = some (.ref (aK i))) : KC g aK s := by
  refine ⟨hK, fun w hw => ?_, va_AO.of (hts _ (lwm 114 (by decide +kernel))), va_AO.of (hts _ (lwm 206 (by decide +kernel))), vk_R.of (hts _ (lwm 28 (by decide +kernel))) (hs 0 (by decide)), vk_R.of (hts _ (lwm 64 (by decide +kernel))) (hs 1 (by decide))⟩
  have hn := List.mem_filter.mp hw
  have hb := hts w (List.mem_append_right _ hn.1)
  have h2 := hn.2
  match w, h2, hb with
  | .fieldLinkNest .., _, hb => exact va_Nw.of rfl hb
  | .methodLinkNest .., _, hb => exact va_Nw.of rfl hb
