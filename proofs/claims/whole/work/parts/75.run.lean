-- lots
def nx (s : Int32) : Int32 := 1103515245 * s + 12345
def ltQ (s : Int32) : Nat := s.toBitVec.toNat / 65536
theorem ltQ_lt (s : Int32) : ltQ s < 65536 := by
  have := s.toBitVec.isLt
  unfold ltQ; omega
theorem lt_ush (s : Int32) : (s.toUInt32 >>> ((16 : Int32).toUInt32 &&& Int32.toUInt32 31)).toInt32 = nI (ltQ s) := by
  apply Int32.toBitVec_inj.mp
  apply BitVec.eq_of_toNat_eq
  have := ltQ_lt s
  rw [pk_ushr s 16 16 (by decide), pk_tn (by omega)]
  rfl
theorem lt_rem (s : Int32) {m : Nat} (h0 : 0 < m) (hm : m < 2 ^ 31) : (s.toUInt32 >>> ((16 : Int32).toUInt32 &&& Int32.toUInt32 31)).toInt32 - (s.toUInt32 >>> ((16 : Int32).toUInt32 &&& Int32.toUInt32 31)).toInt32 / nI m * nI m = nI (ltQ s % m) := by
  have := ltQ_lt s
  rw [lt_ush, pk_rem (by omega) h0 hm]
def rnS (s : Int32) : Nat → Int32
  | 0 => s
  | k + 1 => nx (nx (rnS s k))
def rnL (m : Nat) (s : Int32) : Nat → List Q4
  | 0 => []
  | k + 1 => rnL m s k ++ [(k, ltQ (nx (rnS s k)) % m, 0, ltQ (nx (nx (rnS s k))) % 9 + 1)]
theorem rnL_len {m : Nat} {s : Int32} : ∀ n, (rnL m s n).length = n := by
  intro n
  induction n with
  | zero => rfl
  | succ n ih => unfold rnL; rw [List.length_append, ih]; rfl
def bkR (A : AB) (s : Int32) (n : Nat) : Bk := (aL A ++ rnL (itm 0 (a0 A)) s n, none, aF A, aP A, none)
theorem bkR_len {A : AB} {s : Int32} {n : Nat} : (aL A ++ rnL (itm 0 (a0 A)) s n).length = (aL A).length + n := by rw [List.length_append, rnL_len]
theorem okL_R {A : AB} {s : Int32} (hA : okAB A) (h0 : 0 < itm 0 (a0 A)) : ∀ n, n ≤ 40 → okL (aL A ++ rnL (itm 0 (a0 A)) s n) := by
  have h8 := itm_le (t := 0) hA.1.1
  intro n
  induction n with
  | zero => intro _; show okL (aL A ++ []); rw [List.append_nil]; exact hA.2.1.1
  | succ n ih =>
    intro hn
    unfold rnL
    rw [← List.append_assoc]
    have h1 : ltQ (nx (rnS s n)) % itm 0 (a0 A) < itm 0 (a0 A) := Nat.mod_lt _ h0
    have h2 : ltQ (nx (nx (rnS s n))) % 9 < 9 := Nat.mod_lt _ (by decide)
    exact okL_app (ih (by omega)) ⟨by show n < 40; omega, by show ltQ (nx (rnS s n)) % itm 0 (a0 A) < 8; omega, by show 0 < 6; decide, by show 1 ≤ ltQ (nx (nx (rnS s n))) % 9 + 1; omega, by show ltQ (nx (nx (rnS s n))) % 9 + 1 ≤ 9; omega⟩
def rnV (A : AB) (s : Int32) (n w : Nat) : Int32 := if itm 0 (a0 A) = 0 then 0 else if w = 0 then nI (vlt (vw (sim (hdA A) (bkR A s n) n)) (itm 0 (a0 A))) else nI (ctN (sim (hdA A) (bkR A s n) n) (aL A).length n)
def sRun (x y z : Int32) (A : AB) : Sp := (if 1 ≤ y.toInt ∧ y.toInt ≤ 40 ∧ inb z 2 then rnV A x y.toNatClampNeg z.toNatClampNeg else -2, A)
theorem e7_lotOf {σ : St} (s : Int32) {m : Nat} (h0 : 0 < m) (hm : m < 2 ^ 31) : M7_lotOf s (nI m) σ = some (nI (ltQ s % m), σ) := by
  unfold M7_lotOf
  rw [if_pos (show (1 : Int32) ≤ nI m from (nI_leI (a := 1) (by omega) hm).mpr (by omega)), if_pos (nI_ne0 h0 hm), lt_rem s h0 hm]
theorem c_run {A : AB} {σ : St} (x y z : Int32) (h : RC A σ) (hA : okAB A) : isC (M7_run x y z σ) σ (sRun x y z A) := by
  unfold M7_run sRun isC
  have h8 := itm_le (t := 0) hA.1.1
  have hl := hA.2.1.2
  have o1 : (1 : Int32).toInt = 1 := rfl
  have o40 : (40 : Int32).toInt = 40 := rfl
  by_cases q1 : 1 ≤ y.toInt
  · rw [if_neg (show ¬ y < 1 by rw [i32_lt, o1]; omega)]
    by_cases q2 : y.toInt ≤ 40
    · rw [if_neg (show ¬ 40 < y by rw [i32_lt, o40]; omega), e7_isBelow z 2 σ (n := 2) rfl (by decide), bind_s]
      by_cases q3 : inb z 2
      · rw [if_pos q3, if_neg (by decide), if_pos (show 1 ≤ y.toInt ∧ y.toInt ≤ 40 ∧ inb z 2 from ⟨q1, q2, q3⟩)]
        obtain ⟨n, hn, rfl, hy⟩ := inb_ex (x := y) (n := 41) ⟨by omega, by omega⟩
        obtain ⟨w, hw, rfl, hz⟩ := inb_ex q3
        rw [nI_clamp hy, nI_clamp hz, h.1.2.2.1]
        rw [nI_toInt hy] at q1
        unfold rnV
        by_cases c0 : itm 0 (a0 A) = 0
        · rw [if_pos (by rw [c0]; rfl), if_pos c0]
          exact isC_A h loC.rf rfl
        · rw [if_neg (nI_ne0 (by omega) (by omega)), if_neg c0]
          refine ok_call (t0_takeAll h hA) ?_
          rintro - σ1 ⟨r1, r2, r3, hF1⟩
          have fin : ∀ σ2, rC σ2 40 (aL A ++ rnL (itm 0 (a0 A)) x n) → frW σ σ2 → rC σ2 42 (aF A) → rC σ2 44 (aP A) → Ok (bd (M1_follow 66 26 39 (nI n - 1) σ2) fun r15 σ15 => if nI w = 0 then bd (M1_vaultBehind 66 (nI n - 1) σ15) fun r18 σ18 => some (r18, σ18) else bd (M1_countedFrom 66 (σ15 33 2) (σ15 40 2) σ15) fun r17 σ17 => some (r17, σ17)) (fun r σ' => r = (if w = 0 then nI (vlt (vw (sim (hdA A) (bkR A x n) n)) (itm 0 (a0 A))) else nI (ctN (sim (hdA A) (bkR A x n) n) (aL A).length n)) ∧ RC A σ' ∧ loC σ σ') := by
            intro σ2 k1 hF2 k2 k3
            have hR2 := h.frW hA hF2
            have hlen : (aL A ++ rnL (itm 0 (a0 A)) x n).length ≤ 52 := by rw [bkR_len]; omega
            have hL := okL_R (s := x) hA (by omega) n (by omega)
            have hB : bkC σ2 39 (hdA A) (bkR A x n) := ⟨⟨hR2.1.2.2.1, hR2.1.2.2.2⟩, ⟨k1, k2, k3⟩, ⟨rfl, rfl⟩, okH_hd hA, hL, hA.2.2.1.1, hA.2.2.2.1.1⟩
            rw [show nI n - 1 = nI (n - 1) from pk_sub (b := 1) (by omega)]
            refine ok_call (t1_follow (o := 66) (b := 39) (last := n - 1) ⟨Or.inr rfl, Or.inr rfl⟩ (by omega) hB hlen) ?_
            rintro - σ3 ⟨hF3, hf⟩
            have hW3 : frW σ σ3 := hF2.tr ⟨fun c q => hF3 c (by omega), by rw [hF3 40 (by decide)], by rw [hF3 42 (by decide)], by rw [hF3 44 (by decide)]⟩
            have hR3 := h.frW hA hW3
            have hv := cV_of (okH_hd hA) hL hlen hf (show n - 1 < n - 1 + 1 by omega)
            rw [show n - 1 + 1 = n by omega] at hf hv
            rcases (show w = 0 ∨ w = 1 by omega) with rfl | rfl
            · refine ok_T rfl ?_
              rw [e1_vault hv hf.1.1 h8 (by omega), bind_s, if_pos rfl, ok_some]
              exact ⟨rfl, hR3, hW3.lo⟩
            · refine ok_F (by decide) ?_
              have hlen' : σ3 40 2 = nI ((aL A).length + n) := by rw [hF3 40 (by decide), k1.1, bkR_len]
              rw [hR3.2.2.1.1, hlen', e1_counted hf.1 (by omega), bind_s, if_neg (by decide), ok_some]
              exact ⟨rfl, hR3, hW3.lo⟩
          have key : ∀ fu k σ', k ≤ n → n + 1 ≤ fu + k → rC σ' 40 (aL A ++ rnL (itm 0 (a0 A)) x k) → frW σ σ' → rC σ' 42 (aF A) → rC σ' 44 (aP A) → Ok (M7_run_L51 (nI n) (nI w) (fun σ14 => bd (M1_follow 66 26 39 (nI n - 1) σ14) fun r15 σ15 => if nI w = 0 then bd (M1_vaultBehind 66 (nI n - 1) σ15) fun r18 σ18 => some (r18, σ18) else bd (M1_countedFrom 66 (σ15 33 2) (σ15 40 2) σ15) fun r17 σ17 => some (r17, σ17)) fu (rnS x k) (nI k) σ') (fun r σ' => r = (if w = 0 then nI (vlt (vw (sim (hdA A) (bkR A x n) n)) (itm 0 (a0 A))) else nI (ctN (sim (hdA A) (bkR A x n) n) (aL A).length n)) ∧ RC A σ' ∧ loC σ σ') := by
            intro fu
            induction fu with
            | zero => intro k σ' _ _; omega
            | succ fu ih =>
              intro k σ' hk hf k1 hF k2 k3
              have hR := h.frW hA hF
              rw [M7_run_L51]
              by_cases e : n ≤ k
              · rw [if_pos ((nI_leI (by omega) (by omega)).mpr (by omega))]
                exact fin σ' (by rw [show n = k by omega]; exact k1) hF k2 k3
              · rw [if_neg (fun q => by have := (nI_leI (by omega) (by omega)).mp q; omega)]
                unfold M7_nextLot
                rw [bind_s, hR.1.2.2.1, e7_lotOf _ (by omega) (by omega), bind_s, bind_s, show (9 : Int32) = nI 9 from rfl, e7_lotOf _ (by decide) (by decide), bind_s, nI_1]
                have hl40 : σ' 40 0 = nI 52 := hR.2.2.2.2.2.2.1.2.2.2.2.1
                refine ok_call (t4_add (r := 40) (lim := 52) (c := 0) k1 hl40 (by decide) (by rw [bkR_len]; omega) (by rw [bkR_len]; show 4 * ((aL A).length + k + 1) ≤ 208; omega)) ?_
                rintro - σ3 ⟨-, a2, a3, a4⟩
                rw [ok_lt, nI_1]
                refine ih (k + 1) σ3 (by omega) (by omega) ?_ (hF.tr ⟨fun c q => a4 c (by omega) (by omega), a3 0 (by decide), by rw [a4 42 (by decide) (by decide)], by rw [a4 44 (by decide) (by decide)]⟩) (k2.frame (a4 _ (by decide) (by decide)) (a4 _ (by decide) (by decide))) (k3.frame (a4 _ (by decide) (by decide)) (a4 _ (by decide) (by decide)))
                rw [List.append_assoc] at a2
                exact a2
          exact key FU 0 σ1 (by omega) (by have := FU_ge; omega) (by show rC σ1 40 (aL A ++ []); rw [List.append_nil]; exact r1) hF1 r2 r3
      · rw [if_neg q3, if_pos rfl, if_neg (fun z => q3 z.2.2)]
        exact isC_A h loC.rf rfl
    · rw [if_pos (show 40 < y by rw [i32_lt, o40]; omega), if_neg (fun z => q2 z.2.1)]
      exact isC_A h loC.rf rfl
  · rw [if_pos (show y < 1 by rw [i32_lt, o1]; omega), if_neg (fun z => q1 z.1)]
    exact isC_A h loC.rf rfl
-- the reference
theorem RX_moreL {A : AB} {σ : St} {R : List Q4} {a b c d : Nat} (h : RX A (aL A ++ R, none, aF A, aP A, none) σ) (hR : (aL A ++ R).length < 52) (hq : a < 40 ∧ b < 8 ∧ c < 6 ∧ 1 ≤ d ∧ d ≤ 9) : Ok (M8_lends (nI a) (nI b) (nI c) (nI d) σ) (fun _ σ' => RX A (aL A ++ (R ++ [(a, b, c, d)]), none, aF A, aP A, none) σ' ∧ hiM σ σ' ∧ σ' 0 33 = σ 0 33) := by
  obtain ⟨t0, t1, r0, r1, s, e, sh, fi, hb9⟩ := id h
  obtain ⟨⟨a1, a2⟩, ⟨b1, b2, b3⟩, ⟨c1, c2, c3⟩, ⟨d1, d2, d3⟩, ⟨e1, e2, e3⟩, k1, k2, k3, k4⟩ := hb9
  have hlM : lM σ (aL A ++ R) := ⟨b1, b3⟩
  refine (m_lends hlM hR).mono ?_
  rintro - σ' ⟨p1, p2, p3⟩
  have hz : ∀ c, 0 < c → c ≠ 9 → σ' c = σ c := fun c q1 q2 => p3 c (by omega) q2
  refine ⟨h.book (fun c q => hz c (by omega) (by omega)) (fun j q => p2 j (by omega)) ?_, fun c q => hz c (by omega) (by omega), p2 33 (by decide)⟩
  rw [List.append_assoc] at p1
  refine ⟨⟨by rw [hz 7 (by decide) (by decide)]; exact a1, fun k w q1 q2 => by rw [hz 8 (by decide) (by decide)]; exact a2 k w q1 q2⟩, ⟨p1.1, ?_, p1.2⟩, ⟨by rw [p2 11 (by decide)]; exact c1, c2, fun k hk => by rw [hz 10 (by decide) (by decide)]; exact c3 k hk⟩, ⟨by rw [p2 13 (by decide)]; exact d1, d2, fun k hk => by rw [hz 11 (by decide) (by decide)]; exact d3 k hk⟩, ⟨by rw [p2 26 (by decide)]; exact e1, by rw [p2 27 (by decide)]; exact e2, e3⟩, k1, ?_, k3, k4⟩
  · show (aL A ++ (R ++ [(a, b, c, d)])).length ≤ 52
    rw [← List.append_assoc, List.length_append]
    show (aL A ++ R).length + 1 ≤ 52
    omega
  · show okL (aL A ++ (R ++ [(a, b, c, d)]))
    rw [← List.append_assoc]
    exact okL_app k2 hq
theorem RX_lessL {A : AB} {σ : St} {R : List Q4} (h : RX A (aL A ++ R, none, aF A, aP A, none) σ) (hA : okAB A) : RX A (bkA A) (s2 σ 0 9 (nI (aL A).length)) := by
  have hL := hA.2.1.2
  obtain ⟨⟨a1, a2⟩, ⟨b1, b2, b3⟩, ⟨c1, c2, c3⟩, ⟨d1, d2, d3⟩, ⟨e1, e2, e3⟩, k1, k2, k3, k4⟩ := h.2.2.2.2.2.2.2.2
  have hz : ∀ c, c ≠ 0 → s2 σ 0 9 (nI (aL A).length) c = σ c := fun c q => s2_ne q
  have p2 : ∀ j, j ≠ 9 → s2 σ 0 9 (nI (aL A).length) 0 j = σ 0 j := fun j q => s2_nj q
  refine h.book (fun c q => hz c (by omega)) (fun j q => p2 j (by omega)) ?_
  refine ⟨⟨by rw [hz 7 (by decide)]; exact a1, fun k w q1 q2 => by rw [hz 8 (by decide)]; exact a2 k w q1 q2⟩, ⟨s2_eq, by show (aL A).length ≤ 52; omega, fun k hk => ?_⟩, ⟨by rw [p2 11 (by decide)]; exact c1, c2, fun k hk => by rw [hz 10 (by decide)]; exact c3 k hk⟩, ⟨by rw [p2 13 (by decide)]; exact d1, d2, fun k hk => by rw [hz 11 (by decide)]; exact d3 k hk⟩, ⟨by rw [p2 26 (by decide)]; exact e1, by rw [p2 27 (by decide)]; exact e2, e3⟩, k1, hA.2.1.1, k3, k4⟩
  have hk' : k < (aL A).length := hk
  rw [hz 9 (by decide)]
  have := b3 k (by show k < (aL A ++ R).length; rw [List.length_append]; omega)
  rw [show g4 (aL A ++ R) k = g4 (aL A) k from g4_appl hk'] at this
  exact this
theorem t8_lot {A : AB} {B : Bk} {σ : St} {s : Int32} {m : Nat} (h : RX A B σ) (hs : σ 0 33 = s) (h0 : 0 < m) (hm : m < 2 ^ 31) : Ok (M8_lot (nI m) σ) (fun r σ' => r = nI (ltQ (nx s) % m) ∧ RX A B σ' ∧ hiM σ σ' ∧ σ' 0 33 = nx s) := by
  unfold M8_lot
  rw [ok_lt]
  refine ok_T (nI_ne0 h0 hm) ?_
  rw [s2_eq, hs, show 1103515245 * s + 12345 = nx s from rfl, lt_rem _ h0 hm, ok_some]
  have hX : frX σ (s2 σ 0 33 (nx s)) := frX.rf.s0 (Or.inr rfl)
  exact ⟨rfl, h.frame hX, hX.hi, s2_eq⟩
theorem x_run {A : AB} {σ0 : St} {s : Int32} {n w : Nat} (h0 : RX A (bkA A) σ0) (hA : okAB A) (hn1 : 1 ≤ n) (hn : n ≤ 40) (hw : w < 2) : isX A (bkA A) (M8_runOf s (nI n) (nI w) σ0) σ0 (rnV A s n w) := by
  unfold M8_runOf isX
  have h8 := itm_le (t := 0) hA.1.1
  have hl := hA.2.1.2
  rw [ok_lt, ok_lt, show σ0 0 9 = nI (aL A).length from h0.2.2.2.2.2.2.2.2.2.1.1]
  have hX0 : frX σ0 (s2 σ0 0 33 s) := frX.rf.s0 (Or.inr rfl)
  -- behind the lots
  have fin : ∀ (k : Nat) σ, k ≤ 40 → (0 < itm 0 (a0 A) → k = n) → (itm 0 (a0 A) = 0 → k = 0) → RX A (bkR A s k) σ → hiM σ0 σ → Ok (M8_runOf_J64 (nI n) (nI w) (nI (aL A).length) σ) (fun r σ' => r = rnV A s n w ∧ RX A (bkA A) σ' ∧ hiM σ0 σ') := by
    intro k σ hk hkn hk0 hR hhi
    unfold M8_runOf_J64
    rw [show nI n - 1 = nI (n - 1) from pk_sub (b := 1) (by omega)]
    refine ok_call (x_lives (d := n - 1) (by omega) hR) ?_
    rintro - σ1 ⟨hR1, hm, hF1⟩
    rw [show n - 1 + 1 = n by omega] at hm
    have h9 : σ1 0 9 = nI ((aL A).length + k) := by
      have : σ1 0 9 = nI (aL A ++ rnL (itm 0 (a0 A)) s k).length := hR1.2.2.2.2.2.2.2.2.2.1.1
      rw [this, bkR_len]
    have h17 : ∀ j, j < k → σ1 17 ((aL A).length + j) = if gct (sim (hdA A) (bkR A s k) n) ((aL A).length + j) then 1 else 0 := fun j hj => (hm.2.2 _ (by show (aL A).length + j < (aL A ++ rnL (itm 0 (a0 A)) s k).length; rw [bkR_len]; omega)).1
    have sum : ∀ (kx : Int32 → St → Option (Int32 × St)) fu j, j ≤ k → k + 1 ≤ fu + j → M8_runOf_L78 (nI w) (nI (aL A).length) kx fu (nI (ctN (sim (hdA A) (bkR A s k) n) (aL A).length j)) (nI ((aL A).length + j)) σ1 = kx (nI (ctN (sim (hdA A) (bkR A s k) n) (aL A).length k)) σ1 := by
      intro kx fu
      induction fu with
      | zero => intro j _ _; omega
      | succ fu ih =>
        intro j hj hf
        rw [M8_runOf_L78, h9]
        by_cases e : k ≤ j
        · rw [if_pos ((nI_leI (by omega) (by omega)).mpr (by omega)), show j = k by omega]
        · rw [if_neg (fun q => by have := (nI_leI (by omega) (by omega)).mp q; omega), if_pos ((inb_nI (by omega)).mpr (by omega)), nI_clamp (n := (aL A).length + j) (by omega), h17 j (by omega), lt_eq, lt_eq, nI_1]
          have hs : ctN (sim (hdA A) (bkR A s k) n) (aL A).length (j + 1) = ctN (sim (hdA A) (bkR A s k) n) (aL A).length j + if gct (sim (hdA A) (bkR A s k) n) ((aL A).length + j) then 1 else 0 := rfl
          have := ih (j + 1) (by omega) (by omega)
          rw [hs] at this
          by_cases c : gct (sim (hdA A) (bkR A s k) n) ((aL A).length + j) = true
          · rw [if_pos c]; rw [if_pos c] at this
            rw [nI_1]; exact this
          · rw [if_neg c]; rw [if_neg c] at this
            rw [show (0 : Int32) = nI 0 from rfl, nI_add]; exact this
    have k0 := fun kx => sum kx FU 0 (by omega) (by have := FU_ge; omega)
    rw [show nI (ctN (sim (hdA A) (bkR A s k) n) (aL A).length 0) = 0 from rfl, Nat.add_zero] at k0
    rw [k0, ok_lt]
    have hR2 := RX_lessL hR1 hA
    have hhi2 : hiM σ0 (s2 σ1 0 9 (nI (aL A).length)) := (hhi.tr hF1.hi).tr (fun c q => s2_ne (by omega))
    have hlen : (aL A ++ rnL (itm 0 (a0 A)) s k).length ≤ 52 := by rw [bkR_len]; omega
    have hv := mV_of (okH_hd hA) (show okL (bkR A s k).1 from hR.2.2.2.2.2.2.2.2.2.2.2.2.2.2.1) hlen hm
    have hv2 : mV (s2 σ1 0 9 (nI (aL A).length)) (itm 0 (a0 A)) (vw (sim (hdA A) (bkR A s k) n)) := fun j hj => by
      rw [s2_ne (by decide), s2_ne (by decide), s2_ne (by decide)]; exact hv j hj
    unfold rnV
    rcases (show w = 0 ∨ w = 1 by omega) with rfl | rfl
    · refine ok_T rfl ?_
      rw [e8_vault hv2 hR2.2.2.1.1 h8, bind_s, ok_some, if_pos rfl]
      refine ⟨?_, hR2, hhi2⟩
      by_cases c : itm 0 (a0 A) = 0
      · rw [if_pos c, c]; rfl
      · rw [if_neg c, hkn (by omega)]
    · refine ok_F (by decide) ?_
      rw [ok_some, if_neg (show ¬ (1 : Nat) = 0 by decide)]
      refine ⟨?_, hR2, hhi2⟩
      by_cases c : itm 0 (a0 A) = 0
      · rw [if_pos c, hk0 c]; rfl
      · rw [if_neg c, hkn (by omega)]
  have key : ∀ fu k σ, k ≤ n → n + 1 ≤ fu + k → (itm 0 (a0 A) = 0 → k = 0) → RX A (bkR A s k) σ → hiM σ0 σ → σ 0 33 = rnS s k → Ok (M8_runOf_L14 (nI n) (nI w) (nI (aL A).length) (fun σ11 => M8_runOf_J64 (nI n) (nI w) (nI (aL A).length) σ11) fu (nI k) σ) (fun r σ' => r = rnV A s n w ∧ RX A (bkA A) σ' ∧ hiM σ0 σ') := by
    intro fu
    induction fu with
    | zero => intro k σ _ _; omega
    | succ fu ih =>
      intro k σ hk hf hz hR hhi h33
      rw [M8_runOf_L14]
      by_cases e : n ≤ k
      · rw [if_pos ((nI_leI (by omega) (by omega)).mpr (by omega))]
        exact fin k σ (by omega) (fun _ => by omega) hz hR hhi
      · rw [if_neg (fun q => by have := (nI_leI (by omega) (by omega)).mp q; omega), hR.2.2.1.1]
        by_cases c : itm 0 (a0 A) = 0
        · rw [if_pos (show nI (itm 0 (a0 A)) ≤ 0 by rw [c]; decide)]
          exact fin k σ (by omega) (fun q => by omega) hz hR hhi
        · rw [if_neg (nI_nle (by omega) (by omega))]
          have m1 : ltQ (nx (rnS s k)) % itm 0 (a0 A) < itm 0 (a0 A) := Nat.mod_lt _ (by omega)
          have m2 : ltQ (nx (nx (rnS s k))) % 9 < 9 := Nat.mod_lt _ (by decide)
          refine ok_call (t8_lot (m := itm 0 (a0 A)) hR h33 (by omega) (by omega)) ?_
          rintro r σ1 ⟨rfl, hR1, hh1, h331⟩
          refine ok_call (t8_lot (m := 9) hR1 h331 (by decide) (by decide)) ?_
          rintro r σ2 ⟨rfl, hR2, hh2, h332⟩
          rw [nI_1 (ltQ (nx (nx (rnS s k))) % 9)]
          refine ok_call (RX_moreL (c := 0) hR2 (by rw [bkR_len]; omega) ⟨by omega, by omega, by decide, by omega, by omega⟩) ?_
          rintro - σ3 ⟨hR3, hh3, h333⟩
          rw [ok_lt, nI_1 k]
          exact ih (k + 1) σ3 (by omega) (by omega) (fun q => absurd q c) hR3 (((hhi.tr hh1).tr hh2).tr hh3) (by rw [h333, h332]; rfl)
  exact key FU 0 _ (by omega) (by have := FU_ge; omega) (fun _ => rfl) (by show RX A (aL A ++ [], none, aF A, aP A, none) _; rw [List.append_nil]; exact h0.frame hX0) hX0.hi s2_eq
theorem m_run {A : AB} {σ : St} (x y z : Int32) (h : RM A σ) (hA : okAB A) : isM (M8_run x y z σ) σ (sRun x y z A) := by
  unfold M8_run sRun
  refine m_rd h hA (fun σ1 hR => ?_)
  rw [e8_inx y 1 40 σ1 (a := 1) (b := 40) rfl rfl, bind_s]
  by_cases q1 : 1 ≤ y.toInt ∧ y.toInt ≤ 40
  · rw [if_pos q1, if_neg (by decide), e8_isTwo, bind_s]
    by_cases q3 : inb z 2
    · rw [if_pos q3, if_neg (by decide), if_pos (show 1 ≤ y.toInt ∧ y.toInt ≤ 40 ∧ inb z 2 from ⟨q1.1, q1.2, q3⟩)]
      obtain ⟨n, hn, rfl, hy⟩ := inb_ex (x := y) (n := 41) ⟨by omega, by omega⟩
      obtain ⟨w, hw, rfl, hz⟩ := inb_ex q3
      rw [nI_clamp hy, nI_clamp hz]
      rw [nI_toInt hy] at q1
      exact isX_tail (x_run hR hA (by omega) (by omega) hw)
    · rw [if_neg q3, if_pos rfl, if_neg (fun z => q3 z.2.2)]
      exact isX_some hR hiM.rf rfl
  · rw [if_neg q1, if_pos rfl, if_neg (fun z => q1 ⟨z.1, z.2.1⟩)]
    exact isX_some hR hiM.rf rfl
