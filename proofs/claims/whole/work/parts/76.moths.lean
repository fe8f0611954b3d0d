-- moths
def ntA (A : AB) (V : Vw) (w c h : Nat) : Nat := (if su A w h (V h).1 (V h).2.1 then 0 else 16 - c) + (if su A w h (min ((V h).1 + 1) 9) (V h).2.1 then 0 else c)
def msN (A : AB) (V : Vw) (w c : Nat) : Nat → Nat
  | 0 => 1
  | h + 1 => if (V h).2.2 then msN A V w c h * ntA A V w c h else msN A V w c h
def blK (V : Vw) : Nat → Nat
  | 0 => 0
  | h + 1 => if (V h).2.2 then blK V h + 4 else blK V h
theorem blK_le {V : Vw} : ∀ n, blK V n ≤ 4 * n := by
  intro n
  induction n with
  | zero => exact Nat.le_refl _
  | succ n ih => unfold blK; split <;> omega
theorem ntA_le {A : AB} {V : Vw} {w c h : Nat} (hc : c ≤ 16) : ntA A V w c h ≤ 16 := by
  unfold ntA; split <;> split <;> omega
theorem msN_le {A : AB} {V : Vw} {w c : Nat} (hc : c ≤ 16) : ∀ n, msN A V w c n ≤ 2 ^ blK V n := by
  intro n
  induction n with
  | zero => exact Nat.le_refl _
  | succ n ih =>
    unfold msN blK
    split
    · rw [Nat.pow_add]
      exact Nat.mul_le_mul ih (ntA_le hc)
    · exact ih
theorem bl_lt {V : Vw} {n : Nat} (hn : n ≤ 8) : 2 ^ blK V n ≤ 2 ^ 32 := Nat.pow_le_pow_right (by decide) (by have := blK_le (V := V) n; omega)
def rdx (a b w : Nat) : Int64 := if w = 0 then lN (a / Nat.gcd a b) else lN (b / Nat.gcd a b)
def moV (A : AB) (c d w k : Nat) : Int64 := rdx (2 ^ blK (vwA A d) (itm 0 (a0 A)) - msN A (vwA A d) w c (itm 0 (a0 A))) (2 ^ blK (vwA A d) (itm 0 (a0 A))) k
theorem cmp0 {a : Nat} (ha : a < 2 ^ 63) : lg_cmp (lN a) 0 = 0 ↔ a = 0 := by
  unfold lg_cmp
  rw [show (0 : Int64) = lN 0 from rfl]
  by_cases c : a = 0
  · subst c
    rw [if_neg (show ¬ lN 0 > lN 0 from fun q => by have := (pk_lLT (a := 0) (b := 0) (by decide) (by decide)).mp q; omega), if_pos rfl]
    exact ⟨fun _ => rfl, fun _ => rfl⟩
  · rw [if_pos (show lN a > lN 0 from (pk_lLT (by decide) ha).mpr (by omega))]
    exact ⟨fun q => absurd q (by decide), fun q => absurd q c⟩
theorem rdx_half {a b w : Nat} (hb : 0 < b) : rdx (2 * a) (2 * b) w = rdx a b w := by
  have hg : 0 < Nat.gcd a b := Nat.gcd_pos_of_pos_right a hb
  unfold rdx
  rw [Nat.gcd_mul_left, Nat.mul_div_mul_left _ _ (by decide), Nat.mul_div_mul_left _ _ (by decide)]
theorem rdx_one {a b w : Nat} (h : Nat.gcd a b = 1) : rdx a b w = if w = 0 then lN a else lN b := by
  unfold rdx; rw [h, Nat.div_one, Nat.div_one]
theorem odd_cop {a k : Nat} (h : a % 2 = 1) : Nat.gcd a (2 ^ k) = 1 := by
  have h2 : Nat.Coprime a 2 := by
    have : Nat.gcd a 2 ∣ 2 := Nat.gcd_dvd_right a 2
    have hle := Nat.le_of_dvd (by decide) this
    have hp : 0 < Nat.gcd a 2 := Nat.gcd_pos_of_pos_right a (by decide)
    rcases (show Nat.gcd a 2 = 1 ∨ Nat.gcd a 2 = 2 by omega) with q | q
    · exact q
    · have : 2 ∣ a := by rw [← q]; exact Nat.gcd_dvd_left a 2
      omega
  exact Nat.Coprime.pow_right k h2
theorem e7_halve {σ : St} {w : Nat} (hw : w < 2) : ∀ fu i k a, k + i ≤ 32 → k + 1 ≤ fu → a < 2 ^ 63 → M7_moths_L122 (nI w) (fun v32 v33 σ34 => M7_moths_J173 (nI w) v32 v33 σ34) fu (lN (2 ^ k)) (lN a) (nI i) σ = some (rdx a (2 ^ k) w, σ) := by
  intro fu
  have fin : ∀ a b, M7_moths_J173 (nI w) (lN b) (lN a) σ = some (if w = 0 then lN a else lN b, σ) := by
    intro a b
    unfold M7_moths_J173
    rcases (show w = 0 ∨ w = 1 by omega) with rfl | rfl
    · rfl
    · rfl
  induction fu with
  | zero => intro i k a _ c; omega
  | succ fu ih =>
    intro i k a hk hf ha
    have hp : 2 ^ k ≤ 2 ^ 32 := Nat.pow_le_pow_right (by decide) (by omega)
    rw [M7_moths_L122]
    by_cases e : 32 ≤ i
    · rw [if_pos (show (32 : Int32) ≤ nI i from (nI_leI (a := 32) (by omega) (by omega)).mpr e), fin, rdx_one]
      rw [show k = 0 by omega]
      exact Nat.gcd_one_right a
    · rw [if_neg (show ¬ (32 : Int32) ≤ nI i from fun q => by have := (nI_leI (a := 32) (by omega) (by omega)).mp q; omega), show (2 : Int64) = lN 2 from rfl, pk_lRem (by omega) (by decide) (by decide), itx (cmp0 (by have := Nat.mod_lt (2 ^ k) (show 2 > 0 by decide); omega))]
      cases k with
      | zero =>
        rw [if_neg (by decide), fin, rdx_one (Nat.gcd_one_right a)]
      | succ k =>
        have e2 : 2 ^ (k + 1) = 2 * 2 ^ k := by rw [Nat.pow_succ, Nat.mul_comm]
        rw [if_pos (by rw [e2]; omega), pk_lRem ha (by decide) (by decide), itx (cmp0 (by have := Nat.mod_lt a (show 2 > 0 by decide); omega))]
        by_cases c : a % 2 = 0
        · rw [if_pos c, lt_eq, lt_eq, lt_eq, pk_lDiv ha (by decide) (by decide), pk_lDiv (by omega) (by decide) (by decide), nI_1, show 2 ^ (k + 1) / 2 = 2 ^ k by omega, ih (i + 1) k (a / 2) (by omega) (by omega) (by omega)]
          have e3 : a = 2 * (a / 2) := by omega
          have := rdx_half (a := a / 2) (b := 2 ^ k) (w := w) (Nat.two_pow_pos k)
          rw [← e3, ← e2] at this
          rw [this]
        · rw [if_neg c, fin, rdx_one (odd_cop (by omega))]
theorem e8_part {σ : St} {a b w : Nat} (hw : w < 2) (ha : a < 2 ^ 63) (hb0 : 0 < b) (hb : b ≤ 2 ^ 32) : M8_part (lN a) (lN b) (nI w) σ = some (rdx a b w, σ) := by
  unfold M8_part
  have hg : 0 < Nat.gcd a b := Nat.gcd_pos_of_pos_right a hb0
  have hgb : Nat.gcd a b ≤ b := Nat.le_of_dvd hb0 (Nat.gcd_dvd_right a b)
  have key : ∀ fu x y, y + 1 ≤ fu → x < 2 ^ 63 → y ≤ 2 ^ 32 → Nat.gcd x y = Nat.gcd a b → M8_part_L6 (lN a) (lN b) (nI w) (fun v4 σ5 => if nI w = 0 then if ¬ v4 = 0 then some (lN a / v4, σ5) else none else if ¬ v4 = 0 then some (lN b / v4, σ5) else none) fu (lN x) (lN y) σ = some (rdx a b w, σ) := by
    intro fu
    induction fu with
    | zero => intro x y c; omega
    | succ fu ih =>
      intro x y hf hx hy hgc
      rw [M8_part_L6, itx (cmp0 (by omega))]
      by_cases c : y = 0
      · subst c
        rw [Nat.gcd_zero_right] at hgc
        have hn0 : ¬ lN x = 0 := fun q => by
          have := (pk_lEQ (a := x) (b := 0) hx (by decide)).mp q
          omega
        rw [if_pos rfl, if_pos hn0, if_pos hn0, hgc, pk_lDiv ha hg (by omega), pk_lDiv (by omega) hg (by omega)]
        unfold rdx
        rcases (show w = 0 ∨ w = 1 by omega) with rfl | rfl
        · rfl
        · rfl
      · have hn0 : ¬ lN y = 0 := fun q => by
          have := (pk_lEQ (a := y) (b := 0) (by omega) (by decide)).mp q
          omega
        have hm : x % y < y := Nat.mod_lt _ (by omega)
        rw [if_neg c, if_pos hn0, lt_eq, pk_lRem hx (by omega) (by omega)]
        refine ih y (x % y) (by omega) (by omega) (by omega) ?_
        rw [Nat.gcd_comm, ← Nat.gcd_rec, Nat.gcd_comm]; exact hgc
  exact key FU a b (by unfold FU; omega) ha hb rfl
abbrev Sp6 : Type := Int64 × AB
def sMoths (x y z u : Int32) (A : AB) : Sp6 := (if inb x 17 ∧ inb y 40 ∧ inb z (itm 1 (a1 A)) ∧ inb u 2 then moV A x.toNatClampNeg y.toNatClampNeg z.toNatClampNeg u.toNatClampNeg else -9223372036854775806, A)
def isC6 (x : Option (Int64 × St)) (σ : St) (s : Sp6) : Prop := Ok x (fun r σ' => r = s.1 ∧ RC s.2 σ' ∧ loC σ σ')
def isM6 (x : Option (Int64 × St)) (σ : St) (s : Sp6) : Prop := Ok x (fun r σ' => r = s.1 ∧ RM s.2 σ' ∧ hiM σ σ')
theorem isC6_A {A : AB} {σ0 σ : St} {r v : Int64} (h : RC A σ) (hl : loC σ0 σ) (e : v = r) : Ok (some (v, σ)) (fun r' σ' => r' = (r, A).1 ∧ RC (r, A).2 σ' ∧ loC σ0 σ') := ok_some.mpr ⟨e, h, hl⟩
theorem e7_sixteenths {A : AB} {σ : St} {c d w h : Nat} (hR : RC A σ) (hA : okAB A) (hT : toC σ A) (hc : c ≤ 16) (hd : d < 40) (hw : w < itm 1 (a1 A)) (hh : h < itm 0 (a0 A)) : M7_sixteenthsServed 48 (nI w) (nI d) (nI h) (nI c) σ = some (nI (16 - ntA A (vwA A d) w c h), σ) := by
  have h8 := itm_le (t := 0) hA.1.1
  have hv := cV_A hA hT hd
  have hV := (okV_A hA d).2 h hh
  unfold M7_sixteenthsServed M7_sixteenthsServed_J41
  rw [e1_wide hv h8 hd hh, bind_s, e1_deep hv h8 hd hh, bind_s, e7_suits hR hA hw hh (by omega) (by omega), bind_s]
  have em : (if nI (vwA A d h).1 + 1 < 9 then nI (vwA A d h).1 + 1 else 9) = nI (min ((vwA A d h).1 + 1) 9) := by
    rw [nI_1]
    by_cases q : (vwA A d h).1 + 1 < 9
    · rw [if_pos (show nI ((vwA A d h).1 + 1) < 9 from (nI_ltI (b := 9) (by omega) (by omega)).mpr q), Nat.min_eq_left (by omega)]
    · rw [if_neg (show ¬ nI ((vwA A d h).1 + 1) < 9 from fun z => q ((nI_ltI (b := 9) (by omega) (by omega)).mp z)), Nat.min_eq_right (by omega)]; rfl
  rw [em, e7_suits hR hA hw hh (by omega) (by omega), bind_s]
  have e16 : (16 : Int32) - nI c = nI (16 - c) := pk_sub (a := 16) hc
  unfold ntA
  rw [e16]
  by_cases c1 : su A w h (vwA A d h).1 (vwA A d h).2.1 = true
  · by_cases c2 : su A w h (min ((vwA A d h).1 + 1) 9) (vwA A d h).2.1 = true
    · rw [c1, c2]
      show some (nI (16 - c) + nI c, σ) = some (nI (16 - (0 + 0)), σ)
      rw [nI_add]; congr 3; omega
    · rw [c1, show su A w h (min ((vwA A d h).1 + 1) 9) (vwA A d h).2.1 = false by simpa using c2]
      show some (nI (16 - c), σ) = some (nI (16 - (0 + c)), σ)
      rw [Nat.zero_add]
  · rw [show su A w h (vwA A d h).1 (vwA A d h).2.1 = false by simpa using c1]
    by_cases c2 : su A w h (min ((vwA A d h).1 + 1) 9) (vwA A d h).2.1 = true
    · rw [c2]
      show some (nI 0 + nI c, σ) = some (nI (16 - (16 - c + 0)), σ)
      rw [nI_add]; congr 3; omega
    · rw [show su A w h (min ((vwA A d h).1 + 1) 9) (vwA A d h).2.1 = false by simpa using c2]
      show some (nI 0, σ) = some (nI (16 - (16 - c + c)), σ)
      congr 3; omega
theorem c_moths {A : AB} {σ : St} (x y z u : Int32) (h : RC A σ) (hA : okAB A) : isC6 (M7_moths x y z u σ) σ (sMoths x y z u A) := by
  unfold M7_moths sMoths isC6
  have h8 := itm_le (t := 0) hA.1.1
  rw [e7_isBelow x 17 σ (n := 17) rfl (by decide), bind_s]
  by_cases q1 : inb x 17
  · rw [if_pos q1, if_neg (by decide), e7_isBelow y 40 σ (n := 40) rfl (by decide), bind_s]
    by_cases q2 : inb y 40
    · rw [if_pos q2, if_neg (by decide), e7_isWork z h hA, bind_s]
      by_cases q3 : inb z (itm 1 (a1 A))
      · rw [if_pos q3, if_neg (by decide), e7_isBelow u 2 σ (n := 2) rfl (by decide), bind_s]
        by_cases q4 : inb u 2
        · rw [if_pos q4, if_neg (by decide), if_pos (show inb x 17 ∧ inb y 40 ∧ inb z (itm 1 (a1 A)) ∧ inb u 2 from ⟨q1, q2, q3, q4⟩)]
          obtain ⟨c, hc, rfl, hx⟩ := inb_ex q1
          obtain ⟨d, hd, rfl, hy⟩ := inb_ex q2
          obtain ⟨w, hw, rfl, hz⟩ := inb_ex q3
          obtain ⟨k, hk, rfl, hu⟩ := inb_ex q4
          rw [nI_clamp hx, nI_clamp hy, nI_clamp hz, nI_clamp hu]
          refine ok_call (c_told h hA) ?_
          rintro _ σ1 ⟨rfl, hR, hT, hlo⟩
          refine ok_T rfl ?_
          have hv := cV_A hA hT hd
          have key : ∀ (kx : Int64 → Int64 → St → Option (Int64 × St)) fu i, i ≤ itm 0 (a0 A) → itm 0 (a0 A) + 1 ≤ fu + i → M7_moths_L54 (nI c) (nI d) (nI w) (nI k) 48 kx fu (lN (msN A (vwA A d) w c i)) (lN (2 ^ blK (vwA A d) i)) (nI i) σ1 = kx (lN (msN A (vwA A d) w c (itm 0 (a0 A)))) (lN (2 ^ blK (vwA A d) (itm 0 (a0 A)))) σ1 := by
            intro kx fu
            induction fu with
            | zero => intro i _ _; omega
            | succ fu ih =>
              intro i hi hf
              rw [M7_moths_L54, hR.1.2.2.1]
              by_cases e : itm 0 (a0 A) ≤ i
              · rw [if_pos ((nI_leI (by omega) (by omega)).mpr (by omega)), show i = itm 0 (a0 A) by omega]
              · have hnt := ntA_le (A := A) (V := vwA A d) (w := w) (h := i) (show c ≤ 16 by omega)
                have this := ih (i + 1) (by omega) (by omega)
                have s1 : msN A (vwA A d) w c (i + 1) = if (vwA A d i).2.2 then msN A (vwA A d) w c i * ntA A (vwA A d) w c i else msN A (vwA A d) w c i := rfl
                have s2 : blK (vwA A d) (i + 1) = if (vwA A d i).2.2 then blK (vwA A d) i + 4 else blK (vwA A d) i := rfl
                rw [s1, s2] at this
                rw [if_neg (fun q => by have := (nI_leI (by omega) (by omega)).mp q; omega), e1_loan hd (by omega), bind_s]
                by_cases cb : (vwA A d i).2.2 = true
                · rw [if_pos cb, if_pos cb] at this
                  rw [if_pos ((hv i (by omega)).2.2.mpr cb), e7_sixteenths hR hA hT (by omega) hd hw (by omega), bind_s, lt_eq, lt_eq, M7_moths_J106, lt_eq, nI_1, show (16 : Int32) - nI (16 - ntA A (vwA A d) w c i) = nI (16 - (16 - ntA A (vwA A d) w c i)) from pk_sub (a := 16) (by omega), show 16 - (16 - ntA A (vwA A d) w c i) = ntA A (vwA A d) w c i by omega, nI_l (by omega), lN_mul, show (16 : Int64) = lN 16 from rfl, lN_mul]
                  rw [Nat.pow_add] at this
                  exact this
                · rw [if_neg cb, if_neg cb] at this
                  rw [if_neg (fun q => cb ((hv i (by omega)).2.2.mp q)), M7_moths_J106, lt_eq, nI_1]
                  exact this
          have k0 := fun kx => key kx FU 0 (by omega) (by have := FU_ge; omega)
          rw [show lN (msN A (vwA A d) w c 0) = 1 from rfl, show lN (2 ^ blK (vwA A d) 0) = 1 from rfl, show nI 0 = 0 from rfl] at k0
          have hms := msN_le (A := A) (V := vwA A d) (w := w) (show c ≤ 16 by omega) (itm 0 (a0 A))
          have hbl := bl_lt (V := vwA A d) h8
          have hbk := blK_le (V := vwA A d) (itm 0 (a0 A))
          rw [k0, lt_eq, lN_sub hms]
          have kh := e7_halve (σ := σ1) hk FU 0 (blK (vwA A d) (itm 0 (a0 A))) (2 ^ blK (vwA A d) (itm 0 (a0 A)) - msN A (vwA A d) w c (itm 0 (a0 A))) (by omega) (by have := FU_ge; omega) (by omega)
          rw [show nI 0 = 0 from rfl] at kh
          rw [kh]
          exact isC6_A hR hlo rfl
        · rw [if_neg q4, if_pos rfl, if_neg (fun z => q4 z.2.2.2)]
          exact isC6_A h loC.rf rfl
      · rw [if_neg q3, if_pos rfl, if_neg (fun z => q3 z.2.2.1)]
        exact isC6_A h loC.rf rfl
    · rw [if_neg q2, if_pos rfl, if_neg (fun z => q2 z.2.1)]
      exact isC6_A h loC.rf rfl
  · rw [if_neg q1, if_pos rfl, if_neg (fun z => q1 z.1)]
    exact isC6_A h loC.rf rfl
theorem x_moths {A : AB} {σ0 : St} {c d w k : Nat} (h0 : RX A (bkA A) σ0) (hA : okAB A) (hc : c ≤ 16) (hd : d < 40) (hw : w < itm 1 (a1 A)) (hk : k < 2) : isX A (bkA A) (M8_mothsOf (nI c) (nI d) (nI w) (nI k) σ0) σ0 (moV A c d w k) := by
  unfold M8_mothsOf isX
  have h8 := itm_le (t := 0) hA.1.1
  refine ok_call (x_livesV hd h0) ?_
  rintro - σ1 ⟨hR, hv, hF⟩
  have hv : mV σ1 (itm 0 (a0 A)) (vwA A d) := hv
  have hV := okV_A hA d
  have key : ∀ (kx : Int64 → Int64 → St → Option (Int64 × St)) fu i, i ≤ itm 0 (a0 A) → itm 0 (a0 A) + 1 ≤ fu + i → M8_mothsOf_L14 (nI c) (nI w) (nI k) kx fu (lN (msN A (vwA A d) w c i)) (lN (2 ^ blK (vwA A d) i)) (nI i) σ1 = kx (lN (msN A (vwA A d) w c (itm 0 (a0 A)))) (lN (2 ^ blK (vwA A d) (itm 0 (a0 A)))) σ1 := by
    intro kx fu
    induction fu with
    | zero => intro i _ _; omega
    | succ fu ih =>
      intro i hi hf
      rw [M8_mothsOf_L14, hR.2.2.1.1]
      by_cases e : itm 0 (a0 A) ≤ i
      · rw [if_pos ((nI_leI (by omega) (by omega)).mpr (by omega)), show i = itm 0 (a0 A) by omega]
      · have hnt := ntA_le (A := A) (V := vwA A d) (w := w) (h := i) hc
        have hVi := hV.2 i (by omega)
        have this := ih (i + 1) (by omega) (by omega)
        have s1 : msN A (vwA A d) w c (i + 1) = if (vwA A d i).2.2 then msN A (vwA A d) w c i * ntA A (vwA A d) w c i else msN A (vwA A d) w c i := rfl
        have s2 : blK (vwA A d) (i + 1) = if (vwA A d i).2.2 then blK (vwA A d) i + 4 else blK (vwA A d) i := rfl
        rw [s1, s2] at this
        rw [if_neg (fun q => by have := (nI_leI (by omega) (by omega)).mp q; omega), if_pos ((inb_nI (by omega)).mpr (by omega)), nI_clamp (n := i) (by omega)]
        by_cases cb : (vwA A d i).2.2 = true
        · rw [if_pos cb, if_pos cb] at this
          rw [if_pos ((hv i (by omega)).2.2.mpr cb), (hv i (by omega)).1, e8_servesBy hR hA hv hV hw (by omega) (by omega), bind_s, M8_mothsOf_J61, if_pos ((inb_nI (by omega)).mpr (by omega)), nI_clamp (n := i) (by omega), (hv i (by omega)).1, nI_1, show (9 : Int32) = nI 9 from rfl, e8_lesser (by omega) (by decide), bind_s, e8_servesBy hR hA hv hV hw (by omega) (by omega), bind_s, M8_mothsOf_J94, lt_eq, lt_eq, lt_eq, M8_mothsOf_J113, lt_eq, nI_1]
          have en : (if (if su A w i (vwA A d i).1 (vwA A d i).2.1 = true then (1 : Int32) else 0) = 0 then 16 - nI c else 0) + (if (if su A w i (min ((vwA A d i).1 + 1) 9) (vwA A d i).2.1 = true then (1 : Int32) else 0) = 0 then nI c else 0) = nI (ntA A (vwA A d) w c i) := by
            unfold ntA
            rw [show (16 : Int32) - nI c = nI (16 - c) from pk_sub (a := 16) hc]
            cases su A w i (vwA A d i).1 (vwA A d i).2.1 with
            | true =>
              cases su A w i (min ((vwA A d i).1 + 1) 9) (vwA A d i).2.1 with
              | true => rfl
              | false =>
                show nI 0 + nI c = nI (0 + c)
                rw [nI_add]
            | false =>
              cases su A w i (min ((vwA A d i).1 + 1) 9) (vwA A d i).2.1 with
              | true =>
                show nI (16 - c) + nI 0 = nI (16 - c + 0)
                rw [nI_add]
              | false =>
                show nI (16 - c) + nI c = nI (16 - c + c)
                rw [nI_add]
          rw [en, nI_l (by omega), lN_mul, show (16 : Int64) = lN 16 from rfl, lN_mul]
          rw [Nat.pow_add] at this
          exact this
        · rw [if_neg cb, if_neg cb] at this
          rw [if_neg (fun q => cb ((hv i (by omega)).2.2.mp q)), M8_mothsOf_J113, lt_eq, nI_1]
          exact this
  have k0 := fun kx => key kx FU 0 (by omega) (by have := FU_ge; omega)
  rw [show lN (msN A (vwA A d) w c 0) = 1 from rfl, show lN (2 ^ blK (vwA A d) 0) = 1 from rfl, show nI 0 = 0 from rfl] at k0
  have hms := msN_le (A := A) (V := vwA A d) (w := w) hc (itm 0 (a0 A))
  have hbl := bl_lt (V := vwA A d) h8
  rw [k0, lN_sub hms, e8_part hk (by omega) (Nat.two_pow_pos _) hbl, bind_s, ok_some]
  exact ⟨rfl, hR, hF.hi⟩
theorem m_rd6 {A : AB} {σ : St} {f : Unit → St → Option (Int64 × St)} {s : Int64} (h : RM A σ) (hA : okAB A) (k : ∀ σ1, RX A (bkA A) σ1 → isX A (bkA A) (f () σ1) σ1 s) : isM6 (bd (M8_reads σ) f) σ (s, A) := by
  unfold isM6
  refine ok_call (m_reads h) ?_
  rintro ⟨⟩ σ1 ⟨hR, hi⟩
  exact (k σ1 (RX_of hR hA)).mono (fun r σ' hp => ⟨hp.1, hp.2.1.to.1, hi.tr hp.2.2⟩)
theorem m_moths {A : AB} {σ : St} (x y z u : Int32) (h : RM A σ) (hA : okAB A) : isM6 (M8_moths x y z u σ) σ (sMoths x y z u A) := by
  unfold M8_moths sMoths
  refine m_rd6 h hA (fun σ1 hR => ?_)
  have J : ∀ σ2, RX A (bkA A) σ2 → isX A (bkA A) (M8_moths_J51 σ2) σ2 (-9223372036854775806) := fun σ2 hR2 => by
    unfold M8_moths_J51 M8_no
    rw [bind_s]
    exact isX_some hR2 hiM.rf (by decide)
  rw [e8_in0 x 16 σ1 (n := 17) rfl, bind_s]
  by_cases q1 : inb x 17
  · rw [if_pos q1, if_neg (by decide), e8_isDay, bind_s]
    by_cases q2 : inb y 40
    · rw [if_pos q2, if_neg (by decide), e8_isWorkR z hR.to hA, bind_s]
      by_cases q3 : inb z (itm 1 (a1 A))
      · rw [if_pos q3, if_neg (by decide), e8_isTwo, bind_s]
        by_cases q4 : inb u 2
        · rw [if_pos q4, if_neg (by decide), if_pos (show inb x 17 ∧ inb y 40 ∧ inb z (itm 1 (a1 A)) ∧ inb u 2 from ⟨q1, q2, q3, q4⟩)]
          obtain ⟨c, hc, rfl, hx⟩ := inb_ex q1
          obtain ⟨d, hd, rfl, hy⟩ := inb_ex q2
          obtain ⟨w, hw, rfl, hz⟩ := inb_ex q3
          obtain ⟨k, hk, rfl, hu⟩ := inb_ex q4
          rw [nI_clamp hx, nI_clamp hy, nI_clamp hz, nI_clamp hu]
          exact isX_tail (x_moths hR hA (by omega) hd hw hk)
        · rw [if_neg q4, if_pos rfl, if_neg (fun z => q4 z.2.2.2)]
          exact J σ1 hR
      · rw [if_neg q3, if_pos rfl, if_neg (fun z => q3 z.2.2.1)]
        exact J σ1 hR
    · rw [if_neg q2, if_pos rfl, if_neg (fun z => q2 z.2.1)]
      exact J σ1 hR
  · rw [if_neg q1, if_pos rfl, if_neg (fun z => q1 z.1)]
    exact J σ1 hR
