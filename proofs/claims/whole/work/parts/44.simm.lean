-- bits
def bm (f : Nat → Bool) : Nat → Nat
  | 0 => 0
  | k + 1 => bm f k + (if f k then 2 ^ k else 0)
theorem bm_lt (f : Nat → Bool) : ∀ k, bm f k < 2 ^ k := by
  intro k
  induction k with
  | zero => simp [bm]
  | succ k ih => unfold bm; split <;> rw [Nat.pow_succ] <;> omega
theorem bm_bit (f : Nat → Bool) (h : Nat) : ∀ k, (bm f k).testBit h = (decide (h < k) && f h) := by
  intro k
  induction k with
  | zero => simp [bm]
  | succ k ih =>
    unfold bm
    have hl := bm_lt f k
    by_cases hf : f k
    · rw [if_pos hf, show bm f k + 2 ^ k = 2 ^ k * 1 + bm f k by omega, Nat.testBit_two_pow_mul_add 1 hl h, ih]
      by_cases h1 : h < k
      · simp [h1, show h < k + 1 by omega]
      · rw [if_neg h1]
        by_cases e : h = k
        · subst e; simp [hf]
        · have e1 : ¬ h < k + 1 := by omega
          have e2 : Nat.testBit 1 (h - k) = false := by rw [show (1 : Nat) = 2 ^ 0 from rfl]; exact Nat.testBit_two_pow_of_ne (by omega)
          simp [e1, e2]
    · rw [if_neg hf, Nat.add_zero, ih]
      by_cases e : h = k
      · subst e; simp [hf]
      · by_cases h1 : h < k
        · simp [h1, show h < k + 1 by omega]
        · simp [h1, show ¬ h < k + 1 by omega]
theorem bm_ext {f g : Nat → Bool} {k : Nat} (h : ∀ j, j < k → f j = g j) : bm f k = bm g k := by
  apply Nat.eq_of_testBit_eq
  intro i
  rw [bm_bit, bm_bit]
  by_cases hi : i < k
  · rw [h i hi]
  · simp [hi]
theorem bits_dec : ∀ (m : Fin 256) (h : Fin 8), (((nI m.val >>> (nI h.val &&& 31)) &&& 1 = 1) ↔ m.val.testBit h.val = true) ∧ (nI m.val ||| ((1 : Int32) <<< (nI h.val &&& 31)) = nI (m.val ||| 2 ^ h.val)) ∧ (nI m.val &&& (((1 : Int32) <<< (nI h.val &&& 31)) ^^^ (-1)) = nI (m.val &&& (255 - 2 ^ h.val))) := by decide +kernel
theorem b_test {f : Nat → Bool} {h : Nat} (hh : h < 8) : ((nI (bm f 8) >>> (nI h &&& 31)) &&& 1 = 1) ↔ f h = true := by
  have := (bits_dec ⟨bm f 8, bm_lt f 8⟩ ⟨h, hh⟩).1
  rw [this, bm_bit]; simp [hh]
theorem b_set {f : Nat → Bool} {h : Nat} (hh : h < 8) : nI (bm f 8) ||| ((1 : Int32) <<< (nI h &&& 31)) = nI (bm (up f h true) 8) := by
  rw [(bits_dec ⟨bm f 8, bm_lt f 8⟩ ⟨h, hh⟩).2.1]
  congr 1
  apply Nat.eq_of_testBit_eq
  intro i
  rw [Nat.testBit_or, bm_bit, bm_bit, Nat.testBit_two_pow]
  unfold up
  by_cases e : i = h
  · subst e; simp [hh]
  · simp [e, Ne.symm e]
theorem b_clr {f : Nat → Bool} {h : Nat} (hh : h < 8) : nI (bm f 8) &&& (((1 : Int32) <<< (nI h &&& 31)) ^^^ (-1)) = nI (bm (up f h false) 8) := by
  rw [(bits_dec ⟨bm f 8, bm_lt f 8⟩ ⟨h, hh⟩).2.2]
  congr 1
  apply Nat.eq_of_testBit_eq
  intro i
  rw [Nat.testBit_and, bm_bit, bm_bit]
  have e0 : Nat.testBit (255 - 2 ^ h) i = (decide (i < 8) && !decide (h = i)) := by
    have := Nat.testBit_two_pow_sub_succ (n := 8) (x := 2 ^ h) (Nat.pow_lt_pow_right (by decide) hh) i
    rw [Nat.testBit_two_pow] at this
    rw [← this]; congr 1; omega
  rw [e0]
  unfold up
  by_cases e : i = h
  · subst e; simp
  · simp [e, Ne.symm e]
    by_cases h8 : i < 8 <;> simp [h8]
-- the reference's book, and what it has lived through
def bkM (σ : St) (H : Hd) (B : Bk) : Prop :=
  (σ 7 0 = nI H.1 ∧ ∀ h w, h < H.1 → w < 4 → σ 8 (4 * h + w) = nI (H.2 h w)) ∧
  (σ 0 9 = nI B.1.length ∧ B.1.length ≤ 52 ∧ ∀ k, k < B.1.length → σ 9 (4 * k) = nI (g4 B.1 k).1 ∧ σ 9 (4 * k + 1) = nI (g4 B.1 k).2.1 ∧ σ 9 (4 * k + 2) = nI (g4 B.1 k).2.2.1 ∧ σ 9 (4 * k + 3) = nI (g4 B.1 k).2.2.2) ∧
  (σ 0 11 = nI B.2.2.1.length ∧ B.2.2.1.length ≤ 8 ∧ ∀ k, k < B.2.2.1.length → σ 10 (2 * k) = nI (g4 B.2.2.1 k).1 ∧ σ 10 (2 * k + 1) = nI (g4 B.2.2.1 k).2.1) ∧
  (σ 0 13 = nI B.2.2.2.1.length ∧ B.2.2.2.1.length ≤ 11 ∧ ∀ k, k < B.2.2.2.1.length → σ 11 (2 * k) = nI (g4 B.2.2.2.1 k).1 ∧ σ 11 (2 * k + 1) = nI (g4 B.2.2.2.1 k).2.1) ∧
  (σ 0 26 = oI B.2.1 ∧ σ 0 27 = oI B.2.2.2.2 ∧ (∀ v, B.2.1 = some v → v < 2 ^ 31) ∧ (∀ v, B.2.2.2.2 = some v → v < 2 ^ 31)) ∧
  okH H ∧ okL B.1 ∧ okP B.2.2.1 ∧ okP B.2.2.2.1
def mH (σ : St) (B : Bk) (d : Nat) (G : Gs) (h : Nat) : Prop := σ 12 h = nI (gw G h) ∧ σ 13 h = nI (gd G h) ∧ σ 14 h = oI (gou G h) ∧ ∀ id, gou G h = some id → σ 16 h = nI (gdd G h) ∧ σ 15 h = nI (d + (dyB B id - gdd G h) - 1)
def mLn (σ : St) (G : Gs) (k : Nat) : Prop := σ 17 k = (if gct G k then 1 else 0) ∧ σ 18 k = oI (gbr G k) ∧ σ 20 k = oI (gba G k) ∧ (gct G k = true → σ 19 k = nI (gla G k))
def mG (σ : St) (H : Hd) (B : Bk) (d : Nat) (G : Gs) : Prop := (∀ h, h < H.1 → mH σ B d G h) ∧ σ 0 21 = nI (bm (gfl G) 8) ∧ ∀ k, k < B.1.length → mLn σ G k
/-- lives changes nothing but its own rows -/
def frL (σ σ' : St) : Prop := (∀ c, c ≠ 0 → (c < 12 ∨ 20 < c) → σ' c = σ c) ∧ ∀ j, j ≠ 21 → σ' 0 j = σ 0 j
theorem frL.rf {σ : St} : frL σ σ := ⟨fun _ _ _ => rfl, fun _ _ => rfl⟩
theorem frL.tr {a b c : St} (h1 : frL a b) (h2 : frL b c) : frL a c := ⟨fun k q1 q2 => by rw [h2.1 k q1 q2, h1.1 k q1 q2], fun j q => by rw [h2.2 j q, h1.2 j q]⟩
theorem frL_s2 {σ σ0 : St} {k j : Nat} {v : Int32} (h : frL σ0 σ) (hk : 12 ≤ k ∧ k ≤ 20) : frL σ0 (s2 σ k j v) := ⟨fun c q1 q2 => by rw [s2_ne (by omega)]; exact h.1 c q1 q2, fun i q => by rw [s2_nk (by omega)]; exact h.2 i q⟩
theorem frL_s0 {σ σ0 : St} {v : Int32} (h : frL σ0 σ) : frL σ0 (s2 σ 0 21 v) := ⟨fun c q1 q2 => by rw [s2_ne q1]; exact h.1 c q1 q2, fun i q => by rw [s2_nj q]; exact h.2 i q⟩
theorem bkM.frame {σ σ' : St} {H : Hd} {B : Bk} (h : bkM σ H B) (hF : frL σ σ') : bkM σ' H B := by
  obtain ⟨⟨a1, a2⟩, ⟨b1, b2, b3⟩, ⟨c1, c2, c3⟩, ⟨d1, d2, d3⟩, ⟨e1, e2, e3⟩, r⟩ := h
  have z : ∀ c, c ≠ 0 → c < 12 → σ' c = σ c := fun c h1 h2 => hF.1 c h1 (Or.inl h2)
  refine ⟨⟨by rw [z 7 (by decide) (by decide)]; exact a1, fun h w h1 h2 => by rw [z 8 (by decide) (by decide)]; exact a2 h w h1 h2⟩, ⟨by rw [hF.2 9 (by decide)]; exact b1, b2, fun k hk => ?_⟩, ⟨by rw [hF.2 11 (by decide)]; exact c1, c2, fun k hk => ?_⟩, ⟨by rw [hF.2 13 (by decide)]; exact d1, d2, fun k hk => ?_⟩, ⟨by rw [hF.2 26 (by decide)]; exact e1, by rw [hF.2 27 (by decide)]; exact e2, e3⟩, r⟩
  · rw [z 9 (by decide) (by decide)]; exact b3 k hk
  · rw [z 10 (by decide) (by decide)]; exact c3 k hk
  · rw [z 11 (by decide) (by decide)]; exact d3 k hk
theorem e8_isHole {σ : St} {n x : Nat} (h7 : σ 7 0 = nI n) (hn : n ≤ 8) (hx : x < 2 ^ 31) : M8_isHole (nI x) σ = some (if x < n then 1 else 0, σ) := by
  unfold M8_isHole
  have hb : (((σ 7 0) - 1).toInt64).toInt = (n : Int) - 1 := by
    rw [h7, Int32.toInt_toInt64, show (1 : Int32) = nI 1 from rfl, pk_sub_toInt (by omega) (by decide)]; rfl
  rw [e8_in0 (nI x) _ σ hb, bind_s, itx (inb_nI hx)]
  by_cases h : x < n <;> simp [h]
theorem mH.frame {σ σ' : St} {B : Bk} {d : Nat} {G : Gs} {h : Nat} (hm : mH σ B d G h) (e1 : σ' 12 h = σ 12 h) (e2 : σ' 13 h = σ 13 h) (e3 : σ' 14 h = σ 14 h) (e4 : σ' 15 h = σ 15 h) (e5 : σ' 16 h = σ 16 h) : mH σ' B d G h :=
  ⟨e1.trans hm.1, e2.trans hm.2.1, e3.trans hm.2.2.1, fun id hid => ⟨e5.trans (hm.2.2.2 id hid).1, e4.trans (hm.2.2.2 id hid).2⟩⟩
theorem mLn.frame {σ σ' : St} {G : Gs} {k : Nat} (hm : mLn σ G k) (e1 : σ' 17 k = σ 17 k) (e2 : σ' 18 k = σ 18 k) (e3 : σ' 19 k = σ 19 k) (e4 : σ' 20 k = σ 20 k) : mLn σ' G k :=
  ⟨e1.trans hm.1, e2.trans hm.2.1, e4.trans hm.2.2.1, fun h => e3.trans (hm.2.2.2 h)⟩
theorem oI_sm {o : Option Nat} {n : Nat} (h : ∀ v, o = some v → v < n) (hn : n ≤ 2 ^ 31) : oI o = -1 ↔ o = none := oI_m1 (fun v hv => by have := h v hv; omega)
theorem l8_lends {H : Hd} {B : Bk} {d : Nat} (hd : d < 40) {σ0 : St} {G0 : Gs} (hB : bkM σ0 H B) (hG0 : okG H B G0) :
    ∀ (n k : Nat) (σ : St), k ≤ B.1.length → B.1.length + 1 ≤ n + k → frL σ0 σ → mG σ H B d ((eL B.1 B.2.1 k).foldl (fun G x => lendS H.1 d x G) G0) → Ok (M8_lendsOn_L2 (nI d) (fun σ => some ((), σ)) n (nI k) σ) (fun _ σ => frL σ0 σ ∧ mG σ H B d (lendD H B d G0)) := by
  intro n
  induction n with
  | zero => intro k σ a b; omega
  | succ n ih =>
    intro k σ hk hn hF hm
    obtain ⟨⟨a1, a2⟩, ⟨b1, b2, b3⟩, -, -, ⟨e1, -, e3, -⟩, hH, hL, -⟩ := hB.frame hF
    rw [M8_lendsOn_L2, b1]
    by_cases he : k = B.1.length
    · refine ok_T ((nI_leI (by omega) (by omega)).mpr (by omega)) ?_
      rw [ok_some]
      refine ⟨hF, ?_⟩
      unfold lendD; rw [← he]; exact hm
    · refine ok_F (fun q => he (by have := (nI_leI (by omega) (by omega)).mp q; omega)) ?_
      have hk' : k < B.1.length := by omega
      obtain ⟨c1, c2, c3, c4⟩ := b3 k hk'
      obtain ⟨v1, v2, v3, v4, v5⟩ := hL k hk'
      have x1 : (4 : Int32) * nI k + 1 = nI (4 * k + 1) := by rw [show (4 : Int32) = nI 4 from rfl, pk_mul, nI_1]
      have x0 : (4 : Int32) * nI k = nI (4 * k) := by rw [show (4 : Int32) = nI 4 from rfl, pk_mul]
      have x3 : (4 : Int32) * nI k + 3 = nI (4 * k + 3) := by rw [show (4 : Int32) = nI 4 from rfl, pk_mul, show (3 : Int32) = nI 3 from rfl, nI_add]
      rw [x1, x3, x0, e1]
      refine ok_T ((inb_nI (by omega)).mpr (by omega)) ?_
      rw [ok_lt, nI_clamp (n := 4 * k + 1) (by omega), c2]
      have hGk : okG H B ((eL B.1 B.2.1 k).foldl (fun G x => lendS H.1 d x G) G0) := foldl_inv hG0 (fun G x hx hG => okG_lend hL ⟨by have := (eL_mem hx).1; omega, (eL_mem hx).2⟩ hG)
      generalize hGe : (eL B.1 B.2.1 k).foldl (fun G x => lendS H.1 d x G) G0 = G at hm hGk
      have hJ : ∀ σ, frL σ0 σ → mG σ H B d ((eL B.1 B.2.1 (k + 1)).foldl (fun G x => lendS H.1 d x G) G0) → Ok (M8_lendsOn_J119 (fun x2 σ => M8_lendsOn_L2 (nI d) (fun σ => some ((), σ)) n x2 σ) (nI d) (nI k) σ) (fun _ σ => frL σ0 σ ∧ mG σ H B d (lendD H B d G0)) := by
        intro σ hF hm
        unfold M8_lendsOn_J119
        rw [ok_lt, nI_1]
        exact ih (k + 1) σ (by omega) (by omega) hF hm
      have hstep : (eL B.1 B.2.1 (k + 1)).foldl (fun G x => lendS H.1 d x G) G0 = if some k ≠ B.2.1 then lendS H.1 d (k, g4 B.1 k) G else G := by
        rw [eL_succ, List.foldl_append, hGe]
        by_cases h : some k ≠ B.2.1 <;> simp [h]
      have hsk : (nI k = oI B.2.1) ↔ some k = B.2.1 := by
        cases hs : B.2.1 with
        | none => simp only [oI, reduceCtorEq, iff_false]; exact nI_m1 (by omega)
        | some v => simp only [oI, Option.some.injEq]; exact nI_eq (by omega) (e3 v hs)
      by_cases hs : some k = B.2.1
      · refine ok_T (hsk.mpr hs) ?_
        refine hJ σ hF ?_
        rw [hstep, if_neg (fun q => q hs)]; exact hm
      · refine ok_F (fun q => hs (hsk.mp q)) ?_
        rw [if_pos (show some k ≠ B.2.1 from hs)] at hstep
        refine ok_T ((inb_nI (by omega)).mpr (by omega)) ?_
        rw [nI_clamp (n := 4 * k) (by omega), c1]
        by_cases hdd : (g4 B.1 k).1 = d
        · refine ok_T (by rw [hdd]) ?_
          rw [e8_isHole a1 hH.1 (by omega), bind_s]
          by_cases hh : (g4 B.1 k).2.1 < H.1
          · simp only [hh, if_true]
            refine ok_F (by decide) ?_
            have h8 := hH.1
            refine ok_T ((inb_nI (by omega)).mpr (by omega)) ?_
            rw [nI_clamp (n := (g4 B.1 k).2.1) (by omega)]
            obtain ⟨m1, m2, m3, m4⟩ := hm.1 _ hh
            have hid := (hGk _ hh).2.2.2.2
            rw [m3]
            by_cases ho : gou G (g4 B.1 k).2.1 = none
            · refine ok_T ((oI_sm (n := 52) (fun v hv => by have := (hid v hv).1; omega) (by decide)).mpr ho) ?_
              rw [ok_lt, ok_lt]
              refine ok_T ((inb_nI (by omega)).mpr (by omega)) ?_
              rw [ok_lt]
              refine ok_T ((inb_nI (by omega)).mpr (by omega)) ?_
              rw [ok_lt, ok_lt, nI_clamp (n := 4 * k + 3) (by omega), nI_clamp (n := k) (by omega)]
              have hcond : (g4 B.1 k).1 = d ∧ (g4 B.1 k).2.1 < H.1 ∧ gou G (g4 B.1 k).2.1 = none := ⟨hdd, hh, ho⟩
              refine hJ _ (frL_s2 (frL_s2 (frL_s2 (frL_s2 (frL_s2 hF (by decide)) (by decide)) (by decide)) (by decide)) (by decide)) ?_
              rw [hstep]
              unfold lendS
              rw [if_pos hcond]
              refine ⟨fun h hlt => ?_, ?_, fun j hj => ?_⟩
              · by_cases eh : h = (g4 B.1 k).2.1
                · subst eh
                  refine ⟨?_, ?_, ?_, fun id hid => ?_⟩
                  · simp only [s2, gw]; simp; exact m1
                  · simp only [s2, gd]; simp; exact m2
                  · simp only [s2, gou, up]; simp [oI]
                  · simp only [gou, up, if_true] at hid
                    cases hid
                    refine ⟨?_, ?_⟩
                    · simp only [s2, gdd, up]; simp; rfl
                    · simp only [s2, gdd, up]
                      simp
                      rw [c4, nI_add, show (1 : Int32) = nI 1 from rfl, pk_sub (by omega)]
                      rfl
                · have hmh := hm.1 h hlt
                  refine ⟨?_, ?_, ?_, fun id hid => ?_⟩
                  · simp only [s2, gw]; simp; exact hmh.1
                  · simp only [s2, gd]; simp; exact hmh.2.1
                  · simp only [s2, gou, up]; simp [eh]; exact hmh.2.2.1
                  · simp only [gou, up, eh, if_false] at hid
                    simp only [s2, gdd, up]; simp [eh]; exact hmh.2.2.2 id hid
              · simp only [s2, gfl]; simp; exact hm.2.1
              · have hml := hm.2.2 j hj
                refine ⟨?_, ?_, ?_, fun hc => ?_⟩
                · simp only [s2, gct, up]; simp
                  by_cases ej : j = k
                  · simp [ej]
                  · simp [ej]; exact hml.1
                · simp only [s2, gbr]; simp; exact hml.2.1
                · simp only [s2, gba]; simp; exact hml.2.2.1
                · by_cases ej : j = k
                  · subst ej
                    simp only [s2, gla, up]; simp
                    rw [m1, m2, pk_mul]
                  · simp only [gct, up, ej, if_false] at hc
                    simp only [s2, gla, up]; simp [ej]; exact hml.2.2.2 hc
            · refine ok_F (fun q => ho ((oI_sm (n := 52) (fun v hv => by have := (hid v hv).1; omega) (by decide)).mp q)) ?_
              refine hJ σ hF ?_
              rw [hstep]; unfold lendS; rw [if_neg (fun q => ho q.2.2)]; exact hm
          · simp only [hh, if_false]
            refine ok_T (by first | trivial | rfl) ?_
            refine hJ σ hF ?_
            rw [hstep]; unfold lendS; rw [if_neg (fun q => hh q.2.1)]; exact hm
        · refine ok_F (fun q => hdd ((nI_eq (by omega) (by omega)).mp q)) ?_
          refine hJ σ hF ?_
          rw [hstep]; unfold lendS; rw [if_neg (fun q => hdd q.1)]; exact hm
theorem l8_fills {H : Hd} {B : Bk} {d : Nat} (hd : d < 40) {σ0 : St} {G0 : Gs} (hB : bkM σ0 H B) (hG0 : okG H B G0) :
    ∀ (n k : Nat) (σ : St), k ≤ B.2.2.1.length → B.2.2.1.length + 1 ≤ n + k → frL σ0 σ → mG σ H B d ((eP B.2.2.1 none k).foldl (fun G x => fillS H.1 d x G) G0) → Ok (M8_fillsOn_L2 (nI d) (fun σ => some ((), σ)) n (nI k) σ) (fun _ σ => frL σ0 σ ∧ mG σ H B d (fillD H B d G0)) := by
  intro n
  induction n with
  | zero => intro k σ a b; omega
  | succ n ih =>
    intro k σ hk hn hF hm
    obtain ⟨⟨a1, a2⟩, ⟨-, bl, -⟩, ⟨b1, b2, b3⟩, -, -, hH, hL, hP, -⟩ := hB.frame hF
    rw [M8_fillsOn_L2, b1]
    by_cases he : k = B.2.2.1.length
    · refine ok_T ((nI_leI (by omega) (by omega)).mpr (by omega)) ?_
      rw [ok_some]
      refine ⟨hF, ?_⟩
      unfold fillD; rw [← he]; exact hm
    · refine ok_F (fun q => he (by have := (nI_leI (by omega) (by omega)).mp q; omega)) ?_
      have hk' : k < B.2.2.1.length := by omega
      obtain ⟨c1, c2⟩ := b3 k hk'
      obtain ⟨v1, v2⟩ := hP k hk'
      have x1 : (2 : Int32) * nI k + 1 = nI (2 * k + 1) := by rw [show (2 : Int32) = nI 2 from rfl, pk_mul, nI_1]
      have x0 : (2 : Int32) * nI k = nI (2 * k) := by rw [show (2 : Int32) = nI 2 from rfl, pk_mul]
      rw [x1, x0]
      refine ok_T ((inb_nI (by omega)).mpr (by omega)) ?_
      rw [ok_lt, nI_clamp (n := 2 * k + 1) (by omega), c2]
      have hGk : okG H B ((eP B.2.2.1 none k).foldl (fun G x => fillS H.1 d x G) G0) := foldl_inv hG0 (fun G x hx hG => okG_fill hG)
      generalize hGe : (eP B.2.2.1 none k).foldl (fun G x => fillS H.1 d x G) G0 = G at hm hGk
      have hstep : (eP B.2.2.1 none (k + 1)).foldl (fun G x => fillS H.1 d x G) G0 = fillS H.1 d (g4 B.2.2.1 k) G := by
        rw [eP_succ, List.foldl_append, hGe]; simp
      have h8 := hH.1
      -- nothing is filled
      have hJ0 : ∀ y, y = σ 0 21 → fillS H.1 d (g4 B.2.2.1 k) G = G → Ok (M8_fillsOn_J62 (fun x2 σ => M8_fillsOn_L2 (nI d) (fun σ => some ((), σ)) n x2 σ) (nI d) (nI k) y σ) (fun _ σ => frL σ0 σ ∧ mG σ H B d (fillD H B d G0)) := by
        intro y hy hs
        unfold M8_fillsOn_J62 M8_fillsOn_J63
        rw [ok_lt, ok_lt, nI_1, hy]
        have e0 : s2 σ 0 21 (σ 0 21 ||| 0) = σ := by
          funext c j
          simp only [s2]
          split
          · rename_i q; rw [q.1, q.2, Int32.or_zero]
          · rfl
        rw [e0]
        exact ih (k + 1) σ (by omega) (by omega) hF (by rw [hstep, hs]; exact hm)
      refine ok_T ((inb_nI (by omega)).mpr (by omega)) ?_
      rw [nI_clamp (n := 2 * k) (by omega), c1]
      by_cases hdd : (g4 B.2.2.1 k).1 = d
      · refine ok_T (by rw [hdd]) ?_
        rw [e8_isHole a1 hH.1 (by omega), bind_s]
        by_cases hh : (g4 B.2.2.1 k).2.1 < H.1
        · simp only [hh, if_true]
          refine ok_F (by decide) ?_
          refine ok_T ((inb_nI (by omega)).mpr (by omega)) ?_
          rw [nI_clamp (n := (g4 B.2.2.1 k).2.1) (by omega)]
          obtain ⟨m1, m2, m3, m4⟩ := hm.1 _ hh
          have hid := (hGk _ hh).2.2.2.2
          rw [m3]
          by_cases ho : gou G (g4 B.2.2.1 k).2.1 = none
          · refine ok_T ((oI_sm (n := 52) (fun v hv => by have := (hid v hv).1; omega) (by decide)).mpr ho) ?_
            exact hJ0 _ rfl (by unfold fillS; rw [if_neg (fun q => q.2.2 ho)])
          · refine ok_F (fun q => ho ((oI_sm (n := 52) (fun v hv => by have := (hid v hv).1; omega) (by decide)).mp q)) ?_
            unfold M8_fillsOn_J63
            rw [ok_lt, ok_lt, nI_1, hm.2.1, b_set (by omega)]
            refine ih (k + 1) _ (by omega) (by omega) (frL_s0 hF) ?_
            rw [hstep]
            unfold fillS
            rw [if_pos ⟨hdd, hh, ho⟩]
            refine ⟨fun h hlt => (hm.1 h hlt).frame (s2_nk (by decide)) (s2_nk (by decide)) (s2_nk (by decide)) (s2_nk (by decide)) (s2_nk (by decide)), s2_eq, fun j hj => (hm.2.2 j hj).frame (s2_nk (by decide)) (s2_nk (by decide)) (s2_nk (by decide)) (s2_nk (by decide))⟩
        · simp only [hh, if_false]
          refine ok_T (by first | trivial | rfl) ?_
          exact hJ0 _ rfl (by unfold fillS; rw [if_neg (fun q => hh q.2.1)])
      · refine ok_F (fun q => hdd ((nI_eq (by omega) (by omega)).mp q)) ?_
        exact hJ0 _ rfl (by unfold fillS; rw [if_neg (fun q => hdd q.1)])
theorem e8_greater {a b : Nat} (ha : a < 2 ^ 31) (hb : b < 2 ^ 31) (σ : St) : M8_greater (nI a) (nI b) σ = some (nI (max a b), σ) := by
  unfold M8_greater
  rw [itx (nI_leI ha hb)]
  by_cases h : a ≤ b
  · rw [if_pos h, Nat.max_eq_right h]
  · rw [if_neg h, Nat.max_eq_left (by omega)]
theorem e8_lesser {a b : Nat} (ha : a < 2 ^ 31) (hb : b < 2 ^ 31) (σ : St) : M8_lesser (nI a) (nI b) σ = some (nI (min a b), σ) := by
  unfold M8_lesser
  rw [itx (nI_leI hb ha)]
  by_cases h : b ≤ a
  · rw [if_pos h, Nat.min_eq_right h]
  · rw [if_neg h, Nat.min_eq_left (by omega)]
theorem l8_patches {H : Hd} {B : Bk} {d : Nat} (hd : d < 40) {σ0 : St} {G0 : Gs} (hB : bkM σ0 H B) (hG0 : okG H B G0) :
    ∀ (n k : Nat) (σ : St), k ≤ B.2.2.2.1.length → B.2.2.2.1.length + 1 ≤ n + k → frL σ0 σ → mG σ H B d ((eP B.2.2.2.1 B.2.2.2.2 k).foldl (fun G x => patchS H.1 d x G) G0) → Ok (M8_patchesOn_L2 (nI d) (fun σ => some ((), σ)) n (nI k) σ) (fun _ σ => frL σ0 σ ∧ mG σ H B d (patchD H B d G0)) := by
  intro n
  induction n with
  | zero => intro k σ a b; omega
  | succ n ih =>
    intro k σ hk hn hF hm
    obtain ⟨⟨a1, a2⟩, ⟨-, bl, -⟩, -, ⟨b1, b2, b3⟩, ⟨-, e1, -, e3⟩, hH, hL, -, hP⟩ := hB.frame hF
    rw [M8_patchesOn_L2, b1]
    by_cases he : k = B.2.2.2.1.length
    · refine ok_T ((nI_leI (by omega) (by omega)).mpr (by omega)) ?_
      rw [ok_some]
      refine ⟨hF, ?_⟩
      unfold patchD; rw [← he]; exact hm
    · refine ok_F (fun q => he (by have := (nI_leI (by omega) (by omega)).mp q; omega)) ?_
      have hk' : k < B.2.2.2.1.length := by omega
      obtain ⟨c1, c2⟩ := b3 k hk'
      obtain ⟨v1, v2⟩ := hP k hk'
      have x1 : (2 : Int32) * nI k + 1 = nI (2 * k + 1) := by rw [show (2 : Int32) = nI 2 from rfl, pk_mul, nI_1]
      have x0 : (2 : Int32) * nI k = nI (2 * k) := by rw [show (2 : Int32) = nI 2 from rfl, pk_mul]
      rw [x1, x0, e1]
      refine ok_T ((inb_nI (by omega)).mpr (by omega)) ?_
      rw [ok_lt, nI_clamp (n := 2 * k + 1) (by omega), c2]
      have hGk : okG H B ((eP B.2.2.2.1 B.2.2.2.2 k).foldl (fun G x => patchS H.1 d x G) G0) := foldl_inv hG0 (fun G x hx hG => okG_patch hG)
      generalize hGe : (eP B.2.2.2.1 B.2.2.2.2 k).foldl (fun G x => patchS H.1 d x G) G0 = G at hm hGk
      have hstep : (eP B.2.2.2.1 B.2.2.2.2 (k + 1)).foldl (fun G x => patchS H.1 d x G) G0 = if some k ≠ B.2.2.2.2 then patchS H.1 d (g4 B.2.2.2.1 k) G else G := by
        rw [eP_succ, List.foldl_append, hGe]
        by_cases h : some k ≠ B.2.2.2.2 <;> simp [h]
      have hsk : (nI k = oI B.2.2.2.2) ↔ some k = B.2.2.2.2 := by
        cases hs : B.2.2.2.2 with
        | none => simp only [oI, reduceCtorEq, iff_false]; exact nI_m1 (by omega)
        | some v => simp only [oI, Option.some.injEq]; exact nI_eq (by omega) (e3 v hs)
      have h8 := hH.1
      have hJ : ∀ σ, frL σ0 σ → mG σ H B d ((eP B.2.2.2.1 B.2.2.2.2 (k + 1)).foldl (fun G x => patchS H.1 d x G) G0) → Ok (M8_patchesOn_J77 (fun x2 σ => M8_patchesOn_L2 (nI d) (fun σ => some ((), σ)) n x2 σ) (nI d) (nI k) σ) (fun _ σ => frL σ0 σ ∧ mG σ H B d (patchD H B d G0)) := by
        intro σ hF hm
        unfold M8_patchesOn_J77
        rw [ok_lt, nI_1]
        exact ih (k + 1) σ (by omega) (by omega) hF hm
      by_cases hs : some k = B.2.2.2.2
      · refine ok_T (hsk.mpr hs) ?_
        refine hJ σ hF ?_
        rw [hstep, if_neg (fun q => q hs)]; exact hm
      · refine ok_F (fun q => hs (hsk.mp q)) ?_
        rw [if_pos (show some k ≠ B.2.2.2.2 from hs)] at hstep
        refine ok_T ((inb_nI (by omega)).mpr (by omega)) ?_
        rw [nI_clamp (n := 2 * k) (by omega), c1]
        by_cases hdd : (g4 B.2.2.2.1 k).1 = d
        · refine ok_T (by rw [hdd]) ?_
          rw [e8_isHole a1 hH.1 (by omega), bind_s]
          by_cases hh : (g4 B.2.2.2.1 k).2.1 < H.1
          · simp only [hh, if_true]
            refine ok_F (by decide) ?_
            refine ok_T ((inb_nI (by omega)).mpr (by omega)) ?_
            rw [nI_clamp (n := (g4 B.2.2.2.1 k).2.1) (by omega)]
            obtain ⟨m1, m2, m3, m4⟩ := hm.1 _ hh
            obtain ⟨w1, w2, -, -, hid⟩ := hGk _ hh
            rw [m3]
            by_cases ho : gou G (g4 B.2.2.2.1 k).2.1 = none
            · refine ok_T ((oI_sm (n := 52) (fun v hv => by have := (hid v hv).1; omega) (by decide)).mpr ho) ?_
              rw [m1, show nI (gw G (g4 B.2.2.2.1 k).2.1) - 1 = nI (gw G (g4 B.2.2.2.1 k).2.1 - 1) from pk_sub (b := 1) w1, show (1 : Int32) = nI 1 from rfl, e8_greater (by omega) (by decide), bind_s, ok_lt]
              refine hJ _ (frL_s2 hF (by decide)) ?_
              rw [hstep]
              unfold patchS
              rw [if_pos ⟨hdd, hh, ho⟩]
              refine ⟨fun h hlt => ?_, ?_, fun j hj => ?_⟩
              · have hmh := hm.1 h hlt
                refine ⟨?_, ?_, ?_, fun id hid => ?_⟩
                · by_cases eh : h = (g4 B.2.2.2.1 k).2.1
                  · rw [eh, s2_eq]; simp [gw, up]
                  · rw [s2_nj eh]; simp only [gw, up, eh, if_false]; exact hmh.1
                · rw [s2_nk (by decide)]; exact hmh.2.1
                · rw [s2_nk (by decide)]; exact hmh.2.2.1
                · rw [s2_nk (by decide), s2_nk (by decide)]; exact hmh.2.2.2 id hid
              · rw [s2_nk (by decide)]; exact hm.2.1
              · exact (hm.2.2 j hj).frame (s2_nk (by decide)) (s2_nk (by decide)) (s2_nk (by decide)) (s2_nk (by decide))
            · refine ok_F (fun q => ho ((oI_sm (n := 52) (fun v hv => by have := (hid v hv).1; omega) (by decide)).mp q)) ?_
              refine hJ σ hF ?_
              rw [hstep]; unfold patchS; rw [if_neg (fun q => ho q.2.2)]; exact hm
          · simp only [hh, if_false]
            refine ok_T (by first | trivial | rfl) ?_
            refine hJ σ hF ?_
            rw [hstep]; unfold patchS; rw [if_neg (fun q => hh q.2.1)]; exact hm
        · refine ok_F (fun q => hdd ((nI_eq (by omega) (by omega)).mp q)) ?_
          refine hJ σ hF ?_
          rw [hstep]; unfold patchS; rw [if_neg (fun q => hdd q.1)]; exact hm
