theorem e8_grows {σ : St} {h sh w p : Nat} (hh : h < 8) (h8 : σ 8 (4 * h) = nI sh) (hs : sh < 3) (hw : σ 12 h = nI w) (hp : σ 13 h = nI p) (w1 : 1 ≤ w) (w2 : w ≤ 9) (p1 : 1 ≤ p) (p2 : p ≤ 9) : M8_grows (nI h) σ = some ((), s2 (s2 σ 12 h (nI (grW sh w))) 13 h (nI (grD sh p))) := by
  unfold M8_grows M8_grows_J41
  have x0 : (4 : Int32) * nI h = nI (4 * h) := by rw [show (4 : Int32) = nI 4 from rfl, pk_mul]
  rw [x0, if_pos ((inb_nI (by omega)).mpr (by omega))]
  show (if σ 8 (nI (4 * h)).toNatClampNeg = 2 then _ else _) = _
  rw [nI_clamp (n := 4 * h) (by omega), h8, nI_clamp (n := h) (by omega), hw]
  simp only [lt, if_pos ((inb_nI (k := h) (n := 8) (by omega)).mpr hh)]
  have e12 : inb (nI h) (ln 12) := (inb_nI (by omega)).mpr hh
  have y1 : ∀ z : Int32, s2 σ 12 h z 13 h = nI p := fun z => by rw [s2_nk (by decide)]; exact hp
  rw [nI_1, show (9 : Int32) = nI 9 from rfl, e8_lesser (by omega) (by decide), bind_s]
  rcases (show sh = 0 ∨ sh = 1 ∨ sh = 2 by omega) with rfl | rfl | rfl
  · rw [if_neg (by decide), if_pos e12, if_neg (by decide), if_neg (by decide), y1]; rfl
  · rw [if_neg (by decide), if_pos e12, if_neg (by decide), if_pos (by decide), y1, show nI p - 1 = nI (p - 1) from pk_sub (b := 1) p1, show (1 : Int32) = nI 1 from rfl, e8_greater (by omega) (by decide), bind_s]; rfl
  · rw [if_pos (show nI 2 = 2 from rfl), if_pos e12, if_pos (show nI 2 = 2 from rfl), y1, nI_1, e8_lesser (by omega) (by decide), bind_s]; rfl
theorem e8_isIn {f : Nat → Bool} {h : Nat} (hh : h < 8) (σ : St) : M8_isIn (nI (bm f 8)) (nI h) σ = some (if f h then 1 else 0, σ) := by
  unfold M8_isIn
  rw [itx (b_test hh)]
theorem e8_comesBack {σ : St} {h id d w p : Nat} {f : Nat → Bool} (hh : h < 8) (hid : id < 52) (h14 : σ 14 h = nI id) (hf : σ 0 21 = nI (bm f 8)) (hw : σ 12 h = nI w) (hp : σ 13 h = nI p) : M8_comesBack (nI h) (nI d) σ = some ((), s2 (s2 (s2 (s2 σ 14 h (-1)) 20 id (nI (w * p))) 18 id (if f h then nI d else -1)) 0 21 (nI (bm (up f h false) 8))) := by
  unfold M8_comesBack M8_comesBack_J54
  rw [if_pos ((inb_nI (by omega)).mpr hh)]
  simp only [lt]
  rw [nI_clamp (n := h) (by omega), h14, if_pos ((inb_nI (by omega)).mpr hid), nI_clamp (n := id) (by omega)]
  have y1 : s2 σ 14 h (-1) 12 h = nI w := by rw [s2_nk (by decide)]; exact hw
  have y2 : s2 σ 14 h (-1) 13 h = nI p := by rw [s2_nk (by decide)]; exact hp
  have y3 : s2 (s2 σ 14 h (-1)) 20 id (nI (w * p)) 0 21 = nI (bm f 8) := by rw [s2_nk (by decide), s2_nk (by decide)]; exact hf
  rw [y1, y2, pk_mul, y3, e8_isIn hh, bind_s, if_pos (show inb (nI id) (ln 18) from (inb_nI (by omega)).mpr hid)]
  rw [s2_nk (show 0 ≠ 18 by decide), y3, b_clr hh]
  by_cases hfh : f h = true
  · simp [hfh]
  · simp [hfh]
/-- in the midst of the holes: those ahead of k have passed the day -/
def mGk (σ : St) (H : Hd) (B : Bk) (d k : Nat) (G : Gs) : Prop := (∀ h, h < H.1 → mH σ B (if h < k then d + 1 else d) G h) ∧ σ 0 21 = nI (bm (gfl G) 8) ∧ ∀ j, j < B.1.length → mLn σ G j
theorem l8_pass {H : Hd} {B : Bk} {d : Nat} (hd : d < 40) {σ0 : St} {G0 : Gs} (hB : bkM σ0 H B) (hG0 : okG H B G0) :
    ∀ (n k : Nat) (σ : St), k ≤ H.1 → H.1 + 1 ≤ n + k → frL σ0 σ → mGk σ H B d k (passD H B d G0 k) → Ok (M8_day_L17 (nI d) (fun σ => some ((), σ)) n (nI k) σ) (fun _ σ => frL σ0 σ ∧ mG σ H B (d + 1) (passD H B d G0 H.1)) := by
  intro n
  induction n with
  | zero => intro k σ a b; omega
  | succ n ih =>
    intro k σ hk hn hF hm
    obtain ⟨⟨a1, a2⟩, ⟨-, bl, -⟩, -, -, -, hH, hL, -, -⟩ := hB.frame hF
    have h8 := hH.1
    rw [M8_day_L17, a1]
    by_cases he : k = H.1
    · refine ok_T ((nI_leI (by omega) (by omega)).mpr (by omega)) ?_
      rw [ok_some]
      refine ⟨hF, fun h hh => ?_, ?_, ?_⟩
      · have := hm.1 h hh
        rw [if_pos (by omega), he] at this; exact this
      · rw [← he]; exact hm.2.1
      · rw [← he]; exact hm.2.2
    · refine ok_F (fun q => he (by have := (nI_leI (by omega) (by omega)).mp q; omega)) ?_
      have hk' : k < H.1 := by omega
      refine ok_T ((inb_nI (by omega)).mpr (by omega)) ?_
      have hGk : okG H B (passD H B d G0 k) := okG_passD hG0 hk
      rw [nI_clamp (n := k) (by omega)]
      have hsuc := passD_succ (H := H) (B := B) (d := d) (k := k) (G := G0)
      generalize passD H B d G0 k = G at hm hGk hsuc
      obtain ⟨m1, m2, m3, m4⟩ := hm.1 k hk'
      obtain ⟨w1, w2, p1, p2, hid⟩ := hGk k hk'
      obtain ⟨g0, -, -, -, -, g3⟩ := hH.2 k hk'
      rw [if_neg (Nat.lt_irrefl k)] at m4
      have hJ : ∀ σ, frL σ0 σ → mGk σ H B d (k + 1) (passS H (dyB B) d k G) → Ok (M8_day_J94 (fun x2 σ => M8_day_L17 (nI d) (fun σ => some ((), σ)) n x2 σ) (nI d) (nI k) σ) (fun _ σ => frL σ0 σ ∧ mG σ H B (d + 1) (passD H B d G0 H.1)) := by
        intro σ hF hm
        unfold M8_day_J94
        rw [ok_lt, nI_1]
        exact ih (k + 1) σ (by omega) (by omega) hF (by rw [hsuc]; exact hm)
      rw [m3]
      cases ho : gou G k with
      | none =>
        refine ok_T rfl ?_
        refine hJ σ hF ?_
        unfold passS; rw [ho]
        refine ⟨fun h hh => ?_, hm.2⟩
        by_cases eh : h = k
        · subst eh
          exact ⟨m1, m2, m3, fun id hid => by rw [ho] at hid; cases hid⟩
        · have := hm.1 h hh
          by_cases h1 : h < k
          · rw [if_pos h1] at this; rw [if_pos (by omega)]; exact this
          · rw [if_neg h1] at this; rw [if_neg (by omega)]; exact this
      | some id =>
        obtain ⟨hidl, hdd, -⟩ := hid id ho
        obtain ⟨m5, m6⟩ := m4 id ho
        have hdy : dyB B id ≤ 9 := (hL id hidl).2.2.2.2
        refine ok_F (nI_m1 (by omega)) ?_
        rw [ok_lt, m5, nI_1]
        have x3 : (4 : Int32) * nI k + 3 = nI (4 * k + 3) := by rw [show (4 : Int32) = nI 4 from rfl, pk_mul, show (3 : Int32) = nI 3 from rfl, nI_add]
        rw [x3]
        refine ok_T ((inb_nI (by omega)).mpr (by omega)) ?_
        rw [ok_lt, nI_clamp (n := 4 * k + 3) (by omega), s2_nk (show 8 ≠ 16 by decide), a2 k 3 hk' (by decide), s2_eq]
        -- what comes behind the growing
        generalize hgr : (H.2 k 3 ≠ 0 ∧ (gdd G k + 1) % H.2 k 3 = 0) = gr
        have key : ∀ (σ2 : St) (w p : Nat), frL σ0 σ2 → σ2 12 k = nI w → σ2 13 k = nI p → σ2 14 k = nI id → σ2 16 k = nI (gdd G k + 1) → σ2 15 k = σ 15 k → σ2 0 21 = σ 0 21 → (∀ c h, 12 ≤ c → c ≤ 16 → h ≠ k → σ2 c h = σ c h) → (∀ c j, 17 ≤ c → c ≤ 20 → σ2 c j = σ c j) → w = (if H.2 k 3 ≠ 0 ∧ (gdd G k + 1) % H.2 k 3 = 0 then grW (H.2 k 0) (gw G k) else gw G k) → p = (if H.2 k 3 ≠ 0 ∧ (gdd G k + 1) % H.2 k 3 = 0 then grD (H.2 k 0) (gd G k) else gd G k) → Ok (M8_day_J78 (fun x2 σ => M8_day_L17 (nI d) (fun σ => some ((), σ)) n x2 σ) (nI d) (nI k) σ2) (fun _ σ => frL σ0 σ ∧ mG σ H B (d + 1) (passD H B d G0 H.1)) := by
          intro σ2 w p hF2 q12 q13 q14 q16 q15 q21 qo ql hwe hpe
          unfold M8_day_J78
          refine ok_T ((inb_nI (by omega)).mpr (by omega)) ?_
          rw [nI_clamp (n := k) (by omega), q15, m6]
          by_cases hb : dyB B id ≤ gdd G k + 1
          · refine ok_T (by congr 1; omega) ?_
            have hf21 : σ2 0 21 = nI (bm (gfl G) 8) := by rw [q21]; exact hm.2.1
            rw [e8_comesBack (by omega) (by omega) q14 hf21 q12 q13, bind_s]
            refine hJ _ (frL_s0 (frL_s2 (frL_s2 (frL_s2 hF2 (by decide)) (by decide)) (by decide))) ?_
            unfold passS
            rw [ho]
            dsimp only
            rw [if_pos hb, ← hwe, ← hpe]
            refine ⟨fun h hh => ?_, s2_eq, fun j hj => ?_⟩
            · by_cases eh : h = k
              · subst eh
                refine ⟨?_, ?_, ?_, fun id2 hid2 => ?_⟩
                · rw [s2_nk (by decide), s2_nk (by decide), s2_nk (by decide), s2_nk (by decide), q12]; simp [gw, up]
                · rw [s2_nk (by decide), s2_nk (by decide), s2_nk (by decide), s2_nk (by decide), q13]; simp [gd, up]
                · rw [s2_nk (by decide), s2_nk (by decide), s2_nk (by decide), s2_eq]; simp [gou, up, oI]
                · simp [gou, up] at hid2
              · have hmh := hm.1 h hh
                rw [show (if h < k + 1 then d + 1 else d) = (if h < k then d + 1 else d) by by_cases h1 : h < k; rw [if_pos h1, if_pos (by omega)]; rw [if_neg h1, if_neg (by omega)]]
                refine ⟨?_, ?_, ?_, fun id2 hid2 => ?_⟩
                · rw [s2_nk (by decide), s2_nk (by decide), s2_nk (by decide), s2_nk (by decide), qo 12 h (by decide) (by decide) eh]; simp only [gw, up, eh, if_false]; exact hmh.1
                · rw [s2_nk (by decide), s2_nk (by decide), s2_nk (by decide), s2_nk (by decide), qo 13 h (by decide) (by decide) eh]; simp only [gd, up, eh, if_false]; exact hmh.2.1
                · rw [s2_nk (by decide), s2_nk (by decide), s2_nk (by decide), s2_nj eh, qo 14 h (by decide) (by decide) eh]; simp only [gou, up, eh, if_false]; exact hmh.2.2.1
                · simp only [gou, up, eh, if_false] at hid2
                  rw [s2_nk (by decide), s2_nk (by decide), s2_nk (by decide), s2_nk (by decide), s2_nk (by decide), s2_nk (by decide), s2_nk (by decide), s2_nk (by decide), qo 16 h (by decide) (by decide) eh, qo 15 h (by decide) (by decide) eh]; simp only [gdd, up, eh, if_false]; exact hmh.2.2.2 id2 hid2
            · have hml := hm.2.2 j hj
              refine ⟨?_, ?_, ?_, fun hc => ?_⟩
              · rw [s2_nk (by decide), s2_nk (by decide), s2_nk (by decide), s2_nk (by decide), ql 17 j (by decide) (by decide)]; exact hml.1
              · rw [s2_nk (by decide)]
                by_cases ej : j = id
                · subst ej; rw [s2_eq]; simp only [gbr, up, if_true]
                  by_cases hfl : gfl G k = true
                  · rw [if_pos hfl, if_pos hfl]; rfl
                  · rw [if_neg hfl, if_neg hfl]; rfl
                · rw [s2_nj ej, s2_nk (by decide), s2_nk (by decide), ql 18 j (by decide) (by decide)]; simp only [gbr, up, ej, if_false]; exact hml.2.1
              · rw [s2_nk (by decide), s2_nk (by decide)]
                by_cases ej : j = id
                · subst ej; rw [s2_eq]; simp only [gba, up, if_true]; rfl
                · rw [s2_nj ej, s2_nk (by decide), ql 20 j (by decide) (by decide)]; simp only [gba, up, ej, if_false]; exact hml.2.2.1
              · rw [s2_nk (by decide), s2_nk (by decide), s2_nk (by decide), s2_nk (by decide), ql 19 j (by decide) (by decide)]; exact hml.2.2.2 hc
          · refine ok_F (fun q => hb (by have := (nI_eq (by omega) (by omega)).mp q; omega)) ?_
            refine hJ _ hF2 ?_
            unfold passS
            rw [ho]
            dsimp only
            rw [if_neg hb, ← hwe, ← hpe]
            refine ⟨fun h hh => ?_, by rw [q21]; exact hm.2.1, fun j hj => (hm.2.2 j hj).frame (ql 17 j (by decide) (by decide)) (ql 18 j (by decide) (by decide)) (ql 19 j (by decide) (by decide)) (ql 20 j (by decide) (by decide))⟩
            by_cases eh : h = k
            · subst eh
              refine ⟨?_, ?_, ?_, fun id2 hid2 => ?_⟩
              · rw [q12]; simp [gw, up]
              · rw [q13]; simp [gd, up]
              · rw [q14]; simp only [gou]; rw [show G.2.2.1 h = some id from ho]; rfl
              · have : id2 = id := Option.some.inj (hid2.symm.trans ho)
                subst this
                rw [if_pos (by omega)]
                refine ⟨by rw [q16]; simp [gdd, up], by rw [q15, m6]; congr 1; show d + (dyB B id2 - gdd G h) - 1 = d + 1 + (dyB B id2 - up (gdd G) h (gdd G h + 1) h) - 1; rw [up_eq]; omega⟩
            · have hmh := hm.1 h hh
              rw [show (if h < k + 1 then d + 1 else d) = (if h < k then d + 1 else d) by by_cases h1 : h < k; rw [if_pos h1, if_pos (by omega)]; rw [if_neg h1, if_neg (by omega)]]
              refine ⟨?_, ?_, ?_, fun id2 hid2 => ?_⟩
              · rw [qo 12 h (by decide) (by decide) eh]; simp only [gw, up, eh, if_false]; exact hmh.1
              · rw [qo 13 h (by decide) (by decide) eh]; simp only [gd, up, eh, if_false]; exact hmh.2.1
              · rw [qo 14 h (by decide) (by decide) eh]; exact hmh.2.2.1
              · rw [qo 16 h (by decide) (by decide) eh, qo 15 h (by decide) (by decide) eh]; simp only [gdd, up, eh, if_false]; exact hmh.2.2.2 id2 hid2
        clear hgr gr
        have hng : ¬ (H.2 k 3 ≠ 0 ∧ (gdd G k + 1) % H.2 k 3 = 0) → Ok (M8_day_J78 (fun x2 σ => M8_day_L17 (nI d) (fun σ => some ((), σ)) n x2 σ) (nI d) (nI k) (s2 σ 16 k (nI (gdd G k + 1)))) (fun _ σ => frL σ0 σ ∧ mG σ H B (d + 1) (passD H B d G0 H.1)) := by
          intro hg
          refine key _ (gw G k) (gd G k) (frL_s2 hF (by decide)) (by rw [s2_nk (by decide)]; exact m1) (by rw [s2_nk (by decide)]; exact m2) (by rw [s2_nk (by decide), m3, ho]; rfl) s2_eq (s2_nk (by decide)) (s2_nk (by decide)) (fun c h q1 q2 q3 => ?_) (fun c j q1 q2 => s2_nk (by omega)) (by rw [if_neg hg]) (by rw [if_neg hg])
          by_cases hc : c = 16
          · subst hc; exact s2_nj q3
          · exact s2_nk hc
        by_cases hz : H.2 k 3 = 0
        · refine ok_T ((nI_leI (b := 0) (by omega) (by decide)).mpr (by omega)) ?_
          exact hng (fun q => q.1 hz)
        · refine ok_F (fun q => hz (by have := (nI_leI (b := 0) (by omega) (by decide)).mp q; omega)) ?_
          refine ok_T (fun q => hz ((nI_eq (b := 0) (by omega) (by decide)).mp q)) ?_
          rw [pk_rem (by omega) (by omega) (by omega)]
          by_cases hr : (gdd G k + 1) % H.2 k 3 = 0
          · refine ok_T (by rw [hr]; rfl) ?_
            rw [e8_grows (sh := H.2 k 0) (w := gw G k) (p := gd G k) (by omega) (by rw [s2_nk (by decide)]; have := a2 k 0 hk' (by decide); simpa using this) g0 (by rw [s2_nk (by decide)]; exact m1) (by rw [s2_nk (by decide)]; exact m2) w1 w2 p1 p2, bind_s]
            refine key _ (grW (H.2 k 0) (gw G k)) (grD (H.2 k 0) (gd G k)) (frL_s2 (frL_s2 (frL_s2 hF (by decide)) (by decide)) (by decide)) ?_ s2_eq ?_ ?_ ?_ ?_ (fun c h q1 q2 q3 => ?_) (fun c j q1 q2 => ?_) (by rw [if_pos ⟨hz, hr⟩]) (by rw [if_pos ⟨hz, hr⟩])
            · rw [s2_nk (by decide), s2_eq]
            · rw [s2_nk (by decide), s2_nk (by decide), s2_nk (by decide), m3, ho]; rfl
            · rw [s2_nk (by decide), s2_nk (by decide), s2_eq]
            · rw [s2_nk (by decide), s2_nk (by decide), s2_nk (by decide)]
            · rw [s2_nk (by decide), s2_nk (by decide), s2_nk (by decide)]
            · simp only [s2, q3, and_false, if_false]
            · rw [s2_nk (by omega), s2_nk (by omega), s2_nk (by omega)]
          · refine ok_F (fun q => hr ((nI_eq (b := 0) (by have := Nat.mod_lt (gdd G k + 1) (show 0 < H.2 k 3 by omega); omega) (by decide)).mp q)) ?_
            exact hng (fun q => hr q.2)
theorem t8_day {H : Hd} {B : Bk} {d : Nat} (hd : d < 40) {σ0 : St} {G0 : Gs} (hB : bkM σ0 H B) (hG0 : okG H B G0) (hm : mG σ0 H B d G0) : Ok (M8_day (nI d) σ0) (fun _ σ => frL σ0 σ ∧ mG σ H B (d + 1) (dayS H B d G0)) := by
  unfold M8_day
  have hL : okL B.1 := hB.2.2.2.2.2.2.1
  have g1 := okG_lendD (d := d) hL hG0
  have g2 := okG_fillD (d := d) g1
  have g3 := okG_patchD (d := d) g2
  have n52 := hB.2.1.2.1
  have n8 := hB.2.2.1.2.1
  have n11 := hB.2.2.2.1.2.1
  have nh := hB.2.2.2.2.2.1.1
  refine ok_call (P0 := fun _ σ => frL σ0 σ ∧ mG σ H B d (lendD H B d G0)) ?_ ?_
  · unfold M8_lendsOn
    exact l8_lends hd hB hG0 FU 0 σ0 (Nat.zero_le _) (by have := FU_ge; omega) frL.rf hm
  · rintro - σ1 ⟨hF1, hm1⟩
    refine ok_call (P0 := fun _ σ => frL σ1 σ ∧ mG σ H B d (fillD H B d (lendD H B d G0))) ?_ ?_
    · unfold M8_fillsOn
      exact l8_fills hd (hB.frame hF1) g1 FU 0 σ1 (Nat.zero_le _) (by have := FU_ge; omega) frL.rf hm1
    · rintro - σ2 ⟨hF2, hm2⟩
      refine ok_call (P0 := fun _ σ => frL σ2 σ ∧ mG σ H B d (midD H B d G0)) ?_ ?_
      · unfold M8_patchesOn
        exact l8_patches hd (hB.frame (hF1.tr hF2)) g2 FU 0 σ2 (Nat.zero_le _) (by have := FU_ge; omega) frL.rf hm2
      · rintro - σ3 ⟨hF3, hm3⟩
        refine (l8_pass hd (hB.frame ((hF1.tr hF2).tr hF3)) g3 FU 0 σ3 (Nat.zero_le _) (by have := FU_ge; omega) frL.rf ⟨fun h hh => ?_, hm3.2⟩).mono (fun _ σ hq => ⟨((hF1.tr hF2).tr hF3).tr hq.1, hq.2⟩)
        rw [if_neg (Nat.not_lt_zero h)]; exact hm3.1 h hh
theorem t8_begins {H : Hd} {B : Bk} {σ0 : St} (hB : bkM σ0 H B) : Ok (M8_begins σ0) (fun _ σ => frL σ0 σ ∧ mG σ H B 0 (begS H)) := by
  have nh := hB.2.2.2.2.2.1.1
  have n52 := hB.2.1.2.1
  unfold M8_begins
  have inner : ∀ (n k : Nat) (σ : St), k ≤ B.1.length → B.1.length + 1 ≤ n + k → frL σ0 σ → (∀ h, h < H.1 → mH σ B 0 (begS H) h) → σ 0 21 = nI (bm (gfl (begS H)) 8) → (∀ j, j < k → mLn σ (begS H) j) → Ok (M8_begins_L71 (fun σ => some ((), σ)) n (nI k) σ) (fun _ σ => frL σ0 σ ∧ mG σ H B 0 (begS H)) := by
    intro n
    induction n with
    | zero => intro k σ a b; omega
    | succ n ih =>
      intro k σ hk hn hF h1 h2 h3
      rw [M8_begins_L71, (hB.frame hF).2.1.1]
      by_cases he : k = B.1.length
      · refine ok_T ((nI_leI (by omega) (by omega)).mpr (by omega)) ?_
        rw [ok_some]
        exact ⟨hF, h1, h2, fun j hj => h3 j (by omega)⟩
      · refine ok_F (fun q => he (by have := (nI_leI (by omega) (by omega)).mp q; omega)) ?_
        refine ok_T ((inb_nI (by omega)).mpr (by omega)) ?_
        rw [ok_lt, ok_lt, ok_lt, ok_lt, nI_clamp (n := k) (by omega), nI_1]
        refine ih (k + 1) _ (by omega) (by omega) (frL_s2 (frL_s2 (frL_s2 hF (by decide)) (by decide)) (by decide)) (fun h hh => (h1 h hh).frame ?_ ?_ ?_ ?_ ?_) ?_ (fun j hj => ?_)
        · rw [s2_nk (by decide), s2_nk (by decide), s2_nk (by decide)]
        · rw [s2_nk (by decide), s2_nk (by decide), s2_nk (by decide)]
        · rw [s2_nk (by decide), s2_nk (by decide), s2_nk (by decide)]
        · rw [s2_nk (by decide), s2_nk (by decide), s2_nk (by decide)]
        · rw [s2_nk (by decide), s2_nk (by decide), s2_nk (by decide)]
        · rw [s2_nk (by decide), s2_nk (by decide), s2_nk (by decide)]; exact h2
        · by_cases ej : j = k
          · subst ej
            refine ⟨?_, ?_, ?_, fun hc => by cases hc⟩
            · rw [s2_nk (by decide), s2_nk (by decide), s2_eq]; rfl
            · rw [s2_nk (by decide), s2_eq]; rfl
            · rw [s2_eq]; rfl
          · refine (h3 j (by omega)).frame ?_ ?_ ?_ ?_
            · rw [s2_nk (by decide), s2_nk (by decide), s2_nj ej]
            · rw [s2_nk (by decide), s2_nj ej, s2_nk (by decide)]
            · rw [s2_nk (by decide), s2_nk (by decide), s2_nk (by decide)]
            · rw [s2_nj ej, s2_nk (by decide), s2_nk (by decide)]
  have outer : ∀ (n k : Nat) (σ : St), k ≤ H.1 → H.1 + 1 ≤ n + k → frL σ0 σ → (∀ h, h < k → mH σ B 0 (begS H) h) → Ok (M8_begins_L2 (fun σ14 => lt (s2 σ14 0 21 0) fun σ15 => M8_begins_L71 (fun σ24 => some ((), σ24)) FU 0 σ15) n (nI k) σ) (fun _ σ => frL σ0 σ ∧ mG σ H B 0 (begS H)) := by
    intro n
    induction n with
    | zero => intro k σ a b; omega
    | succ n ih =>
      intro k σ hk hn hF h1
      obtain ⟨⟨a1, a2⟩, -⟩ := hB.frame hF
      rw [M8_begins_L2, a1]
      by_cases he : k = H.1
      · refine ok_T ((nI_leI (by omega) (by omega)).mpr (by omega)) ?_
        rw [ok_lt]
        refine inner FU 0 _ (Nat.zero_le _) (by have := FU_ge; omega) (frL_s0 hF) (fun h hh => (h1 h (by omega)).frame (s2_nk (by decide)) (s2_nk (by decide)) (s2_nk (by decide)) (s2_nk (by decide)) (s2_nk (by decide))) (by rw [s2_eq]; rfl) (fun j hj => by omega)
      · refine ok_F (fun q => he (by have := (nI_leI (by omega) (by omega)).mp q; omega)) ?_
        have x1 : (4 : Int32) * nI k + 1 = nI (4 * k + 1) := by rw [show (4 : Int32) = nI 4 from rfl, pk_mul, nI_1]
        have x2 : (4 : Int32) * nI k + 2 = nI (4 * k + 2) := by rw [show (4 : Int32) = nI 4 from rfl, pk_mul, show (2 : Int32) = nI 2 from rfl, nI_add]
        rw [x1, x2]
        refine ok_T ((inb_nI (by omega)).mpr (by omega)) ?_
        refine ok_T ((inb_nI (by omega)).mpr (by omega)) ?_
        rw [ok_lt]
        refine ok_T ((inb_nI (by omega)).mpr (by omega)) ?_
        rw [ok_lt, ok_lt, ok_lt, ok_lt, nI_clamp (n := k) (by omega), nI_clamp (n := 4 * k + 1) (by omega), nI_clamp (n := 4 * k + 2) (by omega), nI_1]
        refine ih (k + 1) _ (by omega) (by omega) (frL_s2 (frL_s2 (frL_s2 (frL_s2 hF (by decide)) (by decide)) (by decide)) (by decide)) (fun h hh => ?_)
        by_cases eh : h = k
        · subst eh
          refine ⟨?_, ?_, ?_, fun id hid => by cases hid⟩
          · rw [s2_nk (by decide), s2_nk (by decide), s2_nk (by decide), s2_eq, a2 h 1 (by omega) (by decide)]; rfl
          · rw [s2_nk (by decide), s2_nk (by decide), s2_eq, s2_nk (by decide), a2 h 2 (by omega) (by decide)]; rfl
          · rw [s2_nk (by decide), s2_eq]; rfl
        · refine (h1 h (by omega)).frame ?_ ?_ ?_ ?_ ?_
          · rw [s2_nk (by decide), s2_nk (by decide), s2_nk (by decide), s2_nj eh]
          · rw [s2_nk (by decide), s2_nk (by decide), s2_nj eh, s2_nk (by decide)]
          · rw [s2_nk (by decide), s2_nj eh, s2_nk (by decide), s2_nk (by decide)]
          · rw [s2_nk (by decide), s2_nk (by decide), s2_nk (by decide), s2_nk (by decide)]
          · rw [s2_nj eh, s2_nk (by decide), s2_nk (by decide), s2_nk (by decide)]
  exact outer FU 0 σ0 (Nat.zero_le _) (by have := FU_ge; omega) frL.rf (fun h hh => by omega)
/-- the reference lives through the days to the last: d = last + 1 days -/
theorem t8_lives {H : Hd} {B : Bk} {last : Nat} (hl : last < 40) {σ0 : St} (hB : bkM σ0 H B) : Ok (M8_lives (nI last) σ0) (fun _ σ => frL σ0 σ ∧ mG σ H B (last + 1) (sim H B (last + 1))) := by
  have hH := hB.2.2.2.2.2.1
  have hL : okL B.1 := hB.2.2.2.2.2.2.1
  unfold M8_lives
  refine ok_call (t8_begins hB) ?_
  rintro - σ1 ⟨hF1, hm1⟩
  have key : ∀ (n d : Nat) (σ : St), d ≤ last + 1 → last + 2 ≤ n + d → frL σ0 σ → mG σ H B d (sim H B d) → Ok (M8_lives_L6 (nI last) (fun σ => some ((), σ)) n (nI d) σ) (fun _ σ => frL σ0 σ ∧ mG σ H B (last + 1) (sim H B (last + 1))) := by
    intro n
    induction n with
    | zero => intro d σ a b; omega
    | succ n ih =>
      intro d σ hd hn hF hm
      rw [M8_lives_L6]
      by_cases he : d = last + 1
      · refine ok_T ((nI_ltI (by omega) (by omega)).mpr (by omega)) ?_
        rw [ok_some]
        subst he
        exact ⟨hF, hm⟩
      · refine ok_F (fun q => he (by have := (nI_ltI (by omega) (by omega)).mp q; omega)) ?_
        refine ok_call (t8_day (by omega) (hB.frame hF) (okG_sim hH hL d) hm) ?_
        rintro - σ2 ⟨hF2, hm2⟩
        rw [ok_lt, nI_1]
        exact ih (d + 1) σ2 (by omega) (by omega) (hF.tr hF2) hm2
  exact key FU 0 σ1 (Nat.zero_le _) (by have := FU_ge; omega) hF1 hm1
