theorem kdc_0 : kd 0 = 8 := rfl
theorem kdc_1 : kd 1 = 9 := rfl
theorem kdc_2 : kd 2 = 9 := rfl
theorem kdc_3 : kd 3 = 9 := rfl
theorem kdc_4 : kd 4 = 9 := rfl
theorem kdc_5 : kd 5 = 9 := rfl
theorem kdc_6 : kd 6 = 9 := rfl
theorem kdc_7 : kd 7 = 9 := rfl
theorem kdc_8 : kd 8 = 9 := rfl
theorem kdc_9 : kd 9 = 9 := rfl
theorem kdc_10 : kd 10 = 9 := rfl
theorem kdc_11 : kd 11 = 9 := rfl
theorem kdc_12 : kd 12 = 9 := rfl
theorem kdc_13 : kd 13 = 9 := rfl
theorem kdc_14 : kd 14 = 9 := rfl
theorem kdc_15 : kd 15 = 9 := rfl
theorem kdc_16 : kd 16 = 9 := rfl
theorem kdc_17 : kd 17 = 9 := rfl
theorem kdc_18 : kd 18 = 9 := rfl
theorem kdc_19 : kd 19 = 9 := rfl
theorem kdc_20 : kd 20 = 9 := rfl
theorem kdc_21 : kd 21 = 9 := rfl
theorem kdc_22 : kd 22 = 9 := rfl
theorem kdc_23 : kd 23 = 9 := rfl
theorem kdc_24 : kd 24 = 9 := rfl
theorem kdc_25 : kd 25 = 7 := rfl
theorem kdc_26 : kd 26 = 6 := rfl
theorem kdc_27 : kd 27 = 9 := rfl
theorem kdc_28 : kd 28 = 9 := rfl
theorem kdc_29 : kd 29 = 6 := rfl
theorem kdc_30 : kd 30 = 9 := rfl
theorem kdc_31 : kd 31 = 9 := rfl
theorem kdc_32 : kd 32 = 0 := rfl
theorem kdc_33 : kd 33 = 4 := rfl
theorem kdc_34 : kd 34 = 9 := rfl
theorem kdc_35 : kd 35 = 4 := rfl
theorem kdc_36 : kd 36 = 9 := rfl
theorem kdc_37 : kd 37 = 4 := rfl
theorem kdc_38 : kd 38 = 9 := rfl
theorem kdc_39 : kd 39 = 0 := rfl
theorem kdc_40 : kd 40 = 4 := rfl
theorem kdc_41 : kd 41 = 9 := rfl
theorem kdc_42 : kd 42 = 4 := rfl
theorem kdc_43 : kd 43 = 9 := rfl
theorem kdc_44 : kd 44 = 4 := rfl
theorem kdc_45 : kd 45 = 9 := rfl
theorem kdc_46 : kd 46 = 4 := rfl
theorem kdc_47 : kd 47 = 9 := rfl
theorem kdc_48 : kd 48 = 1 := rfl
theorem kdc_49 : kd 49 = 10 := rfl
theorem kdc_50 : kd 50 = 9 := rfl
theorem kdc_51 : kd 51 = 9 := rfl
theorem kdc_52 : kd 52 = 9 := rfl
theorem kdc_53 : kd 53 = 9 := rfl
theorem kdc_54 : kd 54 = 9 := rfl
theorem kdc_55 : kd 55 = 9 := rfl
theorem kdc_56 : kd 56 = 9 := rfl
theorem kdc_57 : kd 57 = 9 := rfl
theorem kdc_58 : kd 58 = 2 := rfl
theorem kdc_59 : kd 59 = 2 := rfl
theorem kdc_60 : kd 60 = 2 := rfl
theorem kdc_61 : kd 61 = 2 := rfl
theorem kdc_62 : kd 62 = 2 := rfl
theorem kdc_63 : kd 63 = 2 := rfl
theorem kdc_64 : kd 64 = 2 := rfl
theorem kdc_65 : kd 65 = 2 := rfl
theorem kdc_66 : kd 66 = 1 := rfl
theorem kdc_67 : kd 67 = 10 := rfl
theorem kdc_68 : kd 68 = 9 := rfl
theorem kdc_69 : kd 69 = 9 := rfl
theorem kdc_70 : kd 70 = 9 := rfl
theorem kdc_71 : kd 71 = 9 := rfl
theorem kdc_72 : kd 72 = 9 := rfl
theorem kdc_73 : kd 73 = 9 := rfl
theorem kdc_74 : kd 74 = 9 := rfl
theorem kdc_75 : kd 75 = 9 := rfl
theorem kdc_76 : kd 76 = 2 := rfl
theorem kdc_77 : kd 77 = 2 := rfl
theorem kdc_78 : kd 78 = 2 := rfl
theorem kdc_79 : kd 79 = 2 := rfl
theorem kdc_80 : kd 80 = 2 := rfl
theorem kdc_81 : kd 81 = 2 := rfl
theorem kdc_82 : kd 82 = 2 := rfl
theorem kdc_83 : kd 83 = 2 := rfl
theorem kdc_84 : kd 84 = 3 := rfl
theorem kdc_85 : kd 85 = 9 := rfl
theorem kdc_86 : kd 86 = 9 := rfl
theorem kdc_87 : kd 87 = 9 := rfl
theorem kdc_88 : kd 88 = 9 := rfl
theorem kdc_89 : kd 89 = 11 := rfl
theorem kdc_90 : kd 90 = 5 := rfl
theorem kdc_91 : kd 91 = 9 := rfl
theorem kdc_92 : kd 92 = 5 := rfl
theorem kdc_93 : kd 93 = 9 := rfl
theorem kdc_94 : kd 94 = 5 := rfl
theorem kdc_95 : kd 95 = 9 := rfl
theorem kdc_96 : kd 96 = 5 := rfl
theorem kdc_97 : kd 97 = 9 := rfl
theorem lnc_1 : ln 1 = 4 := rfl
theorem lnc_2 : ln 2 = 4 := rfl
theorem lnc_3 : ln 3 = 240 := rfl
theorem lnc_4 : ln 4 = 60 := rfl
theorem lnc_5 : ln 5 = 80 := rfl
theorem lnc_6 : ln 6 = 2 := rfl
theorem lnc_7 : ln 7 = 2 := rfl
theorem lnc_8 : ln 8 = 64 := rfl
theorem lnc_9 : ln 9 = 208 := rfl
theorem lnc_10 : ln 10 = 16 := rfl
theorem lnc_11 : ln 11 = 22 := rfl
theorem lnc_12 : ln 12 = 8 := rfl
theorem lnc_13 : ln 13 = 8 := rfl
theorem lnc_14 : ln 14 = 8 := rfl
theorem lnc_15 : ln 15 = 8 := rfl
theorem lnc_16 : ln 16 = 8 := rfl
theorem lnc_17 : ln 17 = 52 := rfl
theorem lnc_18 : ln 18 = 52 := rfl
theorem lnc_19 : ln 19 = 52 := rfl
theorem lnc_20 : ln 20 = 52 := rfl
theorem lnc_21 : ln 21 = 2304 := rfl
theorem lnc_22 : ln 22 = 3 := rfl
theorem lnc_23 : ln 23 = 24 := rfl
theorem lnc_24 : ln 24 = 80 := rfl
theorem lnc_27 : ln 27 = 39 := rfl
theorem lnc_28 : ln 28 = 32 := rfl
theorem lnc_30 : ln 30 = 39 := rfl
theorem lnc_31 : ln 31 = 32 := rfl
theorem lnc_34 : ln 34 = 48 := rfl
theorem lnc_36 : ln 36 = 32 := rfl
theorem lnc_38 : ln 38 = 32 := rfl
theorem lnc_41 : ln 41 = 208 := rfl
theorem lnc_43 : ln 43 = 32 := rfl
theorem lnc_45 : ln 45 = 32 := rfl
theorem lnc_47 : ln 47 = 32 := rfl
theorem lnc_50 : ln 50 = 320 := rfl
theorem lnc_51 : ln 51 = 320 := rfl
theorem lnc_52 : ln 52 = 320 := rfl
theorem lnc_53 : ln 53 = 40 := rfl
theorem lnc_54 : ln 54 = 40 := rfl
theorem lnc_55 : ln 55 = 52 := rfl
theorem lnc_56 : ln 56 = 52 := rfl
theorem lnc_57 : ln 57 = 52 := rfl
theorem lnc_68 : ln 68 = 320 := rfl
theorem lnc_69 : ln 69 = 320 := rfl
theorem lnc_70 : ln 70 = 320 := rfl
theorem lnc_71 : ln 71 = 40 := rfl
theorem lnc_72 : ln 72 = 40 := rfl
theorem lnc_73 : ln 73 = 52 := rfl
theorem lnc_74 : ln 74 = 52 := rfl
theorem lnc_75 : ln 75 = 52 := rfl
theorem lnc_85 : ln 85 = 8 := rfl
theorem lnc_86 : ln 86 = 8 := rfl
theorem lnc_87 : ln 87 = 2304 := rfl
theorem lnc_88 : ln 88 = 80 := rfl
theorem lnc_91 : ln 91 = 60 := rfl
theorem lnc_93 : ln 93 = 60 := rfl
theorem lnc_95 : ln 95 = 60 := rfl
theorem lnc_97 : ln 97 = 60 := rfl
theorem kd_all {κ : Nat} (hκ : κ < 12) {q : Nat → Prop} [DecidablePred q] (h : ((List.range NN).all fun t => !(kd t == κ) || decide (q t)) = true) {t : Nat} (ht : kd t = κ) : q t := by
  have h1 := List.all_eq_true.mp h t (List.mem_range.mpr (kd_lt ht hκ))
  simpa [ht] using h1
theorem kf_0_0 {t : Nat} (ht : kd t = 0) : kd (t + 1) = 4 := kd_all (by decide) (q := fun t => kd (t + 1) = 4) (by decide +kernel) ht
theorem kf_0_1 {t : Nat} (ht : kd t = 0) : kd (t + 3) = 4 := kd_all (by decide) (q := fun t => kd (t + 3) = 4) (by decide +kernel) ht
theorem kf_0_2 {t : Nat} (ht : kd t = 0) : kd (t + 5) = 4 := kd_all (by decide) (q := fun t => kd (t + 5) = 4) (by decide +kernel) ht
theorem kf_1_0 {t : Nat} (ht : kd t = 1) : kd (t + 1) = 10 := kd_all (by decide) (q := fun t => kd (t + 1) = 10) (by decide +kernel) ht
theorem kf_1_1 {t : Nat} (ht : kd t = 1) : kd (t + 2) = 9 := kd_all (by decide) (q := fun t => kd (t + 2) = 9) (by decide +kernel) ht
theorem lf_1_1 {t : Nat} (ht : kd t = 1) : ln (t + 2) = 320 := kd_all (by decide) (q := fun t => ln (t + 2) = 320) (by decide +kernel) ht
theorem kf_1_2 {t : Nat} (ht : kd t = 1) : kd (t + 3) = 9 := kd_all (by decide) (q := fun t => kd (t + 3) = 9) (by decide +kernel) ht
theorem lf_1_2 {t : Nat} (ht : kd t = 1) : ln (t + 3) = 320 := kd_all (by decide) (q := fun t => ln (t + 3) = 320) (by decide +kernel) ht
theorem kf_1_3 {t : Nat} (ht : kd t = 1) : kd (t + 4) = 9 := kd_all (by decide) (q := fun t => kd (t + 4) = 9) (by decide +kernel) ht
theorem lf_1_3 {t : Nat} (ht : kd t = 1) : ln (t + 4) = 320 := kd_all (by decide) (q := fun t => ln (t + 4) = 320) (by decide +kernel) ht
theorem kf_1_4 {t : Nat} (ht : kd t = 1) : kd (t + 5) = 9 := kd_all (by decide) (q := fun t => kd (t + 5) = 9) (by decide +kernel) ht
theorem lf_1_4 {t : Nat} (ht : kd t = 1) : ln (t + 5) = 40 := kd_all (by decide) (q := fun t => ln (t + 5) = 40) (by decide +kernel) ht
theorem kf_1_5 {t : Nat} (ht : kd t = 1) : kd (t + 6) = 9 := kd_all (by decide) (q := fun t => kd (t + 6) = 9) (by decide +kernel) ht
theorem lf_1_5 {t : Nat} (ht : kd t = 1) : ln (t + 6) = 40 := kd_all (by decide) (q := fun t => ln (t + 6) = 40) (by decide +kernel) ht
theorem kf_1_6 {t : Nat} (ht : kd t = 1) : kd (t + 7) = 9 := kd_all (by decide) (q := fun t => kd (t + 7) = 9) (by decide +kernel) ht
theorem lf_1_6 {t : Nat} (ht : kd t = 1) : ln (t + 7) = 52 := kd_all (by decide) (q := fun t => ln (t + 7) = 52) (by decide +kernel) ht
theorem kf_1_7 {t : Nat} (ht : kd t = 1) : kd (t + 8) = 9 := kd_all (by decide) (q := fun t => kd (t + 8) = 9) (by decide +kernel) ht
theorem lf_1_7 {t : Nat} (ht : kd t = 1) : ln (t + 8) = 52 := kd_all (by decide) (q := fun t => ln (t + 8) = 52) (by decide +kernel) ht
theorem kf_1_8 {t : Nat} (ht : kd t = 1) : kd (t + 9) = 9 := kd_all (by decide) (q := fun t => kd (t + 9) = 9) (by decide +kernel) ht
theorem lf_1_8 {t : Nat} (ht : kd t = 1) : ln (t + 9) = 52 := kd_all (by decide) (q := fun t => ln (t + 9) = 52) (by decide +kernel) ht
theorem kf_3_0 {t : Nat} (ht : kd t = 3) : kd (t + 1) = 9 := kd_all (by decide) (q := fun t => kd (t + 1) = 9) (by decide +kernel) ht
theorem lf_3_0 {t : Nat} (ht : kd t = 3) : ln (t + 1) = 8 := kd_all (by decide) (q := fun t => ln (t + 1) = 8) (by decide +kernel) ht
theorem kf_3_1 {t : Nat} (ht : kd t = 3) : kd (t + 2) = 9 := kd_all (by decide) (q := fun t => kd (t + 2) = 9) (by decide +kernel) ht
theorem lf_3_1 {t : Nat} (ht : kd t = 3) : ln (t + 2) = 8 := kd_all (by decide) (q := fun t => ln (t + 2) = 8) (by decide +kernel) ht
theorem kf_3_2 {t : Nat} (ht : kd t = 3) : kd (t + 3) = 9 := kd_all (by decide) (q := fun t => kd (t + 3) = 9) (by decide +kernel) ht
theorem lf_3_2 {t : Nat} (ht : kd t = 3) : ln (t + 3) = 2304 := kd_all (by decide) (q := fun t => ln (t + 3) = 2304) (by decide +kernel) ht
theorem kf_4_1 {t : Nat} (ht : kd t = 4) : kd (t + 1) = 9 := kd_all (by decide) (q := fun t => kd (t + 1) = 9) (by decide +kernel) ht
theorem kf_5_0 {t : Nat} (ht : kd t = 5) : kd (t + 1) = 9 := kd_all (by decide) (q := fun t => kd (t + 1) = 9) (by decide +kernel) ht
theorem lf_5_0 {t : Nat} (ht : kd t = 5) : ln (t + 1) = 60 := kd_all (by decide) (q := fun t => ln (t + 1) = 60) (by decide +kernel) ht
theorem kf_6_3 {t : Nat} (ht : kd t = 6) : kd (t + 1) = 9 := kd_all (by decide) (q := fun t => kd (t + 1) = 9) (by decide +kernel) ht
theorem lf_6_3 {t : Nat} (ht : kd t = 6) : ln (t + 1) = 39 := kd_all (by decide) (q := fun t => ln (t + 1) = 39) (by decide +kernel) ht
theorem kf_6_4 {t : Nat} (ht : kd t = 6) : kd (t + 2) = 9 := kd_all (by decide) (q := fun t => kd (t + 2) = 9) (by decide +kernel) ht
theorem lf_6_4 {t : Nat} (ht : kd t = 6) : ln (t + 2) = 32 := kd_all (by decide) (q := fun t => ln (t + 2) = 32) (by decide +kernel) ht
theorem kf_7_0 {t : Nat} (ht : kd t = 7) : kd (t + 1) = 6 := kd_all (by decide) (q := fun t => kd (t + 1) = 6) (by decide +kernel) ht
theorem kf_7_1 {t : Nat} (ht : kd t = 7) : kd (t + 4) = 6 := kd_all (by decide) (q := fun t => kd (t + 4) = 6) (by decide +kernel) ht
theorem kf_7_2 {t : Nat} (ht : kd t = 7) : kd (t + 7) = 0 := kd_all (by decide) (q := fun t => kd (t + 7) = 0) (by decide +kernel) ht
theorem kf_7_3 {t : Nat} (ht : kd t = 7) : kd (t + 21) = 4 := kd_all (by decide) (q := fun t => kd (t + 21) = 4) (by decide +kernel) ht
theorem kf_7_4 {t : Nat} (ht : kd t = 7) : kd (t + 23) = 1 := kd_all (by decide) (q := fun t => kd (t + 23) = 1) (by decide +kernel) ht
theorem kf_7_6 {t : Nat} (ht : kd t = 7) : kd (t + 14) = 0 := kd_all (by decide) (q := fun t => kd (t + 14) = 0) (by decide +kernel) ht
theorem kf_7_7 {t : Nat} (ht : kd t = 7) : kd (t + 41) = 1 := kd_all (by decide) (q := fun t => kd (t + 41) = 1) (by decide +kernel) ht
theorem kf_7_8 {t : Nat} (ht : kd t = 7) : kd (t + 59) = 3 := kd_all (by decide) (q := fun t => kd (t + 59) = 3) (by decide +kernel) ht
theorem kf_7_9 {t : Nat} (ht : kd t = 7) : kd (t + 63) = 9 := kd_all (by decide) (q := fun t => kd (t + 63) = 9) (by decide +kernel) ht
theorem lf_7_9 {t : Nat} (ht : kd t = 7) : ln (t + 63) = 80 := kd_all (by decide) (q := fun t => ln (t + 63) = 80) (by decide +kernel) ht
theorem kf_7_10 {t : Nat} (ht : kd t = 7) : kd (t + 64) = 11 := kd_all (by decide) (q := fun t => kd (t + 64) = 11) (by decide +kernel) ht
theorem kf_8_0 {t : Nat} (ht : kd t = 8) : kd (t + 1) = 9 := kd_all (by decide) (q := fun t => kd (t + 1) = 9) (by decide +kernel) ht
theorem lf_8_0 {t : Nat} (ht : kd t = 8) : ln (t + 1) = 4 := kd_all (by decide) (q := fun t => ln (t + 1) = 4) (by decide +kernel) ht
theorem kf_8_1 {t : Nat} (ht : kd t = 8) : kd (t + 2) = 9 := kd_all (by decide) (q := fun t => kd (t + 2) = 9) (by decide +kernel) ht
theorem lf_8_1 {t : Nat} (ht : kd t = 8) : ln (t + 2) = 4 := kd_all (by decide) (q := fun t => ln (t + 2) = 4) (by decide +kernel) ht
theorem kf_8_2 {t : Nat} (ht : kd t = 8) : kd (t + 3) = 9 := kd_all (by decide) (q := fun t => kd (t + 3) = 9) (by decide +kernel) ht
theorem lf_8_2 {t : Nat} (ht : kd t = 8) : ln (t + 3) = 240 := kd_all (by decide) (q := fun t => ln (t + 3) = 240) (by decide +kernel) ht
theorem kf_8_3 {t : Nat} (ht : kd t = 8) : kd (t + 4) = 9 := kd_all (by decide) (q := fun t => kd (t + 4) = 9) (by decide +kernel) ht
theorem lf_8_3 {t : Nat} (ht : kd t = 8) : ln (t + 4) = 60 := kd_all (by decide) (q := fun t => ln (t + 4) = 60) (by decide +kernel) ht
theorem kf_8_5 {t : Nat} (ht : kd t = 8) : kd (t + 5) = 9 := kd_all (by decide) (q := fun t => kd (t + 5) = 9) (by decide +kernel) ht
theorem lf_8_5 {t : Nat} (ht : kd t = 8) : ln (t + 5) = 80 := kd_all (by decide) (q := fun t => ln (t + 5) = 80) (by decide +kernel) ht
theorem kf_8_6 {t : Nat} (ht : kd t = 8) : kd (t + 6) = 9 := kd_all (by decide) (q := fun t => kd (t + 6) = 9) (by decide +kernel) ht
theorem lf_8_6 {t : Nat} (ht : kd t = 8) : ln (t + 6) = 2 := kd_all (by decide) (q := fun t => ln (t + 6) = 2) (by decide +kernel) ht
theorem kf_8_7 {t : Nat} (ht : kd t = 8) : kd (t + 7) = 9 := kd_all (by decide) (q := fun t => kd (t + 7) = 9) (by decide +kernel) ht
theorem lf_8_7 {t : Nat} (ht : kd t = 8) : ln (t + 7) = 2 := kd_all (by decide) (q := fun t => ln (t + 7) = 2) (by decide +kernel) ht
theorem kf_8_8 {t : Nat} (ht : kd t = 8) : kd (t + 8) = 9 := kd_all (by decide) (q := fun t => kd (t + 8) = 9) (by decide +kernel) ht
theorem lf_8_8 {t : Nat} (ht : kd t = 8) : ln (t + 8) = 64 := kd_all (by decide) (q := fun t => ln (t + 8) = 64) (by decide +kernel) ht
theorem kf_8_10 {t : Nat} (ht : kd t = 8) : kd (t + 9) = 9 := kd_all (by decide) (q := fun t => kd (t + 9) = 9) (by decide +kernel) ht
theorem lf_8_10 {t : Nat} (ht : kd t = 8) : ln (t + 9) = 208 := kd_all (by decide) (q := fun t => ln (t + 9) = 208) (by decide +kernel) ht
theorem kf_8_12 {t : Nat} (ht : kd t = 8) : kd (t + 10) = 9 := kd_all (by decide) (q := fun t => kd (t + 10) = 9) (by decide +kernel) ht
theorem lf_8_12 {t : Nat} (ht : kd t = 8) : ln (t + 10) = 16 := kd_all (by decide) (q := fun t => ln (t + 10) = 16) (by decide +kernel) ht
theorem kf_8_14 {t : Nat} (ht : kd t = 8) : kd (t + 11) = 9 := kd_all (by decide) (q := fun t => kd (t + 11) = 9) (by decide +kernel) ht
theorem lf_8_14 {t : Nat} (ht : kd t = 8) : ln (t + 11) = 22 := kd_all (by decide) (q := fun t => ln (t + 11) = 22) (by decide +kernel) ht
theorem kf_8_16 {t : Nat} (ht : kd t = 8) : kd (t + 12) = 9 := kd_all (by decide) (q := fun t => kd (t + 12) = 9) (by decide +kernel) ht
theorem lf_8_16 {t : Nat} (ht : kd t = 8) : ln (t + 12) = 8 := kd_all (by decide) (q := fun t => ln (t + 12) = 8) (by decide +kernel) ht
theorem kf_8_17 {t : Nat} (ht : kd t = 8) : kd (t + 13) = 9 := kd_all (by decide) (q := fun t => kd (t + 13) = 9) (by decide +kernel) ht
theorem lf_8_17 {t : Nat} (ht : kd t = 8) : ln (t + 13) = 8 := kd_all (by decide) (q := fun t => ln (t + 13) = 8) (by decide +kernel) ht
theorem kf_8_18 {t : Nat} (ht : kd t = 8) : kd (t + 14) = 9 := kd_all (by decide) (q := fun t => kd (t + 14) = 9) (by decide +kernel) ht
theorem lf_8_18 {t : Nat} (ht : kd t = 8) : ln (t + 14) = 8 := kd_all (by decide) (q := fun t => ln (t + 14) = 8) (by decide +kernel) ht
theorem kf_8_19 {t : Nat} (ht : kd t = 8) : kd (t + 15) = 9 := kd_all (by decide) (q := fun t => kd (t + 15) = 9) (by decide +kernel) ht
theorem lf_8_19 {t : Nat} (ht : kd t = 8) : ln (t + 15) = 8 := kd_all (by decide) (q := fun t => ln (t + 15) = 8) (by decide +kernel) ht
theorem kf_8_20 {t : Nat} (ht : kd t = 8) : kd (t + 16) = 9 := kd_all (by decide) (q := fun t => kd (t + 16) = 9) (by decide +kernel) ht
theorem lf_8_20 {t : Nat} (ht : kd t = 8) : ln (t + 16) = 8 := kd_all (by decide) (q := fun t => ln (t + 16) = 8) (by decide +kernel) ht
theorem kf_8_22 {t : Nat} (ht : kd t = 8) : kd (t + 17) = 9 := kd_all (by decide) (q := fun t => kd (t + 17) = 9) (by decide +kernel) ht
theorem lf_8_22 {t : Nat} (ht : kd t = 8) : ln (t + 17) = 52 := kd_all (by decide) (q := fun t => ln (t + 17) = 52) (by decide +kernel) ht
theorem kf_8_23 {t : Nat} (ht : kd t = 8) : kd (t + 18) = 9 := kd_all (by decide) (q := fun t => kd (t + 18) = 9) (by decide +kernel) ht
theorem lf_8_23 {t : Nat} (ht : kd t = 8) : ln (t + 18) = 52 := kd_all (by decide) (q := fun t => ln (t + 18) = 52) (by decide +kernel) ht
theorem kf_8_24 {t : Nat} (ht : kd t = 8) : kd (t + 19) = 9 := kd_all (by decide) (q := fun t => kd (t + 19) = 9) (by decide +kernel) ht
theorem lf_8_24 {t : Nat} (ht : kd t = 8) : ln (t + 19) = 52 := kd_all (by decide) (q := fun t => ln (t + 19) = 52) (by decide +kernel) ht
theorem kf_8_25 {t : Nat} (ht : kd t = 8) : kd (t + 20) = 9 := kd_all (by decide) (q := fun t => kd (t + 20) = 9) (by decide +kernel) ht
theorem lf_8_25 {t : Nat} (ht : kd t = 8) : ln (t + 20) = 52 := kd_all (by decide) (q := fun t => ln (t + 20) = 52) (by decide +kernel) ht
theorem kf_8_28 {t : Nat} (ht : kd t = 8) : kd (t + 21) = 9 := kd_all (by decide) (q := fun t => kd (t + 21) = 9) (by decide +kernel) ht
theorem lf_8_28 {t : Nat} (ht : kd t = 8) : ln (t + 21) = 2304 := kd_all (by decide) (q := fun t => ln (t + 21) = 2304) (by decide +kernel) ht
theorem kf_8_29 {t : Nat} (ht : kd t = 8) : kd (t + 22) = 9 := kd_all (by decide) (q := fun t => kd (t + 22) = 9) (by decide +kernel) ht
theorem lf_8_29 {t : Nat} (ht : kd t = 8) : ln (t + 22) = 3 := kd_all (by decide) (q := fun t => ln (t + 22) = 3) (by decide +kernel) ht
theorem kf_8_31 {t : Nat} (ht : kd t = 8) : kd (t + 23) = 9 := kd_all (by decide) (q := fun t => kd (t + 23) = 9) (by decide +kernel) ht
theorem lf_8_31 {t : Nat} (ht : kd t = 8) : ln (t + 23) = 24 := kd_all (by decide) (q := fun t => ln (t + 23) = 24) (by decide +kernel) ht
theorem kf_8_32 {t : Nat} (ht : kd t = 8) : kd (t + 24) = 9 := kd_all (by decide) (q := fun t => kd (t + 24) = 9) (by decide +kernel) ht
theorem lf_8_32 {t : Nat} (ht : kd t = 8) : ln (t + 24) = 80 := kd_all (by decide) (q := fun t => ln (t + 24) = 80) (by decide +kernel) ht
theorem inl {k n : Nat} {i : Int32} (h : ln k = n) (gi : inb i n) : vp_in i (ln k) := by rw [h]; exact inb_in gi
theorem inb_clamp {i : Int32} {n : Nat} (h : inb i n) : i.toNatClampNeg < n := by
  have h1 := h.1; have h2 := h.2
  have : (i.toNatClampNeg : Int) = i.toInt := by
    show ((i.toInt.toNat : Nat) : Int) = _
    omega
  omega
theorem kdH {t : Nat} {i : Int32} (ht : kd t = 10) (gi : inb i 8) : kd (t + 9 + i.toNatClampNeg) = 2 := by
  have h := inb_clamp gi
  have h2 := kd_all (κ := 10) (by decide) (q := fun t => ((List.range 8).all fun j => kd (t + 9 + j) == 2) = true) (by decide +kernel) ht
  simpa using List.all_eq_true.mp h2 _ (List.mem_range.mpr h)
theorem kdS {t : Nat} {i : Int32} (ht : kd t = 11) (gi : inb i 4) : kd (t + 1 + 2 * i.toNatClampNeg) = 5 := by
  have h := inb_clamp gi
  have h2 := kd_all (κ := 11) (by decide) (q := fun t => ((List.range 4).all fun j => kd (t + 1 + 2 * j) == 5) = true) (by decide +kernel) ht
  simpa using List.all_eq_true.mp h2 _ (List.mem_range.mpr h)
theorem kd_txt {t : Nat} (ht : kd t = 6) : isStr (98 + (t - 26) / 3) := kd_all (by decide) (q := fun t => isStr (98 + (t - 26) / 3)) (by decide +kernel) ht
/-- where a sign stands in the text of shapes: 'rsl' (0), 'rsla' (else) -/
def sidx (i : Nat) (x : Int32) : Int32 := if x = 114 then 0 else if x = 115 then 1 else if x = 108 then 2 else if x = 97 ∧ ¬ i = 0 then 3 else -1
theorem inb_iff {i : Int32} {n : Nat} : inb i n ↔ 0 ≤ i.toInt ∧ i.toInt < (n : Int) := Iff.rfl
section FieldsZ
variable {p : Program} {l : Launch} {e : Env} {R : Room} {s : State} {m : MethodId} {args : Array Value} {below : List Frame} {meth : Method} {c : Code} {Q : State → Prop} {cc : ByteArray} {nL : Nat} {own : String} {rt : Option FieldType} {g : Gd} {a : Nat → Nat} {cz sz : Nat} {σ σ1 σ' : St} {pc : Nat} {lv lv' : List (Nat × Value)} {st st0 rest : List Value}
theorem gf0_14 {k : Nat} (F : Fx p s m args meth c cc nL RX0 rt R cz sz g a) (hk : kd k = 0) (d : decode cc pc = .ok (.getfield 14, 3)) (z : Z p l e R s m args below meth c Q nL g a cz sz σ (pc + 3) lv (.ref (a (k + 3)) :: st)) : Z p l e R s m args below meth c Q nL g a cz sz σ pc lv (.ref (a k) :: st) :=
  z_get (ci := 0) (j := 1) F hk (by decide) rfl inTB0 (by decide) (tbm 92 (by decide +kernel) rfl) rfl rfl rfl d z
theorem gf0_20 {k : Nat} (F : Fx p s m args meth c cc nL RX0 rt R cz sz g a) (hk : kd k = 0) (d : decode cc pc = .ok (.getfield 20, 3)) (z : Z p l e R s m args below meth c Q nL g a cz sz σ (pc + 3) lv (.ref (a (k + 5)) :: st)) : Z p l e R s m args below meth c Q nL g a cz sz σ pc lv (.ref (a k) :: st) :=
  z_get (ci := 0) (j := 2) F hk (by decide) rfl inTB0 (by decide) (tbm 95 (by decide +kernel) rfl) rfl rfl rfl d z
theorem gf0_23 {k : Nat} (F : Fx p s m args meth c cc nL RX0 rt R cz sz g a) (hk : kd k = 0) (d : decode cc pc = .ok (.getfield 23, 3)) (z : Z p l e R s m args below meth c Q nL g a cz sz σ (pc + 3) lv (.ref (a (k + 1)) :: st)) : Z p l e R s m args below meth c Q nL g a cz sz σ pc lv (.ref (a k) :: st) :=
  z_get (ci := 0) (j := 0) F hk (by decide) rfl inTB0 (by decide) (tbm 89 (by decide +kernel) rfl) rfl rfl rfl d z
theorem gf1_101 {k : Nat} (F : Fx p s m args meth c cc nL RX1 rt R cz sz g a) (hk : kd k = 4) (d : decode cc pc = .ok (.getfield 101, 3)) (z : Z p l e R s m args below meth c Q nL g a cz sz σ (pc + 3) lv (.int (σ k 2) :: st)) : Z p l e R s m args below meth c Q nL g a cz sz σ pc lv (.ref (a k) :: st) :=
  z_getN (host := "HoleBank") (ci := 4) (j := 2) F hk (by decide) rfl inTB4 (by decide) (nlm 80 (by decide +kernel) rfl) rfl rfl rfl d z
theorem gf1_11 {k : Nat} (F : Fx p s m args meth c cc nL RX1 rt R cz sz g a) (hk : kd k = 1) (d : decode cc pc = .ok (.getfield 11, 3)) (z : Z p l e R s m args below meth c Q nL g a cz sz σ (pc + 3) lv (.ref (a (k + 1)) :: st)) : Z p l e R s m args below meth c Q nL g a cz sz σ pc lv (.ref (a k) :: st) :=
  z_get (ci := 1) (j := 0) F hk (by decide) rfl inTB1 (by decide) (tbm 151 (by decide +kernel) rfl) rfl rfl rfl d z
theorem gf1_114 {k : Nat} (F : Fx p s m args meth c cc nL RX1 rt R cz sz g a) (hk : kd k = 2) (d : decode cc pc = .ok (.getfield 114, 3)) (z : Z p l e R s m args below meth c Q nL g a cz sz σ (pc + 3) lv (.int (σ k 7) :: st)) : Z p l e R s m args below meth c Q nL g a cz sz σ pc lv (.ref (a k) :: st) :=
  z_getN (host := "HoleBank") (ci := 2) (j := 7) F hk (by decide) rfl inTB2 (by decide) (nlm 133 (by decide +kernel) rfl) rfl rfl rfl d z
theorem gf1_118 {k : Nat} (F : Fx p s m args meth c cc nL RX1 rt R cz sz g a) (hk : kd k = 2) (d : decode cc pc = .ok (.getfield 118, 3)) (z : Z p l e R s m args below meth c Q nL g a cz sz σ (pc + 3) lv (.int (σ k 1) :: st)) : Z p l e R s m args below meth c Q nL g a cz sz σ pc lv (.ref (a k) :: st) :=
  z_getN (host := "HoleBank") (ci := 2) (j := 1) F hk (by decide) rfl inTB2 (by decide) (nlm 122 (by decide +kernel) rfl) rfl rfl rfl d z
theorem gf1_127 {k : Nat} (F : Fx p s m args meth c cc nL RX1 rt R cz sz g a) (hk : kd k = 2) (d : decode cc pc = .ok (.getfield 127, 3)) (z : Z p l e R s m args below meth c Q nL g a cz sz σ (pc + 3) lv (.int (σ k 5) :: st)) : Z p l e R s m args below meth c Q nL g a cz sz σ pc lv (.ref (a k) :: st) :=
  z_getN (host := "HoleBank") (ci := 2) (j := 5) F hk (by decide) rfl inTB2 (by decide) (nlm 129 (by decide +kernel) rfl) rfl rfl rfl d z
theorem gf1_130 {k : Nat} (F : Fx p s m args meth c cc nL RX1 rt R cz sz g a) (hk : kd k = 2) (d : decode cc pc = .ok (.getfield 130, 3)) (z : Z p l e R s m args below meth c Q nL g a cz sz σ (pc + 3) lv (.int (σ k 2) :: st)) : Z p l e R s m args below meth c Q nL g a cz sz σ pc lv (.ref (a k) :: st) :=
  z_getN (host := "HoleBank") (ci := 2) (j := 2) F hk (by decide) rfl inTB2 (by decide) (nlm 124 (by decide +kernel) rfl) rfl rfl rfl d z
theorem gf1_132 {k : Nat} (F : Fx p s m args meth c cc nL RX1 rt R cz sz g a) (hk : kd k = 2) (d : decode cc pc = .ok (.getfield 132, 3)) (z : Z p l e R s m args below meth c Q nL g a cz sz σ (pc + 3) lv (.int (σ k 6) :: st)) : Z p l e R s m args below meth c Q nL g a cz sz σ pc lv (.ref (a k) :: st) :=
  z_getN (host := "HoleBank") (ci := 2) (j := 6) F hk (by decide) rfl inTB2 (by decide) (nlm 131 (by decide +kernel) rfl) rfl rfl rfl d z
theorem gf1_17 {k : Nat} (F : Fx p s m args meth c cc nL RX1 rt R cz sz g a) (hk : kd k = 1) (d : decode cc pc = .ok (.getfield 17, 3)) (z : Z p l e R s m args below meth c Q nL g a cz sz σ (pc + 3) lv (.ref (a (k + 2)) :: st)) : Z p l e R s m args below meth c Q nL g a cz sz σ pc lv (.ref (a k) :: st) :=
  z_get (ci := 1) (j := 1) F hk (by decide) rfl inTB1 (by decide) (tbm 152 (by decide +kernel) rfl) rfl rfl rfl d z
theorem gf1_21 {k : Nat} (F : Fx p s m args meth c cc nL RX1 rt R cz sz g a) (hk : kd k = 1) (d : decode cc pc = .ok (.getfield 21, 3)) (z : Z p l e R s m args below meth c Q nL g a cz sz σ (pc + 3) lv (.ref (a (k + 3)) :: st)) : Z p l e R s m args below meth c Q nL g a cz sz σ pc lv (.ref (a k) :: st) :=
  z_get (ci := 1) (j := 2) F hk (by decide) rfl inTB1 (by decide) (tbm 153 (by decide +kernel) rfl) rfl rfl rfl d z
theorem gf1_24 {k : Nat} (F : Fx p s m args meth c cc nL RX1 rt R cz sz g a) (hk : kd k = 1) (d : decode cc pc = .ok (.getfield 24, 3)) (z : Z p l e R s m args below meth c Q nL g a cz sz σ (pc + 3) lv (.ref (a (k + 4)) :: st)) : Z p l e R s m args below meth c Q nL g a cz sz σ pc lv (.ref (a k) :: st) :=
  z_get (ci := 1) (j := 3) F hk (by decide) rfl inTB1 (by decide) (tbm 154 (by decide +kernel) rfl) rfl rfl rfl d z
theorem gf1_27 {k : Nat} (F : Fx p s m args meth c cc nL RX1 rt R cz sz g a) (hk : kd k = 1) (d : decode cc pc = .ok (.getfield 27, 3)) (z : Z p l e R s m args below meth c Q nL g a cz sz σ (pc + 3) lv (.ref (a (k + 5)) :: st)) : Z p l e R s m args below meth c Q nL g a cz sz σ pc lv (.ref (a k) :: st) :=
  z_get (ci := 1) (j := 4) F hk (by decide) rfl inTB1 (by decide) (tbm 155 (by decide +kernel) rfl) rfl rfl rfl d z
theorem gf1_30 {k : Nat} (F : Fx p s m args meth c cc nL RX1 rt R cz sz g a) (hk : kd k = 1) (d : decode cc pc = .ok (.getfield 30, 3)) (z : Z p l e R s m args below meth c Q nL g a cz sz σ (pc + 3) lv (.ref (a (k + 6)) :: st)) : Z p l e R s m args below meth c Q nL g a cz sz σ pc lv (.ref (a k) :: st) :=
  z_get (ci := 1) (j := 5) F hk (by decide) rfl inTB1 (by decide) (tbm 156 (by decide +kernel) rfl) rfl rfl rfl d z
theorem gf1_33 {k : Nat} (F : Fx p s m args meth c cc nL RX1 rt R cz sz g a) (hk : kd k = 1) (d : decode cc pc = .ok (.getfield 33, 3)) (z : Z p l e R s m args below meth c Q nL g a cz sz σ (pc + 3) lv (.ref (a (k + 7)) :: st)) : Z p l e R s m args below meth c Q nL g a cz sz σ pc lv (.ref (a k) :: st) :=
  z_get (ci := 1) (j := 6) F hk (by decide) rfl inTB1 (by decide) (tbm 158 (by decide +kernel) rfl) rfl rfl rfl d z
theorem gf1_36 {k : Nat} (F : Fx p s m args meth c cc nL RX1 rt R cz sz g a) (hk : kd k = 1) (d : decode cc pc = .ok (.getfield 36, 3)) (z : Z p l e R s m args below meth c Q nL g a cz sz σ (pc + 3) lv (.ref (a (k + 8)) :: st)) : Z p l e R s m args below meth c Q nL g a cz sz σ pc lv (.ref (a k) :: st) :=
  z_get (ci := 1) (j := 7) F hk (by decide) rfl inTB1 (by decide) (tbm 160 (by decide +kernel) rfl) rfl rfl rfl d z
theorem gf1_39 {k : Nat} (F : Fx p s m args meth c cc nL RX1 rt R cz sz g a) (hk : kd k = 1) (d : decode cc pc = .ok (.getfield 39, 3)) (z : Z p l e R s m args below meth c Q nL g a cz sz σ (pc + 3) lv (.ref (a (k + 9)) :: st)) : Z p l e R s m args below meth c Q nL g a cz sz σ pc lv (.ref (a k) :: st) :=
  z_get (ci := 1) (j := 8) F hk (by decide) rfl inTB1 (by decide) (tbm 162 (by decide +kernel) rfl) rfl rfl rfl d z
theorem gf1_42 {k : Nat} (F : Fx p s m args meth c cc nL RX1 rt R cz sz g a) (hk : kd k = 1) (d : decode cc pc = .ok (.getfield 42, 3)) (z : Z p l e R s m args below meth c Q nL g a cz sz σ (pc + 3) lv (.int (σ k 9) :: st)) : Z p l e R s m args below meth c Q nL g a cz sz σ pc lv (.ref (a k) :: st) :=
  z_get (ci := 1) (j := 9) F hk (by decide) rfl inTB1 (by decide) (tbm 164 (by decide +kernel) rfl) rfl rfl rfl d z
theorem gf1_47 {k : Nat} (F : Fx p s m args meth c cc nL RX1 rt R cz sz g a) (hk : kd k = 6) (d : decode cc pc = .ok (.getfield 47, 3)) (z : Z p l e R s m args below meth c Q nL g a cz sz σ (pc + 3) lv (.int (σ k 7) :: st)) : Z p l e R s m args below meth c Q nL g a cz sz σ pc lv (.ref (a k) :: st) :=
  z_getN (host := "HoleBank") (ci := 6) (j := 7) F hk (by decide) rfl inTB6 (by decide) (nlm 43 (by decide +kernel) rfl) rfl rfl rfl d z
theorem gf1_62 {k : Nat} (F : Fx p s m args meth c cc nL RX1 rt R cz sz g a) (hk : kd k = 0) (d : decode cc pc = .ok (.getfield 62, 3)) (z : Z p l e R s m args below meth c Q nL g a cz sz σ (pc + 3) lv (.ref (a (k + 1)) :: st)) : Z p l e R s m args below meth c Q nL g a cz sz σ pc lv (.ref (a k) :: st) :=
  z_getN (host := "HoleBank") (ci := 0) (j := 0) F hk (by decide) rfl inTB0 (by decide) (nlm 90 (by decide +kernel) rfl) rfl rfl rfl d z
theorem gf1_72 {k : Nat} (F : Fx p s m args meth c cc nL RX1 rt R cz sz g a) (hk : kd k = 0) (d : decode cc pc = .ok (.getfield 72, 3)) (z : Z p l e R s m args below meth c Q nL g a cz sz σ (pc + 3) lv (.ref (a (k + 3)) :: st)) : Z p l e R s m args below meth c Q nL g a cz sz σ pc lv (.ref (a k) :: st) :=
  z_getN (host := "HoleBank") (ci := 0) (j := 1) F hk (by decide) rfl inTB0 (by decide) (nlm 93 (by decide +kernel) rfl) rfl rfl rfl d z
theorem gf1_78 {k : Nat} (F : Fx p s m args meth c cc nL RX1 rt R cz sz g a) (hk : kd k = 0) (d : decode cc pc = .ok (.getfield 78, 3)) (z : Z p l e R s m args below meth c Q nL g a cz sz σ (pc + 3) lv (.ref (a (k + 5)) :: st)) : Z p l e R s m args below meth c Q nL g a cz sz σ pc lv (.ref (a k) :: st) :=
  z_getN (host := "HoleBank") (ci := 0) (j := 2) F hk (by decide) rfl inTB0 (by decide) (nlm 96 (by decide +kernel) rfl) rfl rfl rfl d z
theorem gf1_88 {k : Nat} (F : Fx p s m args meth c cc nL RX1 rt R cz sz g a) (hk : kd k = 2) (d : decode cc pc = .ok (.getfield 88, 3)) (z : Z p l e R s m args below meth c Q nL g a cz sz σ (pc + 3) lv (.int (σ k 4) :: st)) : Z p l e R s m args below meth c Q nL g a cz sz σ pc lv (.ref (a k) :: st) :=
  z_getN (host := "HoleBank") (ci := 2) (j := 4) F hk (by decide) rfl inTB2 (by decide) (nlm 127 (by decide +kernel) rfl) rfl rfl rfl d z
theorem gf2_15 {k : Nat} (F : Fx p s m args meth c cc nL RX2 rt R cz sz g a) (hk : kd k = 2) (d : decode cc pc = .ok (.getfield 15, 3)) (z : Z p l e R s m args below meth c Q nL g a cz sz σ (pc + 3) lv (.int (σ k 0) :: st)) : Z p l e R s m args below meth c Q nL g a cz sz σ pc lv (.ref (a k) :: st) :=
  z_get (ci := 2) (j := 0) F hk (by decide) rfl inTB2 (by decide) (tbm 120 (by decide +kernel) rfl) rfl rfl rfl d z
theorem gf2_21 {k : Nat} (F : Fx p s m args meth c cc nL RX2 rt R cz sz g a) (hk : kd k = 2) (d : decode cc pc = .ok (.getfield 21, 3)) (z : Z p l e R s m args below meth c Q nL g a cz sz σ (pc + 3) lv (.int (σ k 1) :: st)) : Z p l e R s m args below meth c Q nL g a cz sz σ pc lv (.ref (a k) :: st) :=
  z_get (ci := 2) (j := 1) F hk (by decide) rfl inTB2 (by decide) (tbm 121 (by decide +kernel) rfl) rfl rfl rfl d z
theorem gf2_24 {k : Nat} (F : Fx p s m args meth c cc nL RX2 rt R cz sz g a) (hk : kd k = 2) (d : decode cc pc = .ok (.getfield 24, 3)) (z : Z p l e R s m args below meth c Q nL g a cz sz σ (pc + 3) lv (.int (σ k 2) :: st)) : Z p l e R s m args below meth c Q nL g a cz sz σ pc lv (.ref (a k) :: st) :=
  z_get (ci := 2) (j := 2) F hk (by decide) rfl inTB2 (by decide) (tbm 123 (by decide +kernel) rfl) rfl rfl rfl d z
theorem gf2_27 {k : Nat} (F : Fx p s m args meth c cc nL RX2 rt R cz sz g a) (hk : kd k = 2) (d : decode cc pc = .ok (.getfield 27, 3)) (z : Z p l e R s m args below meth c Q nL g a cz sz σ (pc + 3) lv (.int (σ k 3) :: st)) : Z p l e R s m args below meth c Q nL g a cz sz σ pc lv (.ref (a k) :: st) :=
  z_get (ci := 2) (j := 3) F hk (by decide) rfl inTB2 (by decide) (tbm 125 (by decide +kernel) rfl) rfl rfl rfl d z
theorem gf2_33 {k : Nat} (F : Fx p s m args meth c cc nL RX2 rt R cz sz g a) (hk : kd k = 2) (d : decode cc pc = .ok (.getfield 33, 3)) (z : Z p l e R s m args below meth c Q nL g a cz sz σ (pc + 3) lv (.int (σ k 5) :: st)) : Z p l e R s m args below meth c Q nL g a cz sz σ pc lv (.ref (a k) :: st) :=
  z_get (ci := 2) (j := 5) F hk (by decide) rfl inTB2 (by decide) (tbm 128 (by decide +kernel) rfl) rfl rfl rfl d z
theorem gf3_15 {k : Nat} (F : Fx p s m args meth c cc nL RX3 rt R cz sz g a) (hk : kd k = 3) (d : decode cc pc = .ok (.getfield 15, 3)) (z : Z p l e R s m args below meth c Q nL g a cz sz σ (pc + 3) lv (.ref (a (k + 2)) :: st)) : Z p l e R s m args below meth c Q nL g a cz sz σ pc lv (.ref (a k) :: st) :=
  z_get (ci := 3) (j := 1) F hk (by decide) rfl inTB3 (by decide) (tbm 193 (by decide +kernel) rfl) rfl rfl rfl d z
theorem gf3_18 {k : Nat} (F : Fx p s m args meth c cc nL RX3 rt R cz sz g a) (hk : kd k = 3) (d : decode cc pc = .ok (.getfield 18, 3)) (z : Z p l e R s m args below meth c Q nL g a cz sz σ (pc + 3) lv (.ref (a (k + 3)) :: st)) : Z p l e R s m args below meth c Q nL g a cz sz σ pc lv (.ref (a k) :: st) :=
  z_get (ci := 3) (j := 2) F hk (by decide) rfl inTB3 (by decide) (tbm 194 (by decide +kernel) rfl) rfl rfl rfl d z
theorem gf3_21 {k : Nat} (F : Fx p s m args meth c cc nL RX3 rt R cz sz g a) (hk : kd k = 3) (d : decode cc pc = .ok (.getfield 21, 3)) (z : Z p l e R s m args below meth c Q nL g a cz sz σ (pc + 3) lv (.int (σ k 3) :: st)) : Z p l e R s m args below meth c Q nL g a cz sz σ pc lv (.ref (a k) :: st) :=
  z_get (ci := 3) (j := 3) F hk (by decide) rfl inTB3 (by decide) (tbm 195 (by decide +kernel) rfl) rfl rfl rfl d z
theorem gf3_9 {k : Nat} (F : Fx p s m args meth c cc nL RX3 rt R cz sz g a) (hk : kd k = 3) (d : decode cc pc = .ok (.getfield 9, 3)) (z : Z p l e R s m args below meth c Q nL g a cz sz σ (pc + 3) lv (.ref (a (k + 1)) :: st)) : Z p l e R s m args below meth c Q nL g a cz sz σ pc lv (.ref (a k) :: st) :=
  z_get (ci := 3) (j := 0) F hk (by decide) rfl inTB3 (by decide) (tbm 192 (by decide +kernel) rfl) rfl rfl rfl d z
theorem gf4_15 {k : Nat} (F : Fx p s m args meth c cc nL RX4 rt R cz sz g a) (hk : kd k = 4) (d : decode cc pc = .ok (.getfield 15, 3)) (z : Z p l e R s m args below meth c Q nL g a cz sz σ (pc + 3) lv (.int (σ k 0) :: st)) : Z p l e R s m args below meth c Q nL g a cz sz σ pc lv (.ref (a k) :: st) :=
  z_get (ci := 4) (j := 0) F hk (by decide) rfl inTB4 (by decide) (tbm 77 (by decide +kernel) rfl) rfl rfl rfl d z
theorem gf4_18 {k : Nat} (F : Fx p s m args meth c cc nL RX4 rt R cz sz g a) (hk : kd k = 4) (d : decode cc pc = .ok (.getfield 18, 3)) (z : Z p l e R s m args below meth c Q nL g a cz sz σ (pc + 3) lv (.ref (a (k + 1)) :: st)) : Z p l e R s m args below meth c Q nL g a cz sz σ pc lv (.ref (a k) :: st) :=
  z_get (ci := 4) (j := 1) F hk (by decide) rfl inTB4 (by decide) (tbm 78 (by decide +kernel) rfl) rfl rfl rfl d z
theorem gf4_9 {k : Nat} (F : Fx p s m args meth c cc nL RX4 rt R cz sz g a) (hk : kd k = 4) (d : decode cc pc = .ok (.getfield 9, 3)) (z : Z p l e R s m args below meth c Q nL g a cz sz σ (pc + 3) lv (.int (σ k 2) :: st)) : Z p l e R s m args below meth c Q nL g a cz sz σ pc lv (.ref (a k) :: st) :=
  z_get (ci := 4) (j := 2) F hk (by decide) rfl inTB4 (by decide) (tbm 79 (by decide +kernel) rfl) rfl rfl rfl d z
theorem gf5_15 {k : Nat} (F : Fx p s m args meth c cc nL RX5 rt R cz sz g a) (hk : kd k = 5) (d : decode cc pc = .ok (.getfield 15, 3)) (z : Z p l e R s m args below meth c Q nL g a cz sz σ (pc + 3) lv (.int (σ k 1) :: st)) : Z p l e R s m args below meth c Q nL g a cz sz σ pc lv (.ref (a k) :: st) :=
  z_get (ci := 5) (j := 1) F hk (by decide) rfl inTB5 (by decide) (tbm 214 (by decide +kernel) rfl) rfl rfl rfl d z
theorem gf5_19 {k : Nat} (F : Fx p s m args meth c cc nL RX5 rt R cz sz g a) (hk : kd k = 5) (d : decode cc pc = .ok (.getfield 19, 3)) (z : Z p l e R s m args below meth c Q nL g a cz sz σ (pc + 3) lv (.int (σ k 2) :: st)) : Z p l e R s m args below meth c Q nL g a cz sz σ pc lv (.ref (a k) :: st) :=
  z_get (ci := 5) (j := 2) F hk (by decide) rfl inTB5 (by decide) (tbm 216 (by decide +kernel) rfl) rfl rfl rfl d z
theorem gf5_23 {k : Nat} (F : Fx p s m args meth c cc nL RX5 rt R cz sz g a) (hk : kd k = 5) (d : decode cc pc = .ok (.getfield 23, 3)) (z : Z p l e R s m args below meth c Q nL g a cz sz σ (pc + 3) lv (.int (σ k 3) :: st)) : Z p l e R s m args below meth c Q nL g a cz sz σ pc lv (.ref (a k) :: st) :=
  z_get (ci := 5) (j := 3) F hk (by decide) rfl inTB5 (by decide) (tbm 218 (by decide +kernel) rfl) rfl rfl rfl d z
theorem gf5_9 {k : Nat} (F : Fx p s m args meth c cc nL RX5 rt R cz sz g a) (hk : kd k = 5) (d : decode cc pc = .ok (.getfield 9, 3)) (z : Z p l e R s m args below meth c Q nL g a cz sz σ (pc + 3) lv (.ref (a (k + 1)) :: st)) : Z p l e R s m args below meth c Q nL g a cz sz σ pc lv (.ref (a k) :: st) :=
  z_get (ci := 5) (j := 0) F hk (by decide) rfl inTB5 (by decide) (tbm 212 (by decide +kernel) rfl) rfl rfl rfl d z
theorem gf6_15 {k : Nat} (F : Fx p s m args meth c cc nL RX6 rt R cz sz g a) (hk : kd k = 6) (d : decode cc pc = .ok (.getfield 15, 3)) (z : Z p l e R s m args below meth c Q nL g a cz sz σ (pc + 3) lv (.ref (a (k + 2)) :: st)) : Z p l e R s m args below meth c Q nL g a cz sz σ pc lv (.ref (a k) :: st) :=
  z_get (ci := 6) (j := 4) F hk (by decide) rfl inTB6 (by decide) (tbm 37 (by decide +kernel) rfl) rfl rfl rfl d z
theorem gf6_18 {k : Nat} (F : Fx p s m args meth c cc nL RX6 rt R cz sz g a) (hk : kd k = 6) (d : decode cc pc = .ok (.getfield 18, 3)) (z : Z p l e R s m args below meth c Q nL g a cz sz σ (pc + 3) lv (.int (σ k 5) :: st)) : Z p l e R s m args below meth c Q nL g a cz sz σ pc lv (.ref (a k) :: st) :=
  z_get (ci := 6) (j := 5) F hk (by decide) rfl inTB6 (by decide) (tbm 38 (by decide +kernel) rfl) rfl rfl rfl d z
theorem gf6_22 {k : Nat} (F : Fx p s m args meth c cc nL RX6 rt R cz sz g a) (hk : kd k = 6) (d : decode cc pc = .ok (.getfield 22, 3)) (z : Z p l e R s m args below meth c Q nL g a cz sz σ (pc + 3) lv (.int (σ k 6) :: st)) : Z p l e R s m args below meth c Q nL g a cz sz σ pc lv (.ref (a k) :: st) :=
  z_get (ci := 6) (j := 6) F hk (by decide) rfl inTB6 (by decide) (tbm 40 (by decide +kernel) rfl) rfl rfl rfl d z
theorem gf6_25 {k : Nat} (F : Fx p s m args meth c cc nL RX6 rt R cz sz g a) (hk : kd k = 6) (d : decode cc pc = .ok (.getfield 25, 3)) (z : Z p l e R s m args below meth c Q nL g a cz sz σ (pc + 3) lv (.int (σ k 7) :: st)) : Z p l e R s m args below meth c Q nL g a cz sz σ pc lv (.ref (a k) :: st) :=
  z_get (ci := 6) (j := 7) F hk (by decide) rfl inTB6 (by decide) (tbm 42 (by decide +kernel) rfl) rfl rfl rfl d z
theorem gf6_28 {k : Nat} (F : Fx p s m args meth c cc nL RX6 rt R cz sz g a) (hk : kd k = 6) (d : decode cc pc = .ok (.getfield 28, 3)) (z : Z p l e R s m args below meth c Q nL g a cz sz σ (pc + 3) lv (.ref (a (98 + (k - 26) / 3)) :: st)) : Z p l e R s m args below meth c Q nL g a cz sz σ pc lv (.ref (a k) :: st) :=
  z_get (ci := 6) (j := 0) F hk (by decide) rfl inTB6 (by decide) (tbm 33 (by decide +kernel) rfl) rfl rfl rfl d z
theorem gf6_32 {k : Nat} (F : Fx p s m args meth c cc nL RX6 rt R cz sz g a) (hk : kd k = 6) (d : decode cc pc = .ok (.getfield 32, 3)) (z : Z p l e R s m args below meth c Q nL g a cz sz σ (pc + 3) lv (.int (σ k 1) :: st)) : Z p l e R s m args below meth c Q nL g a cz sz σ pc lv (.ref (a k) :: st) :=
  z_get (ci := 6) (j := 1) F hk (by decide) rfl inTB6 (by decide) (tbm 34 (by decide +kernel) rfl) rfl rfl rfl d z
theorem gf6_35 {k : Nat} (F : Fx p s m args meth c cc nL RX6 rt R cz sz g a) (hk : kd k = 6) (d : decode cc pc = .ok (.getfield 35, 3)) (z : Z p l e R s m args below meth c Q nL g a cz sz σ (pc + 3) lv (.int (σ k 2) :: st)) : Z p l e R s m args below meth c Q nL g a cz sz σ pc lv (.ref (a k) :: st) :=
  z_get (ci := 6) (j := 2) F hk (by decide) rfl inTB6 (by decide) (tbm 35 (by decide +kernel) rfl) rfl rfl rfl d z
theorem gf6_9 {k : Nat} (F : Fx p s m args meth c cc nL RX6 rt R cz sz g a) (hk : kd k = 6) (d : decode cc pc = .ok (.getfield 9, 3)) (z : Z p l e R s m args below meth c Q nL g a cz sz σ (pc + 3) lv (.ref (a (k + 1)) :: st)) : Z p l e R s m args below meth c Q nL g a cz sz σ pc lv (.ref (a k) :: st) :=
  z_get (ci := 6) (j := 3) F hk (by decide) rfl inTB6 (by decide) (tbm 36 (by decide +kernel) rfl) rfl rfl rfl d z
theorem gf7_101 {k : Nat} (F : Fx p s m args meth c cc nL RX7 rt R cz sz g a) (hk : kd k = 6) (d : decode cc pc = .ok (.getfield 101, 3)) (z : Z p l e R s m args below meth c Q nL g a cz sz σ (pc + 3) lv (.int (σ k 6) :: st)) : Z p l e R s m args below meth c Q nL g a cz sz σ pc lv (.ref (a k) :: st) :=
  z_getN (host := "HoleBank") (ci := 6) (j := 6) F hk (by decide) rfl inTB6 (by decide) (nlm 41 (by decide +kernel) rfl) rfl rfl rfl d z
theorem gf7_119 {k : Nat} (F : Fx p s m args meth c cc nL RX7 rt R cz sz g a) (hk : kd k = 0) (d : decode cc pc = .ok (.getfield 119, 3)) (z : Z p l e R s m args below meth c Q nL g a cz sz σ (pc + 3) lv (.ref (a (k + 1)) :: st)) : Z p l e R s m args below meth c Q nL g a cz sz σ pc lv (.ref (a k) :: st) :=
  z_getN (host := "HoleBank") (ci := 0) (j := 0) F hk (by decide) rfl inTB0 (by decide) (nlm 91 (by decide +kernel) rfl) rfl rfl rfl d z
theorem gf7_130 {k : Nat} (F : Fx p s m args meth c cc nL RX7 rt R cz sz g a) (hk : kd k = 0) (d : decode cc pc = .ok (.getfield 130, 3)) (z : Z p l e R s m args below meth c Q nL g a cz sz σ (pc + 3) lv (.ref (a (k + 3)) :: st)) : Z p l e R s m args below meth c Q nL g a cz sz σ pc lv (.ref (a k) :: st) :=
  z_getN (host := "HoleBank") (ci := 0) (j := 1) F hk (by decide) rfl inTB0 (by decide) (nlm 94 (by decide +kernel) rfl) rfl rfl rfl d z
theorem gf7_137 {k : Nat} (F : Fx p s m args meth c cc nL RX7 rt R cz sz g a) (hk : kd k = 0) (d : decode cc pc = .ok (.getfield 137, 3)) (z : Z p l e R s m args below meth c Q nL g a cz sz σ (pc + 3) lv (.ref (a (k + 5)) :: st)) : Z p l e R s m args below meth c Q nL g a cz sz σ pc lv (.ref (a k) :: st) :=
  z_getN (host := "HoleBank") (ci := 0) (j := 2) F hk (by decide) rfl inTB0 (by decide) (nlm 97 (by decide +kernel) rfl) rfl rfl rfl d z
theorem gf7_140 {k : Nat} (F : Fx p s m args meth c cc nL RX7 rt R cz sz g a) (hk : kd k = 4) (d : decode cc pc = .ok (.getfield 140, 3)) (z : Z p l e R s m args below meth c Q nL g a cz sz σ (pc + 3) lv (.int (σ k 2) :: st)) : Z p l e R s m args below meth c Q nL g a cz sz σ pc lv (.ref (a k) :: st) :=
  z_getN (host := "HoleBank") (ci := 4) (j := 2) F hk (by decide) rfl inTB4 (by decide) (nlm 81 (by decide +kernel) rfl) rfl rfl rfl d z
theorem gf7_146 {k : Nat} (F : Fx p s m args meth c cc nL RX7 rt R cz sz g a) (hk : kd k = 5) (d : decode cc pc = .ok (.getfield 146, 3)) (z : Z p l e R s m args below meth c Q nL g a cz sz σ (pc + 3) lv (.int (σ k 1) :: st)) : Z p l e R s m args below meth c Q nL g a cz sz σ pc lv (.ref (a k) :: st) :=
  z_getN (host := "HoleBank") (ci := 5) (j := 1) F hk (by decide) rfl inTB5 (by decide) (nlm 215 (by decide +kernel) rfl) rfl rfl rfl d z
theorem gf7_152 {k : Nat} (F : Fx p s m args meth c cc nL RX7 rt R cz sz g a) (hk : kd k = 5) (d : decode cc pc = .ok (.getfield 152, 3)) (z : Z p l e R s m args below meth c Q nL g a cz sz σ (pc + 3) lv (.int (σ k 3) :: st)) : Z p l e R s m args below meth c Q nL g a cz sz σ pc lv (.ref (a k) :: st) :=
  z_getN (host := "HoleBank") (ci := 5) (j := 3) F hk (by decide) rfl inTB5 (by decide) (nlm 219 (by decide +kernel) rfl) rfl rfl rfl d z
theorem gf7_16 {k : Nat} (F : Fx p s m args meth c cc nL RX7 rt R cz sz g a) (hk : kd k = 7) (d : decode cc pc = .ok (.getfield 16, 3)) (z : Z p l e R s m args below meth c Q nL g a cz sz σ (pc + 3) lv (.ref (a (k + 1)) :: st)) : Z p l e R s m args below meth c Q nL g a cz sz σ pc lv (.ref (a k) :: st) :=
  z_get (ci := 7) (j := 0) F hk (by decide) rfl inTB7 (by decide) (tbm 229 (by decide +kernel) rfl) rfl rfl rfl d z
theorem gf7_178 {k : Nat} (F : Fx p s m args meth c cc nL RX7 rt R cz sz g a) (hk : kd k = 1) (d : decode cc pc = .ok (.getfield 178, 3)) (z : Z p l e R s m args below meth c Q nL g a cz sz σ (pc + 3) lv (.ref (a (k + 6)) :: st)) : Z p l e R s m args below meth c Q nL g a cz sz σ pc lv (.ref (a k) :: st) :=
  z_getN (host := "HoleBank") (ci := 1) (j := 5) F hk (by decide) rfl inTB1 (by decide) (nlm 157 (by decide +kernel) rfl) rfl rfl rfl d z
theorem gf7_181 {k : Nat} (F : Fx p s m args meth c cc nL RX7 rt R cz sz g a) (hk : kd k = 1) (d : decode cc pc = .ok (.getfield 181, 3)) (z : Z p l e R s m args below meth c Q nL g a cz sz σ (pc + 3) lv (.ref (a (k + 7)) :: st)) : Z p l e R s m args below meth c Q nL g a cz sz σ pc lv (.ref (a k) :: st) :=
  z_getN (host := "HoleBank") (ci := 1) (j := 6) F hk (by decide) rfl inTB1 (by decide) (nlm 159 (by decide +kernel) rfl) rfl rfl rfl d z
theorem gf7_184 {k : Nat} (F : Fx p s m args meth c cc nL RX7 rt R cz sz g a) (hk : kd k = 1) (d : decode cc pc = .ok (.getfield 184, 3)) (z : Z p l e R s m args below meth c Q nL g a cz sz σ (pc + 3) lv (.ref (a (k + 8)) :: st)) : Z p l e R s m args below meth c Q nL g a cz sz σ pc lv (.ref (a k) :: st) :=
  z_getN (host := "HoleBank") (ci := 1) (j := 7) F hk (by decide) rfl inTB1 (by decide) (nlm 161 (by decide +kernel) rfl) rfl rfl rfl d z
theorem gf7_187 {k : Nat} (F : Fx p s m args meth c cc nL RX7 rt R cz sz g a) (hk : kd k = 1) (d : decode cc pc = .ok (.getfield 187, 3)) (z : Z p l e R s m args below meth c Q nL g a cz sz σ (pc + 3) lv (.ref (a (k + 9)) :: st)) : Z p l e R s m args below meth c Q nL g a cz sz σ pc lv (.ref (a k) :: st) :=
  z_getN (host := "HoleBank") (ci := 1) (j := 8) F hk (by decide) rfl inTB1 (by decide) (nlm 163 (by decide +kernel) rfl) rfl rfl rfl d z
theorem gf7_190 {k : Nat} (F : Fx p s m args meth c cc nL RX7 rt R cz sz g a) (hk : kd k = 6) (d : decode cc pc = .ok (.getfield 190, 3)) (z : Z p l e R s m args below meth c Q nL g a cz sz σ (pc + 3) lv (.int (σ k 7) :: st)) : Z p l e R s m args below meth c Q nL g a cz sz σ pc lv (.ref (a k) :: st) :=
  z_getN (host := "HoleBank") (ci := 6) (j := 7) F hk (by decide) rfl inTB6 (by decide) (nlm 44 (by decide +kernel) rfl) rfl rfl rfl d z
theorem gf7_22 {k : Nat} (F : Fx p s m args meth c cc nL RX7 rt R cz sz g a) (hk : kd k = 7) (d : decode cc pc = .ok (.getfield 22, 3)) (z : Z p l e R s m args below meth c Q nL g a cz sz σ (pc + 3) lv (.ref (a (k + 4)) :: st)) : Z p l e R s m args below meth c Q nL g a cz sz σ pc lv (.ref (a k) :: st) :=
  z_get (ci := 7) (j := 1) F hk (by decide) rfl inTB7 (by decide) (tbm 230 (by decide +kernel) rfl) rfl rfl rfl d z
theorem gf7_285 {k : Nat} (F : Fx p s m args meth c cc nL RX7 rt R cz sz g a) (hk : kd k = 5) (d : decode cc pc = .ok (.getfield 285, 3)) (z : Z p l e R s m args below meth c Q nL g a cz sz σ (pc + 3) lv (.int (σ k 2) :: st)) : Z p l e R s m args below meth c Q nL g a cz sz σ pc lv (.ref (a k) :: st) :=
  z_getN (host := "HoleBank") (ci := 5) (j := 2) F hk (by decide) rfl inTB5 (by decide) (nlm 217 (by decide +kernel) rfl) rfl rfl rfl d z
theorem gf7_291 {k : Nat} (F : Fx p s m args meth c cc nL RX7 rt R cz sz g a) (hk : kd k = 5) (d : decode cc pc = .ok (.getfield 291, 3)) (z : Z p l e R s m args below meth c Q nL g a cz sz σ (pc + 3) lv (.ref (a (k + 1)) :: st)) : Z p l e R s m args below meth c Q nL g a cz sz σ pc lv (.ref (a k) :: st) :=
  z_getN (host := "HoleBank") (ci := 5) (j := 0) F hk (by decide) rfl inTB5 (by decide) (nlm 213 (by decide +kernel) rfl) rfl rfl rfl d z
theorem gf7_30 {k : Nat} (F : Fx p s m args meth c cc nL RX7 rt R cz sz g a) (hk : kd k = 7) (d : decode cc pc = .ok (.getfield 30, 3)) (z : Z p l e R s m args below meth c Q nL g a cz sz σ (pc + 3) lv (.ref (a (k + 7)) :: st)) : Z p l e R s m args below meth c Q nL g a cz sz σ pc lv (.ref (a k) :: st) :=
  z_get (ci := 7) (j := 2) F hk (by decide) rfl inTB7 (by decide) (tbm 231 (by decide +kernel) rfl) rfl rfl rfl d z
theorem gf7_37 {k : Nat} (F : Fx p s m args meth c cc nL RX7 rt R cz sz g a) (hk : kd k = 7) (d : decode cc pc = .ok (.getfield 37, 3)) (z : Z p l e R s m args below meth c Q nL g a cz sz σ (pc + 3) lv (.ref (a (k + 21)) :: st)) : Z p l e R s m args below meth c Q nL g a cz sz σ pc lv (.ref (a k) :: st) :=
  z_get (ci := 7) (j := 3) F hk (by decide) rfl inTB7 (by decide) (tbm 232 (by decide +kernel) rfl) rfl rfl rfl d z
theorem gf7_44 {k : Nat} (F : Fx p s m args meth c cc nL RX7 rt R cz sz g a) (hk : kd k = 7) (d : decode cc pc = .ok (.getfield 44, 3)) (z : Z p l e R s m args below meth c Q nL g a cz sz σ (pc + 3) lv (.ref (a (k + 23)) :: st)) : Z p l e R s m args below meth c Q nL g a cz sz σ pc lv (.ref (a k) :: st) :=
  z_get (ci := 7) (j := 4) F hk (by decide) rfl inTB7 (by decide) (tbm 233 (by decide +kernel) rfl) rfl rfl rfl d z
theorem gf7_48 {k : Nat} (F : Fx p s m args meth c cc nL RX7 rt R cz sz g a) (hk : kd k = 7) (d : decode cc pc = .ok (.getfield 48, 3)) (z : Z p l e R s m args below meth c Q nL g a cz sz σ (pc + 3) lv (.int (σ k 5) :: st)) : Z p l e R s m args below meth c Q nL g a cz sz σ pc lv (.ref (a k) :: st) :=
  z_get (ci := 7) (j := 5) F hk (by decide) rfl inTB7 (by decide) (tbm 234 (by decide +kernel) rfl) rfl rfl rfl d z
theorem gf7_52 {k : Nat} (F : Fx p s m args meth c cc nL RX7 rt R cz sz g a) (hk : kd k = 7) (d : decode cc pc = .ok (.getfield 52, 3)) (z : Z p l e R s m args below meth c Q nL g a cz sz σ (pc + 3) lv (.ref (a (k + 14)) :: st)) : Z p l e R s m args below meth c Q nL g a cz sz σ pc lv (.ref (a k) :: st) :=
  z_get (ci := 7) (j := 6) F hk (by decide) rfl inTB7 (by decide) (tbm 235 (by decide +kernel) rfl) rfl rfl rfl d z
theorem gf7_55 {k : Nat} (F : Fx p s m args meth c cc nL RX7 rt R cz sz g a) (hk : kd k = 7) (d : decode cc pc = .ok (.getfield 55, 3)) (z : Z p l e R s m args below meth c Q nL g a cz sz σ (pc + 3) lv (.ref (a (k + 41)) :: st)) : Z p l e R s m args below meth c Q nL g a cz sz σ pc lv (.ref (a k) :: st) :=
  z_get (ci := 7) (j := 7) F hk (by decide) rfl inTB7 (by decide) (tbm 236 (by decide +kernel) rfl) rfl rfl rfl d z
theorem gf7_61 {k : Nat} (F : Fx p s m args meth c cc nL RX7 rt R cz sz g a) (hk : kd k = 7) (d : decode cc pc = .ok (.getfield 61, 3)) (z : Z p l e R s m args below meth c Q nL g a cz sz σ (pc + 3) lv (.ref (a (k + 59)) :: st)) : Z p l e R s m args below meth c Q nL g a cz sz σ pc lv (.ref (a k) :: st) :=
  z_get (ci := 7) (j := 8) F hk (by decide) rfl inTB7 (by decide) (tbm 237 (by decide +kernel) rfl) rfl rfl rfl d z
theorem gf7_65 {k : Nat} (F : Fx p s m args meth c cc nL RX7 rt R cz sz g a) (hk : kd k = 7) (d : decode cc pc = .ok (.getfield 65, 3)) (z : Z p l e R s m args below meth c Q nL g a cz sz σ (pc + 3) lv (.ref (a (k + 63)) :: st)) : Z p l e R s m args below meth c Q nL g a cz sz σ pc lv (.ref (a k) :: st) :=
  z_get (ci := 7) (j := 9) F hk (by decide) rfl inTB7 (by decide) (tbm 238 (by decide +kernel) rfl) rfl rfl rfl d z
theorem gf7_71 {k : Nat} (F : Fx p s m args meth c cc nL RX7 rt R cz sz g a) (hk : kd k = 7) (d : decode cc pc = .ok (.getfield 71, 3)) (z : Z p l e R s m args below meth c Q nL g a cz sz σ (pc + 3) lv (.ref (a (k + 64)) :: st)) : Z p l e R s m args below meth c Q nL g a cz sz σ pc lv (.ref (a k) :: st) :=
  z_get (ci := 7) (j := 10) F hk (by decide) rfl inTB7 (by decide) (tbm 239 (by decide +kernel) rfl) rfl rfl rfl d z
theorem gf7_75 {k : Nat} (F : Fx p s m args meth c cc nL RX7 rt R cz sz g a) (hk : kd k = 7) (d : decode cc pc = .ok (.getfield 75, 3)) (z : Z p l e R s m args below meth c Q nL g a cz sz σ (pc + 3) lv (.int (σ k 11) :: st)) : Z p l e R s m args below meth c Q nL g a cz sz σ pc lv (.ref (a k) :: st) :=
  z_get (ci := 7) (j := 11) F hk (by decide) rfl inTB7 (by decide) (tbm 240 (by decide +kernel) rfl) rfl rfl rfl d z
theorem gf7_79 {k : Nat} (F : Fx p s m args meth c cc nL RX7 rt R cz sz g a) (hk : kd k = 7) (d : decode cc pc = .ok (.getfield 79, 3)) (z : Z p l e R s m args below meth c Q nL g a cz sz σ (pc + 3) lv (.int (σ k 12) :: st)) : Z p l e R s m args below meth c Q nL g a cz sz σ pc lv (.ref (a k) :: st) :=
  z_get (ci := 7) (j := 12) F hk (by decide) rfl inTB7 (by decide) (tbm 241 (by decide +kernel) rfl) rfl rfl rfl d z
theorem gf7_91 {k : Nat} (F : Fx p s m args meth c cc nL RX7 rt R cz sz g a) (hk : kd k = 6) (d : decode cc pc = .ok (.getfield 91, 3)) (z : Z p l e R s m args below meth c Q nL g a cz sz σ (pc + 3) lv (.int (σ k 5) :: st)) : Z p l e R s m args below meth c Q nL g a cz sz σ pc lv (.ref (a k) :: st) :=
  z_getN (host := "HoleBank") (ci := 6) (j := 5) F hk (by decide) rfl inTB6 (by decide) (nlm 39 (by decide +kernel) rfl) rfl rfl rfl d z
theorem gf8_13 {k : Nat} (F : Fx p s m args meth c cc nL RX8 rt R cz sz g a) (hk : kd k = 8) (d : decode cc pc = .ok (.getfield 13, 3)) (z : Z p l e R s m args below meth c Q nL g a cz sz σ (pc + 3) lv (.ref (a (k + 2)) :: st)) : Z p l e R s m args below meth c Q nL g a cz sz σ pc lv (.ref (a k) :: st) :=
  z_get (ci := 8) (j := 1) F hk (by decide) rfl inTB8 (by decide) (tbm 811 (by decide +kernel) rfl) rfl rfl rfl d z
theorem gf8_151 {k : Nat} (F : Fx p s m args meth c cc nL RX8 rt R cz sz g a) (hk : kd k = 8) (d : decode cc pc = .ok (.getfield 151, 3)) (z : Z p l e R s m args below meth c Q nL g a cz sz σ (pc + 3) lv (.int (σ k 9) :: st)) : Z p l e R s m args below meth c Q nL g a cz sz σ pc lv (.ref (a k) :: st) :=
  z_get (ci := 8) (j := 9) F hk (by decide) rfl inTB8 (by decide) (tbm 819 (by decide +kernel) rfl) rfl rfl rfl d z
theorem gf8_16 {k : Nat} (F : Fx p s m args meth c cc nL RX8 rt R cz sz g a) (hk : kd k = 8) (d : decode cc pc = .ok (.getfield 16, 3)) (z : Z p l e R s m args below meth c Q nL g a cz sz σ (pc + 3) lv (.ref (a (k + 3)) :: st)) : Z p l e R s m args below meth c Q nL g a cz sz σ pc lv (.ref (a k) :: st) :=
  z_get (ci := 8) (j := 2) F hk (by decide) rfl inTB8 (by decide) (tbm 812 (by decide +kernel) rfl) rfl rfl rfl d z
theorem gf8_168 {k : Nat} (F : Fx p s m args meth c cc nL RX8 rt R cz sz g a) (hk : kd k = 8) (d : decode cc pc = .ok (.getfield 168, 3)) (z : Z p l e R s m args below meth c Q nL g a cz sz σ (pc + 3) lv (.int (σ k 11) :: st)) : Z p l e R s m args below meth c Q nL g a cz sz σ pc lv (.ref (a k) :: st) :=
  z_get (ci := 8) (j := 11) F hk (by decide) rfl inTB8 (by decide) (tbm 821 (by decide +kernel) rfl) rfl rfl rfl d z
theorem gf8_171 {k : Nat} (F : Fx p s m args meth c cc nL RX8 rt R cz sz g a) (hk : kd k = 8) (d : decode cc pc = .ok (.getfield 171, 3)) (z : Z p l e R s m args below meth c Q nL g a cz sz σ (pc + 3) lv (.int (σ k 13) :: st)) : Z p l e R s m args below meth c Q nL g a cz sz σ pc lv (.ref (a k) :: st) :=
  z_get (ci := 8) (j := 13) F hk (by decide) rfl inTB8 (by decide) (tbm 823 (by decide +kernel) rfl) rfl rfl rfl d z
theorem gf8_183 {k : Nat} (F : Fx p s m args meth c cc nL RX8 rt R cz sz g a) (hk : kd k = 8) (d : decode cc pc = .ok (.getfield 183, 3)) (z : Z p l e R s m args below meth c Q nL g a cz sz σ (pc + 3) lv (.int (σ k 21) :: st)) : Z p l e R s m args below meth c Q nL g a cz sz σ pc lv (.ref (a k) :: st) :=
  z_get (ci := 8) (j := 21) F hk (by decide) rfl inTB8 (by decide) (tbm 831 (by decide +kernel) rfl) rfl rfl rfl d z
theorem gf8_19 {k : Nat} (F : Fx p s m args meth c cc nL RX8 rt R cz sz g a) (hk : kd k = 8) (d : decode cc pc = .ok (.getfield 19, 3)) (z : Z p l e R s m args below meth c Q nL g a cz sz σ (pc + 3) lv (.ref (a (k + 4)) :: st)) : Z p l e R s m args below meth c Q nL g a cz sz σ pc lv (.ref (a k) :: st) :=
  z_get (ci := 8) (j := 3) F hk (by decide) rfl inTB8 (by decide) (tbm 813 (by decide +kernel) rfl) rfl rfl rfl d z
theorem gf8_22 {k : Nat} (F : Fx p s m args meth c cc nL RX8 rt R cz sz g a) (hk : kd k = 8) (d : decode cc pc = .ok (.getfield 22, 3)) (z : Z p l e R s m args below meth c Q nL g a cz sz σ (pc + 3) lv (.ref (a (k + 5)) :: st)) : Z p l e R s m args below meth c Q nL g a cz sz σ pc lv (.ref (a k) :: st) :=
  z_get (ci := 8) (j := 5) F hk (by decide) rfl inTB8 (by decide) (tbm 815 (by decide +kernel) rfl) rfl rfl rfl d z
theorem gf8_25 {k : Nat} (F : Fx p s m args meth c cc nL RX8 rt R cz sz g a) (hk : kd k = 8) (d : decode cc pc = .ok (.getfield 25, 3)) (z : Z p l e R s m args below meth c Q nL g a cz sz σ (pc + 3) lv (.ref (a (k + 6)) :: st)) : Z p l e R s m args below meth c Q nL g a cz sz σ pc lv (.ref (a k) :: st) :=
  z_get (ci := 8) (j := 6) F hk (by decide) rfl inTB8 (by decide) (tbm 816 (by decide +kernel) rfl) rfl rfl rfl d z
theorem gf8_276 {k : Nat} (F : Fx p s m args meth c cc nL RX8 rt R cz sz g a) (hk : kd k = 8) (d : decode cc pc = .ok (.getfield 276, 3)) (z : Z p l e R s m args below meth c Q nL g a cz sz σ (pc + 3) lv (.int (σ k 30) :: st)) : Z p l e R s m args below meth c Q nL g a cz sz σ pc lv (.ref (a k) :: st) :=
  z_get (ci := 8) (j := 30) F hk (by decide) rfl inTB8 (by decide) (tbm 840 (by decide +kernel) rfl) rfl rfl rfl d z
theorem gf8_28 {k : Nat} (F : Fx p s m args meth c cc nL RX8 rt R cz sz g a) (hk : kd k = 8) (d : decode cc pc = .ok (.getfield 28, 3)) (z : Z p l e R s m args below meth c Q nL g a cz sz σ (pc + 3) lv (.ref (a (k + 7)) :: st)) : Z p l e R s m args below meth c Q nL g a cz sz σ pc lv (.ref (a k) :: st) :=
  z_get (ci := 8) (j := 7) F hk (by decide) rfl inTB8 (by decide) (tbm 817 (by decide +kernel) rfl) rfl rfl rfl d z
theorem gf8_307 {k : Nat} (F : Fx p s m args meth c cc nL RX8 rt R cz sz g a) (hk : kd k = 8) (d : decode cc pc = .ok (.getfield 307, 3)) (z : Z p l e R s m args below meth c Q nL g a cz sz σ (pc + 3) lv (.int (σ k 33) :: st)) : Z p l e R s m args below meth c Q nL g a cz sz σ pc lv (.ref (a k) :: st) :=
  z_get (ci := 8) (j := 33) F hk (by decide) rfl inTB8 (by decide) (tbm 843 (by decide +kernel) rfl) rfl rfl rfl d z
theorem gf8_31 {k : Nat} (F : Fx p s m args meth c cc nL RX8 rt R cz sz g a) (hk : kd k = 8) (d : decode cc pc = .ok (.getfield 31, 3)) (z : Z p l e R s m args below meth c Q nL g a cz sz σ (pc + 3) lv (.ref (a (k + 8)) :: st)) : Z p l e R s m args below meth c Q nL g a cz sz σ pc lv (.ref (a k) :: st) :=
  z_get (ci := 8) (j := 8) F hk (by decide) rfl inTB8 (by decide) (tbm 818 (by decide +kernel) rfl) rfl rfl rfl d z
theorem gf8_34 {k : Nat} (F : Fx p s m args meth c cc nL RX8 rt R cz sz g a) (hk : kd k = 8) (d : decode cc pc = .ok (.getfield 34, 3)) (z : Z p l e R s m args below meth c Q nL g a cz sz σ (pc + 3) lv (.ref (a (k + 9)) :: st)) : Z p l e R s m args below meth c Q nL g a cz sz σ pc lv (.ref (a k) :: st) :=
  z_get (ci := 8) (j := 10) F hk (by decide) rfl inTB8 (by decide) (tbm 820 (by decide +kernel) rfl) rfl rfl rfl d z
theorem gf8_37 {k : Nat} (F : Fx p s m args meth c cc nL RX8 rt R cz sz g a) (hk : kd k = 8) (d : decode cc pc = .ok (.getfield 37, 3)) (z : Z p l e R s m args below meth c Q nL g a cz sz σ (pc + 3) lv (.ref (a (k + 10)) :: st)) : Z p l e R s m args below meth c Q nL g a cz sz σ pc lv (.ref (a k) :: st) :=
  z_get (ci := 8) (j := 12) F hk (by decide) rfl inTB8 (by decide) (tbm 822 (by decide +kernel) rfl) rfl rfl rfl d z
theorem gf8_40 {k : Nat} (F : Fx p s m args meth c cc nL RX8 rt R cz sz g a) (hk : kd k = 8) (d : decode cc pc = .ok (.getfield 40, 3)) (z : Z p l e R s m args below meth c Q nL g a cz sz σ (pc + 3) lv (.ref (a (k + 11)) :: st)) : Z p l e R s m args below meth c Q nL g a cz sz σ pc lv (.ref (a k) :: st) :=
  z_get (ci := 8) (j := 14) F hk (by decide) rfl inTB8 (by decide) (tbm 824 (by decide +kernel) rfl) rfl rfl rfl d z
theorem gf8_43 {k : Nat} (F : Fx p s m args meth c cc nL RX8 rt R cz sz g a) (hk : kd k = 8) (d : decode cc pc = .ok (.getfield 43, 3)) (z : Z p l e R s m args below meth c Q nL g a cz sz σ (pc + 3) lv (.ref (a (k + 12)) :: st)) : Z p l e R s m args below meth c Q nL g a cz sz σ pc lv (.ref (a k) :: st) :=
  z_get (ci := 8) (j := 16) F hk (by decide) rfl inTB8 (by decide) (tbm 826 (by decide +kernel) rfl) rfl rfl rfl d z
theorem gf8_46 {k : Nat} (F : Fx p s m args meth c cc nL RX8 rt R cz sz g a) (hk : kd k = 8) (d : decode cc pc = .ok (.getfield 46, 3)) (z : Z p l e R s m args below meth c Q nL g a cz sz σ (pc + 3) lv (.ref (a (k + 13)) :: st)) : Z p l e R s m args below meth c Q nL g a cz sz σ pc lv (.ref (a k) :: st) :=
  z_get (ci := 8) (j := 17) F hk (by decide) rfl inTB8 (by decide) (tbm 827 (by decide +kernel) rfl) rfl rfl rfl d z
theorem gf8_49 {k : Nat} (F : Fx p s m args meth c cc nL RX8 rt R cz sz g a) (hk : kd k = 8) (d : decode cc pc = .ok (.getfield 49, 3)) (z : Z p l e R s m args below meth c Q nL g a cz sz σ (pc + 3) lv (.ref (a (k + 14)) :: st)) : Z p l e R s m args below meth c Q nL g a cz sz σ pc lv (.ref (a k) :: st) :=
  z_get (ci := 8) (j := 18) F hk (by decide) rfl inTB8 (by decide) (tbm 828 (by decide +kernel) rfl) rfl rfl rfl d z
theorem gf8_52 {k : Nat} (F : Fx p s m args meth c cc nL RX8 rt R cz sz g a) (hk : kd k = 8) (d : decode cc pc = .ok (.getfield 52, 3)) (z : Z p l e R s m args below meth c Q nL g a cz sz σ (pc + 3) lv (.ref (a (k + 15)) :: st)) : Z p l e R s m args below meth c Q nL g a cz sz σ pc lv (.ref (a k) :: st) :=
  z_get (ci := 8) (j := 19) F hk (by decide) rfl inTB8 (by decide) (tbm 829 (by decide +kernel) rfl) rfl rfl rfl d z
theorem gf8_55 {k : Nat} (F : Fx p s m args meth c cc nL RX8 rt R cz sz g a) (hk : kd k = 8) (d : decode cc pc = .ok (.getfield 55, 3)) (z : Z p l e R s m args below meth c Q nL g a cz sz σ (pc + 3) lv (.ref (a (k + 16)) :: st)) : Z p l e R s m args below meth c Q nL g a cz sz σ pc lv (.ref (a k) :: st) :=
  z_get (ci := 8) (j := 20) F hk (by decide) rfl inTB8 (by decide) (tbm 830 (by decide +kernel) rfl) rfl rfl rfl d z
theorem gf8_58 {k : Nat} (F : Fx p s m args meth c cc nL RX8 rt R cz sz g a) (hk : kd k = 8) (d : decode cc pc = .ok (.getfield 58, 3)) (z : Z p l e R s m args below meth c Q nL g a cz sz σ (pc + 3) lv (.ref (a (k + 17)) :: st)) : Z p l e R s m args below meth c Q nL g a cz sz σ pc lv (.ref (a k) :: st) :=
  z_get (ci := 8) (j := 22) F hk (by decide) rfl inTB8 (by decide) (tbm 832 (by decide +kernel) rfl) rfl rfl rfl d z
theorem gf8_61 {k : Nat} (F : Fx p s m args meth c cc nL RX8 rt R cz sz g a) (hk : kd k = 8) (d : decode cc pc = .ok (.getfield 61, 3)) (z : Z p l e R s m args below meth c Q nL g a cz sz σ (pc + 3) lv (.ref (a (k + 18)) :: st)) : Z p l e R s m args below meth c Q nL g a cz sz σ pc lv (.ref (a k) :: st) :=
  z_get (ci := 8) (j := 23) F hk (by decide) rfl inTB8 (by decide) (tbm 833 (by decide +kernel) rfl) rfl rfl rfl d z
theorem gf8_64 {k : Nat} (F : Fx p s m args meth c cc nL RX8 rt R cz sz g a) (hk : kd k = 8) (d : decode cc pc = .ok (.getfield 64, 3)) (z : Z p l e R s m args below meth c Q nL g a cz sz σ (pc + 3) lv (.ref (a (k + 19)) :: st)) : Z p l e R s m args below meth c Q nL g a cz sz σ pc lv (.ref (a k) :: st) :=
  z_get (ci := 8) (j := 24) F hk (by decide) rfl inTB8 (by decide) (tbm 834 (by decide +kernel) rfl) rfl rfl rfl d z
theorem gf8_67 {k : Nat} (F : Fx p s m args meth c cc nL RX8 rt R cz sz g a) (hk : kd k = 8) (d : decode cc pc = .ok (.getfield 67, 3)) (z : Z p l e R s m args below meth c Q nL g a cz sz σ (pc + 3) lv (.ref (a (k + 20)) :: st)) : Z p l e R s m args below meth c Q nL g a cz sz σ pc lv (.ref (a k) :: st) :=
  z_get (ci := 8) (j := 25) F hk (by decide) rfl inTB8 (by decide) (tbm 835 (by decide +kernel) rfl) rfl rfl rfl d z
theorem gf8_7 {k : Nat} (F : Fx p s m args meth c cc nL RX8 rt R cz sz g a) (hk : kd k = 8) (d : decode cc pc = .ok (.getfield 7, 3)) (z : Z p l e R s m args below meth c Q nL g a cz sz σ (pc + 3) lv (.ref (a (k + 1)) :: st)) : Z p l e R s m args below meth c Q nL g a cz sz σ pc lv (.ref (a k) :: st) :=
  z_get (ci := 8) (j := 0) F hk (by decide) rfl inTB8 (by decide) (tbm 810 (by decide +kernel) rfl) rfl rfl rfl d z
theorem gf8_70 {k : Nat} (F : Fx p s m args meth c cc nL RX8 rt R cz sz g a) (hk : kd k = 8) (d : decode cc pc = .ok (.getfield 70, 3)) (z : Z p l e R s m args below meth c Q nL g a cz sz σ (pc + 3) lv (.ref (a (k + 21)) :: st)) : Z p l e R s m args below meth c Q nL g a cz sz σ pc lv (.ref (a k) :: st) :=
  z_get (ci := 8) (j := 28) F hk (by decide) rfl inTB8 (by decide) (tbm 838 (by decide +kernel) rfl) rfl rfl rfl d z
theorem gf8_73 {k : Nat} (F : Fx p s m args meth c cc nL RX8 rt R cz sz g a) (hk : kd k = 8) (d : decode cc pc = .ok (.getfield 73, 3)) (z : Z p l e R s m args below meth c Q nL g a cz sz σ (pc + 3) lv (.ref (a (k + 22)) :: st)) : Z p l e R s m args below meth c Q nL g a cz sz σ pc lv (.ref (a k) :: st) :=
  z_get (ci := 8) (j := 29) F hk (by decide) rfl inTB8 (by decide) (tbm 839 (by decide +kernel) rfl) rfl rfl rfl d z
theorem gf8_76 {k : Nat} (F : Fx p s m args meth c cc nL RX8 rt R cz sz g a) (hk : kd k = 8) (d : decode cc pc = .ok (.getfield 76, 3)) (z : Z p l e R s m args below meth c Q nL g a cz sz σ (pc + 3) lv (.ref (a (k + 23)) :: st)) : Z p l e R s m args below meth c Q nL g a cz sz σ pc lv (.ref (a k) :: st) :=
  z_get (ci := 8) (j := 31) F hk (by decide) rfl inTB8 (by decide) (tbm 841 (by decide +kernel) rfl) rfl rfl rfl d z
theorem gf8_79 {k : Nat} (F : Fx p s m args meth c cc nL RX8 rt R cz sz g a) (hk : kd k = 8) (d : decode cc pc = .ok (.getfield 79, 3)) (z : Z p l e R s m args below meth c Q nL g a cz sz σ (pc + 3) lv (.ref (a (k + 24)) :: st)) : Z p l e R s m args below meth c Q nL g a cz sz σ pc lv (.ref (a k) :: st) :=
  z_get (ci := 8) (j := 32) F hk (by decide) rfl inTB8 (by decide) (tbm 842 (by decide +kernel) rfl) rfl rfl rfl d z
theorem gf8_82 {k : Nat} (F : Fx p s m args meth c cc nL RX8 rt R cz sz g a) (hk : kd k = 8) (d : decode cc pc = .ok (.getfield 82, 3)) (z : Z p l e R s m args below meth c Q nL g a cz sz σ (pc + 3) lv (.int (σ k 15) :: st)) : Z p l e R s m args below meth c Q nL g a cz sz σ pc lv (.ref (a k) :: st) :=
  z_get (ci := 8) (j := 15) F hk (by decide) rfl inTB8 (by decide) (tbm 825 (by decide +kernel) rfl) rfl rfl rfl d z
theorem gf8_86 {k : Nat} (F : Fx p s m args meth c cc nL RX8 rt R cz sz g a) (hk : kd k = 8) (d : decode cc pc = .ok (.getfield 86, 3)) (z : Z p l e R s m args below meth c Q nL g a cz sz σ (pc + 3) lv (.int (σ k 26) :: st)) : Z p l e R s m args below meth c Q nL g a cz sz σ pc lv (.ref (a k) :: st) :=
  z_get (ci := 8) (j := 26) F hk (by decide) rfl inTB8 (by decide) (tbm 836 (by decide +kernel) rfl) rfl rfl rfl d z
theorem gf8_89 {k : Nat} (F : Fx p s m args meth c cc nL RX8 rt R cz sz g a) (hk : kd k = 8) (d : decode cc pc = .ok (.getfield 89, 3)) (z : Z p l e R s m args below meth c Q nL g a cz sz σ (pc + 3) lv (.int (σ k 27) :: st)) : Z p l e R s m args below meth c Q nL g a cz sz σ pc lv (.ref (a k) :: st) :=
  z_get (ci := 8) (j := 27) F hk (by decide) rfl inTB8 (by decide) (tbm 837 (by decide +kernel) rfl) rfl rfl rfl d z
theorem gf8_98 {k : Nat} (F : Fx p s m args meth c cc nL RX8 rt R cz sz g a) (hk : kd k = 8) (d : decode cc pc = .ok (.getfield 98, 3)) (z : Z p l e R s m args below meth c Q nL g a cz sz σ (pc + 3) lv (.int (σ k 4) :: st)) : Z p l e R s m args below meth c Q nL g a cz sz σ pc lv (.ref (a k) :: st) :=
  z_get (ci := 8) (j := 4) F hk (by decide) rfl inTB8 (by decide) (tbm 814 (by decide +kernel) rfl) rfl rfl rfl d z
theorem pf1_114 {k : Nat} {v : Int32} (F : Fx p s m args meth c cc nL RX1 rt R cz sz g a) (hk : kd k = 2) (hv : v = 0 ∨ v = 1) (d : decode cc pc = .ok (.putfield 114, 3)) (z : Z p l e R s m args below meth c Q nL g a cz sz (s2 σ k 7 v) (pc + 3) lv st) : Z p l e R s m args below meth c Q nL g a cz sz σ pc lv (.int v :: .ref (a k) :: st) :=
  z_putN (host := "HoleBank") (ci := 2) (j := 7) (ty := .boolean) F hk (by decide) rfl inTB2 tyX2 tyX2_ok nmX2 (by decide) (nlm 133 (by decide +kernel) rfl) rfl rfl (by decide +kernel) (by rcases hv with rfl | rfl <;> rfl) (by rcases hv with rfl | rfl <;> rfl) rfl (Nat.le_of_ble_eq_true rfl) (by simp [cel, s2]) d z
theorem pf1_118 {k : Nat} {v : Int32} (F : Fx p s m args meth c cc nL RX1 rt R cz sz g a) (hk : kd k = 2) (d : decode cc pc = .ok (.putfield 118, 3)) (z : Z p l e R s m args below meth c Q nL g a cz sz (s2 σ k 1 v) (pc + 3) lv st) : Z p l e R s m args below meth c Q nL g a cz sz σ pc lv (.int v :: .ref (a k) :: st) :=
  z_putN (host := "HoleBank") (ci := 2) (j := 1) (ty := .int) F hk (by decide) rfl inTB2 tyX2 tyX2_ok nmX2 (by decide) (nlm 122 (by decide +kernel) rfl) rfl rfl (by decide +kernel) rfl rfl rfl (Nat.le_of_ble_eq_true rfl) (by simp [cel, s2]) d z
theorem pf1_42 {k : Nat} {v : Int32} (F : Fx p s m args meth c cc nL RX1 rt R cz sz g a) (hk : kd k = 1) (d : decode cc pc = .ok (.putfield 42, 3)) (z : Z p l e R s m args below meth c Q nL g a cz sz (s2 σ k 9 v) (pc + 3) lv st) : Z p l e R s m args below meth c Q nL g a cz sz σ pc lv (.int v :: .ref (a k) :: st) :=
  z_put (ci := 1) (j := 9) (ty := .int) F hk (by decide) rfl inTB1 tyX1 tyX1_ok nmX1 (by decide) (tbm 164 (by decide +kernel) rfl) rfl rfl (by decide +kernel) rfl rfl rfl (Nat.le_of_ble_eq_true rfl) (by simp [cel, s2]) d z
theorem pf1_88 {k : Nat} {v : Int32} (F : Fx p s m args meth c cc nL RX1 rt R cz sz g a) (hk : kd k = 2) (d : decode cc pc = .ok (.putfield 88, 3)) (z : Z p l e R s m args below meth c Q nL g a cz sz (s2 σ k 4 v) (pc + 3) lv st) : Z p l e R s m args below meth c Q nL g a cz sz σ pc lv (.int v :: .ref (a k) :: st) :=
  z_putN (host := "HoleBank") (ci := 2) (j := 4) (ty := .int) F hk (by decide) rfl inTB2 tyX2 tyX2_ok nmX2 (by decide) (nlm 127 (by decide +kernel) rfl) rfl rfl (by decide +kernel) rfl rfl rfl (Nat.le_of_ble_eq_true rfl) (by simp [cel, s2]) d z
theorem pf2_15 {k : Nat} {v : Int32} (F : Fx p s m args meth c cc nL RX2 rt R cz sz g a) (hk : kd k = 2) (d : decode cc pc = .ok (.putfield 15, 3)) (z : Z p l e R s m args below meth c Q nL g a cz sz (s2 σ k 0 v) (pc + 3) lv st) : Z p l e R s m args below meth c Q nL g a cz sz σ pc lv (.int v :: .ref (a k) :: st) :=
  z_put (ci := 2) (j := 0) (ty := .int) F hk (by decide) rfl inTB2 tyX2 tyX2_ok nmX2 (by decide) (tbm 120 (by decide +kernel) rfl) rfl rfl (by decide +kernel) rfl rfl rfl (Nat.le_of_ble_eq_true rfl) (by simp [cel, s2]) d z
theorem pf2_21 {k : Nat} {v : Int32} (F : Fx p s m args meth c cc nL RX2 rt R cz sz g a) (hk : kd k = 2) (d : decode cc pc = .ok (.putfield 21, 3)) (z : Z p l e R s m args below meth c Q nL g a cz sz (s2 σ k 1 v) (pc + 3) lv st) : Z p l e R s m args below meth c Q nL g a cz sz σ pc lv (.int v :: .ref (a k) :: st) :=
  z_put (ci := 2) (j := 1) (ty := .int) F hk (by decide) rfl inTB2 tyX2 tyX2_ok nmX2 (by decide) (tbm 121 (by decide +kernel) rfl) rfl rfl (by decide +kernel) rfl rfl rfl (Nat.le_of_ble_eq_true rfl) (by simp [cel, s2]) d z
theorem pf2_24 {k : Nat} {v : Int32} (F : Fx p s m args meth c cc nL RX2 rt R cz sz g a) (hk : kd k = 2) (d : decode cc pc = .ok (.putfield 24, 3)) (z : Z p l e R s m args below meth c Q nL g a cz sz (s2 σ k 2 v) (pc + 3) lv st) : Z p l e R s m args below meth c Q nL g a cz sz σ pc lv (.int v :: .ref (a k) :: st) :=
  z_put (ci := 2) (j := 2) (ty := .int) F hk (by decide) rfl inTB2 tyX2 tyX2_ok nmX2 (by decide) (tbm 123 (by decide +kernel) rfl) rfl rfl (by decide +kernel) rfl rfl rfl (Nat.le_of_ble_eq_true rfl) (by simp [cel, s2]) d z
theorem pf2_27 {k : Nat} {v : Int32} (F : Fx p s m args meth c cc nL RX2 rt R cz sz g a) (hk : kd k = 2) (d : decode cc pc = .ok (.putfield 27, 3)) (z : Z p l e R s m args below meth c Q nL g a cz sz (s2 σ k 3 v) (pc + 3) lv st) : Z p l e R s m args below meth c Q nL g a cz sz σ pc lv (.int v :: .ref (a k) :: st) :=
  z_put (ci := 2) (j := 3) (ty := .int) F hk (by decide) rfl inTB2 tyX2 tyX2_ok nmX2 (by decide) (tbm 125 (by decide +kernel) rfl) rfl rfl (by decide +kernel) rfl rfl rfl (Nat.le_of_ble_eq_true rfl) (by simp [cel, s2]) d z
theorem pf2_30 {k : Nat} {v : Int32} (F : Fx p s m args meth c cc nL RX2 rt R cz sz g a) (hk : kd k = 2) (d : decode cc pc = .ok (.putfield 30, 3)) (z : Z p l e R s m args below meth c Q nL g a cz sz (s2 σ k 4 v) (pc + 3) lv st) : Z p l e R s m args below meth c Q nL g a cz sz σ pc lv (.int v :: .ref (a k) :: st) :=
  z_put (ci := 2) (j := 4) (ty := .int) F hk (by decide) rfl inTB2 tyX2 tyX2_ok nmX2 (by decide) (tbm 126 (by decide +kernel) rfl) rfl rfl (by decide +kernel) rfl rfl rfl (Nat.le_of_ble_eq_true rfl) (by simp [cel, s2]) d z
theorem pf2_33 {k : Nat} {v : Int32} (F : Fx p s m args meth c cc nL RX2 rt R cz sz g a) (hk : kd k = 2) (d : decode cc pc = .ok (.putfield 33, 3)) (z : Z p l e R s m args below meth c Q nL g a cz sz (s2 σ k 5 v) (pc + 3) lv st) : Z p l e R s m args below meth c Q nL g a cz sz σ pc lv (.int v :: .ref (a k) :: st) :=
  z_put (ci := 2) (j := 5) (ty := .int) F hk (by decide) rfl inTB2 tyX2 tyX2_ok nmX2 (by decide) (tbm 128 (by decide +kernel) rfl) rfl rfl (by decide +kernel) rfl rfl rfl (Nat.le_of_ble_eq_true rfl) (by simp [cel, s2]) d z
theorem pf2_36 {k : Nat} {v : Int32} (F : Fx p s m args meth c cc nL RX2 rt R cz sz g a) (hk : kd k = 2) (d : decode cc pc = .ok (.putfield 36, 3)) (z : Z p l e R s m args below meth c Q nL g a cz sz (s2 σ k 6 v) (pc + 3) lv st) : Z p l e R s m args below meth c Q nL g a cz sz σ pc lv (.int v :: .ref (a k) :: st) :=
  z_put (ci := 2) (j := 6) (ty := .int) F hk (by decide) rfl inTB2 tyX2 tyX2_ok nmX2 (by decide) (tbm 130 (by decide +kernel) rfl) rfl rfl (by decide +kernel) rfl rfl rfl (Nat.le_of_ble_eq_true rfl) (by simp [cel, s2]) d z
theorem pf2_39 {k : Nat} {v : Int32} (F : Fx p s m args meth c cc nL RX2 rt R cz sz g a) (hk : kd k = 2) (hv : v = 0 ∨ v = 1) (d : decode cc pc = .ok (.putfield 39, 3)) (z : Z p l e R s m args below meth c Q nL g a cz sz (s2 σ k 7 v) (pc + 3) lv st) : Z p l e R s m args below meth c Q nL g a cz sz σ pc lv (.int v :: .ref (a k) :: st) :=
  z_put (ci := 2) (j := 7) (ty := .boolean) F hk (by decide) rfl inTB2 tyX2 tyX2_ok nmX2 (by decide) (tbm 132 (by decide +kernel) rfl) rfl rfl (by decide +kernel) (by rcases hv with rfl | rfl <;> rfl) (by rcases hv with rfl | rfl <;> rfl) rfl (Nat.le_of_ble_eq_true rfl) (by simp [cel, s2]) d z
theorem pf3_21 {k : Nat} {v : Int32} (F : Fx p s m args meth c cc nL RX3 rt R cz sz g a) (hk : kd k = 3) (d : decode cc pc = .ok (.putfield 21, 3)) (z : Z p l e R s m args below meth c Q nL g a cz sz (s2 σ k 3 v) (pc + 3) lv st) : Z p l e R s m args below meth c Q nL g a cz sz σ pc lv (.int v :: .ref (a k) :: st) :=
  z_put (ci := 3) (j := 3) (ty := .int) F hk (by decide) rfl inTB3 tyX3 tyX3_ok nmX3 (by decide) (tbm 195 (by decide +kernel) rfl) rfl rfl (by decide +kernel) rfl rfl rfl (Nat.le_of_ble_eq_true rfl) (by simp [cel, s2]) d z
theorem pf4_9 {k : Nat} {v : Int32} (F : Fx p s m args meth c cc nL RX4 rt R cz sz g a) (hk : kd k = 4) (d : decode cc pc = .ok (.putfield 9, 3)) (z : Z p l e R s m args below meth c Q nL g a cz sz (s2 σ k 2 v) (pc + 3) lv st) : Z p l e R s m args below meth c Q nL g a cz sz σ pc lv (.int v :: .ref (a k) :: st) :=
  z_put (ci := 4) (j := 2) (ty := .int) F hk (by decide) rfl inTB4 tyX4 tyX4_ok nmX4 (by decide) (tbm 79 (by decide +kernel) rfl) rfl rfl (by decide +kernel) rfl rfl rfl (Nat.le_of_ble_eq_true rfl) (by simp [cel, s2]) d z
theorem pf5_15 {k : Nat} {v : Int32} (F : Fx p s m args meth c cc nL RX5 rt R cz sz g a) (hk : kd k = 5) (hv : v = 0 ∨ v = 1) (d : decode cc pc = .ok (.putfield 15, 3)) (z : Z p l e R s m args below meth c Q nL g a cz sz (s2 σ k 1 v) (pc + 3) lv st) : Z p l e R s m args below meth c Q nL g a cz sz σ pc lv (.int v :: .ref (a k) :: st) :=
  z_put (ci := 5) (j := 1) (ty := .boolean) F hk (by decide) rfl inTB5 tyX5 tyX5_ok nmX5 (by decide) (tbm 214 (by decide +kernel) rfl) rfl rfl (by decide +kernel) (by rcases hv with rfl | rfl <;> rfl) (by rcases hv with rfl | rfl <;> rfl) rfl (Nat.le_of_ble_eq_true rfl) (by simp [cel, s2]) d z
theorem pf5_19 {k : Nat} {v : Int32} (F : Fx p s m args meth c cc nL RX5 rt R cz sz g a) (hk : kd k = 5) (d : decode cc pc = .ok (.putfield 19, 3)) (z : Z p l e R s m args below meth c Q nL g a cz sz (s2 σ k 2 v) (pc + 3) lv st) : Z p l e R s m args below meth c Q nL g a cz sz σ pc lv (.int v :: .ref (a k) :: st) :=
  z_put (ci := 5) (j := 2) (ty := .int) F hk (by decide) rfl inTB5 tyX5 tyX5_ok nmX5 (by decide) (tbm 216 (by decide +kernel) rfl) rfl rfl (by decide +kernel) rfl rfl rfl (Nat.le_of_ble_eq_true rfl) (by simp [cel, s2]) d z
theorem pf5_23 {k : Nat} {v : Int32} (F : Fx p s m args meth c cc nL RX5 rt R cz sz g a) (hk : kd k = 5) (d : decode cc pc = .ok (.putfield 23, 3)) (z : Z p l e R s m args below meth c Q nL g a cz sz (s2 σ k 3 v) (pc + 3) lv st) : Z p l e R s m args below meth c Q nL g a cz sz σ pc lv (.int v :: .ref (a k) :: st) :=
  z_put (ci := 5) (j := 3) (ty := .int) F hk (by decide) rfl inTB5 tyX5 tyX5_ok nmX5 (by decide) (tbm 218 (by decide +kernel) rfl) rfl rfl (by decide +kernel) rfl rfl rfl (Nat.le_of_ble_eq_true rfl) (by simp [cel, s2]) d z
theorem pf6_18 {k : Nat} {v : Int32} (F : Fx p s m args meth c cc nL RX6 rt R cz sz g a) (hk : kd k = 6) (d : decode cc pc = .ok (.putfield 18, 3)) (z : Z p l e R s m args below meth c Q nL g a cz sz (s2 σ k 5 v) (pc + 3) lv st) : Z p l e R s m args below meth c Q nL g a cz sz σ pc lv (.int v :: .ref (a k) :: st) :=
  z_put (ci := 6) (j := 5) (ty := .int) F hk (by decide) rfl inTB6 tyX6 tyX6_ok nmX6 (by decide) (tbm 38 (by decide +kernel) rfl) rfl rfl (by decide +kernel) rfl rfl rfl (Nat.le_of_ble_eq_true rfl) (by simp [cel, s2]) d z
theorem pf6_22 {k : Nat} {v : Int32} (F : Fx p s m args meth c cc nL RX6 rt R cz sz g a) (hk : kd k = 6) (d : decode cc pc = .ok (.putfield 22, 3)) (z : Z p l e R s m args below meth c Q nL g a cz sz (s2 σ k 6 v) (pc + 3) lv st) : Z p l e R s m args below meth c Q nL g a cz sz σ pc lv (.int v :: .ref (a k) :: st) :=
  z_put (ci := 6) (j := 6) (ty := .int) F hk (by decide) rfl inTB6 tyX6 tyX6_ok nmX6 (by decide) (tbm 40 (by decide +kernel) rfl) rfl rfl (by decide +kernel) rfl rfl rfl (Nat.le_of_ble_eq_true rfl) (by simp [cel, s2]) d z
theorem pf6_25 {k : Nat} {v : Int32} (F : Fx p s m args meth c cc nL RX6 rt R cz sz g a) (hk : kd k = 6) (d : decode cc pc = .ok (.putfield 25, 3)) (z : Z p l e R s m args below meth c Q nL g a cz sz (s2 σ k 7 v) (pc + 3) lv st) : Z p l e R s m args below meth c Q nL g a cz sz σ pc lv (.int v :: .ref (a k) :: st) :=
  z_put (ci := 6) (j := 7) (ty := .int) F hk (by decide) rfl inTB6 tyX6 tyX6_ok nmX6 (by decide) (tbm 42 (by decide +kernel) rfl) rfl rfl (by decide +kernel) rfl rfl rfl (Nat.le_of_ble_eq_true rfl) (by simp [cel, s2]) d z
theorem pf7_146 {k : Nat} {v : Int32} (F : Fx p s m args meth c cc nL RX7 rt R cz sz g a) (hk : kd k = 5) (hv : v = 0 ∨ v = 1) (d : decode cc pc = .ok (.putfield 146, 3)) (z : Z p l e R s m args below meth c Q nL g a cz sz (s2 σ k 1 v) (pc + 3) lv st) : Z p l e R s m args below meth c Q nL g a cz sz σ pc lv (.int v :: .ref (a k) :: st) :=
  z_putN (host := "HoleBank") (ci := 5) (j := 1) (ty := .boolean) F hk (by decide) rfl inTB5 tyX5 tyX5_ok nmX5 (by decide) (nlm 215 (by decide +kernel) rfl) rfl rfl (by decide +kernel) (by rcases hv with rfl | rfl <;> rfl) (by rcases hv with rfl | rfl <;> rfl) rfl (Nat.le_of_ble_eq_true rfl) (by simp [cel, s2]) d z
theorem pf7_48 {k : Nat} {v : Int32} (F : Fx p s m args meth c cc nL RX7 rt R cz sz g a) (hk : kd k = 7) (hv : v = 0 ∨ v = 1) (d : decode cc pc = .ok (.putfield 48, 3)) (z : Z p l e R s m args below meth c Q nL g a cz sz (s2 σ k 5 v) (pc + 3) lv st) : Z p l e R s m args below meth c Q nL g a cz sz σ pc lv (.int v :: .ref (a k) :: st) :=
  z_put (ci := 7) (j := 5) (ty := .boolean) F hk (by decide) rfl inTB7 tyX7 tyX7_ok nmX7 (by decide) (tbm 234 (by decide +kernel) rfl) rfl rfl (by decide +kernel) (by rcases hv with rfl | rfl <;> rfl) (by rcases hv with rfl | rfl <;> rfl) rfl (Nat.le_of_ble_eq_true rfl) (by simp [cel, s2]) d z
theorem pf7_75 {k : Nat} {v : Int32} (F : Fx p s m args meth c cc nL RX7 rt R cz sz g a) (hk : kd k = 7) (d : decode cc pc = .ok (.putfield 75, 3)) (z : Z p l e R s m args below meth c Q nL g a cz sz (s2 σ k 11 v) (pc + 3) lv st) : Z p l e R s m args below meth c Q nL g a cz sz σ pc lv (.int v :: .ref (a k) :: st) :=
  z_put (ci := 7) (j := 11) (ty := .int) F hk (by decide) rfl inTB7 tyX7 tyX7_ok nmX7 (by decide) (tbm 240 (by decide +kernel) rfl) rfl rfl (by decide +kernel) rfl rfl rfl (Nat.le_of_ble_eq_true rfl) (by simp [cel, s2]) d z
theorem pf7_79 {k : Nat} {v : Int32} (F : Fx p s m args meth c cc nL RX7 rt R cz sz g a) (hk : kd k = 7) (d : decode cc pc = .ok (.putfield 79, 3)) (z : Z p l e R s m args below meth c Q nL g a cz sz (s2 σ k 12 v) (pc + 3) lv st) : Z p l e R s m args below meth c Q nL g a cz sz σ pc lv (.int v :: .ref (a k) :: st) :=
  z_put (ci := 7) (j := 12) (ty := .int) F hk (by decide) rfl inTB7 tyX7 tyX7_ok nmX7 (by decide) (tbm 241 (by decide +kernel) rfl) rfl rfl (by decide +kernel) rfl rfl rfl (Nat.le_of_ble_eq_true rfl) (by simp [cel, s2]) d z
theorem pf8_151 {k : Nat} {v : Int32} (F : Fx p s m args meth c cc nL RX8 rt R cz sz g a) (hk : kd k = 8) (d : decode cc pc = .ok (.putfield 151, 3)) (z : Z p l e R s m args below meth c Q nL g a cz sz (s2 σ k 9 v) (pc + 3) lv st) : Z p l e R s m args below meth c Q nL g a cz sz σ pc lv (.int v :: .ref (a k) :: st) :=
  z_put (ci := 8) (j := 9) (ty := .int) F hk (by decide) rfl inTB8 tyX8 tyX8_ok nmX8 (by decide) (tbm 819 (by decide +kernel) rfl) rfl rfl (by decide +kernel) rfl rfl rfl (Nat.le_of_ble_eq_true rfl) (by simp [cel, s2]) d z
theorem pf8_168 {k : Nat} {v : Int32} (F : Fx p s m args meth c cc nL RX8 rt R cz sz g a) (hk : kd k = 8) (d : decode cc pc = .ok (.putfield 168, 3)) (z : Z p l e R s m args below meth c Q nL g a cz sz (s2 σ k 11 v) (pc + 3) lv st) : Z p l e R s m args below meth c Q nL g a cz sz σ pc lv (.int v :: .ref (a k) :: st) :=
  z_put (ci := 8) (j := 11) (ty := .int) F hk (by decide) rfl inTB8 tyX8 tyX8_ok nmX8 (by decide) (tbm 821 (by decide +kernel) rfl) rfl rfl (by decide +kernel) rfl rfl rfl (Nat.le_of_ble_eq_true rfl) (by simp [cel, s2]) d z
theorem pf8_171 {k : Nat} {v : Int32} (F : Fx p s m args meth c cc nL RX8 rt R cz sz g a) (hk : kd k = 8) (d : decode cc pc = .ok (.putfield 171, 3)) (z : Z p l e R s m args below meth c Q nL g a cz sz (s2 σ k 13 v) (pc + 3) lv st) : Z p l e R s m args below meth c Q nL g a cz sz σ pc lv (.int v :: .ref (a k) :: st) :=
  z_put (ci := 8) (j := 13) (ty := .int) F hk (by decide) rfl inTB8 tyX8 tyX8_ok nmX8 (by decide) (tbm 823 (by decide +kernel) rfl) rfl rfl (by decide +kernel) rfl rfl rfl (Nat.le_of_ble_eq_true rfl) (by simp [cel, s2]) d z
theorem pf8_183 {k : Nat} {v : Int32} (F : Fx p s m args meth c cc nL RX8 rt R cz sz g a) (hk : kd k = 8) (d : decode cc pc = .ok (.putfield 183, 3)) (z : Z p l e R s m args below meth c Q nL g a cz sz (s2 σ k 21 v) (pc + 3) lv st) : Z p l e R s m args below meth c Q nL g a cz sz σ pc lv (.int v :: .ref (a k) :: st) :=
  z_put (ci := 8) (j := 21) (ty := .int) F hk (by decide) rfl inTB8 tyX8 tyX8_ok nmX8 (by decide) (tbm 831 (by decide +kernel) rfl) rfl rfl (by decide +kernel) rfl rfl rfl (Nat.le_of_ble_eq_true rfl) (by simp [cel, s2]) d z
theorem pf8_276 {k : Nat} {v : Int32} (F : Fx p s m args meth c cc nL RX8 rt R cz sz g a) (hk : kd k = 8) (d : decode cc pc = .ok (.putfield 276, 3)) (z : Z p l e R s m args below meth c Q nL g a cz sz (s2 σ k 30 v) (pc + 3) lv st) : Z p l e R s m args below meth c Q nL g a cz sz σ pc lv (.int v :: .ref (a k) :: st) :=
  z_put (ci := 8) (j := 30) (ty := .int) F hk (by decide) rfl inTB8 tyX8 tyX8_ok nmX8 (by decide) (tbm 840 (by decide +kernel) rfl) rfl rfl (by decide +kernel) rfl rfl rfl (Nat.le_of_ble_eq_true rfl) (by simp [cel, s2]) d z
theorem pf8_307 {k : Nat} {v : Int32} (F : Fx p s m args meth c cc nL RX8 rt R cz sz g a) (hk : kd k = 8) (d : decode cc pc = .ok (.putfield 307, 3)) (z : Z p l e R s m args below meth c Q nL g a cz sz (s2 σ k 33 v) (pc + 3) lv st) : Z p l e R s m args below meth c Q nL g a cz sz σ pc lv (.int v :: .ref (a k) :: st) :=
  z_put (ci := 8) (j := 33) (ty := .int) F hk (by decide) rfl inTB8 tyX8 tyX8_ok nmX8 (by decide) (tbm 843 (by decide +kernel) rfl) rfl rfl (by decide +kernel) rfl rfl rfl (Nat.le_of_ble_eq_true rfl) (by simp [cel, s2]) d z
theorem pf8_82 {k : Nat} {v : Int32} (F : Fx p s m args meth c cc nL RX8 rt R cz sz g a) (hk : kd k = 8) (d : decode cc pc = .ok (.putfield 82, 3)) (z : Z p l e R s m args below meth c Q nL g a cz sz (s2 σ k 15 v) (pc + 3) lv st) : Z p l e R s m args below meth c Q nL g a cz sz σ pc lv (.int v :: .ref (a k) :: st) :=
  z_put (ci := 8) (j := 15) (ty := .int) F hk (by decide) rfl inTB8 tyX8 tyX8_ok nmX8 (by decide) (tbm 825 (by decide +kernel) rfl) rfl rfl (by decide +kernel) rfl rfl rfl (Nat.le_of_ble_eq_true rfl) (by simp [cel, s2]) d z
theorem pf8_86 {k : Nat} {v : Int32} (F : Fx p s m args meth c cc nL RX8 rt R cz sz g a) (hk : kd k = 8) (d : decode cc pc = .ok (.putfield 86, 3)) (z : Z p l e R s m args below meth c Q nL g a cz sz (s2 σ k 26 v) (pc + 3) lv st) : Z p l e R s m args below meth c Q nL g a cz sz σ pc lv (.int v :: .ref (a k) :: st) :=
  z_put (ci := 8) (j := 26) (ty := .int) F hk (by decide) rfl inTB8 tyX8 tyX8_ok nmX8 (by decide) (tbm 836 (by decide +kernel) rfl) rfl rfl (by decide +kernel) rfl rfl rfl (Nat.le_of_ble_eq_true rfl) (by simp [cel, s2]) d z
theorem pf8_89 {k : Nat} {v : Int32} (F : Fx p s m args meth c cc nL RX8 rt R cz sz g a) (hk : kd k = 8) (d : decode cc pc = .ok (.putfield 89, 3)) (z : Z p l e R s m args below meth c Q nL g a cz sz (s2 σ k 27 v) (pc + 3) lv st) : Z p l e R s m args below meth c Q nL g a cz sz σ pc lv (.int v :: .ref (a k) :: st) :=
  z_put (ci := 8) (j := 27) (ty := .int) F hk (by decide) rfl inTB8 tyX8 tyX8_ok nmX8 (by decide) (tbm 837 (by decide +kernel) rfl) rfl rfl (by decide +kernel) rfl rfl rfl (Nat.le_of_ble_eq_true rfl) (by simp [cel, s2]) d z
theorem pf8_98 {k : Nat} {v : Int32} (F : Fx p s m args meth c cc nL RX8 rt R cz sz g a) (hk : kd k = 8) (d : decode cc pc = .ok (.putfield 98, 3)) (z : Z p l e R s m args below meth c Q nL g a cz sz (s2 σ k 4 v) (pc + 3) lv st) : Z p l e R s m args below meth c Q nL g a cz sz σ pc lv (.int v :: .ref (a k) :: st) :=
  z_put (ci := 8) (j := 4) (ty := .int) F hk (by decide) rfl inTB8 tyX8 tyX8_ok nmX8 (by decide) (tbm 814 (by decide +kernel) rfl) rfl rfl (by decide +kernel) rfl rfl rfl (Nat.le_of_ble_eq_true rfl) (by simp [cel, s2]) d z
end FieldsZ
