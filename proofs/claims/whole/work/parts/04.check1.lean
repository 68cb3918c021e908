set_option maxRecDepth 100000 in
theorem ck_0_0 : lfAll (chkE 0) mt_0_0 = true := by decide +kernel
set_option maxRecDepth 100000 in
theorem ck_0_1 : lfAll (chkE 0) mt_0_1 = true := by decide +kernel
set_option maxRecDepth 100000 in
theorem ck_0_2 : lfAll (chkE 0) mt_0_2 = true := by decide +kernel
set_option maxRecDepth 100000 in
theorem ck_0_3 : lfAll (chkE 0) mt_0_3 = true := by decide +kernel
set_option maxRecDepth 100000 in
theorem ck_0_4 : lfAll (chkE 0) mt_0_4 = true := by decide +kernel
set_option maxRecDepth 100000 in
theorem ck_0_5 : lfAll (chkE 0) mt_0_5 = true := by decide +kernel
set_option maxRecDepth 100000 in
theorem ck_0_6 : lfAll (chkE 0) mt_0_6 = true := by decide +kernel
set_option maxRecDepth 100000 in
theorem ck_0_7 : lfAll (chkE 0) mt_0_7 = true := by decide +kernel
set_option maxRecDepth 100000 in
theorem ck_0_8 : lfAll (chkE 0) mt_0_8 = true := by decide +kernel
set_option maxRecDepth 100000 in
theorem ck_0_9 : lfAll (chkE 0) mt_0_9 = true := by decide +kernel
set_option maxRecDepth 100000 in
theorem ck_0_10 : lfAll (chkE 0) mt_0_10 = true := by decide +kernel
set_option maxRecDepth 100000 in
theorem ck_0_11 : lfAll (chkE 0) mt_0_11 = true := by decide +kernel
set_option maxRecDepth 100000 in
theorem ck_0_12 : lfAll (chkE 0) mt_0_12 = true := by decide +kernel
set_option maxRecDepth 100000 in
theorem ck_0_13 : lfAll (chkE 0) mt_0_13 = true := by decide +kernel
set_option maxRecDepth 100000 in
theorem ck_0_14 : lfAll (chkE 0) mt_0_14 = true := by decide +kernel
set_option maxRecDepth 100000 in
theorem ck_0_15 : lfAll (chkE 0) mt_0_15 = true := by decide +kernel
set_option maxRecDepth 100000 in
theorem ck_0_16 : lfAll (chkE 0) mt_0_16 = true := by decide +kernel
set_option maxRecDepth 100000 in
theorem ck_0_17 : lfAll (chkE 0) mt_0_17 = true := by decide +kernel
set_option maxRecDepth 100000 in
theorem ck_0_18 : lfAll (chkE 0) mt_0_18 = true := by decide +kernel
set_option maxRecDepth 100000 in
theorem ck_0_19 : lfAll (chkE 0) mt_0_19 = true := by decide +kernel
set_option maxRecDepth 100000 in
theorem ck_0_20 : lfAll (chkE 0) mt_0_20 = true := by decide +kernel
set_option maxRecDepth 100000 in
theorem ck_0_21 : lfAll (chkE 0) mt_0_21 = true := by decide +kernel
set_option maxRecDepth 100000 in
theorem ck_0_22 : lfAll (chkE 0) mt_0_22 = true := by decide +kernel
set_option maxRecDepth 100000 in
theorem ck_0_23 : lfAll (chkE 0) mt_0_23 = true := by decide +kernel
theorem ck_0 : lfAll (chkE 0) mt_0 = true := by simp only [mt_0, lfAll, ck_0_0, ck_0_1, ck_0_2, ck_0_3, ck_0_4, ck_0_5, ck_0_6, ck_0_7, ck_0_8, ck_0_9, ck_0_10, ck_0_11, ck_0_12, ck_0_13, ck_0_14, ck_0_15, ck_0_16, ck_0_17, ck_0_18, ck_0_19, ck_0_20, ck_0_21, ck_0_22, ck_0_23, Bool.and_self]
set_option maxRecDepth 100000 in
theorem ck_1 : lfAll (chkE 1) mt_1 = true := by decide +kernel
set_option maxRecDepth 100000 in
theorem ck_2 : lfAll (chkE 2) mt_2 = true := by decide +kernel
set_option maxRecDepth 100000 in
theorem ck_3 : lfAll (chkE 3) mt_3 = true := by decide +kernel
set_option maxRecDepth 100000 in
theorem ck_4 : lfAll (chkE 4) mt_4 = true := by decide +kernel
set_option maxRecDepth 100000 in
theorem ck_5_0 : lfAll (chkE 5) mt_5_0 = true := by decide +kernel
set_option maxRecDepth 100000 in
theorem ck_5_1 : lfAll (chkE 5) mt_5_1 = true := by decide +kernel
theorem ck_5 : lfAll (chkE 5) mt_5 = true := by simp only [mt_5, lfAll, ck_5_0, ck_5_1, Bool.and_self]
set_option maxRecDepth 100000 in
theorem ck_6_0 : lfAll (chkE 6) mt_6_0 = true := by decide +kernel
set_option maxRecDepth 100000 in
theorem ck_6_1 : lfAll (chkE 6) mt_6_1 = true := by decide +kernel
theorem ck_6 : lfAll (chkE 6) mt_6 = true := by simp only [mt_6, lfAll, ck_6_0, ck_6_1, Bool.and_self]
set_option maxRecDepth 100000 in
theorem ck_7 : lfAll (chkE 7) mt_7 = true := by decide +kernel
set_option maxRecDepth 100000 in
theorem ck_8 : lfAll (chkE 8) mt_8 = true := by decide +kernel
set_option maxRecDepth 100000 in
theorem ck_9 : lfAll (chkE 9) mt_9 = true := by decide +kernel
set_option maxRecDepth 100000 in
theorem ck_10 : lfAll (chkE 10) mt_10 = true := by decide +kernel
set_option maxRecDepth 100000 in
theorem ck_11_0 : lfAll (chkE 11) mt_11_0 = true := by decide +kernel
set_option maxRecDepth 100000 in
theorem ck_11_1 : lfAll (chkE 11) mt_11_1 = true := by decide +kernel
theorem ck_11 : lfAll (chkE 11) mt_11 = true := by simp only [mt_11, lfAll, ck_11_0, ck_11_1, Bool.and_self]
set_option maxRecDepth 100000 in
theorem ck_12 : lfAll (chkE 12) mt_12 = true := by decide +kernel
set_option maxRecDepth 100000 in
theorem ck_13 : lfAll (chkE 13) mt_13 = true := by decide +kernel
set_option maxRecDepth 100000 in
theorem ck_14 : lfAll (chkE 14) mt_14 = true := by decide +kernel
set_option maxRecDepth 100000 in
theorem ck_15_0 : lfAll (chkE 15) mt_15_0 = true := by decide +kernel
set_option maxRecDepth 100000 in
theorem ck_15_1 : lfAll (chkE 15) mt_15_1 = true := by decide +kernel
theorem ck_15 : lfAll (chkE 15) mt_15 = true := by simp only [mt_15, lfAll, ck_15_0, ck_15_1, Bool.and_self]
set_option maxRecDepth 100000 in
theorem ck_16 : lfAll (chkE 16) mt_16 = true := by decide +kernel
set_option maxRecDepth 100000 in
theorem ck_17 : lfAll (chkE 17) mt_17 = true := by decide +kernel
set_option maxRecDepth 100000 in
theorem ck_18 : lfAll (chkE 18) mt_18 = true := by decide +kernel
set_option maxRecDepth 100000 in
theorem ck_19 : lfAll (chkE 19) mt_19 = true := by decide +kernel
set_option maxRecDepth 100000 in
theorem ck_20 : lfAll (chkE 20) mt_20 = true := by decide +kernel
set_option maxRecDepth 100000 in
theorem ck_21_0 : lfAll (chkE 21) mt_21_0 = true := by decide +kernel
set_option maxRecDepth 100000 in
theorem ck_21_1 : lfAll (chkE 21) mt_21_1 = true := by decide +kernel
theorem ck_21 : lfAll (chkE 21) mt_21 = true := by simp only [mt_21, lfAll, ck_21_0, ck_21_1, Bool.and_self]
set_option maxRecDepth 100000 in
theorem ck_22 : lfAll (chkE 22) mt_22 = true := by decide +kernel
set_option maxRecDepth 100000 in
theorem ck_23 : lfAll (chkE 23) mt_23 = true := by decide +kernel
set_option maxRecDepth 100000 in
theorem ck_24 : lfAll (chkE 24) mt_24 = true := by decide +kernel
set_option maxRecDepth 100000 in
theorem ck_25_0 : lfAll (chkE 25) mt_25_0 = true := by decide +kernel
set_option maxRecDepth 100000 in
theorem ck_25_1 : lfAll (chkE 25) mt_25_1 = true := by decide +kernel
theorem ck_25 : lfAll (chkE 25) mt_25 = true := by simp only [mt_25, lfAll, ck_25_0, ck_25_1, Bool.and_self]
set_option maxRecDepth 100000 in
theorem ck_26_0 : lfAll (chkE 26) mt_26_0 = true := by decide +kernel
set_option maxRecDepth 100000 in
theorem ck_26_1 : lfAll (chkE 26) mt_26_1 = true := by decide +kernel
theorem ck_26 : lfAll (chkE 26) mt_26 = true := by simp only [mt_26, lfAll, ck_26_0, ck_26_1, Bool.and_self]
set_option maxRecDepth 100000 in
theorem ck_27_0 : lfAll (chkE 27) mt_27_0 = true := by decide +kernel
set_option maxRecDepth 100000 in
theorem ck_27_1 : lfAll (chkE 27) mt_27_1 = true := by decide +kernel
set_option maxRecDepth 100000 in
theorem ck_27_2 : lfAll (chkE 27) mt_27_2 = true := by decide +kernel
theorem ck_27 : lfAll (chkE 27) mt_27 = true := by simp only [mt_27, lfAll, ck_27_0, ck_27_1, ck_27_2, Bool.and_self]
set_option maxRecDepth 100000 in
theorem ck_28_0 : lfAll (chkE 28) mt_28_0 = true := by decide +kernel
set_option maxRecDepth 100000 in
theorem ck_28_1 : lfAll (chkE 28) mt_28_1 = true := by decide +kernel
theorem ck_28 : lfAll (chkE 28) mt_28 = true := by simp only [mt_28, lfAll, ck_28_0, ck_28_1, Bool.and_self]
set_option maxRecDepth 100000 in
theorem ck_29 : lfAll (chkE 29) mt_29 = true := by decide +kernel
set_option maxRecDepth 100000 in
theorem ck_30 : lfAll (chkE 30) mt_30 = true := by decide +kernel
set_option maxRecDepth 100000 in
theorem ck_31_0 : lfAll (chkE 31) mt_31_0 = true := by decide +kernel
set_option maxRecDepth 100000 in
theorem ck_31_1 : lfAll (chkE 31) mt_31_1 = true := by decide +kernel
theorem ck_31 : lfAll (chkE 31) mt_31 = true := by simp only [mt_31, lfAll, ck_31_0, ck_31_1, Bool.and_self]
set_option maxRecDepth 100000 in
theorem ck_32 : lfAll (chkE 32) mt_32 = true := by decide +kernel
set_option maxRecDepth 100000 in
theorem ck_33 : lfAll (chkE 33) mt_33 = true := by decide +kernel
set_option maxRecDepth 100000 in
theorem ck_34 : lfAll (chkE 34) mt_34 = true := by decide +kernel
set_option maxRecDepth 100000 in
theorem ck_35 : lfAll (chkE 35) mt_35 = true := by decide +kernel
set_option maxRecDepth 100000 in
theorem ck_36_0 : lfAll (chkE 36) mt_36_0 = true := by decide +kernel
set_option maxRecDepth 100000 in
theorem ck_36_1 : lfAll (chkE 36) mt_36_1 = true := by decide +kernel
theorem ck_36 : lfAll (chkE 36) mt_36 = true := by simp only [mt_36, lfAll, ck_36_0, ck_36_1, Bool.and_self]
set_option maxRecDepth 100000 in
theorem ck_37_0 : lfAll (chkE 37) mt_37_0 = true := by decide +kernel
set_option maxRecDepth 100000 in
theorem ck_37_1 : lfAll (chkE 37) mt_37_1 = true := by decide +kernel
set_option maxRecDepth 100000 in
theorem ck_37_2 : lfAll (chkE 37) mt_37_2 = true := by decide +kernel
theorem ck_37 : lfAll (chkE 37) mt_37 = true := by simp only [mt_37, lfAll, ck_37_0, ck_37_1, ck_37_2, Bool.and_self]
set_option maxRecDepth 100000 in
theorem ck_38_0 : lfAll (chkE 38) mt_38_0 = true := by decide +kernel
set_option maxRecDepth 100000 in
theorem ck_38_1 : lfAll (chkE 38) mt_38_1 = true := by decide +kernel
theorem ck_38 : lfAll (chkE 38) mt_38 = true := by simp only [mt_38, lfAll, ck_38_0, ck_38_1, Bool.and_self]
set_option maxRecDepth 100000 in
theorem ck_39_0 : lfAll (chkE 39) mt_39_0 = true := by decide +kernel
set_option maxRecDepth 100000 in
theorem ck_39_1 : lfAll (chkE 39) mt_39_1 = true := by decide +kernel
theorem ck_39 : lfAll (chkE 39) mt_39 = true := by simp only [mt_39, lfAll, ck_39_0, ck_39_1, Bool.and_self]
set_option maxRecDepth 100000 in
theorem ck_40 : lfAll (chkE 40) mt_40 = true := by decide +kernel
set_option maxRecDepth 100000 in
theorem ck_41 : lfAll (chkE 41) mt_41 = true := by decide +kernel
set_option maxRecDepth 100000 in
theorem ck_42 : lfAll (chkE 42) mt_42 = true := by decide +kernel
set_option maxRecDepth 100000 in
theorem ck_43 : lfAll (chkE 43) mt_43 = true := by decide +kernel
set_option maxRecDepth 100000 in
theorem ck_44 : lfAll (chkE 44) mt_44 = true := by decide +kernel
set_option maxRecDepth 100000 in
theorem ck_45_0 : lfAll (chkE 45) mt_45_0 = true := by decide +kernel
set_option maxRecDepth 100000 in
theorem ck_45_1 : lfAll (chkE 45) mt_45_1 = true := by decide +kernel
theorem ck_45 : lfAll (chkE 45) mt_45 = true := by simp only [mt_45, lfAll, ck_45_0, ck_45_1, Bool.and_self]
set_option maxRecDepth 100000 in
theorem ck_46_0 : lfAll (chkE 46) mt_46_0 = true := by decide +kernel
set_option maxRecDepth 100000 in
theorem ck_46_1 : lfAll (chkE 46) mt_46_1 = true := by decide +kernel
set_option maxRecDepth 100000 in
theorem ck_46_2 : lfAll (chkE 46) mt_46_2 = true := by decide +kernel
theorem ck_46 : lfAll (chkE 46) mt_46 = true := by simp only [mt_46, lfAll, ck_46_0, ck_46_1, ck_46_2, Bool.and_self]
set_option maxRecDepth 100000 in
theorem ck_47 : lfAll (chkE 47) mt_47 = true := by decide +kernel
set_option maxRecDepth 100000 in
theorem ck_48 : lfAll (chkE 48) mt_48 = true := by decide +kernel
set_option maxRecDepth 100000 in
theorem ck_49 : lfAll (chkE 49) mt_49 = true := by decide +kernel
set_option maxRecDepth 100000 in
theorem ck_50 : lfAll (chkE 50) mt_50 = true := by decide +kernel
set_option maxRecDepth 100000 in
theorem ck_51 : lfAll (chkE 51) mt_51 = true := by decide +kernel
set_option maxRecDepth 100000 in
theorem ck_52 : lfAll (chkE 52) mt_52 = true := by decide +kernel
set_option maxRecDepth 100000 in
theorem ck_53 : lfAll (chkE 53) mt_53 = true := by decide +kernel
set_option maxRecDepth 100000 in
theorem ck_54 : lfAll (chkE 54) mt_54 = true := by decide +kernel
set_option maxRecDepth 100000 in
theorem ck_55 : lfAll (chkE 55) mt_55 = true := by decide +kernel
set_option maxRecDepth 100000 in
theorem ck_56 : lfAll (chkE 56) mt_56 = true := by decide +kernel
set_option maxRecDepth 100000 in
theorem ck_57 : lfAll (chkE 57) mt_57 = true := by decide +kernel
set_option maxRecDepth 100000 in
theorem ck_58 : lfAll (chkE 58) mt_58 = true := by decide +kernel
set_option maxRecDepth 100000 in
theorem ck_59 : lfAll (chkE 59) mt_59 = true := by decide +kernel
set_option maxRecDepth 100000 in
theorem ck_60 : lfAll (chkE 60) mt_60 = true := by decide +kernel
set_option maxRecDepth 100000 in
theorem ck_61 : lfAll (chkE 61) mt_61 = true := by decide +kernel
set_option maxRecDepth 100000 in
theorem ck_62 : lfAll (chkE 62) mt_62 = true := by decide +kernel
set_option maxRecDepth 100000 in
theorem ck_63 : lfAll (chkE 63) mt_63 = true := by decide +kernel
set_option maxRecDepth 100000 in
theorem ck_64 : lfAll (chkE 64) mt_64 = true := by decide +kernel
set_option maxRecDepth 100000 in
theorem ck_65 : lfAll (chkE 65) mt_65 = true := by decide +kernel
