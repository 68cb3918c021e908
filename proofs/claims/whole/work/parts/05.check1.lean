set_option maxRecDepth 100000 in
theorem ck_0 : lfAll (chkE 0) mt_0 = true := by decide +kernel
set_option maxRecDepth 100000 in
theorem ck_1 : lfAll (chkE 1) mt_1 = true := by decide +kernel
set_option maxRecDepth 100000 in
theorem ck_2 : lfAll (chkE 2) mt_2 = true := by decide +kernel
set_option maxRecDepth 100000 in
theorem ck_3 : lfAll (chkE 3) mt_3 = true := by decide +kernel
set_option maxRecDepth 100000 in
theorem ck_4 : lfAll (chkE 4) mt_4 = true := by decide +kernel
set_option maxRecDepth 100000 in
theorem ck_5 : lfAll (chkE 5) mt_5 = true := by decide +kernel
set_option maxRecDepth 100000 in
theorem ck_6 : lfAll (chkE 6) mt_6 = true := by decide +kernel
set_option maxRecDepth 100000 in
theorem ck_7 : lfAll (chkE 7) mt_7 = true := by decide +kernel
set_option maxRecDepth 100000 in
theorem ck_8 : lfAll (chkE 8) mt_8 = true := by decide +kernel
set_option maxRecDepth 100000 in
theorem ck_9 : lfAll (chkE 9) mt_9 = true := by decide +kernel
set_option maxRecDepth 100000 in
theorem ck_10 : lfAll (chkE 10) mt_10 = true := by decide +kernel
set_option maxRecDepth 100000 in
theorem ck_11 : lfAll (chkE 11) mt_11 = true := by decide +kernel
set_option maxRecDepth 100000 in
theorem ck_12 : lfAll (chkE 12) mt_12 = true := by decide +kernel
set_option maxRecDepth 100000 in
theorem ck_13 : lfAll (chkE 13) mt_13 = true := by decide +kernel
set_option maxRecDepth 100000 in
theorem ck_14 : lfAll (chkE 14) mt_14 = true := by decide +kernel
set_option maxRecDepth 100000 in
theorem ck_15 : lfAll (chkE 15) mt_15 = true := by decide +kernel
set_option maxRecDepth 100000 in
theorem ck_16 : lfAll (chkE 16) mt_16 = true := by decide +kernel
set_option maxRecDepth 100000 in
theorem ck_17 : lfAll (chkE 17) mt_17 = true := by decide +kernel
set_option maxRecDepth 100000 in
theorem ck_18 : lfAll (chkE 18) mt_18 = true := by decide +kernel
set_option maxRecDepth 100000 in
theorem ck_19 : lfAll (chkE 19) mt_19 = true := by decide +kernel
set_option maxRecDepth 100000 in
theorem ck_20 : lfAll (chkE 20) mt_20 = true := by decide +kernel
set_option maxRecDepth 100000 in
theorem ck_21 : lfAll (chkE 21) mt_21 = true := by decide +kernel
set_option maxRecDepth 100000 in
theorem ck_22 : lfAll (chkE 22) mt_22 = true := by decide +kernel
set_option maxRecDepth 100000 in
theorem ck_23 : lfAll (chkE 23) mt_23 = true := by decide +kernel
set_option maxRecDepth 100000 in
theorem ck_24 : lfAll (chkE 24) mt_24 = true := by decide +kernel
set_option maxRecDepth 100000 in
theorem ck_25 : lfAll (chkE 25) mt_25 = true := by decide +kernel
set_option maxRecDepth 100000 in
theorem ck_26 : lfAll (chkE 26) mt_26 = true := by decide +kernel
set_option maxRecDepth 100000 in
theorem ck_27 : lfAll (chkE 27) mt_27 = true := by decide +kernel
set_option maxRecDepth 100000 in
theorem ck_28 : lfAll (chkE 28) mt_28 = true := by decide +kernel
set_option maxRecDepth 100000 in
theorem ck_29 : lfAll (chkE 29) mt_29 = true := by decide +kernel
set_option maxRecDepth 100000 in
theorem ck_30 : lfAll (chkE 30) mt_30 = true := by decide +kernel
set_option maxRecDepth 100000 in
theorem ck_31 : lfAll (chkE 31) mt_31 = true := by decide +kernel
set_option maxRecDepth 100000 in
theorem ck_32 : lfAll (chkE 32) mt_32 = true := by decide +kernel
set_option maxRecDepth 100000 in
theorem ck_33 : lfAll (chkE 33) mt_33 = true := by decide +kernel
set_option maxRecDepth 100000 in
theorem ck_34 : lfAll (chkE 34) mt_34 = true := by decide +kernel
set_option maxRecDepth 100000 in
theorem ck_35 : lfAll (chkE 35) mt_35 = true := by decide +kernel
set_option maxRecDepth 100000 in
theorem ck_36 : lfAll (chkE 36) mt_36 = true := by decide +kernel
set_option maxRecDepth 100000 in
theorem ck_37 : lfAll (chkE 37) mt_37 = true := by decide +kernel
set_option maxRecDepth 100000 in
theorem ck_38 : lfAll (chkE 38) mt_38 = true := by decide +kernel
set_option maxRecDepth 100000 in
theorem ck_39 : lfAll (chkE 39) mt_39 = true := by decide +kernel
set_option maxRecDepth 100000 in
theorem ck_40 : lfAll (chkE 40) mt_40 = true := by decide +kernel
set_option maxRecDepth 100000 in
theorem ck_41 : lfAll (chkE 41) mt_41 = true := by decide +kernel
set_option maxRecDepth 100000 in
theorem ck_42 : lfAll (chkE 42) mt_42 = true := by decide +kernel
set_option maxRecDepth 100000 in
theorem ck_43 : lfAll (chkE 43) mt_43 = true := by decide +kernel
set_option maxRecDepth 100000 in
theorem ck_44 : lfAll (chkE 44) mt_44 = true := by decide +kernel
set_option maxRecDepth 100000 in
theorem ck_45 : lfAll (chkE 45) mt_45 = true := by decide +kernel
set_option maxRecDepth 100000 in
theorem ck_46 : lfAll (chkE 46) mt_46 = true := by decide +kernel
set_option maxRecDepth 100000 in
theorem ck_47 : lfAll (chkE 47) mt_47 = true := by decide +kernel
set_option maxRecDepth 100000 in
theorem ck_48 : lfAll (chkE 48) mt_48 = true := by decide +kernel
set_option maxRecDepth 100000 in
theorem ck_49 : lfAll (chkE 49) mt_49 = true := by decide +kernel
set_option maxRecDepth 100000 in
theorem ck_50 : lfAll (chkE 50) mt_50 = true := by decide +kernel
set_option maxRecDepth 100000 in
theorem ck_51 : lfAll (chkE 51) mt_51 = true := by decide +kernel
set_option maxRecDepth 100000 in
theorem ck_52 : lfAll (chkE 52) mt_52 = true := by decide +kernel
set_option maxRecDepth 100000 in
theorem ck_53 : lfAll (chkE 53) mt_53 = true := by decide +kernel
set_option maxRecDepth 100000 in
theorem ck_54 : lfAll (chkE 54) mt_54 = true := by decide +kernel
set_option maxRecDepth 100000 in
theorem ck_55 : lfAll (chkE 55) mt_55 = true := by decide +kernel
set_option maxRecDepth 100000 in
theorem ck_56 : lfAll (chkE 56) mt_56 = true := by decide +kernel
set_option maxRecDepth 100000 in
theorem ck_57 : lfAll (chkE 57) mt_57 = true := by decide +kernel
set_option maxRecDepth 100000 in
theorem ck_58 : lfAll (chkE 58) mt_58 = true := by decide +kernel
set_option maxRecDepth 100000 in
theorem ck_59 : lfAll (chkE 59) mt_59 = true := by decide +kernel
set_option maxRecDepth 100000 in
theorem ck_60 : lfAll (chkE 60) mt_60 = true := by decide +kernel
set_option maxRecDepth 100000 in
theorem ck_61 : lfAll (chkE 61) mt_61 = true := by decide +kernel
set_option maxRecDepth 100000 in
theorem ck_62 : lfAll (chkE 62) mt_62 = true := by decide +kernel
set_option maxRecDepth 100000 in
theorem ck_63 : lfAll (chkE 63) mt_63 = true := by decide +kernel
set_option maxRecDepth 100000 in
theorem ck_64 : lfAll (chkE 64) mt_64 = true := by decide +kernel
set_option maxRecDepth 100000 in
theorem ck_65 : lfAll (chkE 65) mt_65 = true := by decide +kernel
set_option maxRecDepth 100000 in
theorem ck_66 : lfAll (chkE 66) mt_66 = true := by decide +kernel
