set_option maxRecDepth 100000 in
theorem ck_66 : lfAll (chkE 66) mt_66 = true := by decide +kernel
set_option maxRecDepth 100000 in
theorem ck_67 : lfAll (chkE 67) mt_67 = true := by decide +kernel
set_option maxRecDepth 100000 in
theorem ck_68_0 : lfAll (chkE 68) mt_68_0 = true := by decide +kernel
set_option maxRecDepth 100000 in
theorem ck_68_1 : lfAll (chkE 68) mt_68_1 = true := by decide +kernel
theorem ck_68 : lfAll (chkE 68) mt_68 = true := by simp only [mt_68, lfAll, ck_68_0, ck_68_1, Bool.and_self]
set_option maxRecDepth 100000 in
theorem ck_69 : lfAll (chkE 69) mt_69 = true := by decide +kernel
set_option maxRecDepth 100000 in
theorem ck_70 : lfAll (chkE 70) mt_70 = true := by decide +kernel
set_option maxRecDepth 100000 in
theorem ck_71 : lfAll (chkE 71) mt_71 = true := by decide +kernel
set_option maxRecDepth 100000 in
theorem ck_72 : lfAll (chkE 72) mt_72 = true := by decide +kernel
set_option maxRecDepth 100000 in
theorem ck_73 : lfAll (chkE 73) mt_73 = true := by decide +kernel
set_option maxRecDepth 100000 in
theorem ck_74_0 : lfAll (chkE 74) mt_74_0 = true := by decide +kernel
set_option maxRecDepth 100000 in
theorem ck_74_1 : lfAll (chkE 74) mt_74_1 = true := by decide +kernel
theorem ck_74 : lfAll (chkE 74) mt_74 = true := by simp only [mt_74, lfAll, ck_74_0, ck_74_1, Bool.and_self]
set_option maxRecDepth 100000 in
theorem ck_75_0 : lfAll (chkE 75) mt_75_0 = true := by decide +kernel
set_option maxRecDepth 100000 in
theorem ck_75_1 : lfAll (chkE 75) mt_75_1 = true := by decide +kernel
theorem ck_75 : lfAll (chkE 75) mt_75 = true := by simp only [mt_75, lfAll, ck_75_0, ck_75_1, Bool.and_self]
set_option maxRecDepth 100000 in
theorem ck_76 : lfAll (chkE 76) mt_76 = true := by decide +kernel
set_option maxRecDepth 100000 in
theorem ck_77 : lfAll (chkE 77) mt_77 = true := by decide +kernel
set_option maxRecDepth 100000 in
theorem ck_78 : lfAll (chkE 78) mt_78 = true := by decide +kernel
set_option maxRecDepth 100000 in
theorem ck_79 : lfAll (chkE 79) mt_79 = true := by decide +kernel
set_option maxRecDepth 100000 in
theorem ck_80_0 : lfAll (chkE 80) mt_80_0 = true := by decide +kernel
set_option maxRecDepth 100000 in
theorem ck_80_1 : lfAll (chkE 80) mt_80_1 = true := by decide +kernel
theorem ck_80 : lfAll (chkE 80) mt_80 = true := by simp only [mt_80, lfAll, ck_80_0, ck_80_1, Bool.and_self]
set_option maxRecDepth 100000 in
theorem ck_81 : lfAll (chkE 81) mt_81 = true := by decide +kernel
set_option maxRecDepth 100000 in
theorem ck_82_0 : lfAll (chkE 82) mt_82_0 = true := by decide +kernel
set_option maxRecDepth 100000 in
theorem ck_82_1 : lfAll (chkE 82) mt_82_1 = true := by decide +kernel
theorem ck_82 : lfAll (chkE 82) mt_82 = true := by simp only [mt_82, lfAll, ck_82_0, ck_82_1, Bool.and_self]
set_option maxRecDepth 100000 in
theorem ck_83_0 : lfAll (chkE 83) mt_83_0 = true := by decide +kernel
set_option maxRecDepth 100000 in
theorem ck_83_1 : lfAll (chkE 83) mt_83_1 = true := by decide +kernel
theorem ck_83 : lfAll (chkE 83) mt_83 = true := by simp only [mt_83, lfAll, ck_83_0, ck_83_1, Bool.and_self]
set_option maxRecDepth 100000 in
theorem ck_84 : lfAll (chkE 84) mt_84 = true := by decide +kernel
set_option maxRecDepth 100000 in
theorem ck_85 : lfAll (chkE 85) mt_85 = true := by decide +kernel
set_option maxRecDepth 100000 in
theorem ck_86 : lfAll (chkE 86) mt_86 = true := by decide +kernel
set_option maxRecDepth 100000 in
theorem ck_87_0 : lfAll (chkE 87) mt_87_0 = true := by decide +kernel
set_option maxRecDepth 100000 in
theorem ck_87_1 : lfAll (chkE 87) mt_87_1 = true := by decide +kernel
theorem ck_87 : lfAll (chkE 87) mt_87 = true := by simp only [mt_87, lfAll, ck_87_0, ck_87_1, Bool.and_self]
set_option maxRecDepth 100000 in
theorem ck_88_0 : lfAll (chkE 88) mt_88_0 = true := by decide +kernel
set_option maxRecDepth 100000 in
theorem ck_88_1 : lfAll (chkE 88) mt_88_1 = true := by decide +kernel
theorem ck_88 : lfAll (chkE 88) mt_88 = true := by simp only [mt_88, lfAll, ck_88_0, ck_88_1, Bool.and_self]
set_option maxRecDepth 100000 in
theorem ck_89_0 : lfAll (chkE 89) mt_89_0 = true := by decide +kernel
set_option maxRecDepth 100000 in
theorem ck_89_1 : lfAll (chkE 89) mt_89_1 = true := by decide +kernel
theorem ck_89 : lfAll (chkE 89) mt_89 = true := by simp only [mt_89, lfAll, ck_89_0, ck_89_1, Bool.and_self]
set_option maxRecDepth 100000 in
theorem ck_90_0 : lfAll (chkE 90) mt_90_0 = true := by decide +kernel
set_option maxRecDepth 100000 in
theorem ck_90_1 : lfAll (chkE 90) mt_90_1 = true := by decide +kernel
theorem ck_90 : lfAll (chkE 90) mt_90 = true := by simp only [mt_90, lfAll, ck_90_0, ck_90_1, Bool.and_self]
set_option maxRecDepth 100000 in
theorem ck_91_0 : lfAll (chkE 91) mt_91_0 = true := by decide +kernel
set_option maxRecDepth 100000 in
theorem ck_91_1 : lfAll (chkE 91) mt_91_1 = true := by decide +kernel
theorem ck_91 : lfAll (chkE 91) mt_91 = true := by simp only [mt_91, lfAll, ck_91_0, ck_91_1, Bool.and_self]
set_option maxRecDepth 100000 in
theorem ck_92 : lfAll (chkE 92) mt_92 = true := by decide +kernel
set_option maxRecDepth 100000 in
theorem ck_93 : lfAll (chkE 93) mt_93 = true := by decide +kernel
set_option maxRecDepth 100000 in
theorem ck_94_0 : lfAll (chkE 94) mt_94_0 = true := by decide +kernel
set_option maxRecDepth 100000 in
theorem ck_94_1 : lfAll (chkE 94) mt_94_1 = true := by decide +kernel
theorem ck_94 : lfAll (chkE 94) mt_94 = true := by simp only [mt_94, lfAll, ck_94_0, ck_94_1, Bool.and_self]
set_option maxRecDepth 100000 in
theorem ck_95 : lfAll (chkE 95) mt_95 = true := by decide +kernel
set_option maxRecDepth 100000 in
theorem ck_96 : lfAll (chkE 96) mt_96 = true := by decide +kernel
set_option maxRecDepth 100000 in
theorem ck_97_0 : lfAll (chkE 97) mt_97_0 = true := by decide +kernel
set_option maxRecDepth 100000 in
theorem ck_97_1 : lfAll (chkE 97) mt_97_1 = true := by decide +kernel
theorem ck_97 : lfAll (chkE 97) mt_97 = true := by simp only [mt_97, lfAll, ck_97_0, ck_97_1, Bool.and_self]
set_option maxRecDepth 100000 in
theorem ck_98 : lfAll (chkE 98) mt_98 = true := by decide +kernel
set_option maxRecDepth 100000 in
theorem ck_99_0 : lfAll (chkE 99) mt_99_0 = true := by decide +kernel
set_option maxRecDepth 100000 in
theorem ck_99_1 : lfAll (chkE 99) mt_99_1 = true := by decide +kernel
theorem ck_99 : lfAll (chkE 99) mt_99 = true := by simp only [mt_99, lfAll, ck_99_0, ck_99_1, Bool.and_self]
set_option maxRecDepth 100000 in
theorem ck_100 : lfAll (chkE 100) mt_100 = true := by decide +kernel
set_option maxRecDepth 100000 in
theorem ck_101 : lfAll (chkE 101) mt_101 = true := by decide +kernel
set_option maxRecDepth 100000 in
theorem ck_102 : lfAll (chkE 102) mt_102 = true := by decide +kernel
set_option maxRecDepth 100000 in
theorem ck_103_0 : lfAll (chkE 103) mt_103_0 = true := by decide +kernel
set_option maxRecDepth 100000 in
theorem ck_103_1 : lfAll (chkE 103) mt_103_1 = true := by decide +kernel
theorem ck_103 : lfAll (chkE 103) mt_103 = true := by simp only [mt_103, lfAll, ck_103_0, ck_103_1, Bool.and_self]
set_option maxRecDepth 100000 in
theorem ck_104_0 : lfAll (chkE 104) mt_104_0 = true := by decide +kernel
set_option maxRecDepth 100000 in
theorem ck_104_1 : lfAll (chkE 104) mt_104_1 = true := by decide +kernel
theorem ck_104 : lfAll (chkE 104) mt_104 = true := by simp only [mt_104, lfAll, ck_104_0, ck_104_1, Bool.and_self]
set_option maxRecDepth 100000 in
theorem ck_105_0 : lfAll (chkE 105) mt_105_0 = true := by decide +kernel
set_option maxRecDepth 100000 in
theorem ck_105_1 : lfAll (chkE 105) mt_105_1 = true := by decide +kernel
theorem ck_105 : lfAll (chkE 105) mt_105 = true := by simp only [mt_105, lfAll, ck_105_0, ck_105_1, Bool.and_self]
set_option maxRecDepth 100000 in
theorem ck_106_0 : lfAll (chkE 106) mt_106_0 = true := by decide +kernel
set_option maxRecDepth 100000 in
theorem ck_106_1 : lfAll (chkE 106) mt_106_1 = true := by decide +kernel
theorem ck_106 : lfAll (chkE 106) mt_106 = true := by simp only [mt_106, lfAll, ck_106_0, ck_106_1, Bool.and_self]
set_option maxRecDepth 100000 in
theorem ck_107 : lfAll (chkE 107) mt_107 = true := by decide +kernel
set_option maxRecDepth 100000 in
theorem ck_108_0 : lfAll (chkE 108) mt_108_0 = true := by decide +kernel
set_option maxRecDepth 100000 in
theorem ck_108_1 : lfAll (chkE 108) mt_108_1 = true := by decide +kernel
theorem ck_108 : lfAll (chkE 108) mt_108 = true := by simp only [mt_108, lfAll, ck_108_0, ck_108_1, Bool.and_self]
set_option maxRecDepth 100000 in
theorem ck_109_0 : lfAll (chkE 109) mt_109_0 = true := by decide +kernel
set_option maxRecDepth 100000 in
theorem ck_109_1 : lfAll (chkE 109) mt_109_1 = true := by decide +kernel
theorem ck_109 : lfAll (chkE 109) mt_109 = true := by simp only [mt_109, lfAll, ck_109_0, ck_109_1, Bool.and_self]
set_option maxRecDepth 100000 in
theorem ck_110 : lfAll (chkE 110) mt_110 = true := by decide +kernel
set_option maxRecDepth 100000 in
theorem ck_111_0 : lfAll (chkE 111) mt_111_0 = true := by decide +kernel
set_option maxRecDepth 100000 in
theorem ck_111_1 : lfAll (chkE 111) mt_111_1 = true := by decide +kernel
theorem ck_111 : lfAll (chkE 111) mt_111 = true := by simp only [mt_111, lfAll, ck_111_0, ck_111_1, Bool.and_self]
set_option maxRecDepth 100000 in
theorem ck_112_0 : lfAll (chkE 112) mt_112_0 = true := by decide +kernel
set_option maxRecDepth 100000 in
theorem ck_112_1 : lfAll (chkE 112) mt_112_1 = true := by decide +kernel
theorem ck_112 : lfAll (chkE 112) mt_112 = true := by simp only [mt_112, lfAll, ck_112_0, ck_112_1, Bool.and_self]
set_option maxRecDepth 100000 in
theorem ck_113 : lfAll (chkE 113) mt_113 = true := by decide +kernel
set_option maxRecDepth 100000 in
theorem ck_114 : lfAll (chkE 114) mt_114 = true := by decide +kernel
set_option maxRecDepth 100000 in
theorem ck_115 : lfAll (chkE 115) mt_115 = true := by decide +kernel
set_option maxRecDepth 100000 in
theorem ck_116 : lfAll (chkE 116) mt_116 = true := by decide +kernel
set_option maxRecDepth 100000 in
theorem ck_117_0 : lfAll (chkE 117) mt_117_0 = true := by decide +kernel
set_option maxRecDepth 100000 in
theorem ck_117_1 : lfAll (chkE 117) mt_117_1 = true := by decide +kernel
theorem ck_117 : lfAll (chkE 117) mt_117 = true := by simp only [mt_117, lfAll, ck_117_0, ck_117_1, Bool.and_self]
set_option maxRecDepth 100000 in
theorem ck_118 : lfAll (chkE 118) mt_118 = true := by decide +kernel
set_option maxRecDepth 100000 in
theorem ck_119_0 : lfAll (chkE 119) mt_119_0 = true := by decide +kernel
set_option maxRecDepth 100000 in
theorem ck_119_1 : lfAll (chkE 119) mt_119_1 = true := by decide +kernel
set_option maxRecDepth 100000 in
theorem ck_119_2 : lfAll (chkE 119) mt_119_2 = true := by decide +kernel
theorem ck_119 : lfAll (chkE 119) mt_119 = true := by simp only [mt_119, lfAll, ck_119_0, ck_119_1, ck_119_2, Bool.and_self]
set_option maxRecDepth 100000 in
theorem ck_120 : lfAll (chkE 120) mt_120 = true := by decide +kernel
set_option maxRecDepth 100000 in
theorem ck_121_0 : lfAll (chkE 121) mt_121_0 = true := by decide +kernel
set_option maxRecDepth 100000 in
theorem ck_121_1 : lfAll (chkE 121) mt_121_1 = true := by decide +kernel
theorem ck_121 : lfAll (chkE 121) mt_121 = true := by simp only [mt_121, lfAll, ck_121_0, ck_121_1, Bool.and_self]
set_option maxRecDepth 100000 in
theorem ck_122 : lfAll (chkE 122) mt_122 = true := by decide +kernel
set_option maxRecDepth 100000 in
theorem ck_123 : lfAll (chkE 123) mt_123 = true := by decide +kernel
set_option maxRecDepth 100000 in
theorem ck_124 : lfAll (chkE 124) mt_124 = true := by decide +kernel
set_option maxRecDepth 100000 in
theorem ck_125 : lfAll (chkE 125) mt_125 = true := by decide +kernel
set_option maxRecDepth 100000 in
theorem ck_126 : lfAll (chkE 126) mt_126 = true := by decide +kernel
set_option maxRecDepth 100000 in
theorem ck_127_0 : lfAll (chkE 127) mt_127_0 = true := by decide +kernel
set_option maxRecDepth 100000 in
theorem ck_127_1 : lfAll (chkE 127) mt_127_1 = true := by decide +kernel
theorem ck_127 : lfAll (chkE 127) mt_127 = true := by simp only [mt_127, lfAll, ck_127_0, ck_127_1, Bool.and_self]
set_option maxRecDepth 100000 in
theorem ck_128_0 : lfAll (chkE 128) mt_128_0 = true := by decide +kernel
set_option maxRecDepth 100000 in
theorem ck_128_1 : lfAll (chkE 128) mt_128_1 = true := by decide +kernel
theorem ck_128 : lfAll (chkE 128) mt_128 = true := by simp only [mt_128, lfAll, ck_128_0, ck_128_1, Bool.and_self]
set_option maxRecDepth 100000 in
theorem ck_129_0 : lfAll (chkE 129) mt_129_0 = true := by decide +kernel
set_option maxRecDepth 100000 in
theorem ck_129_1 : lfAll (chkE 129) mt_129_1 = true := by decide +kernel
theorem ck_129 : lfAll (chkE 129) mt_129 = true := by simp only [mt_129, lfAll, ck_129_0, ck_129_1, Bool.and_self]
set_option maxRecDepth 100000 in
theorem ck_130_0 : lfAll (chkE 130) mt_130_0 = true := by decide +kernel
set_option maxRecDepth 100000 in
theorem ck_130_1 : lfAll (chkE 130) mt_130_1 = true := by decide +kernel
theorem ck_130 : lfAll (chkE 130) mt_130 = true := by simp only [mt_130, lfAll, ck_130_0, ck_130_1, Bool.and_self]
set_option maxRecDepth 100000 in
theorem ck_131 : lfAll (chkE 131) mt_131 = true := by decide +kernel
