set_option maxRecDepth 100000 in
theorem ck_67 : lfAll (chkE 67) mt_67 = true := by decide +kernel
set_option maxRecDepth 100000 in
theorem ck_68 : lfAll (chkE 68) mt_68 = true := by decide +kernel
set_option maxRecDepth 100000 in
theorem ck_69 : lfAll (chkE 69) mt_69 = true := by decide +kernel
set_option maxRecDepth 100000 in
theorem ck_70 : lfAll (chkE 70) mt_70 = true := by decide +kernel
set_option maxRecDepth 100000 in
theorem ck_71 : lfAll (chkE 71) mt_71 = true := by decide +kernel
set_option maxRecDepth 100000 in
theorem ck_72 : lfAll (chkE 72) mt_72 = true := by decide +kernel
set_option maxRecDepth 100000 in
theorem ck_73 : lfAll (chkE 73) mt_73 = true := by decide +kernel
set_option maxRecDepth 100000 in
theorem ck_74 : lfAll (chkE 74) mt_74 = true := by decide +kernel
set_option maxRecDepth 100000 in
theorem ck_75 : lfAll (chkE 75) mt_75 = true := by decide +kernel
set_option maxRecDepth 100000 in
theorem ck_76 : lfAll (chkE 76) mt_76 = true := by decide +kernel
set_option maxRecDepth 100000 in
theorem ck_77 : lfAll (chkE 77) mt_77 = true := by decide +kernel
set_option maxRecDepth 100000 in
theorem ck_78 : lfAll (chkE 78) mt_78 = true := by decide +kernel
set_option maxRecDepth 100000 in
theorem ck_79 : lfAll (chkE 79) mt_79 = true := by decide +kernel
set_option maxRecDepth 100000 in
theorem ck_80 : lfAll (chkE 80) mt_80 = true := by decide +kernel
set_option maxRecDepth 100000 in
theorem ck_81 : lfAll (chkE 81) mt_81 = true := by decide +kernel
set_option maxRecDepth 100000 in
theorem ck_82 : lfAll (chkE 82) mt_82 = true := by decide +kernel
set_option maxRecDepth 100000 in
theorem ck_83 : lfAll (chkE 83) mt_83 = true := by decide +kernel
set_option maxRecDepth 100000 in
theorem ck_84 : lfAll (chkE 84) mt_84 = true := by decide +kernel
set_option maxRecDepth 100000 in
theorem ck_85 : lfAll (chkE 85) mt_85 = true := by decide +kernel
set_option maxRecDepth 100000 in
theorem ck_86 : lfAll (chkE 86) mt_86 = true := by decide +kernel
set_option maxRecDepth 100000 in
theorem ck_87 : lfAll (chkE 87) mt_87 = true := by decide +kernel
set_option maxRecDepth 100000 in
theorem ck_88 : lfAll (chkE 88) mt_88 = true := by decide +kernel
set_option maxRecDepth 100000 in
theorem ck_89 : lfAll (chkE 89) mt_89 = true := by decide +kernel
set_option maxRecDepth 100000 in
theorem ck_90 : lfAll (chkE 90) mt_90 = true := by decide +kernel
set_option maxRecDepth 100000 in
theorem ck_91 : lfAll (chkE 91) mt_91 = true := by decide +kernel
set_option maxRecDepth 100000 in
theorem ck_92 : lfAll (chkE 92) mt_92 = true := by decide +kernel
set_option maxRecDepth 100000 in
theorem ck_93 : lfAll (chkE 93) mt_93 = true := by decide +kernel
set_option maxRecDepth 100000 in
theorem ck_94 : lfAll (chkE 94) mt_94 = true := by decide +kernel
set_option maxRecDepth 100000 in
theorem ck_95 : lfAll (chkE 95) mt_95 = true := by decide +kernel
set_option maxRecDepth 100000 in
theorem ck_96 : lfAll (chkE 96) mt_96 = true := by decide +kernel
set_option maxRecDepth 100000 in
theorem ck_97 : lfAll (chkE 97) mt_97 = true := by decide +kernel
set_option maxRecDepth 100000 in
theorem ck_98 : lfAll (chkE 98) mt_98 = true := by decide +kernel
set_option maxRecDepth 100000 in
theorem ck_99 : lfAll (chkE 99) mt_99 = true := by decide +kernel
set_option maxRecDepth 100000 in
theorem ck_100 : lfAll (chkE 100) mt_100 = true := by decide +kernel
set_option maxRecDepth 100000 in
theorem ck_101 : lfAll (chkE 101) mt_101 = true := by decide +kernel
set_option maxRecDepth 100000 in
theorem ck_102 : lfAll (chkE 102) mt_102 = true := by decide +kernel
set_option maxRecDepth 100000 in
theorem ck_103 : lfAll (chkE 103) mt_103 = true := by decide +kernel
set_option maxRecDepth 100000 in
theorem ck_104 : lfAll (chkE 104) mt_104 = true := by decide +kernel
set_option maxRecDepth 100000 in
theorem ck_105 : lfAll (chkE 105) mt_105 = true := by decide +kernel
set_option maxRecDepth 100000 in
theorem ck_106 : lfAll (chkE 106) mt_106 = true := by decide +kernel
set_option maxRecDepth 100000 in
theorem ck_107 : lfAll (chkE 107) mt_107 = true := by decide +kernel
set_option maxRecDepth 100000 in
theorem ck_108 : lfAll (chkE 108) mt_108 = true := by decide +kernel
set_option maxRecDepth 100000 in
theorem ck_109 : lfAll (chkE 109) mt_109 = true := by decide +kernel
set_option maxRecDepth 100000 in
theorem ck_110 : lfAll (chkE 110) mt_110 = true := by decide +kernel
set_option maxRecDepth 100000 in
theorem ck_111 : lfAll (chkE 111) mt_111 = true := by decide +kernel
set_option maxRecDepth 100000 in
theorem ck_112 : lfAll (chkE 112) mt_112 = true := by decide +kernel
set_option maxRecDepth 100000 in
theorem ck_113 : lfAll (chkE 113) mt_113 = true := by decide +kernel
set_option maxRecDepth 100000 in
theorem ck_114 : lfAll (chkE 114) mt_114 = true := by decide +kernel
set_option maxRecDepth 100000 in
theorem ck_115 : lfAll (chkE 115) mt_115 = true := by decide +kernel
set_option maxRecDepth 100000 in
theorem ck_116 : lfAll (chkE 116) mt_116 = true := by decide +kernel
set_option maxRecDepth 100000 in
theorem ck_117 : lfAll (chkE 117) mt_117 = true := by decide +kernel
set_option maxRecDepth 100000 in
theorem ck_118 : lfAll (chkE 118) mt_118 = true := by decide +kernel
set_option maxRecDepth 100000 in
theorem ck_119 : lfAll (chkE 119) mt_119 = true := by decide +kernel
set_option maxRecDepth 100000 in
theorem ck_120 : lfAll (chkE 120) mt_120 = true := by decide +kernel
set_option maxRecDepth 100000 in
theorem ck_121 : lfAll (chkE 121) mt_121 = true := by decide +kernel
set_option maxRecDepth 100000 in
theorem ck_122 : lfAll (chkE 122) mt_122 = true := by decide +kernel
set_option maxRecDepth 100000 in
theorem ck_123 : lfAll (chkE 123) mt_123 = true := by decide +kernel
set_option maxRecDepth 100000 in
theorem ck_124 : lfAll (chkE 124) mt_124 = true := by decide +kernel
set_option maxRecDepth 100000 in
theorem ck_125 : lfAll (chkE 125) mt_125 = true := by decide +kernel
set_option maxRecDepth 100000 in
theorem ck_126 : lfAll (chkE 126) mt_126 = true := by decide +kernel
set_option maxRecDepth 100000 in
theorem ck_127 : lfAll (chkE 127) mt_127 = true := by decide +kernel
set_option maxRecDepth 100000 in
theorem ck_128 : lfAll (chkE 128) mt_128 = true := by decide +kernel
set_option maxRecDepth 100000 in
theorem ck_129 : lfAll (chkE 129) mt_129 = true := by decide +kernel
set_option maxRecDepth 100000 in
theorem ck_130 : lfAll (chkE 130) mt_130 = true := by decide +kernel
set_option maxRecDepth 100000 in
theorem ck_131 : lfAll (chkE 131) mt_131 = true := by decide +kernel
set_option maxRecDepth 100000 in
theorem ck_132 : lfAll (chkE 132) mt_132 = true := by decide +kernel
