set_option maxRecDepth 100000 in
theorem ck_132_0 : lfAll (chkE 132) mt_132_0 = true := by decide +kernel
set_option maxRecDepth 100000 in
theorem ck_132_1 : lfAll (chkE 132) mt_132_1 = true := by decide +kernel
theorem ck_132 : lfAll (chkE 132) mt_132 = true := by simp only [mt_132, lfAll, ck_132_0, ck_132_1, Bool.and_self]
set_option maxRecDepth 100000 in
theorem ck_133_0 : lfAll (chkE 133) mt_133_0 = true := by decide +kernel
set_option maxRecDepth 100000 in
theorem ck_133_1 : lfAll (chkE 133) mt_133_1 = true := by decide +kernel
theorem ck_133 : lfAll (chkE 133) mt_133 = true := by simp only [mt_133, lfAll, ck_133_0, ck_133_1, Bool.and_self]
set_option maxRecDepth 100000 in
theorem ck_134 : lfAll (chkE 134) mt_134 = true := by decide +kernel
set_option maxRecDepth 100000 in
theorem ck_135 : lfAll (chkE 135) mt_135 = true := by decide +kernel
set_option maxRecDepth 100000 in
theorem ck_136_0 : lfAll (chkE 136) mt_136_0 = true := by decide +kernel
set_option maxRecDepth 100000 in
theorem ck_136_1 : lfAll (chkE 136) mt_136_1 = true := by decide +kernel
theorem ck_136 : lfAll (chkE 136) mt_136 = true := by simp only [mt_136, lfAll, ck_136_0, ck_136_1, Bool.and_self]
set_option maxRecDepth 100000 in
theorem ck_137 : lfAll (chkE 137) mt_137 = true := by decide +kernel
set_option maxRecDepth 100000 in
theorem ck_138 : lfAll (chkE 138) mt_138 = true := by decide +kernel
set_option maxRecDepth 100000 in
theorem ck_139 : lfAll (chkE 139) mt_139 = true := by decide +kernel
set_option maxRecDepth 100000 in
theorem ck_140 : lfAll (chkE 140) mt_140 = true := by decide +kernel
set_option maxRecDepth 100000 in
theorem ck_141 : lfAll (chkE 141) mt_141 = true := by decide +kernel
set_option maxRecDepth 100000 in
theorem ck_142 : lfAll (chkE 142) mt_142 = true := by decide +kernel
set_option maxRecDepth 100000 in
theorem ck_143 : lfAll (chkE 143) mt_143 = true := by decide +kernel
set_option maxRecDepth 100000 in
theorem ck_144 : lfAll (chkE 144) mt_144 = true := by decide +kernel
set_option maxRecDepth 100000 in
theorem ck_145_0 : lfAll (chkE 145) mt_145_0 = true := by decide +kernel
set_option maxRecDepth 100000 in
theorem ck_145_1 : lfAll (chkE 145) mt_145_1 = true := by decide +kernel
theorem ck_145 : lfAll (chkE 145) mt_145 = true := by simp only [mt_145, lfAll, ck_145_0, ck_145_1, Bool.and_self]
set_option maxRecDepth 100000 in
theorem ck_146 : lfAll (chkE 146) mt_146 = true := by decide +kernel
set_option maxRecDepth 100000 in
theorem ck_147_0 : lfAll (chkE 147) mt_147_0 = true := by decide +kernel
set_option maxRecDepth 100000 in
theorem ck_147_1 : lfAll (chkE 147) mt_147_1 = true := by decide +kernel
theorem ck_147 : lfAll (chkE 147) mt_147 = true := by simp only [mt_147, lfAll, ck_147_0, ck_147_1, Bool.and_self]
set_option maxRecDepth 100000 in
theorem ck_148_0 : lfAll (chkE 148) mt_148_0 = true := by decide +kernel
set_option maxRecDepth 100000 in
theorem ck_148_1 : lfAll (chkE 148) mt_148_1 = true := by decide +kernel
theorem ck_148 : lfAll (chkE 148) mt_148 = true := by simp only [mt_148, lfAll, ck_148_0, ck_148_1, Bool.and_self]
set_option maxRecDepth 100000 in
theorem ck_149_0 : lfAll (chkE 149) mt_149_0 = true := by decide +kernel
set_option maxRecDepth 100000 in
theorem ck_149_1 : lfAll (chkE 149) mt_149_1 = true := by decide +kernel
theorem ck_149 : lfAll (chkE 149) mt_149 = true := by simp only [mt_149, lfAll, ck_149_0, ck_149_1, Bool.and_self]
set_option maxRecDepth 100000 in
theorem ck_150 : lfAll (chkE 150) mt_150 = true := by decide +kernel
set_option maxRecDepth 100000 in
theorem ck_151 : lfAll (chkE 151) mt_151 = true := by decide +kernel
set_option maxRecDepth 100000 in
theorem ck_152 : lfAll (chkE 152) mt_152 = true := by decide +kernel
set_option maxRecDepth 100000 in
theorem ck_153 : lfAll (chkE 153) mt_153 = true := by decide +kernel
set_option maxRecDepth 100000 in
theorem ck_154 : lfAll (chkE 154) mt_154 = true := by decide +kernel
set_option maxRecDepth 100000 in
theorem ck_155 : lfAll (chkE 155) mt_155 = true := by decide +kernel
set_option maxRecDepth 100000 in
theorem ck_156 : lfAll (chkE 156) mt_156 = true := by decide +kernel
set_option maxRecDepth 100000 in
theorem ck_157 : lfAll (chkE 157) mt_157 = true := by decide +kernel
set_option maxRecDepth 100000 in
theorem ck_158 : lfAll (chkE 158) mt_158 = true := by decide +kernel
set_option maxRecDepth 100000 in
theorem ck_159 : lfAll (chkE 159) mt_159 = true := by decide +kernel
set_option maxRecDepth 100000 in
theorem ck_160 : lfAll (chkE 160) mt_160 = true := by decide +kernel
set_option maxRecDepth 100000 in
theorem ck_161_0 : lfAll (chkE 161) mt_161_0 = true := by decide +kernel
set_option maxRecDepth 100000 in
theorem ck_161_1 : lfAll (chkE 161) mt_161_1 = true := by decide +kernel
theorem ck_161 : lfAll (chkE 161) mt_161 = true := by simp only [mt_161, lfAll, ck_161_0, ck_161_1, Bool.and_self]
set_option maxRecDepth 100000 in
theorem ck_162 : lfAll (chkE 162) mt_162 = true := by decide +kernel
set_option maxRecDepth 100000 in
theorem ck_163 : lfAll (chkE 163) mt_163 = true := by decide +kernel
set_option maxRecDepth 100000 in
theorem ck_164_0 : lfAll (chkE 164) mt_164_0 = true := by decide +kernel
set_option maxRecDepth 100000 in
theorem ck_164_1 : lfAll (chkE 164) mt_164_1 = true := by decide +kernel
set_option maxRecDepth 100000 in
theorem ck_164_2 : lfAll (chkE 164) mt_164_2 = true := by decide +kernel
theorem ck_164 : lfAll (chkE 164) mt_164 = true := by simp only [mt_164, lfAll, ck_164_0, ck_164_1, ck_164_2, Bool.and_self]
set_option maxRecDepth 100000 in
theorem ck_165 : lfAll (chkE 165) mt_165 = true := by decide +kernel
set_option maxRecDepth 100000 in
theorem ck_166 : lfAll (chkE 166) mt_166 = true := by decide +kernel
set_option maxRecDepth 100000 in
theorem ck_167 : lfAll (chkE 167) mt_167 = true := by decide +kernel
set_option maxRecDepth 100000 in
theorem ck_168 : lfAll (chkE 168) mt_168 = true := by decide +kernel
set_option maxRecDepth 100000 in
theorem ck_169 : lfAll (chkE 169) mt_169 = true := by decide +kernel
set_option maxRecDepth 100000 in
theorem ck_170_0 : lfAll (chkE 170) mt_170_0 = true := by decide +kernel
set_option maxRecDepth 100000 in
theorem ck_170_1 : lfAll (chkE 170) mt_170_1 = true := by decide +kernel
set_option maxRecDepth 100000 in
theorem ck_170_2 : lfAll (chkE 170) mt_170_2 = true := by decide +kernel
theorem ck_170 : lfAll (chkE 170) mt_170 = true := by simp only [mt_170, lfAll, ck_170_0, ck_170_1, ck_170_2, Bool.and_self]
set_option maxRecDepth 100000 in
theorem ck_171 : lfAll (chkE 171) mt_171 = true := by decide +kernel
set_option maxRecDepth 100000 in
theorem ck_172 : lfAll (chkE 172) mt_172 = true := by decide +kernel
set_option maxRecDepth 100000 in
theorem ck_173_0 : lfAll (chkE 173) mt_173_0 = true := by decide +kernel
set_option maxRecDepth 100000 in
theorem ck_173_1 : lfAll (chkE 173) mt_173_1 = true := by decide +kernel
theorem ck_173 : lfAll (chkE 173) mt_173 = true := by simp only [mt_173, lfAll, ck_173_0, ck_173_1, Bool.and_self]
set_option maxRecDepth 100000 in
theorem ck_174 : lfAll (chkE 174) mt_174 = true := by decide +kernel
set_option maxRecDepth 100000 in
theorem ck_175 : lfAll (chkE 175) mt_175 = true := by decide +kernel
set_option maxRecDepth 100000 in
theorem ck_176_0 : lfAll (chkE 176) mt_176_0 = true := by decide +kernel
set_option maxRecDepth 100000 in
theorem ck_176_1 : lfAll (chkE 176) mt_176_1 = true := by decide +kernel
theorem ck_176 : lfAll (chkE 176) mt_176 = true := by simp only [mt_176, lfAll, ck_176_0, ck_176_1, Bool.and_self]
set_option maxRecDepth 100000 in
theorem ck_177 : lfAll (chkE 177) mt_177 = true := by decide +kernel
set_option maxRecDepth 100000 in
theorem ck_178_0 : lfAll (chkE 178) mt_178_0 = true := by decide +kernel
set_option maxRecDepth 100000 in
theorem ck_178_1 : lfAll (chkE 178) mt_178_1 = true := by decide +kernel
theorem ck_178 : lfAll (chkE 178) mt_178 = true := by simp only [mt_178, lfAll, ck_178_0, ck_178_1, Bool.and_self]
set_option maxRecDepth 100000 in
theorem ck_179 : lfAll (chkE 179) mt_179 = true := by decide +kernel
set_option maxRecDepth 100000 in
theorem ck_180 : lfAll (chkE 180) mt_180 = true := by decide +kernel
set_option maxRecDepth 100000 in
theorem ck_181 : lfAll (chkE 181) mt_181 = true := by decide +kernel
set_option maxRecDepth 100000 in
theorem ck_182 : lfAll (chkE 182) mt_182 = true := by decide +kernel
set_option maxRecDepth 100000 in
theorem ck_183 : lfAll (chkE 183) mt_183 = true := by decide +kernel
set_option maxRecDepth 100000 in
theorem ck_184_0 : lfAll (chkE 184) mt_184_0 = true := by decide +kernel
set_option maxRecDepth 100000 in
theorem ck_184_1 : lfAll (chkE 184) mt_184_1 = true := by decide +kernel
theorem ck_184 : lfAll (chkE 184) mt_184 = true := by simp only [mt_184, lfAll, ck_184_0, ck_184_1, Bool.and_self]
set_option maxRecDepth 100000 in
theorem ck_185_0 : lfAll (chkE 185) mt_185_0 = true := by decide +kernel
set_option maxRecDepth 100000 in
theorem ck_185_1 : lfAll (chkE 185) mt_185_1 = true := by decide +kernel
set_option maxRecDepth 100000 in
theorem ck_185_2 : lfAll (chkE 185) mt_185_2 = true := by decide +kernel
theorem ck_185 : lfAll (chkE 185) mt_185 = true := by simp only [mt_185, lfAll, ck_185_0, ck_185_1, ck_185_2, Bool.and_self]
set_option maxRecDepth 100000 in
theorem ck_186_0 : lfAll (chkE 186) mt_186_0 = true := by decide +kernel
set_option maxRecDepth 100000 in
theorem ck_186_1 : lfAll (chkE 186) mt_186_1 = true := by decide +kernel
theorem ck_186 : lfAll (chkE 186) mt_186 = true := by simp only [mt_186, lfAll, ck_186_0, ck_186_1, Bool.and_self]
set_option maxRecDepth 100000 in
theorem ck_187_0 : lfAll (chkE 187) mt_187_0 = true := by decide +kernel
set_option maxRecDepth 100000 in
theorem ck_187_1 : lfAll (chkE 187) mt_187_1 = true := by decide +kernel
theorem ck_187 : lfAll (chkE 187) mt_187 = true := by simp only [mt_187, lfAll, ck_187_0, ck_187_1, Bool.and_self]
set_option maxRecDepth 100000 in
theorem ck_188_0 : lfAll (chkE 188) mt_188_0 = true := by decide +kernel
set_option maxRecDepth 100000 in
theorem ck_188_1 : lfAll (chkE 188) mt_188_1 = true := by decide +kernel
set_option maxRecDepth 100000 in
theorem ck_188_2 : lfAll (chkE 188) mt_188_2 = true := by decide +kernel
theorem ck_188 : lfAll (chkE 188) mt_188 = true := by simp only [mt_188, lfAll, ck_188_0, ck_188_1, ck_188_2, Bool.and_self]
set_option maxRecDepth 100000 in
theorem ck_189_0 : lfAll (chkE 189) mt_189_0 = true := by decide +kernel
set_option maxRecDepth 100000 in
theorem ck_189_1 : lfAll (chkE 189) mt_189_1 = true := by decide +kernel
set_option maxRecDepth 100000 in
theorem ck_189_2 : lfAll (chkE 189) mt_189_2 = true := by decide +kernel
theorem ck_189 : lfAll (chkE 189) mt_189 = true := by simp only [mt_189, lfAll, ck_189_0, ck_189_1, ck_189_2, Bool.and_self]
set_option maxRecDepth 100000 in
theorem ck_190 : lfAll (chkE 190) mt_190 = true := by decide +kernel
set_option maxRecDepth 100000 in
theorem ck_191 : lfAll (chkE 191) mt_191 = true := by decide +kernel
set_option maxRecDepth 100000 in
theorem ck_192 : lfAll (chkE 192) mt_192 = true := by decide +kernel
set_option maxRecDepth 100000 in
theorem ck_193 : lfAll (chkE 193) mt_193 = true := by decide +kernel
set_option maxRecDepth 100000 in
theorem ck_194 : lfAll (chkE 194) mt_194 = true := by decide +kernel
set_option maxRecDepth 100000 in
theorem ck_195 : lfAll (chkE 195) mt_195 = true := by decide +kernel
set_option maxRecDepth 100000 in
theorem ck_196 : lfAll (chkE 196) mt_196 = true := by decide +kernel
set_option maxRecDepth 100000 in
theorem ck_197 : lfAll (chkE 197) mt_197 = true := by decide +kernel
