set_option maxRecDepth 100000 in
theorem ck_199 : lfAll (chkE 199) mt_199 = true := by decide +kernel
set_option maxRecDepth 100000 in
theorem ck_200 : lfAll (chkE 200) mt_200 = true := by decide +kernel
set_option maxRecDepth 100000 in
theorem ck_201 : lfAll (chkE 201) mt_201 = true := by decide +kernel
set_option maxRecDepth 100000 in
theorem ck_202 : lfAll (chkE 202) mt_202 = true := by decide +kernel
set_option maxRecDepth 100000 in
theorem ck_203 : lfAll (chkE 203) mt_203 = true := by decide +kernel
set_option maxRecDepth 100000 in
theorem ck_204 : lfAll (chkE 204) mt_204 = true := by decide +kernel
set_option maxRecDepth 100000 in
theorem ck_205 : lfAll (chkE 205) mt_205 = true := by decide +kernel
set_option maxRecDepth 100000 in
theorem ck_206 : lfAll (chkE 206) mt_206 = true := by decide +kernel
set_option maxRecDepth 100000 in
theorem ck_207 : lfAll (chkE 207) mt_207 = true := by decide +kernel
set_option maxRecDepth 100000 in
theorem ck_208 : lfAll (chkE 208) mt_208 = true := by decide +kernel
set_option maxRecDepth 100000 in
theorem ck_209 : lfAll (chkE 209) mt_209 = true := by decide +kernel
set_option maxRecDepth 100000 in
theorem ck_210 : lfAll (chkE 210) mt_210 = true := by decide +kernel
set_option maxRecDepth 100000 in
theorem ck_211 : lfAll (chkE 211) mt_211 = true := by decide +kernel
set_option maxRecDepth 100000 in
theorem ck_212 : lfAll (chkE 212) mt_212 = true := by decide +kernel
set_option maxRecDepth 100000 in
theorem ck_213 : lfAll (chkE 213) mt_213 = true := by decide +kernel
set_option maxRecDepth 100000 in
theorem ck_214 : lfAll (chkE 214) mt_214 = true := by decide +kernel
set_option maxRecDepth 100000 in
theorem ck_215 : lfAll (chkE 215) mt_215 = true := by decide +kernel
set_option maxRecDepth 100000 in
theorem ck_216 : lfAll (chkE 216) mt_216 = true := by decide +kernel
set_option maxRecDepth 100000 in
theorem ck_217 : lfAll (chkE 217) mt_217 = true := by decide +kernel
set_option maxRecDepth 100000 in
theorem ck_218 : lfAll (chkE 218) mt_218 = true := by decide +kernel
set_option maxRecDepth 100000 in
theorem ck_219 : lfAll (chkE 219) mt_219 = true := by decide +kernel
set_option maxRecDepth 100000 in
theorem ck_220 : lfAll (chkE 220) mt_220 = true := by decide +kernel
set_option maxRecDepth 100000 in
theorem ck_221 : lfAll (chkE 221) mt_221 = true := by decide +kernel
set_option maxRecDepth 100000 in
theorem ck_222 : lfAll (chkE 222) mt_222 = true := by decide +kernel
set_option maxRecDepth 100000 in
theorem ck_223 : lfAll (chkE 223) mt_223 = true := by decide +kernel
set_option maxRecDepth 100000 in
theorem ck_224 : lfAll (chkE 224) mt_224 = true := by decide +kernel
set_option maxRecDepth 100000 in
theorem ck_225 : lfAll (chkE 225) mt_225 = true := by decide +kernel
set_option maxRecDepth 100000 in
theorem ck_226 : lfAll (chkE 226) mt_226 = true := by decide +kernel
set_option maxRecDepth 100000 in
theorem ck_227 : lfAll (chkE 227) mt_227 = true := by decide +kernel
set_option maxRecDepth 100000 in
theorem ck_228 : lfAll (chkE 228) mt_228 = true := by decide +kernel
set_option maxRecDepth 100000 in
theorem ck_229 : lfAll (chkE 229) mt_229 = true := by decide +kernel
set_option maxRecDepth 100000 in
theorem ck_230 : lfAll (chkE 230) mt_230 = true := by decide +kernel
set_option maxRecDepth 100000 in
theorem ck_231 : lfAll (chkE 231) mt_231 = true := by decide +kernel
set_option maxRecDepth 100000 in
theorem ck_232 : lfAll (chkE 232) mt_232 = true := by decide +kernel
set_option maxRecDepth 100000 in
theorem ck_233 : lfAll (chkE 233) mt_233 = true := by decide +kernel
set_option maxRecDepth 100000 in
theorem ck_234 : lfAll (chkE 234) mt_234 = true := by decide +kernel
set_option maxRecDepth 100000 in
theorem ck_235 : lfAll (chkE 235) mt_235 = true := by decide +kernel
set_option maxRecDepth 100000 in
theorem ck_236 : lfAll (chkE 236) mt_236 = true := by decide +kernel
set_option maxRecDepth 100000 in
theorem ck_237 : lfAll (chkE 237) mt_237 = true := by decide +kernel
set_option maxRecDepth 100000 in
theorem ck_238 : lfAll (chkE 238) mt_238 = true := by decide +kernel
set_option maxRecDepth 100000 in
theorem ck_239 : lfAll (chkE 239) mt_239 = true := by decide +kernel
set_option maxRecDepth 100000 in
theorem ck_240 : lfAll (chkE 240) mt_240 = true := by decide +kernel
set_option maxRecDepth 100000 in
theorem ck_241 : lfAll (chkE 241) mt_241 = true := by decide +kernel
set_option maxRecDepth 100000 in
theorem ck_242 : lfAll (chkE 242) mt_242 = true := by decide +kernel
set_option maxRecDepth 100000 in
theorem ck_243 : lfAll (chkE 243) mt_243 = true := by decide +kernel
set_option maxRecDepth 100000 in
theorem ck_244 : lfAll (chkE 244) mt_244 = true := by decide +kernel
set_option maxRecDepth 100000 in
theorem ck_245 : lfAll (chkE 245) mt_245 = true := by decide +kernel
set_option maxRecDepth 100000 in
theorem ck_246 : lfAll (chkE 246) mt_246 = true := by decide +kernel
set_option maxRecDepth 100000 in
theorem ck_247 : lfAll (chkE 247) mt_247 = true := by decide +kernel
set_option maxRecDepth 100000 in
theorem ck_248 : lfAll (chkE 248) mt_248 = true := by decide +kernel
set_option maxRecDepth 100000 in
theorem ck_249 : lfAll (chkE 249) mt_249 = true := by decide +kernel
set_option maxRecDepth 100000 in
theorem ck_250 : lfAll (chkE 250) mt_250 = true := by decide +kernel
set_option maxRecDepth 100000 in
theorem ck_251 : lfAll (chkE 251) mt_251 = true := by decide +kernel
set_option maxRecDepth 100000 in
theorem ck_252 : lfAll (chkE 252) mt_252 = true := by decide +kernel
set_option maxRecDepth 100000 in
theorem ck_253 : lfAll (chkE 253) mt_253 = true := by decide +kernel
set_option maxRecDepth 100000 in
theorem ck_254 : lfAll (chkE 254) mt_254 = true := by decide +kernel
set_option maxRecDepth 100000 in
theorem ck_255 : lfAll (chkE 255) mt_255 = true := by decide +kernel
set_option maxRecDepth 100000 in
theorem ck_256 : lfAll (chkE 256) mt_256 = true := by decide +kernel
set_option maxRecDepth 100000 in
theorem ck_257 : lfAll (chkE 257) mt_257 = true := by decide +kernel
set_option maxRecDepth 100000 in
theorem ck_258 : lfAll (chkE 258) mt_258 = true := by decide +kernel
set_option maxRecDepth 100000 in
theorem ck_259 : lfAll (chkE 259) mt_259 = true := by decide +kernel
set_option maxRecDepth 100000 in
theorem ck_260 : lfAll (chkE 260) mt_260 = true := by decide +kernel
set_option maxRecDepth 100000 in
theorem ck_261 : lfAll (chkE 261) mt_261 = true := by decide +kernel
set_option maxRecDepth 100000 in
theorem ck_262 : lfAll (chkE 262) mt_262 = true := by decide +kernel
set_option maxRecDepth 100000 in
theorem ck_263 : lfAll (chkE 263) mt_263 = true := by decide +kernel
set_option maxRecDepth 100000 in
theorem ck_264 : lfAll (chkE 264) mt_264 = true := by decide +kernel
