set_option maxRecDepth 100000 in
theorem ck_198 : lfAll (chkE 198) mt_198 = true := by decide +kernel
set_option maxRecDepth 100000 in
theorem ck_199 : lfAll (chkE 199) mt_199 = true := by decide +kernel
set_option maxRecDepth 100000 in
theorem ck_200 : lfAll (chkE 200) mt_200 = true := by decide +kernel
set_option maxRecDepth 100000 in
theorem ck_201_0 : lfAll (chkE 201) mt_201_0 = true := by decide +kernel
set_option maxRecDepth 100000 in
theorem ck_201_1 : lfAll (chkE 201) mt_201_1 = true := by decide +kernel
theorem ck_201 : lfAll (chkE 201) mt_201 = true := by simp only [mt_201, lfAll, ck_201_0, ck_201_1, Bool.and_self]
set_option maxRecDepth 100000 in
theorem ck_202 : lfAll (chkE 202) mt_202 = true := by decide +kernel
set_option maxRecDepth 100000 in
theorem ck_203 : lfAll (chkE 203) mt_203 = true := by decide +kernel
set_option maxRecDepth 100000 in
theorem ck_204_0 : lfAll (chkE 204) mt_204_0 = true := by decide +kernel
set_option maxRecDepth 100000 in
theorem ck_204_1 : lfAll (chkE 204) mt_204_1 = true := by decide +kernel
theorem ck_204 : lfAll (chkE 204) mt_204 = true := by simp only [mt_204, lfAll, ck_204_0, ck_204_1, Bool.and_self]
set_option maxRecDepth 100000 in
theorem ck_205_0 : lfAll (chkE 205) mt_205_0 = true := by decide +kernel
set_option maxRecDepth 100000 in
theorem ck_205_1 : lfAll (chkE 205) mt_205_1 = true := by decide +kernel
theorem ck_205 : lfAll (chkE 205) mt_205 = true := by simp only [mt_205, lfAll, ck_205_0, ck_205_1, Bool.and_self]
set_option maxRecDepth 100000 in
theorem ck_206_0 : lfAll (chkE 206) mt_206_0 = true := by decide +kernel
set_option maxRecDepth 100000 in
theorem ck_206_1 : lfAll (chkE 206) mt_206_1 = true := by decide +kernel
theorem ck_206 : lfAll (chkE 206) mt_206 = true := by simp only [mt_206, lfAll, ck_206_0, ck_206_1, Bool.and_self]
set_option maxRecDepth 100000 in
theorem ck_207 : lfAll (chkE 207) mt_207 = true := by decide +kernel
set_option maxRecDepth 100000 in
theorem ck_208 : lfAll (chkE 208) mt_208 = true := by decide +kernel
set_option maxRecDepth 100000 in
theorem ck_209 : lfAll (chkE 209) mt_209 = true := by decide +kernel
set_option maxRecDepth 100000 in
theorem ck_210 : lfAll (chkE 210) mt_210 = true := by decide +kernel
set_option maxRecDepth 100000 in
theorem ck_211_0 : lfAll (chkE 211) mt_211_0 = true := by decide +kernel
set_option maxRecDepth 100000 in
theorem ck_211_1 : lfAll (chkE 211) mt_211_1 = true := by decide +kernel
theorem ck_211 : lfAll (chkE 211) mt_211 = true := by simp only [mt_211, lfAll, ck_211_0, ck_211_1, Bool.and_self]
set_option maxRecDepth 100000 in
theorem ck_212_0 : lfAll (chkE 212) mt_212_0 = true := by decide +kernel
set_option maxRecDepth 100000 in
theorem ck_212_1 : lfAll (chkE 212) mt_212_1 = true := by decide +kernel
theorem ck_212 : lfAll (chkE 212) mt_212 = true := by simp only [mt_212, lfAll, ck_212_0, ck_212_1, Bool.and_self]
set_option maxRecDepth 100000 in
theorem ck_213_0 : lfAll (chkE 213) mt_213_0 = true := by decide +kernel
set_option maxRecDepth 100000 in
theorem ck_213_1 : lfAll (chkE 213) mt_213_1 = true := by decide +kernel
theorem ck_213 : lfAll (chkE 213) mt_213 = true := by simp only [mt_213, lfAll, ck_213_0, ck_213_1, Bool.and_self]
set_option maxRecDepth 100000 in
theorem ck_214 : lfAll (chkE 214) mt_214 = true := by decide +kernel
set_option maxRecDepth 100000 in
theorem ck_215 : lfAll (chkE 215) mt_215 = true := by decide +kernel
set_option maxRecDepth 100000 in
theorem ck_216_0 : lfAll (chkE 216) mt_216_0 = true := by decide +kernel
set_option maxRecDepth 100000 in
theorem ck_216_1 : lfAll (chkE 216) mt_216_1 = true := by decide +kernel
set_option maxRecDepth 100000 in
theorem ck_216_2 : lfAll (chkE 216) mt_216_2 = true := by decide +kernel
theorem ck_216 : lfAll (chkE 216) mt_216 = true := by simp only [mt_216, lfAll, ck_216_0, ck_216_1, ck_216_2, Bool.and_self]
set_option maxRecDepth 100000 in
theorem ck_217_0 : lfAll (chkE 217) mt_217_0 = true := by decide +kernel
set_option maxRecDepth 100000 in
theorem ck_217_1 : lfAll (chkE 217) mt_217_1 = true := by decide +kernel
theorem ck_217 : lfAll (chkE 217) mt_217 = true := by simp only [mt_217, lfAll, ck_217_0, ck_217_1, Bool.and_self]
set_option maxRecDepth 100000 in
theorem ck_218_0 : lfAll (chkE 218) mt_218_0 = true := by decide +kernel
set_option maxRecDepth 100000 in
theorem ck_218_1 : lfAll (chkE 218) mt_218_1 = true := by decide +kernel
theorem ck_218 : lfAll (chkE 218) mt_218 = true := by simp only [mt_218, lfAll, ck_218_0, ck_218_1, Bool.and_self]
set_option maxRecDepth 100000 in
theorem ck_219 : lfAll (chkE 219) mt_219 = true := by decide +kernel
set_option maxRecDepth 100000 in
theorem ck_220 : lfAll (chkE 220) mt_220 = true := by decide +kernel
set_option maxRecDepth 100000 in
theorem ck_221_0 : lfAll (chkE 221) mt_221_0 = true := by decide +kernel
set_option maxRecDepth 100000 in
theorem ck_221_1 : lfAll (chkE 221) mt_221_1 = true := by decide +kernel
theorem ck_221 : lfAll (chkE 221) mt_221 = true := by simp only [mt_221, lfAll, ck_221_0, ck_221_1, Bool.and_self]
set_option maxRecDepth 100000 in
theorem ck_222 : lfAll (chkE 222) mt_222 = true := by decide +kernel
set_option maxRecDepth 100000 in
theorem ck_223_0 : lfAll (chkE 223) mt_223_0 = true := by decide +kernel
set_option maxRecDepth 100000 in
theorem ck_223_1 : lfAll (chkE 223) mt_223_1 = true := by decide +kernel
theorem ck_223 : lfAll (chkE 223) mt_223 = true := by simp only [mt_223, lfAll, ck_223_0, ck_223_1, Bool.and_self]
set_option maxRecDepth 100000 in
theorem ck_224_0 : lfAll (chkE 224) mt_224_0 = true := by decide +kernel
set_option maxRecDepth 100000 in
theorem ck_224_1 : lfAll (chkE 224) mt_224_1 = true := by decide +kernel
set_option maxRecDepth 100000 in
theorem ck_224_2 : lfAll (chkE 224) mt_224_2 = true := by decide +kernel
theorem ck_224 : lfAll (chkE 224) mt_224 = true := by simp only [mt_224, lfAll, ck_224_0, ck_224_1, ck_224_2, Bool.and_self]
set_option maxRecDepth 100000 in
theorem ck_225_0 : lfAll (chkE 225) mt_225_0 = true := by decide +kernel
set_option maxRecDepth 100000 in
theorem ck_225_1 : lfAll (chkE 225) mt_225_1 = true := by decide +kernel
theorem ck_225 : lfAll (chkE 225) mt_225 = true := by simp only [mt_225, lfAll, ck_225_0, ck_225_1, Bool.and_self]
set_option maxRecDepth 100000 in
theorem ck_226 : lfAll (chkE 226) mt_226 = true := by decide +kernel
set_option maxRecDepth 100000 in
theorem ck_227_0 : lfAll (chkE 227) mt_227_0 = true := by decide +kernel
set_option maxRecDepth 100000 in
theorem ck_227_1 : lfAll (chkE 227) mt_227_1 = true := by decide +kernel
theorem ck_227 : lfAll (chkE 227) mt_227 = true := by simp only [mt_227, lfAll, ck_227_0, ck_227_1, Bool.and_self]
set_option maxRecDepth 100000 in
theorem ck_228_0 : lfAll (chkE 228) mt_228_0 = true := by decide +kernel
set_option maxRecDepth 100000 in
theorem ck_228_1 : lfAll (chkE 228) mt_228_1 = true := by decide +kernel
theorem ck_228 : lfAll (chkE 228) mt_228 = true := by simp only [mt_228, lfAll, ck_228_0, ck_228_1, Bool.and_self]
set_option maxRecDepth 100000 in
theorem ck_229 : lfAll (chkE 229) mt_229 = true := by decide +kernel
set_option maxRecDepth 100000 in
theorem ck_230_0 : lfAll (chkE 230) mt_230_0 = true := by decide +kernel
set_option maxRecDepth 100000 in
theorem ck_230_1 : lfAll (chkE 230) mt_230_1 = true := by decide +kernel
theorem ck_230 : lfAll (chkE 230) mt_230 = true := by simp only [mt_230, lfAll, ck_230_0, ck_230_1, Bool.and_self]
set_option maxRecDepth 100000 in
theorem ck_231_0 : lfAll (chkE 231) mt_231_0 = true := by decide +kernel
set_option maxRecDepth 100000 in
theorem ck_231_1 : lfAll (chkE 231) mt_231_1 = true := by decide +kernel
theorem ck_231 : lfAll (chkE 231) mt_231 = true := by simp only [mt_231, lfAll, ck_231_0, ck_231_1, Bool.and_self]
set_option maxRecDepth 100000 in
theorem ck_232_0 : lfAll (chkE 232) mt_232_0 = true := by decide +kernel
set_option maxRecDepth 100000 in
theorem ck_232_1 : lfAll (chkE 232) mt_232_1 = true := by decide +kernel
theorem ck_232 : lfAll (chkE 232) mt_232 = true := by simp only [mt_232, lfAll, ck_232_0, ck_232_1, Bool.and_self]
set_option maxRecDepth 100000 in
theorem ck_233 : lfAll (chkE 233) mt_233 = true := by decide +kernel
set_option maxRecDepth 100000 in
theorem ck_234 : lfAll (chkE 234) mt_234 = true := by decide +kernel
set_option maxRecDepth 100000 in
theorem ck_235_0 : lfAll (chkE 235) mt_235_0 = true := by decide +kernel
set_option maxRecDepth 100000 in
theorem ck_235_1 : lfAll (chkE 235) mt_235_1 = true := by decide +kernel
theorem ck_235 : lfAll (chkE 235) mt_235 = true := by simp only [mt_235, lfAll, ck_235_0, ck_235_1, Bool.and_self]
set_option maxRecDepth 100000 in
theorem ck_236_0 : lfAll (chkE 236) mt_236_0 = true := by decide +kernel
set_option maxRecDepth 100000 in
theorem ck_236_1 : lfAll (chkE 236) mt_236_1 = true := by decide +kernel
theorem ck_236 : lfAll (chkE 236) mt_236 = true := by simp only [mt_236, lfAll, ck_236_0, ck_236_1, Bool.and_self]
set_option maxRecDepth 100000 in
theorem ck_237 : lfAll (chkE 237) mt_237 = true := by decide +kernel
set_option maxRecDepth 100000 in
theorem ck_238_0 : lfAll (chkE 238) mt_238_0 = true := by decide +kernel
set_option maxRecDepth 100000 in
theorem ck_238_1 : lfAll (chkE 238) mt_238_1 = true := by decide +kernel
set_option maxRecDepth 100000 in
theorem ck_238_2 : lfAll (chkE 238) mt_238_2 = true := by decide +kernel
set_option maxRecDepth 100000 in
theorem ck_238_3 : lfAll (chkE 238) mt_238_3 = true := by decide +kernel
theorem ck_238 : lfAll (chkE 238) mt_238 = true := by simp only [mt_238, lfAll, ck_238_0, ck_238_1, ck_238_2, ck_238_3, Bool.and_self]
set_option maxRecDepth 100000 in
theorem ck_239 : lfAll (chkE 239) mt_239 = true := by decide +kernel
set_option maxRecDepth 100000 in
theorem ck_240_0 : lfAll (chkE 240) mt_240_0 = true := by decide +kernel
set_option maxRecDepth 100000 in
theorem ck_240_1 : lfAll (chkE 240) mt_240_1 = true := by decide +kernel
theorem ck_240 : lfAll (chkE 240) mt_240 = true := by simp only [mt_240, lfAll, ck_240_0, ck_240_1, Bool.and_self]
set_option maxRecDepth 100000 in
theorem ck_241_0 : lfAll (chkE 241) mt_241_0 = true := by decide +kernel
set_option maxRecDepth 100000 in
theorem ck_241_1 : lfAll (chkE 241) mt_241_1 = true := by decide +kernel
theorem ck_241 : lfAll (chkE 241) mt_241 = true := by simp only [mt_241, lfAll, ck_241_0, ck_241_1, Bool.and_self]
set_option maxRecDepth 100000 in
theorem ck_242 : lfAll (chkE 242) mt_242 = true := by decide +kernel
set_option maxRecDepth 100000 in
theorem ck_243_0 : lfAll (chkE 243) mt_243_0 = true := by decide +kernel
set_option maxRecDepth 100000 in
theorem ck_243_1 : lfAll (chkE 243) mt_243_1 = true := by decide +kernel
theorem ck_243 : lfAll (chkE 243) mt_243 = true := by simp only [mt_243, lfAll, ck_243_0, ck_243_1, Bool.and_self]
set_option maxRecDepth 100000 in
theorem ck_244 : lfAll (chkE 244) mt_244 = true := by decide +kernel
set_option maxRecDepth 100000 in
theorem ck_245 : lfAll (chkE 245) mt_245 = true := by decide +kernel
set_option maxRecDepth 100000 in
theorem ck_246_0 : lfAll (chkE 246) mt_246_0 = true := by decide +kernel
set_option maxRecDepth 100000 in
theorem ck_246_1 : lfAll (chkE 246) mt_246_1 = true := by decide +kernel
theorem ck_246 : lfAll (chkE 246) mt_246 = true := by simp only [mt_246, lfAll, ck_246_0, ck_246_1, Bool.and_self]
set_option maxRecDepth 100000 in
theorem ck_247_0 : lfAll (chkE 247) mt_247_0 = true := by decide +kernel
set_option maxRecDepth 100000 in
theorem ck_247_1 : lfAll (chkE 247) mt_247_1 = true := by decide +kernel
set_option maxRecDepth 100000 in
theorem ck_247_2 : lfAll (chkE 247) mt_247_2 = true := by decide +kernel
theorem ck_247 : lfAll (chkE 247) mt_247 = true := by simp only [mt_247, lfAll, ck_247_0, ck_247_1, ck_247_2, Bool.and_self]
set_option maxRecDepth 100000 in
theorem ck_248_0 : lfAll (chkE 248) mt_248_0 = true := by decide +kernel
set_option maxRecDepth 100000 in
theorem ck_248_1 : lfAll (chkE 248) mt_248_1 = true := by decide +kernel
set_option maxRecDepth 100000 in
theorem ck_248_2 : lfAll (chkE 248) mt_248_2 = true := by decide +kernel
set_option maxRecDepth 100000 in
theorem ck_248_3 : lfAll (chkE 248) mt_248_3 = true := by decide +kernel
theorem ck_248 : lfAll (chkE 248) mt_248 = true := by simp only [mt_248, lfAll, ck_248_0, ck_248_1, ck_248_2, ck_248_3, Bool.and_self]
set_option maxRecDepth 100000 in
theorem ck_249 : lfAll (chkE 249) mt_249 = true := by decide +kernel
set_option maxRecDepth 100000 in
theorem ck_250_0 : lfAll (chkE 250) mt_250_0 = true := by decide +kernel
set_option maxRecDepth 100000 in
theorem ck_250_1 : lfAll (chkE 250) mt_250_1 = true := by decide +kernel
theorem ck_250 : lfAll (chkE 250) mt_250 = true := by simp only [mt_250, lfAll, ck_250_0, ck_250_1, Bool.and_self]
set_option maxRecDepth 100000 in
theorem ck_251 : lfAll (chkE 251) mt_251 = true := by decide +kernel
set_option maxRecDepth 100000 in
theorem ck_252 : lfAll (chkE 252) mt_252 = true := by decide +kernel
set_option maxRecDepth 100000 in
theorem ck_253_0 : lfAll (chkE 253) mt_253_0 = true := by decide +kernel
set_option maxRecDepth 100000 in
theorem ck_253_1 : lfAll (chkE 253) mt_253_1 = true := by decide +kernel
theorem ck_253 : lfAll (chkE 253) mt_253 = true := by simp only [mt_253, lfAll, ck_253_0, ck_253_1, Bool.and_self]
set_option maxRecDepth 100000 in
theorem ck_254_0 : lfAll (chkE 254) mt_254_0 = true := by decide +kernel
set_option maxRecDepth 100000 in
theorem ck_254_1 : lfAll (chkE 254) mt_254_1 = true := by decide +kernel
theorem ck_254 : lfAll (chkE 254) mt_254 = true := by simp only [mt_254, lfAll, ck_254_0, ck_254_1, Bool.and_self]
set_option maxRecDepth 100000 in
theorem ck_255_0 : lfAll (chkE 255) mt_255_0 = true := by decide +kernel
set_option maxRecDepth 100000 in
theorem ck_255_1 : lfAll (chkE 255) mt_255_1 = true := by decide +kernel
theorem ck_255 : lfAll (chkE 255) mt_255 = true := by simp only [mt_255, lfAll, ck_255_0, ck_255_1, Bool.and_self]
set_option maxRecDepth 100000 in
theorem ck_256 : lfAll (chkE 256) mt_256 = true := by decide +kernel
set_option maxRecDepth 100000 in
theorem ck_257 : lfAll (chkE 257) mt_257 = true := by decide +kernel
set_option maxRecDepth 100000 in
theorem ck_258 : lfAll (chkE 258) mt_258 = true := by decide +kernel
set_option maxRecDepth 100000 in
theorem ck_259 : lfAll (chkE 259) mt_259 = true := by decide +kernel
set_option maxRecDepth 100000 in
theorem ck_260 : lfAll (chkE 260) mt_260 = true := by decide +kernel
set_option maxRecDepth 100000 in
theorem ck_261 : lfAll (chkE 261) mt_261 = true := by decide +kernel
set_option maxRecDepth 100000 in
theorem ck_262 : lfAll (chkE 262) mt_262 = true := by decide +kernel
