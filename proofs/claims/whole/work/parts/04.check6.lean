set_option maxRecDepth 100000 in
theorem mT_ok : lfAll (fun q => lfAll (chkE q.1) q.2) mT = true := by
  simp only [mT, lfAll, ck_0, ck_1, ck_2, ck_3, ck_4, ck_5, ck_6, ck_7, ck_8, ck_9, ck_10, ck_11, ck_12, ck_13, ck_14, ck_15, ck_16, ck_17, ck_18, ck_19, ck_20, ck_21, ck_22, ck_23, ck_24, ck_25, ck_26, ck_27, ck_28, ck_29, ck_30, ck_31, ck_32, ck_33, ck_34, ck_35, ck_36, ck_37, ck_38, ck_39, ck_40, ck_41, ck_42, ck_43, ck_44, ck_45, ck_46, ck_47, ck_48, ck_49, ck_50, ck_51, ck_52, ck_53, ck_54, ck_55, ck_56, ck_57, ck_58, ck_59, ck_60, ck_61, ck_62, ck_63, ck_64, ck_65, ck_66, ck_67, ck_68, ck_69, ck_70, ck_71, ck_72, ck_73, ck_74, ck_75, ck_76, ck_77, ck_78, ck_79, ck_80, ck_81, ck_82, ck_83, ck_84, ck_85, ck_86, ck_87, ck_88, ck_89, ck_90, ck_91, ck_92, ck_93, ck_94, ck_95, ck_96, ck_97, ck_98, ck_99, ck_100, ck_101, ck_102, ck_103, ck_104, ck_105, ck_106, ck_107, ck_108, ck_109, ck_110, ck_111, ck_112, ck_113, ck_114, ck_115, ck_116, ck_117, ck_118, ck_119, ck_120, ck_121, ck_122, ck_123, ck_124, ck_125, ck_126, ck_127, ck_128, ck_129, ck_130, ck_131, ck_132, ck_133, ck_134, ck_135, ck_136, ck_137, ck_138, ck_139, ck_140, ck_141, ck_142, ck_143, ck_144, ck_145, ck_146, ck_147, ck_148, ck_149, ck_150, ck_151, ck_152, ck_153, ck_154, ck_155, ck_156, ck_157, ck_158, ck_159, ck_160, ck_161, ck_162, ck_163, ck_164, ck_165, ck_166, ck_167, ck_168, ck_169, ck_170, ck_171, ck_172, ck_173, ck_174, ck_175, ck_176, ck_177, ck_178, ck_179, ck_180, ck_181, ck_182, ck_183, ck_184, ck_185, ck_186, ck_187, ck_188, ck_189, ck_190, ck_191, ck_192, ck_193, ck_194, ck_195, ck_196, ck_197, ck_198, ck_199, ck_200, ck_201, ck_202, ck_203, ck_204, ck_205, ck_206, ck_207, ck_208, ck_209, ck_210, ck_211, ck_212, ck_213, ck_214, ck_215, ck_216, ck_217, ck_218, ck_219, ck_220, ck_221, ck_222, ck_223, ck_224, ck_225, ck_226, ck_227, ck_228, ck_229, ck_230, ck_231, ck_232, ck_233, ck_234, ck_235, ck_236, ck_237, ck_238, ck_239, ck_240, ck_241, ck_242, ck_243, ck_244, ck_245, ck_246, ck_247, ck_248, ck_249, ck_250, ck_251, ck_252, ck_253, ck_254, ck_255, ck_256, ck_257, ck_258, ck_259, ck_260, ck_261, ck_262, Bool.and_self]
theorem prog_ok {k pc : Nat} {e : mI} (h : prog k pc = some e) : ∃ j, chkE k (pc, e, j) = true := by
  unfold prog mtOf at h
  have h1 := lfAll_get mT_ok k
  generalize mT.get k = q at h h1
  cases hk : Nat.beq k q.1 with
  | false => rw [hk] at h; cases h
  | true =>
    rw [hk] at h
    have hk := Nat.eq_of_beq_eq_true hk
    have h2 := lfAll_get h1 pc
    rw [← hk] at h2
    generalize q.2.get pc = r at h h2
    cases hp : Nat.beq pc r.1 with
    | false => rw [hp] at h; cases h
    | true =>
      rw [hp] at h
      have hp := Nat.eq_of_beq_eq_true hp
      obtain ⟨a, b, j⟩ := r
      cases h
      dsimp only at hp
      subst hp
      exact ⟨j, h2⟩
theorem meth_ok {k : Nat} (h0 : 0 < k) (h : k < 263) : chkM k = true := by
  by_cases h0 : k < 9
  · have h1 := List.all_eq_true.mp cm_0 (k - 1) (List.mem_range.mpr (by omega))
    rwa [show k - 1 + 1 = k by omega] at h1
  by_cases h1 : k < 17
  · have h1 := List.all_eq_true.mp cm_1 (k - 9) (List.mem_range.mpr (by omega))
    rwa [show k - 9 + 9 = k by omega] at h1
  by_cases h2 : k < 25
  · have h1 := List.all_eq_true.mp cm_2 (k - 17) (List.mem_range.mpr (by omega))
    rwa [show k - 17 + 17 = k by omega] at h1
  by_cases h3 : k < 33
  · have h1 := List.all_eq_true.mp cm_3 (k - 25) (List.mem_range.mpr (by omega))
    rwa [show k - 25 + 25 = k by omega] at h1
  by_cases h4 : k < 41
  · have h1 := List.all_eq_true.mp cm_4 (k - 33) (List.mem_range.mpr (by omega))
    rwa [show k - 33 + 33 = k by omega] at h1
  by_cases h5 : k < 49
  · have h1 := List.all_eq_true.mp cm_5 (k - 41) (List.mem_range.mpr (by omega))
    rwa [show k - 41 + 41 = k by omega] at h1
  by_cases h6 : k < 57
  · have h1 := List.all_eq_true.mp cm_6 (k - 49) (List.mem_range.mpr (by omega))
    rwa [show k - 49 + 49 = k by omega] at h1
  by_cases h7 : k < 65
  · have h1 := List.all_eq_true.mp cm_7 (k - 57) (List.mem_range.mpr (by omega))
    rwa [show k - 57 + 57 = k by omega] at h1
  by_cases h8 : k < 73
  · have h1 := List.all_eq_true.mp cm_8 (k - 65) (List.mem_range.mpr (by omega))
    rwa [show k - 65 + 65 = k by omega] at h1
  by_cases h9 : k < 81
  · have h1 := List.all_eq_true.mp cm_9 (k - 73) (List.mem_range.mpr (by omega))
    rwa [show k - 73 + 73 = k by omega] at h1
  by_cases h10 : k < 89
  · have h1 := List.all_eq_true.mp cm_10 (k - 81) (List.mem_range.mpr (by omega))
    rwa [show k - 81 + 81 = k by omega] at h1
  by_cases h11 : k < 97
  · have h1 := List.all_eq_true.mp cm_11 (k - 89) (List.mem_range.mpr (by omega))
    rwa [show k - 89 + 89 = k by omega] at h1
  by_cases h12 : k < 105
  · have h1 := List.all_eq_true.mp cm_12 (k - 97) (List.mem_range.mpr (by omega))
    rwa [show k - 97 + 97 = k by omega] at h1
  by_cases h13 : k < 113
  · have h1 := List.all_eq_true.mp cm_13 (k - 105) (List.mem_range.mpr (by omega))
    rwa [show k - 105 + 105 = k by omega] at h1
  by_cases h14 : k < 121
  · have h1 := List.all_eq_true.mp cm_14 (k - 113) (List.mem_range.mpr (by omega))
    rwa [show k - 113 + 113 = k by omega] at h1
  by_cases h15 : k < 129
  · have h1 := List.all_eq_true.mp cm_15 (k - 121) (List.mem_range.mpr (by omega))
    rwa [show k - 121 + 121 = k by omega] at h1
  by_cases h16 : k < 137
  · have h1 := List.all_eq_true.mp cm_16 (k - 129) (List.mem_range.mpr (by omega))
    rwa [show k - 129 + 129 = k by omega] at h1
  by_cases h17 : k < 145
  · have h1 := List.all_eq_true.mp cm_17 (k - 137) (List.mem_range.mpr (by omega))
    rwa [show k - 137 + 137 = k by omega] at h1
  by_cases h18 : k < 153
  · have h1 := List.all_eq_true.mp cm_18 (k - 145) (List.mem_range.mpr (by omega))
    rwa [show k - 145 + 145 = k by omega] at h1
  by_cases h19 : k < 161
  · have h1 := List.all_eq_true.mp cm_19 (k - 153) (List.mem_range.mpr (by omega))
    rwa [show k - 153 + 153 = k by omega] at h1
  by_cases h20 : k < 169
  · have h1 := List.all_eq_true.mp cm_20 (k - 161) (List.mem_range.mpr (by omega))
    rwa [show k - 161 + 161 = k by omega] at h1
  by_cases h21 : k < 177
  · have h1 := List.all_eq_true.mp cm_21 (k - 169) (List.mem_range.mpr (by omega))
    rwa [show k - 169 + 169 = k by omega] at h1
  by_cases h22 : k < 185
  · have h1 := List.all_eq_true.mp cm_22 (k - 177) (List.mem_range.mpr (by omega))
    rwa [show k - 177 + 177 = k by omega] at h1
  by_cases h23 : k < 193
  · have h1 := List.all_eq_true.mp cm_23 (k - 185) (List.mem_range.mpr (by omega))
    rwa [show k - 185 + 185 = k by omega] at h1
  by_cases h24 : k < 201
  · have h1 := List.all_eq_true.mp cm_24 (k - 193) (List.mem_range.mpr (by omega))
    rwa [show k - 193 + 193 = k by omega] at h1
  by_cases h25 : k < 209
  · have h1 := List.all_eq_true.mp cm_25 (k - 201) (List.mem_range.mpr (by omega))
    rwa [show k - 201 + 201 = k by omega] at h1
  by_cases h26 : k < 217
  · have h1 := List.all_eq_true.mp cm_26 (k - 209) (List.mem_range.mpr (by omega))
    rwa [show k - 209 + 209 = k by omega] at h1
  by_cases h27 : k < 225
  · have h1 := List.all_eq_true.mp cm_27 (k - 217) (List.mem_range.mpr (by omega))
    rwa [show k - 217 + 217 = k by omega] at h1
  by_cases h28 : k < 233
  · have h1 := List.all_eq_true.mp cm_28 (k - 225) (List.mem_range.mpr (by omega))
    rwa [show k - 225 + 225 = k by omega] at h1
  by_cases h29 : k < 241
  · have h1 := List.all_eq_true.mp cm_29 (k - 233) (List.mem_range.mpr (by omega))
    rwa [show k - 233 + 233 = k by omega] at h1
  by_cases h30 : k < 249
  · have h1 := List.all_eq_true.mp cm_30 (k - 241) (List.mem_range.mpr (by omega))
    rwa [show k - 241 + 241 = k by omega] at h1
  by_cases h31 : k < 257
  · have h1 := List.all_eq_true.mp cm_31 (k - 249) (List.mem_range.mpr (by omega))
    rwa [show k - 249 + 249 = k by omega] at h1
  by_cases h32 : k < 263
  · have h1 := List.all_eq_true.mp cm_32 (k - 257) (List.mem_range.mpr (by omega))
    rwa [show k - 257 + 257 = k by omega] at h1
  omega
