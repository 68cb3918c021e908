set_option maxRecDepth 100000 in
theorem cm_all : (List.range 264).all (fun k => chkM (k + 1)) = true := by decide +kernel
set_option maxRecDepth 100000 in
theorem mT_ok : lfAll (fun q => lfAll (chkE q.1) q.2) mT = true := by
  simp only [mT, lfAll, ck_0, ck_1, ck_2, ck_3, ck_4, ck_5, ck_6, ck_7, ck_8, ck_9, ck_10, ck_11, ck_12, ck_13, ck_14, ck_15, ck_16, ck_17, ck_18, ck_19, ck_20, ck_21, ck_22, ck_23, ck_24, ck_25, ck_26, ck_27, ck_28, ck_29, ck_30, ck_31, ck_32, ck_33, ck_34, ck_35, ck_36, ck_37, ck_38, ck_39, ck_40, ck_41, ck_42, ck_43, ck_44, ck_45, ck_46, ck_47, ck_48, ck_49, ck_50, ck_51, ck_52, ck_53, ck_54, ck_55, ck_56, ck_57, ck_58, ck_59, ck_60, ck_61, ck_62, ck_63, ck_64, ck_65, ck_66, ck_67, ck_68, ck_69, ck_70, ck_71, ck_72, ck_73, ck_74, ck_75, ck_76, ck_77, ck_78, ck_79, ck_80, ck_81, ck_82, ck_83, ck_84, ck_85, ck_86, ck_87, ck_88, ck_89, ck_90, ck_91, ck_92, ck_93, ck_94, ck_95, ck_96, ck_97, ck_98, ck_99, ck_100, ck_101, ck_102, ck_103, ck_104, ck_105, ck_106, ck_107, ck_108, ck_109, ck_110, ck_111, ck_112, ck_113, ck_114, ck_115, ck_116, ck_117, ck_118, ck_119, ck_120, ck_121, ck_122, ck_123, ck_124, ck_125, ck_126, ck_127, ck_128, ck_129, ck_130, ck_131, ck_132, ck_133, ck_134, ck_135, ck_136, ck_137, ck_138, ck_139, ck_140, ck_141, ck_142, ck_143, ck_144, ck_145, ck_146, ck_147, ck_148, ck_149, ck_150, ck_151, ck_152, ck_153, ck_154, ck_155, ck_156, ck_157, ck_158, ck_159, ck_160, ck_161, ck_162, ck_163, ck_164, ck_165, ck_166, ck_167, ck_168, ck_169, ck_170, ck_171, ck_172, ck_173, ck_174, ck_175, ck_176, ck_177, ck_178, ck_179, ck_180, ck_181, ck_182, ck_183, ck_184, ck_185, ck_186, ck_187, ck_188, ck_189, ck_190, ck_191, ck_192, ck_193, ck_194, ck_195, ck_196, ck_197, ck_198, ck_199, ck_200, ck_201, ck_202, ck_203, ck_204, ck_205, ck_206, ck_207, ck_208, ck_209, ck_210, ck_211, ck_212, ck_213, ck_214, ck_215, ck_216, ck_217, ck_218, ck_219, ck_220, ck_221, ck_222, ck_223, ck_224, ck_225, ck_226, ck_227, ck_228, ck_229, ck_230, ck_231, ck_232, ck_233, ck_234, ck_235, ck_236, ck_237, ck_238, ck_239, ck_240, ck_241, ck_242, ck_243, ck_244, ck_245, ck_246, ck_247, ck_248, ck_249, ck_250, ck_251, ck_252, ck_253, ck_254, ck_255, ck_256, ck_257, ck_258, ck_259, ck_260, ck_261, ck_262, ck_263, ck_264, Bool.and_self]
theorem prog_ok {k pc : Nat} {e : mI} (h : prog k pc = some e) : ∃ j, chkE k (pc, e, j) = true := by
  unfold prog mtOf at h
  have h1 := lfAll_get mT_ok k
  generalize mT.get k = q at h h1
  cases hk : Nat.beq k q.1 with
  | false => rw [hk] at h; cases h
  | true =>
    rw [hk] at h
    have hk := Nat.eq_of_beq_eq_true hk
    have h2 := lfAll_get h1 pc
    rw [← hk] at h2
    generalize q.2.get pc = r at h h2
    cases hp : Nat.beq pc r.1 with
    | false => rw [hp] at h; cases h
    | true =>
      rw [hp] at h
      have hp := Nat.eq_of_beq_eq_true hp
      obtain ⟨a, b, j⟩ := r
      cases h
      dsimp only at hp
      subst hp
      exact ⟨j, h2⟩
theorem meth_ok {k : Nat} (h0 : 0 < k) (h : k < 265) : chkM k = true := by
  have h1 := List.all_eq_true.mp cm_all (k - 1) (List.mem_range.mpr (by omega))
  rwa [show k - 1 + 1 = k by omega] at h1
