def inl (r : Option mR) : Prop := match r with
  | some (.inr _) => False
  | _ => True
theorem inl_bind {α : Type} {o : Option α} {f : α → Option mR} (h : ∀ x, inl (f x)) : inl (o.bind f) := by
  cases o with
  | none => trivial
  | some x => exact h x
theorem inl_gc {b : Bool} {r : Option mR} (h : inl r) : inl (gc1 b r) := by
  cases b with
  | false => trivial
  | true => exact h
theorem inl_go {e : mI} {L st : List Value} {G : mH} : inl (go e L st G) := trivial
theorem inl_same {q : Nat × List Value × List Value × mH} : inl (some (.inl q)) := trivial
theorem inl_none : inl none := trivial
theorem inl_not {r : Option mR} {q : Option Value ⊕ (Nat × List Value × Nat × List Value)} (h : inl r) (e : r = some (.inr q)) : False := by
  subst e
  exact h
theorem leaves {SL : Nat} {sx : Nat → Int32} {dep k pc : Nat} {i : Instr} {nx aux : Nat} {L st : List Value} {G : mH} {q : Option Value ⊕ (Nat × List Value × Nat × List Value)} (h : dstep SL sx dep k pc (i, nx, aux) L st G = some (.inr q)) : (∃ a, i = .invokevirtual a) ∨ (∃ a, i = .invokestatic a) ∨ (∃ a, i = .invokespecial a) ∨ i = .ireturn ∨ i = .areturn ∨ i = .return_ := by
  cases i with
  | iconst _ => exact (inl_not (by rw [dq_iconst]; repeat' first | exact inl_go | exact inl_same | (refine inl_bind fun _ => ?_) | refine inl_gc ?_) h).elim
  | bipush _ => exact (inl_not (by rw [dq_bipush]; repeat' first | exact inl_go | exact inl_same | (refine inl_bind fun _ => ?_) | refine inl_gc ?_) h).elim
  | sipush _ => exact (inl_not (by rw [dq_sipush]; repeat' first | exact inl_go | exact inl_same | (refine inl_bind fun _ => ?_) | refine inl_gc ?_) h).elim
  | lconst _ => exact (inl_not (by rw [dq_lconst]; repeat' first | exact inl_go | exact inl_same | (refine inl_bind fun _ => ?_) | refine inl_gc ?_) h).elim
  | iload_n _ => exact (inl_not (by rw [dq_iload_n]; repeat' first | exact inl_go | exact inl_same | (refine inl_bind fun _ => ?_) | refine inl_gc ?_) h).elim
  | iload _ => exact (inl_not (by rw [dq_iload]; repeat' first | exact inl_go | exact inl_same | (refine inl_bind fun _ => ?_) | refine inl_gc ?_) h).elim
  | lload_n _ => exact (inl_not (by rw [dq_lload_n]; repeat' first | exact inl_go | exact inl_same | (refine inl_bind fun _ => ?_) | refine inl_gc ?_) h).elim
  | lload _ => exact (inl_not (by rw [dq_lload]; repeat' first | exact inl_go | exact inl_same | (refine inl_bind fun _ => ?_) | refine inl_gc ?_) h).elim
  | aload_n _ => exact (inl_not (by rw [dq_aload_n]; repeat' first | exact inl_go | exact inl_same | (refine inl_bind fun _ => ?_) | refine inl_gc ?_) h).elim
  | aload _ => exact (inl_not (by rw [dq_aload]; repeat' first | exact inl_go | exact inl_same | (refine inl_bind fun _ => ?_) | refine inl_gc ?_) h).elim
  | istore_n _ => exact (inl_not (by rw [dq_istore_n]; repeat' first | exact inl_go | exact inl_same | (refine inl_bind fun _ => ?_) | refine inl_gc ?_) h).elim
  | istore _ => exact (inl_not (by rw [dq_istore]; repeat' first | exact inl_go | exact inl_same | (refine inl_bind fun _ => ?_) | refine inl_gc ?_) h).elim
  | lstore_n _ => exact (inl_not (by rw [dq_lstore_n]; repeat' first | exact inl_go | exact inl_same | (refine inl_bind fun _ => ?_) | refine inl_gc ?_) h).elim
  | lstore _ => exact (inl_not (by rw [dq_lstore]; repeat' first | exact inl_go | exact inl_same | (refine inl_bind fun _ => ?_) | refine inl_gc ?_) h).elim
  | astore_n _ => exact (inl_not (by rw [dq_astore_n]; repeat' first | exact inl_go | exact inl_same | (refine inl_bind fun _ => ?_) | refine inl_gc ?_) h).elim
  | astore _ => exact (inl_not (by rw [dq_astore]; repeat' first | exact inl_go | exact inl_same | (refine inl_bind fun _ => ?_) | refine inl_gc ?_) h).elim
  | iinc _ _ => exact (inl_not (by rw [dq_iinc]; repeat' first | exact inl_go | exact inl_same | (refine inl_bind fun _ => ?_) | refine inl_gc ?_) h).elim
  | iadd => exact (inl_not (by rw [dq_iadd]; repeat' first | exact inl_go | exact inl_same | (refine inl_bind fun _ => ?_) | refine inl_gc ?_) h).elim
  | isub => exact (inl_not (by rw [dq_isub]; repeat' first | exact inl_go | exact inl_same | (refine inl_bind fun _ => ?_) | refine inl_gc ?_) h).elim
  | imul => exact (inl_not (by rw [dq_imul]; repeat' first | exact inl_go | exact inl_same | (refine inl_bind fun _ => ?_) | refine inl_gc ?_) h).elim
  | iand => exact (inl_not (by rw [dq_iand]; repeat' first | exact inl_go | exact inl_same | (refine inl_bind fun _ => ?_) | refine inl_gc ?_) h).elim
  | ior => exact (inl_not (by rw [dq_ior]; repeat' first | exact inl_go | exact inl_same | (refine inl_bind fun _ => ?_) | refine inl_gc ?_) h).elim
  | ixor => exact (inl_not (by rw [dq_ixor]; repeat' first | exact inl_go | exact inl_same | (refine inl_bind fun _ => ?_) | refine inl_gc ?_) h).elim
  | ishl => exact (inl_not (by rw [dq_ishl]; repeat' first | exact inl_go | exact inl_same | (refine inl_bind fun _ => ?_) | refine inl_gc ?_) h).elim
  | ishr => exact (inl_not (by rw [dq_ishr]; repeat' first | exact inl_go | exact inl_same | (refine inl_bind fun _ => ?_) | refine inl_gc ?_) h).elim
  | iushr => exact (inl_not (by rw [dq_iushr]; repeat' first | exact inl_go | exact inl_same | (refine inl_bind fun _ => ?_) | refine inl_gc ?_) h).elim
  | idiv => exact (inl_not (by rw [dq_idiv]; repeat' first | exact inl_go | exact inl_same | (refine inl_bind fun _ => ?_) | refine inl_gc ?_) h).elim
  | irem => exact (inl_not (by rw [dq_irem]; repeat' first | exact inl_go | exact inl_same | (refine inl_bind fun _ => ?_) | refine inl_gc ?_) h).elim
  | ineg => exact (inl_not (by rw [dq_ineg]; repeat' first | exact inl_go | exact inl_same | (refine inl_bind fun _ => ?_) | refine inl_gc ?_) h).elim
  | ladd => exact (inl_not (by rw [dq_ladd]; repeat' first | exact inl_go | exact inl_same | (refine inl_bind fun _ => ?_) | refine inl_gc ?_) h).elim
  | lsub => exact (inl_not (by rw [dq_lsub]; repeat' first | exact inl_go | exact inl_same | (refine inl_bind fun _ => ?_) | refine inl_gc ?_) h).elim
  | lmul => exact (inl_not (by rw [dq_lmul]; repeat' first | exact inl_go | exact inl_same | (refine inl_bind fun _ => ?_) | refine inl_gc ?_) h).elim
  | ldiv => exact (inl_not (by rw [dq_ldiv]; repeat' first | exact inl_go | exact inl_same | (refine inl_bind fun _ => ?_) | refine inl_gc ?_) h).elim
  | lrem => exact (inl_not (by rw [dq_lrem]; repeat' first | exact inl_go | exact inl_same | (refine inl_bind fun _ => ?_) | refine inl_gc ?_) h).elim
  | lneg => exact (inl_not (by rw [dq_lneg]; repeat' first | exact inl_go | exact inl_same | (refine inl_bind fun _ => ?_) | refine inl_gc ?_) h).elim
  | lcmp => exact (inl_not (by rw [dq_lcmp]; repeat' first | exact inl_go | exact inl_same | (refine inl_bind fun _ => ?_) | refine inl_gc ?_) h).elim
  | i2l => exact (inl_not (by rw [dq_i2l]; repeat' first | exact inl_go | exact inl_same | (refine inl_bind fun _ => ?_) | refine inl_gc ?_) h).elim
  | l2i => exact (inl_not (by rw [dq_l2i]; repeat' first | exact inl_go | exact inl_same | (refine inl_bind fun _ => ?_) | refine inl_gc ?_) h).elim
  | i2b => exact (inl_not (by rw [dq_i2b]; repeat' first | exact inl_go | exact inl_same | (refine inl_bind fun _ => ?_) | refine inl_gc ?_) h).elim
  | i2c => exact (inl_not (by rw [dq_i2c]; repeat' first | exact inl_go | exact inl_same | (refine inl_bind fun _ => ?_) | refine inl_gc ?_) h).elim
  | goto _ => exact (inl_not (by rw [dq_goto]; repeat' first | exact inl_go | exact inl_same | (refine inl_bind fun _ => ?_) | refine inl_gc ?_) h).elim
  | tableswitch _ _ _ _ => exact (inl_not (by rw [dq_tableswitch]; repeat' first | exact inl_go | exact inl_same | (refine inl_bind fun _ => ?_) | refine inl_gc ?_) h).elim
  | ldc_w _ => exact (inl_not (by rw [dq_ldc_w]; repeat' first | exact inl_go | exact inl_same | (refine inl_bind fun _ => ?_) | refine inl_gc ?_) h).elim
  | ldc2_w _ => exact (inl_not (by rw [dq_ldc2_w]; repeat' first | exact inl_go | exact inl_same | (refine inl_bind fun _ => ?_) | refine inl_gc ?_) h).elim
  | getfield _ => exact (inl_not (by rw [dq_getfield]; repeat' first | exact inl_go | exact inl_same | (refine inl_bind fun _ => ?_) | refine inl_gc ?_) h).elim
  | iaload => exact (inl_not (by rw [dq_iaload]; repeat' first | exact inl_go | exact inl_same | (refine inl_bind fun _ => ?_) | refine inl_gc ?_) h).elim
  | baload => exact (inl_not (by rw [dq_baload]; repeat' first | exact inl_go | exact inl_same | (refine inl_bind fun _ => ?_) | refine inl_gc ?_) h).elim
  | laload => exact (inl_not (by rw [dq_laload]; repeat' first | exact inl_go | exact inl_same | (refine inl_bind fun _ => ?_) | refine inl_gc ?_) h).elim
  | arraylength => exact (inl_not (by rw [dq_arraylength]; repeat' first | exact inl_go | exact inl_same | (refine inl_bind fun _ => ?_) | refine inl_gc ?_) h).elim
  | iastore => exact (inl_not (by rw [dq_iastore]; repeat' first | exact inl_go | exact inl_same | (refine inl_bind fun _ => ?_) | refine inl_gc ?_) h).elim
  | bastore => exact (inl_not (by rw [dq_bastore]; repeat' first | exact inl_go | exact inl_same | (refine inl_bind fun _ => ?_) | refine inl_gc ?_) h).elim
  | lastore => exact (inl_not (by rw [dq_lastore]; repeat' first | exact inl_go | exact inl_same | (refine inl_bind fun _ => ?_) | refine inl_gc ?_) h).elim
  | aastore => exact (inl_not (by rw [dq_aastore]; repeat' first | exact inl_go | exact inl_same | (refine inl_bind fun _ => ?_) | refine inl_gc ?_) h).elim
  | new _ => exact (inl_not (by rw [dq_new]; repeat' first | exact inl_go | exact inl_same | (refine inl_bind fun _ => ?_) | refine inl_gc ?_) h).elim
  | anewarray _ => exact (inl_not (by rw [dq_anewarray]; repeat' first | exact inl_go | exact inl_same | (refine inl_bind fun _ => ?_) | refine inl_gc ?_) h).elim
  | ifCond _ _ => exact (inl_not (by rw [dq_ifCond]; repeat' first | exact inl_go | exact inl_same | (refine inl_bind fun _ => ?_) | refine inl_gc ?_) h).elim
  | if_icmp _ _ => exact (inl_not (by rw [dq_if_icmp]; repeat' first | exact inl_go | exact inl_same | (refine inl_bind fun _ => ?_) | refine inl_gc ?_) h).elim
  | dup => exact (inl_not (by rw [dq_dup]; split <;> first | exact inl_none | exact inl_gc inl_go) h).elim
  | dup2 => exact (inl_not (by rw [dq_dup2]; split <;> first | exact inl_none | exact inl_gc inl_go) h).elim
  | pop => exact (inl_not (by rw [dq_pop]; split <;> first | exact inl_none | exact inl_gc inl_go) h).elim
  | ldc _ => exact (inl_not (by rw [dq_ldc]; cases Nat.blt aux 4294967296 <;> first | exact inl_go | exact inl_gc inl_go) h).elim
  | getstatic _ => exact (inl_not (by rw [dq_getstatic]; split <;> first | exact inl_go | exact inl_none) h).elim
  | aaload => exact (inl_not (by
    rw [dq_aaload]
    refine inl_bind fun _ => inl_bind fun _ => inl_bind fun _ => inl_gc ?_
    split <;> first | exact inl_none | exact inl_gc inl_go) h).elim
  | putfield _ => exact (inl_not (by
    rw [dq_putfield]
    split
    · exact inl_bind fun o => inl_gc inl_go
    · exact inl_none) h).elim
  | newarray _ => exact (inl_not (by
    rw [dq_newarray]
    refine inl_bind fun _ => inl_gc ?_
    split <;> first | exact inl_go | exact inl_none) h).elim
  | invokevirtual a => exact Or.inl ⟨a, rfl⟩
  | invokestatic a => exact Or.inr (Or.inl ⟨a, rfl⟩)
  | invokespecial a => exact Or.inr (Or.inr (Or.inl ⟨a, rfl⟩))
  | ireturn => exact Or.inr (Or.inr (Or.inr (Or.inl rfl)))
  | areturn => exact Or.inr (Or.inr (Or.inr (Or.inr (Or.inl rfl))))
  | return_ => exact Or.inr (Or.inr (Or.inr (Or.inr (Or.inr rfl))))
  | _ => exact (inl_not inl_none h).elim
set_option maxRecDepth 100000 in
theorem w_nl : lw_tbl.all (fun w => match w with
  | .methodLink _ _ y => decide (y.cls ≠ "DeckBenchLaw")
  | _ => true) = true := by decide +kernel
theorem w_nolaw {own : String} {i : Nat} : ¬ Cond.methodLink own i (mName 0) ∈ lw_tbl := by
  intro h
  have h1 := List.all_eq_true.mp w_nl _ h
  exact absurd (of_decide_eq_true h1) (by decide +kernel)
