/-! ANY INSTRUCTION -/
def grw (G : mH) : Option mR → Prop
  | some (.inl q) => G.length ≤ q.2.2.2.length ∧ szG G ≤ szG q.2.2.2
  | _ => True
theorem grw_bind {G : mH} {α : Type} {o : Option α} {f : α → Option mR} (h : ∀ x, o = some x → grw G (f x)) : grw G (o.bind f) := by
  cases o with
  | none => trivial
  | some x => exact h x rfl
theorem grw_gc {G : mH} {b : Bool} {r : Option mR} (h : grw G r) : grw G (gc1 b r) := by
  cases b with
  | false => trivial
  | true => exact h
theorem grw_go {G : mH} {e : mI} {L st : List Value} : grw G (go e L st G) := ⟨Nat.le_refl _, Nat.le_refl _⟩
theorem grw_same {G : mH} {pc : Nat} {L st : List Value} : grw G (some (.inl (pc, L, st, G))) := ⟨Nat.le_refl _, Nat.le_refl _⟩
theorem grw_set {G : mH} {e : mI} {L st : List Value} {a : Nat} {q q' : mC} (h : G[a]? = some q) (hz : szC q' = szC q) : grw G (go e L st (G.set a q')) := ⟨by simp, by rw [szG_set h hz]; exact Nat.le_refl _⟩
theorem grw_app {G : mH} {e : mI} {L st : List Value} {q : mC} : grw G (go e L st (G ++ [q])) := ⟨by simp, by rw [szG_app]; omega⟩
theorem grw_call {G : mH} {k : Nat} {e : mI} {st : List Value} : grw G (call0 k e st) := by
  unfold call0
  exact grw_gc trivial
theorem grw_none {G : mH} : grw G none := trivial
theorem dstep_grw (SL : Nat) (sx : Nat → Int32) (dep k pc : Nat) (i : Instr) (nx aux : Nat) (L st : List Value) (G : mH) : grw G (dstep SL sx dep k pc (i, nx, aux) L st G) := by
  cases i with
  | iconst _ => rw [dq_iconst]; repeat' first | exact grw_go | exact grw_same | (refine grw_bind fun _ _ => ?_) | refine grw_gc ?_
  | bipush _ => rw [dq_bipush]; repeat' first | exact grw_go | exact grw_same | (refine grw_bind fun _ _ => ?_) | refine grw_gc ?_
  | sipush _ => rw [dq_sipush]; repeat' first | exact grw_go | exact grw_same | (refine grw_bind fun _ _ => ?_) | refine grw_gc ?_
  | lconst _ => rw [dq_lconst]; repeat' first | exact grw_go | exact grw_same | (refine grw_bind fun _ _ => ?_) | refine grw_gc ?_
  | iload_n _ => rw [dq_iload_n]; repeat' first | exact grw_go | exact grw_same | (refine grw_bind fun _ _ => ?_) | refine grw_gc ?_
  | iload _ => rw [dq_iload]; repeat' first | exact grw_go | exact grw_same | (refine grw_bind fun _ _ => ?_) | refine grw_gc ?_
  | lload_n _ => rw [dq_lload_n]; repeat' first | exact grw_go | exact grw_same | (refine grw_bind fun _ _ => ?_) | refine grw_gc ?_
  | lload _ => rw [dq_lload]; repeat' first | exact grw_go | exact grw_same | (refine grw_bind fun _ _ => ?_) | refine grw_gc ?_
  | aload_n _ => rw [dq_aload_n]; repeat' first | exact grw_go | exact grw_same | (refine grw_bind fun _ _ => ?_) | refine grw_gc ?_
  | aload _ => rw [dq_aload]; repeat' first | exact grw_go | exact grw_same | (refine grw_bind fun _ _ => ?_) | refine grw_gc ?_
  | istore_n _ => rw [dq_istore_n]; repeat' first | exact grw_go | exact grw_same | (refine grw_bind fun _ _ => ?_) | refine grw_gc ?_
  | istore _ => rw [dq_istore]; repeat' first | exact grw_go | exact grw_same | (refine grw_bind fun _ _ => ?_) | refine grw_gc ?_
  | lstore_n _ => rw [dq_lstore_n]; repeat' first | exact grw_go | exact grw_same | (refine grw_bind fun _ _ => ?_) | refine grw_gc ?_
  | lstore _ => rw [dq_lstore]; repeat' first | exact grw_go | exact grw_same | (refine grw_bind fun _ _ => ?_) | refine grw_gc ?_
  | astore_n _ => rw [dq_astore_n]; repeat' first | exact grw_go | exact grw_same | (refine grw_bind fun _ _ => ?_) | refine grw_gc ?_
  | astore _ => rw [dq_astore]; repeat' first | exact grw_go | exact grw_same | (refine grw_bind fun _ _ => ?_) | refine grw_gc ?_
  | iinc _ _ => rw [dq_iinc]; repeat' first | exact grw_go | exact grw_same | (refine grw_bind fun _ _ => ?_) | refine grw_gc ?_
  | iadd => rw [dq_iadd]; repeat' first | exact grw_go | exact grw_same | (refine grw_bind fun _ _ => ?_) | refine grw_gc ?_
  | isub => rw [dq_isub]; repeat' first | exact grw_go | exact grw_same | (refine grw_bind fun _ _ => ?_) | refine grw_gc ?_
  | imul => rw [dq_imul]; repeat' first | exact grw_go | exact grw_same | (refine grw_bind fun _ _ => ?_) | refine grw_gc ?_
  | iand => rw [dq_iand]; repeat' first | exact grw_go | exact grw_same | (refine grw_bind fun _ _ => ?_) | refine grw_gc ?_
  | ior => rw [dq_ior]; repeat' first | exact grw_go | exact grw_same | (refine grw_bind fun _ _ => ?_) | refine grw_gc ?_
  | ixor => rw [dq_ixor]; repeat' first | exact grw_go | exact grw_same | (refine grw_bind fun _ _ => ?_) | refine grw_gc ?_
  | ishl => rw [dq_ishl]; repeat' first | exact grw_go | exact grw_same | (refine grw_bind fun _ _ => ?_) | refine grw_gc ?_
  | ishr => rw [dq_ishr]; repeat' first | exact grw_go | exact grw_same | (refine grw_bind fun _ _ => ?_) | refine grw_gc ?_
  | iushr => rw [dq_iushr]; repeat' first | exact grw_go | exact grw_same | (refine grw_bind fun _ _ => ?_) | refine grw_gc ?_
  | idiv => rw [dq_idiv]; repeat' first | exact grw_go | exact grw_same | (refine grw_bind fun _ _ => ?_) | refine grw_gc ?_
  | irem => rw [dq_irem]; repeat' first | exact grw_go | exact grw_same | (refine grw_bind fun _ _ => ?_) | refine grw_gc ?_
  | ineg => rw [dq_ineg]; repeat' first | exact grw_go | exact grw_same | (refine grw_bind fun _ _ => ?_) | refine grw_gc ?_
  | ladd => rw [dq_ladd]; repeat' first | exact grw_go | exact grw_same | (refine grw_bind fun _ _ => ?_) | refine grw_gc ?_
  | lsub => rw [dq_lsub]; repeat' first | exact grw_go | exact grw_same | (refine grw_bind fun _ _ => ?_) | refine grw_gc ?_
  | lmul => rw [dq_lmul]; repeat' first | exact grw_go | exact grw_same | (refine grw_bind fun _ _ => ?_) | refine grw_gc ?_
  | ldiv => rw [dq_ldiv]; repeat' first | exact grw_go | exact grw_same | (refine grw_bind fun _ _ => ?_) | refine grw_gc ?_
  | lrem => rw [dq_lrem]; repeat' first | exact grw_go | exact grw_same | (refine grw_bind fun _ _ => ?_) | refine grw_gc ?_
  | lneg => rw [dq_lneg]; repeat' first | exact grw_go | exact grw_same | (refine grw_bind fun _ _ => ?_) | refine grw_gc ?_
  | lcmp => rw [dq_lcmp]; repeat' first | exact grw_go | exact grw_same | (refine grw_bind fun _ _ => ?_) | refine grw_gc ?_
  | i2l => rw [dq_i2l]; repeat' first | exact grw_go | exact grw_same | (refine grw_bind fun _ _ => ?_) | refine grw_gc ?_
  | l2i => rw [dq_l2i]; repeat' first | exact grw_go | exact grw_same | (refine grw_bind fun _ _ => ?_) | refine grw_gc ?_
  | i2b => rw [dq_i2b]; repeat' first | exact grw_go | exact grw_same | (refine grw_bind fun _ _ => ?_) | refine grw_gc ?_
  | i2c => rw [dq_i2c]; repeat' first | exact grw_go | exact grw_same | (refine grw_bind fun _ _ => ?_) | refine grw_gc ?_
  | ldc_w _ => rw [dq_ldc_w]; repeat' first | exact grw_go | exact grw_same | (refine grw_bind fun _ _ => ?_) | refine grw_gc ?_
  | ldc2_w _ => rw [dq_ldc2_w]; repeat' first | exact grw_go | exact grw_same | (refine grw_bind fun _ _ => ?_) | refine grw_gc ?_
  | getfield _ => rw [dq_getfield]; repeat' first | exact grw_go | exact grw_same | (refine grw_bind fun _ _ => ?_) | refine grw_gc ?_
  | iaload => rw [dq_iaload]; repeat' first | exact grw_go | exact grw_same | (refine grw_bind fun _ _ => ?_) | refine grw_gc ?_
  | baload => rw [dq_baload]; repeat' first | exact grw_go | exact grw_same | (refine grw_bind fun _ _ => ?_) | refine grw_gc ?_
  | laload => rw [dq_laload]; repeat' first | exact grw_go | exact grw_same | (refine grw_bind fun _ _ => ?_) | refine grw_gc ?_
  | arraylength => rw [dq_arraylength]; repeat' first | exact grw_go | exact grw_same | (refine grw_bind fun _ _ => ?_) | refine grw_gc ?_
  | ifCond _ _ => rw [dq_ifCond]; repeat' first | exact grw_same | (refine grw_bind fun _ _ => ?_) | refine grw_gc ?_
  | if_icmp _ _ => rw [dq_if_icmp]; repeat' first | exact grw_same | (refine grw_bind fun _ _ => ?_) | refine grw_gc ?_
  | goto _ => rw [dq_goto]; repeat' first | exact grw_same | (refine grw_bind fun _ _ => ?_) | refine grw_gc ?_
  | tableswitch _ _ _ _ => rw [dq_tableswitch]; repeat' first | exact grw_same | (refine grw_bind fun _ _ => ?_) | refine grw_gc ?_
  | dup => rw [dq_dup]; split <;> first | exact grw_none | exact grw_gc grw_go
  | dup2 => rw [dq_dup2]; split <;> first | exact grw_none | exact grw_gc grw_go
  | pop => rw [dq_pop]; split <;> first | exact grw_none | exact grw_gc grw_go
  | ldc _ => rw [dq_ldc]; cases Nat.blt aux 4294967296 <;> first | exact grw_go | exact grw_gc grw_go
  | getstatic _ => rw [dq_getstatic]; split <;> first | exact grw_go | exact grw_none
  | aaload =>
    rw [dq_aaload]
    refine grw_bind fun _ _ => grw_bind fun _ _ => grw_bind fun _ _ => grw_gc ?_
    split <;> first | exact grw_none | exact grw_gc grw_go
  | putfield _ =>
    rw [dq_putfield]
    split
    · refine grw_bind fun o ho => grw_gc (grw_set (ownO_eq ho) (by simp [szC]))
    · exact grw_none
  | iastore =>
    rw [dq_iastore]
    refine grw_bind fun _ _ => grw_bind fun _ _ => grw_bind fun _ _ => grw_bind fun o ho => grw_gc (grw_set (ownI_eq (n := o.1) (f := o.2) ho) rfl)
  | bastore =>
    rw [dq_bastore]
    refine grw_bind fun _ _ => grw_bind fun _ _ => grw_bind fun _ _ => grw_bind fun o ho => grw_gc (grw_set (ownI_eq (n := o.1) (f := o.2) ho) rfl)
  | lastore =>
    rw [dq_lastore]
    refine grw_bind fun _ _ => grw_bind fun _ _ => grw_bind fun _ _ => grw_bind fun o ho => grw_gc (grw_set (ownJ_eq (n := o.1) (f := o.2) ho) rfl)
  | aastore =>
    rw [dq_aastore]
    refine grw_bind fun _ _ => grw_bind fun _ _ => grw_bind fun _ _ => grw_bind fun o ho => grw_bind fun _ _ => grw_gc (grw_set (ownQ_eq (t := o.1) (n := o.2.1) (f := o.2.2) ho).1 rfl)
  | new _ => rw [dq_new]; exact grw_gc (grw_bind fun _ _ => grw_app)
  | newarray _ =>
    rw [dq_newarray]
    refine grw_bind fun _ _ => grw_gc ?_
    split <;> first | exact grw_app | exact grw_none
  | anewarray _ => rw [dq_anewarray]; exact grw_bind fun _ _ => grw_gc grw_app
  | invokevirtual _ => rw [dq_invokevirtual]; exact grw_gc grw_call
  | invokestatic _ =>
    rw [dq_invokestatic]
    cases Nat.beq aux 901 with
    | true =>
      rw [cond_true]
      split
      · exact grw_bind fun _ _ => grw_bind fun o ho => grw_gc (grw_set (ownI_eq (n := o.1) (f := o.2) ho) rfl)
      · exact grw_none
    | false =>
      rw [cond_false]
      cases Nat.beq aux 902 with
      | true => exact grw_bind fun _ _ => grw_bind fun _ _ => grw_gc grw_go
      | false =>
        rw [cond_false]
        cases Nat.beq aux 903 with
        | true => exact grw_bind fun _ _ => grw_bind fun _ _ => grw_gc grw_go
        | false => exact grw_gc grw_call
  | invokespecial _ =>
    rw [dq_invokespecial]
    cases Nat.beq aux 900 with
    | true =>
      rw [cond_true]
      split
      · exact grw_gc grw_go
      · exact grw_none
    | false => exact grw_gc grw_call
  | ireturn =>
    rw [dq_ireturn]
    split
    · exact grw_gc trivial
    · exact grw_none
  | areturn =>
    rw [dq_areturn]
    split
    · exact grw_gc trivial
    · exact grw_none
  | return_ =>
    rw [dq_return_]
    split
    · exact grw_gc trivial
    · exact grw_none
  | _ => exact grw_none
theorem dexec_grw {SL : Nat} {sx : Nat → Int32} : ∀ (n dep k pc : Nat) (L st : List Value) (G : mH) (r : Option Value) (G' : mH), dexec SL sx n dep k pc L st G = some (r, G') → G.length ≤ G'.length ∧ szG G ≤ szG G' := by
  intro n
  induction n with
  | zero => intro dep k pc L st G r G' h; cases h
  | succ n ih =>
    intro dep k pc L st G r G' h
    unfold dexec at h
    cases hp : prog k pc with
    | none => rw [hp] at h; cases h
    | some e =>
      rw [hp] at h
      dsimp only at h
      obtain ⟨i, nx, aux⟩ := e
      have hgr := dstep_grw SL sx dep k pc i nx aux L st G
      cases hs : dstep SL sx dep k pc (i, nx, aux) L st G with
      | none => rw [hs] at h; cases h
      | some q =>
        rw [hs] at h hgr
        rcases q with ⟨pc1, L1, st1, G1⟩ | r1 | ⟨k1, as, pc1, rest⟩
        · dsimp only at h
          obtain ⟨z1, z2⟩ := ih _ _ _ _ _ _ _ _ h
          have z3 : G.length ≤ G1.length ∧ szG G ≤ szG G1 := hgr
          exact ⟨Nat.le_trans z3.1 z1, Nat.le_trans z3.2 z2⟩
        · dsimp only at h
          cases h
          exact ⟨Nat.le_refl _, Nat.le_refl _⟩
        · dsimp only at h
          cases dep with
          | zero => cases h
          | succ d =>
            dsimp only at h
            cases hc : dexec SL sx n d k1 0 (entL (mMax k1) as) [] G with
            | none => rw [hc] at h; cases h
            | some z =>
              obtain ⟨r1, G1⟩ := z
              rw [hc] at h
              dsimp only at h
              cases hb : wfB G.length G1.length L rest G with
              | false => rw [hb] at h; cases h
              | true =>
                rw [hb, cond_true] at h
                obtain ⟨y1, y2⟩ := ih _ _ _ _ _ _ _ _ hc
                obtain ⟨z1, z2⟩ := ih _ _ _ _ _ _ _ _ h
                exact ⟨Nat.le_trans y1 z1, Nat.le_trans y2 z2⟩
section STA
variable {p : Program} {l : Launch} {e : Env} {R : Room} {s : State} {m : MethodId} {args : Array Value} {below : List Frame} {meth : Method} {c : Code} {Q : State → Prop} {D : va_G} {cA : Nat → ClassId} {xe : Nat → Value} {A : Nat → Prop} {SL : Nat} {sx : Nat → Int32} {dep k pc : Nat} {xa : Nat → Nat} {H : Heap} {locs : List Loc} {cells slots : Nat} {ls : Array Slot} {L st : List Value} {G : mH} {pc' : Nat} {L' st' : List Value} {G' : mH} {nx aux j : Nat}
theorem none_inl {α : Prop} (h : (none : Option mR) = some (.inl (pc', L', st', G'))) : α := by cases h
theorem step_ok {i : Instr} (hC : Cx p R s m args meth c D cA xe A SL sx dep k) (hW : Wd D cA xe A s xa G H locs) (hL : lR xa xe ls (mMax k) L) (ho : chkE k (pc, (i, nx, aux), j) = true) (h : dstep SL sx dep k pc (i, nx, aux) L st G = some (.inl (pc', L', st', G'))) (hg : cells + (G'.length - G.length) ≤ R.cells ∧ slots + (szG G' - szG G) ≤ R.slots) (kk : KK p l e R s m args below meth c Q D cA xe A k xa G cells slots pc' L' st' G') : W p l e R s m args below meth c H locs cells slots Q (F0 m pc ls (st.map (mvv xa xe))) := by
  cases i with
  | iconst _ => exact s_iconst hC hW hL ho h hg kk
  | bipush _ => exact s_bipush hC hW hL ho h hg kk
  | sipush _ => exact s_sipush hC hW hL ho h hg kk
  | lconst _ => exact s_lconst hC hW hL ho h hg kk
  | iload_n _ => exact s_iload_n hC hW hL ho h hg kk
  | iload _ => exact s_iload hC hW hL ho h hg kk
  | lload_n _ => exact s_lload_n hC hW hL ho h hg kk
  | lload _ => exact s_lload hC hW hL ho h hg kk
  | aload_n _ => exact s_aload_n hC hW hL ho h hg kk
  | aload _ => exact s_aload hC hW hL ho h hg kk
  | istore_n _ => exact s_istore_n hC hW hL ho h hg kk
  | istore _ => exact s_istore hC hW hL ho h hg kk
  | lstore_n _ => exact s_lstore_n hC hW hL ho h hg kk
  | lstore _ => exact s_lstore hC hW hL ho h hg kk
  | astore_n _ => exact s_astore_n hC hW hL ho h hg kk
  | astore _ => exact s_astore hC hW hL ho h hg kk
  | iinc _ _ => exact s_iinc hC hW hL ho h hg kk
  | iadd => exact s_iadd hC hW hL ho h hg kk
  | isub => exact s_isub hC hW hL ho h hg kk
  | imul => exact s_imul hC hW hL ho h hg kk
  | iand => exact s_iand hC hW hL ho h hg kk
  | ior => exact s_ior hC hW hL ho h hg kk
  | ixor => exact s_ixor hC hW hL ho h hg kk
  | ishl => exact s_ishl hC hW hL ho h hg kk
  | ishr => exact s_ishr hC hW hL ho h hg kk
  | iushr => exact s_iushr hC hW hL ho h hg kk
  | idiv => exact s_idiv hC hW hL ho h hg kk
  | irem => exact s_irem hC hW hL ho h hg kk
  | ineg => exact s_ineg hC hW hL ho h hg kk
  | ladd => exact s_ladd hC hW hL ho h hg kk
  | lsub => exact s_lsub hC hW hL ho h hg kk
  | lmul => exact s_lmul hC hW hL ho h hg kk
  | ldiv => exact s_ldiv hC hW hL ho h hg kk
  | lrem => exact s_lrem hC hW hL ho h hg kk
  | lneg => exact s_lneg hC hW hL ho h hg kk
  | lcmp => exact s_lcmp hC hW hL ho h hg kk
  | i2l => exact s_i2l hC hW hL ho h hg kk
  | l2i => exact s_l2i hC hW hL ho h hg kk
  | i2b => exact s_i2b hC hW hL ho h hg kk
  | i2c => exact s_i2c hC hW hL ho h hg kk
  | dup => exact s_dup hC hW hL ho h hg kk
  | dup2 => exact s_dup2 hC hW hL ho h hg kk
  | pop => exact s_pop hC hW hL ho h hg kk
  | goto _ => exact s_goto hC hW hL ho h hg kk
  | tableswitch _ _ _ _ => exact s_tableswitch hC hW hL ho h hg kk
  | ldc _ => exact s_ldc hC hW hL ho h kk
  | ldc_w _ => exact s_ldc_w hC hW hL ho h kk
  | ldc2_w _ => exact s_ldc2_w hC hW hL ho h kk
  | getfield _ => exact s_getfield hC hW hL ho h kk
  | putfield _ => exact s_putfield hC hW hL ho h kk
  | getstatic _ => exact s_getstatic hC hW hL ho h kk
  | iaload => exact s_iaload hC hW hL ho h kk
  | baload => exact s_baload hC hW hL ho h kk
  | laload => exact s_laload hC hW hL ho h kk
  | aaload => exact s_aaload hC hW hL ho h kk
  | iastore => exact s_iastore hC hW hL ho h kk
  | bastore => exact s_bastore hC hW hL ho h kk
  | lastore => exact s_lastore hC hW hL ho h kk
  | aastore => exact s_aastore hC hW hL ho h kk
  | arraylength => exact s_arraylength hC hW hL ho h kk
  | new _ => exact s_new hC hW hL ho h hg kk
  | newarray _ => exact s_newarray hC hW hL ho h hg kk
  | anewarray _ => exact s_anewarray hC hW hL ho h hg kk
  | ifCond co _ => cases co with
    | eq => exact s_if_eq hC hW hL ho h hg kk
    | ne => exact s_if_ne hC hW hL ho h hg kk
    | lt => exact s_if_lt hC hW hL ho h hg kk
    | ge => exact s_if_ge hC hW hL ho h hg kk
    | gt => exact s_if_gt hC hW hL ho h hg kk
    | le => exact s_if_le hC hW hL ho h hg kk
  | if_icmp co _ => cases co with
    | eq => exact s_icmp_eq hC hW hL ho h hg kk
    | ne => exact s_icmp_ne hC hW hL ho h hg kk
    | lt => exact s_icmp_lt hC hW hL ho h hg kk
    | ge => exact s_icmp_ge hC hW hL ho h hg kk
    | gt => exact s_icmp_gt hC hW hL ho h hg kk
    | le => exact s_icmp_le hC hW hL ho h hg kk
  | invokestatic _ => exact s_static hC hW hL ho h hg kk
  | invokespecial _ => exact s_special hC hW hL ho h kk
  | invokevirtual _ =>
    rw [dq_invokevirtual] at h
    obtain ⟨_, h⟩ := gc1_eq h
    unfold call0 at h
    obtain ⟨_, h⟩ := gc1_eq h
    cases h
  | ireturn =>
    rw [dq_ireturn] at h
    split at h
    · obtain ⟨_, h⟩ := gc1_eq h
      cases h
    · cases h
  | areturn =>
    rw [dq_areturn] at h
    split at h
    · obtain ⟨_, h⟩ := gc1_eq h
      cases h
    · cases h
  | return_ =>
    rw [dq_return_] at h
    split at h
    · obtain ⟨_, h⟩ := gc1_eq h
      cases h
    · cases h
  | _ => exact none_inl h
end STA
