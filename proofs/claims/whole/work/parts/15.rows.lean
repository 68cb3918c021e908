/-! THE V LEVEL: from here the small machine comes to its end with Q -/
abbrev mScr : Type := Nat × (Nat → Int32)
def V (S : mScr) (dep k pc : Nat) (L st : List Value) (h : Hp) (Q : Option Value → Hp → Prop) : Prop := ∃ (n : Nat) (r : Option Value) (h' : Hp), dexec S.1 S.2 n dep k pc L st (Gof h) = some (r, Gof h') ∧ Q r h'
/-- a call of method k on as -/
def Cal (S : mScr) (dep k : Nat) (as : List Value) (h : Hp) (Q : Option Value → Hp → Prop) : Prop := V S dep k 0 (entL (mMax k) as) [] h Q
theorem dexec_up {SL : Nat} {sx : Nat → Int32} : ∀ (n dep k pc : Nat) (L st : List Value) (G : mH) (z : Option Value × mH), dexec SL sx n dep k pc L st G = some z → dexec SL sx (n + 1) dep k pc L st G = some z := by
  intro n
  induction n with
  | zero => intro dep k pc L st G z h; cases h
  | succ n ih =>
    intro dep k pc L st G z h
    rw [dexec] at h ⊢
    cases hp : prog k pc with
    | none => rw [hp] at h; cases h
    | some e =>
      rw [hp] at h
      dsimp only at h ⊢
      cases hs : dstep SL sx dep k pc e L st G with
      | none => rw [hs] at h; cases h
      | some q =>
        rw [hs] at h
        rcases q with ⟨pc1, L1, st1, G1⟩ | r1 | ⟨k1, as, pc1, rest⟩
        · exact ih _ _ _ _ _ _ _ h
        · exact h
        · dsimp only at h ⊢
          cases dep with
          | zero => cases h
          | succ d =>
            dsimp only at h ⊢
            cases hc : dexec SL sx n d k1 0 (entL (mMax k1) as) [] G with
            | none => rw [hc] at h; cases h
            | some y =>
              rw [hc] at h
              rw [ih _ _ _ _ _ _ _ hc]
              dsimp only at h ⊢
              cases hb : wfB G.length y.2.length L rest G with
              | false => rw [hb] at h; cases h
              | true =>
                rw [hb, cond_true] at h
                rw [cond_true]
                exact ih _ _ _ _ _ _ _ h
theorem dexec_le {SL : Nat} {sx : Nat → Int32} {n m dep k pc : Nat} {L st : List Value} {G : mH} {z : Option Value × mH} (h : dexec SL sx n dep k pc L st G = some z) (hm : n ≤ m) : dexec SL sx m dep k pc L st G = some z := by
  induction m with
  | zero => rw [Nat.le_zero.mp hm] at h; exact h
  | succ m ih =>
    rcases Nat.lt_or_ge n (m + 1) with q | q
    · exact dexec_up _ _ _ _ _ _ _ _ (ih (Nat.le_of_lt_succ q))
    · rw [show m + 1 = n by omega]; exact h
section ROW
variable {S : mScr} {dep k pc nx aux : Nat} {L st : List Value} {h : Hp} {Q : Option Value → Hp → Prop}
theorem V_step {e : mI} {pc' : Nat} {L' st' : List Value} {h' : Hp} (hp : prog k pc = some e) (hs : dstep S.1 S.2 dep k pc e L st (Gof h) = some (.inl (pc', L', st', Gof h'))) (kk : V S dep k pc' L' st' h' Q) : V S dep k pc L st h Q := by
  obtain ⟨n, r, h2, h1, hq⟩ := kk
  refine ⟨n + 1, r, h2, ?_, hq⟩
  rw [dexec, hp]
  dsimp only
  rw [hs]
  exact h1
theorem V_imp {Q' : Option Value → Hp → Prop} (hv : V S dep k pc L st h Q') (hi : ∀ r h', Q' r h' → Q r h') : V S dep k pc L st h Q := by
  obtain ⟨n, r, h2, h1, hq⟩ := hv
  exact ⟨n, r, h2, h1, hi r h2 hq⟩
theorem V_L {L' : List Value} (e : L = L') (kk : V S dep k pc L' st h Q) : V S dep k pc L st h Q := e ▸ kk
theorem V_st {st' : List Value} (e : st = st') (kk : V S dep k pc L st' h Q) : V S dep k pc L st h Q := e ▸ kk
theorem V_iconst {n : Int} (hp : prog k pc = some (.iconst n, nx, aux)) (kk : V S dep k nx L (.int (Int32.ofInt n) :: st) h Q) : V S dep k pc L (st) h Q := V_step hp rfl kk
theorem V_bipush {n : Int} (hp : prog k pc = some (.bipush n, nx, aux)) (kk : V S dep k nx L (.int (Int8.ofInt n).toInt32 :: st) h Q) : V S dep k pc L (st) h Q := V_step hp rfl kk
theorem V_sipush {n : Int} (hp : prog k pc = some (.sipush n, nx, aux)) (kk : V S dep k nx L (.int (Int16.ofInt n).toInt32 :: st) h Q) : V S dep k pc L (st) h Q := V_step hp rfl kk
theorem V_lconst {n : Fin 2} (hp : prog k pc = some (.lconst n, nx, aux)) (kk : V S dep k nx L (.long (Int64.ofNat (n : Nat)) :: st) h Q) : V S dep k pc L (st) h Q := V_step hp rfl kk
theorem V_ldc_w {n : Nat} (hp : prog k pc = some (.ldc_w n, nx, aux)) (kk : V S dep k nx L (.int (Int32.ofNat aux) :: st) h Q) : V S dep k pc L (st) h Q := V_step hp rfl kk
theorem V_ldc2_w {n : Nat} (hp : prog k pc = some (.ldc2_w n, nx, aux)) (kk : V S dep k nx L (.long (Int64.ofNat aux) :: st) h Q) : V S dep k pc L (st) h Q := V_step hp rfl kk
theorem V_iload_n {i : Fin 4} {x : Int32} (hp : prog k pc = some (.iload_n i, nx, aux)) (hl : L[(i : Nat)]? = some (.int x)) (kk : V S dep k nx L (.int x :: st) h Q) : V S dep k pc L st h Q := V_step hp (by rw [dq_iload_n, show lI L i = some x by unfold lI; rw [hl]]; rfl) kk
theorem V_iload {i : Nat} {x : Int32} (hp : prog k pc = some (.iload i, nx, aux)) (hl : L[(i : Nat)]? = some (.int x)) (kk : V S dep k nx L (.int x :: st) h Q) : V S dep k pc L st h Q := V_step hp (by rw [dq_iload, show lI L i = some x by unfold lI; rw [hl]]; rfl) kk
theorem V_lload_n {i : Fin 4} {x : Int64} (hp : prog k pc = some (.lload_n i, nx, aux)) (hl : L[(i : Nat)]? = some (.long x)) (kk : V S dep k nx L (.long x :: st) h Q) : V S dep k pc L st h Q := V_step hp (by rw [dq_lload_n, show lJ L i = some x by unfold lJ; rw [hl]]; rfl) kk
theorem V_lload {i : Nat} {x : Int64} (hp : prog k pc = some (.lload i, nx, aux)) (hl : L[(i : Nat)]? = some (.long x)) (kk : V S dep k nx L (.long x :: st) h Q) : V S dep k pc L st h Q := V_step hp (by rw [dq_lload, show lJ L i = some x by unfold lJ; rw [hl]]; rfl) kk
theorem V_aload_n {i : Fin 4} {x : Nat} (hp : prog k pc = some (.aload_n i, nx, aux)) (hl : L[(i : Nat)]? = some (.ref x)) (hx : Nat.blt x 1020 = true) (kk : V S dep k nx L (.ref x :: st) h Q) : V S dep k pc L st h Q := V_step hp (by rw [dq_aload_n, show lA L i = some x by unfold lA; rw [hl]]; show gc1 _ _ = _; rw [hx]; rfl) kk
theorem V_aload {i : Nat} {x : Nat} (hp : prog k pc = some (.aload i, nx, aux)) (hl : L[(i : Nat)]? = some (.ref x)) (hx : Nat.blt x 1020 = true) (kk : V S dep k nx L (.ref x :: st) h Q) : V S dep k pc L st h Q := V_step hp (by rw [dq_aload, show lA L i = some x by unfold lA; rw [hl]]; show gc1 _ _ = _; rw [hx]; rfl) kk
theorem V_istore_n {i : Fin 4} {x : Int32} {L' : List Value} (hp : prog k pc = some (.istore_n i, nx, aux)) (hb : Nat.blt (i) L.length = true) (hl : st1 L i (.int x) = L') (kk : V S dep k nx L' st h Q) : V S dep k pc L (.int x :: st) h Q := V_step hp (by rw [dq_istore_n]; show gc1 (Nat.blt (i) L.length) _ = _; rw [hb, ← hl]; rfl) kk
theorem V_istore {i : Nat} {x : Int32} {L' : List Value} (hp : prog k pc = some (.istore i, nx, aux)) (hb : Nat.blt (i) L.length = true) (hl : st1 L i (.int x) = L') (kk : V S dep k nx L' st h Q) : V S dep k pc L (.int x :: st) h Q := V_step hp (by rw [dq_istore]; show gc1 (Nat.blt (i) L.length) _ = _; rw [hb, ← hl]; rfl) kk
theorem V_lstore_n {i : Fin 4} {x : Int64} {L' : List Value} (hp : prog k pc = some (.lstore_n i, nx, aux)) (hb : Nat.blt (i + 1) L.length = true) (hl : st2 L i (.long x) = L') (kk : V S dep k nx L' st h Q) : V S dep k pc L (.long x :: st) h Q := V_step hp (by rw [dq_lstore_n]; show gc1 (Nat.blt (i + 1) L.length) _ = _; rw [hb, ← hl]; rfl) kk
theorem V_lstore {i : Nat} {x : Int64} {L' : List Value} (hp : prog k pc = some (.lstore i, nx, aux)) (hb : Nat.blt (i + 1) L.length = true) (hl : st2 L i (.long x) = L') (kk : V S dep k nx L' st h Q) : V S dep k pc L (.long x :: st) h Q := V_step hp (by rw [dq_lstore]; show gc1 (Nat.blt (i + 1) L.length) _ = _; rw [hb, ← hl]; rfl) kk
theorem V_astore_n {i : Fin 4} {x : Nat} {L' : List Value} (hp : prog k pc = some (.astore_n i, nx, aux)) (hb : (Nat.blt i L.length && Nat.blt x 1020) = true) (hl : st1 L i (.ref x) = L') (kk : V S dep k nx L' st h Q) : V S dep k pc L (.ref x :: st) h Q := V_step hp (by rw [dq_astore_n]; show gc1 (Nat.blt i L.length && Nat.blt x 1020) _ = _; rw [hb, ← hl]; rfl) kk
theorem V_astore {i : Nat} {x : Nat} {L' : List Value} (hp : prog k pc = some (.astore i, nx, aux)) (hb : (Nat.blt i L.length && Nat.blt x 1020) = true) (hl : st1 L i (.ref x) = L') (kk : V S dep k nx L' st h Q) : V S dep k pc L (.ref x :: st) h Q := V_step hp (by rw [dq_astore]; show gc1 (Nat.blt i L.length && Nat.blt x 1020) _ = _; rw [hb, ← hl]; rfl) kk
theorem V_iinc {i : Nat} {n : Int} {x : Int32} {L' : List Value} (hp : prog k pc = some (.iinc i n, nx, aux)) (hx : L[i]? = some (.int x)) (hl : st1 L i (.int (x + Int32.ofInt n)) = L') (kk : V S dep k nx L' st h Q) : V S dep k pc L st h Q := V_step hp (by rw [dq_iinc, show lI L i = some x by unfold lI; rw [hx]]; show go _ (st1 L i (.int (x + Int32.ofInt n))) _ _ = _; rw [hl]; rfl) kk
theorem V_iadd {x y : Int32} (hp : prog k pc = some (.iadd, nx, aux)) (kk : V S dep k nx L (.int (x + y) :: st) h Q) : V S dep k pc L (.int y :: .int x :: st) h Q := V_step hp rfl kk
theorem V_isub {x y : Int32} (hp : prog k pc = some (.isub, nx, aux)) (kk : V S dep k nx L (.int (x - y) :: st) h Q) : V S dep k pc L (.int y :: .int x :: st) h Q := V_step hp rfl kk
theorem V_imul {x y : Int32} (hp : prog k pc = some (.imul, nx, aux)) (kk : V S dep k nx L (.int (x * y) :: st) h Q) : V S dep k pc L (.int y :: .int x :: st) h Q := V_step hp rfl kk
theorem V_iand {x y : Int32} (hp : prog k pc = some (.iand, nx, aux)) (kk : V S dep k nx L (.int (x &&& y) :: st) h Q) : V S dep k pc L (.int y :: .int x :: st) h Q := V_step hp rfl kk
theorem V_ior {x y : Int32} (hp : prog k pc = some (.ior, nx, aux)) (kk : V S dep k nx L (.int (x ||| y) :: st) h Q) : V S dep k pc L (.int y :: .int x :: st) h Q := V_step hp rfl kk
theorem V_ixor {x y : Int32} (hp : prog k pc = some (.ixor, nx, aux)) (kk : V S dep k nx L (.int (x ^^^ y) :: st) h Q) : V S dep k pc L (.int y :: .int x :: st) h Q := V_step hp rfl kk
theorem V_ishl {x y : Int32} (hp : prog k pc = some (.ishl, nx, aux)) (kk : V S dep k nx L (.int (x <<< (y &&& 31)) :: st) h Q) : V S dep k pc L (.int y :: .int x :: st) h Q := V_step hp rfl kk
theorem V_ishr {x y : Int32} (hp : prog k pc = some (.ishr, nx, aux)) (kk : V S dep k nx L (.int (x >>> (y &&& 31)) :: st) h Q) : V S dep k pc L (.int y :: .int x :: st) h Q := V_step hp rfl kk
theorem V_iushr {x y : Int32} (hp : prog k pc = some (.iushr, nx, aux)) (kk : V S dep k nx L (.int ((x.toUInt32 >>> (y.toUInt32 &&& Int32.toUInt32 31)).toInt32) :: st) h Q) : V S dep k pc L (.int y :: .int x :: st) h Q := V_step hp rfl kk
theorem V_idiv {x y : Int32} (hp : prog k pc = some (.idiv, nx, aux)) (hy : ¬ y = 0) (kk : V S dep k nx L (.int (x / y) :: st) h Q) : V S dep k pc L (.int y :: .int x :: st) h Q := V_step hp (by rw [dq_idiv]; show gc1 (decide (¬ y = 0)) _ = _; rw [decide_eq_true hy]; rfl) kk
theorem V_irem {x y : Int32} (hp : prog k pc = some (.irem, nx, aux)) (hy : ¬ y = 0) (kk : V S dep k nx L (.int (x - x / y * y) :: st) h Q) : V S dep k pc L (.int y :: .int x :: st) h Q := V_step hp (by rw [dq_irem]; show gc1 (decide (¬ y = 0)) _ = _; rw [decide_eq_true hy]; rfl) kk
theorem V_ladd {x y : Int64} (hp : prog k pc = some (.ladd, nx, aux)) (kk : V S dep k nx L (.long (x + y) :: st) h Q) : V S dep k pc L (.long y :: .long x :: st) h Q := V_step hp rfl kk
theorem V_lsub {x y : Int64} (hp : prog k pc = some (.lsub, nx, aux)) (kk : V S dep k nx L (.long (x - y) :: st) h Q) : V S dep k pc L (.long y :: .long x :: st) h Q := V_step hp rfl kk
theorem V_lmul {x y : Int64} (hp : prog k pc = some (.lmul, nx, aux)) (kk : V S dep k nx L (.long (x * y) :: st) h Q) : V S dep k pc L (.long y :: .long x :: st) h Q := V_step hp rfl kk
theorem V_ldiv {x y : Int64} (hp : prog k pc = some (.ldiv, nx, aux)) (hy : ¬ y = 0) (kk : V S dep k nx L (.long (x / y) :: st) h Q) : V S dep k pc L (.long y :: .long x :: st) h Q := V_step hp (by rw [dq_ldiv]; show gc1 (decide (¬ y = 0)) _ = _; rw [decide_eq_true hy]; rfl) kk
theorem V_lrem {x y : Int64} (hp : prog k pc = some (.lrem, nx, aux)) (hy : ¬ y = 0) (kk : V S dep k nx L (.long (x - x / y * y) :: st) h Q) : V S dep k pc L (.long y :: .long x :: st) h Q := V_step hp (by rw [dq_lrem]; show gc1 (decide (¬ y = 0)) _ = _; rw [decide_eq_true hy]; rfl) kk
theorem V_ineg {x : Int32} (hp : prog k pc = some (.ineg, nx, aux)) (kk : V S dep k nx L (.int (-x) :: st) h Q) : V S dep k pc L (.int x :: st) h Q := V_step hp rfl kk
theorem V_lneg {x : Int64} (hp : prog k pc = some (.lneg, nx, aux)) (kk : V S dep k nx L (.long (-x) :: st) h Q) : V S dep k pc L (.long x :: st) h Q := V_step hp rfl kk
theorem V_lcmp {x y : Int64} (hp : prog k pc = some (.lcmp, nx, aux)) (kk : V S dep k nx L (.int (lg_cmp x y) :: st) h Q) : V S dep k pc L (.long y :: .long x :: st) h Q := V_step hp rfl kk
theorem V_i2l {x : Int32} (hp : prog k pc = some (.i2l, nx, aux)) (kk : V S dep k nx L (.long x.toInt64 :: st) h Q) : V S dep k pc L (.int x :: st) h Q := V_step hp rfl kk
theorem V_l2i {x : Int64} (hp : prog k pc = some (.l2i, nx, aux)) (kk : V S dep k nx L (.int x.toInt32 :: st) h Q) : V S dep k pc L (.long x :: st) h Q := V_step hp rfl kk
theorem V_i2b {x : Int32} (hp : prog k pc = some (.i2b, nx, aux)) (kk : V S dep k nx L (.int x.toInt8.toInt32 :: st) h Q) : V S dep k pc L (.int x :: st) h Q := V_step hp rfl kk
theorem V_i2c {x : Int32} (hp : prog k pc = some (.i2c, nx, aux)) (kk : V S dep k nx L (.int (x.toUInt32 % 65536).toInt32 :: st) h Q) : V S dep k pc L (.int x :: st) h Q := V_step hp rfl kk
theorem V_dup {v : Value} (hp : prog k pc = some (.dup, nx, aux)) (hv : Nat.beq v.category 1 = true) (kk : V S dep k nx L (v :: v :: st) h Q) : V S dep k pc L (v :: st) h Q := V_step hp (by rw [dq_dup]; show gc1 (Nat.beq v.category 1) _ = _; rw [hv]; rfl) kk
theorem V_pop {v : Value} (hp : prog k pc = some (.pop, nx, aux)) (hv : Nat.beq v.category 1 = true) (kk : V S dep k nx L (st) h Q) : V S dep k pc L (v :: st) h Q := V_step hp (by rw [dq_pop]; show gc1 (Nat.beq v.category 1) _ = _; rw [hv]; rfl) kk
theorem V_dup2 {v w : Value} (hp : prog k pc = some (.dup2, nx, aux)) (hv : (Nat.beq v.category 1 && Nat.beq w.category 1) = true) (kk : V S dep k nx L (v :: w :: v :: w :: st) h Q) : V S dep k pc L (v :: w :: st) h Q := V_step hp (by rw [dq_dup2]; show gc1 (Nat.beq v.category 1 && Nat.beq w.category 1) _ = _; rw [hv]; rfl) kk
theorem V_goto {o : Int} (hp : prog k pc = some (.goto o, nx, aux)) (kk : V S dep k aux L st h Q) : V S dep k pc L st h Q := V_step hp rfl kk
theorem V_if_eq {x : Int32} {o : Int} (hp : prog k pc = some (.ifCond .eq o, nx, aux)) (kt : x = 0 → V S dep k aux L st h Q) (kf : ¬ (x = 0) → V S dep k nx L st h Q) : V S dep k pc L (.int x :: st) h Q := by
  by_cases hc : x = 0
  · exact V_step hp (by rw [dq_ifCond]; show some (Sum.inl (bif cnd .eq x 0 then aux else nx, L, st, Gof h)) = _; rw [show cnd .eq x 0 = true from decide_eq_true hc]; rfl) (kt hc)
  · exact V_step hp (by rw [dq_ifCond]; show some (Sum.inl (bif cnd .eq x 0 then aux else nx, L, st, Gof h)) = _; rw [show cnd .eq x 0 = false from decide_eq_false hc]; rfl) (kf hc)
theorem V_if_ne {x : Int32} {o : Int} (hp : prog k pc = some (.ifCond .ne o, nx, aux)) (kt : ¬ x = 0 → V S dep k aux L st h Q) (kf : ¬ (¬ x = 0) → V S dep k nx L st h Q) : V S dep k pc L (.int x :: st) h Q := by
  by_cases hc : ¬ x = 0
  · exact V_step hp (by rw [dq_ifCond]; show some (Sum.inl (bif cnd .ne x 0 then aux else nx, L, st, Gof h)) = _; rw [show cnd .ne x 0 = true from decide_eq_true hc]; rfl) (kt hc)
  · exact V_step hp (by rw [dq_ifCond]; show some (Sum.inl (bif cnd .ne x 0 then aux else nx, L, st, Gof h)) = _; rw [show cnd .ne x 0 = false from decide_eq_false hc]; rfl) (kf hc)
theorem V_if_lt {x : Int32} {o : Int} (hp : prog k pc = some (.ifCond .lt o, nx, aux)) (kt : x < 0 → V S dep k aux L st h Q) (kf : ¬ (x < 0) → V S dep k nx L st h Q) : V S dep k pc L (.int x :: st) h Q := by
  by_cases hc : x < 0
  · exact V_step hp (by rw [dq_ifCond]; show some (Sum.inl (bif cnd .lt x 0 then aux else nx, L, st, Gof h)) = _; rw [show cnd .lt x 0 = true from decide_eq_true hc]; rfl) (kt hc)
  · exact V_step hp (by rw [dq_ifCond]; show some (Sum.inl (bif cnd .lt x 0 then aux else nx, L, st, Gof h)) = _; rw [show cnd .lt x 0 = false from decide_eq_false hc]; rfl) (kf hc)
theorem V_if_ge {x : Int32} {o : Int} (hp : prog k pc = some (.ifCond .ge o, nx, aux)) (kt : 0 ≤ x → V S dep k aux L st h Q) (kf : ¬ (0 ≤ x) → V S dep k nx L st h Q) : V S dep k pc L (.int x :: st) h Q := by
  by_cases hc : 0 ≤ x
  · exact V_step hp (by rw [dq_ifCond]; show some (Sum.inl (bif cnd .ge x 0 then aux else nx, L, st, Gof h)) = _; rw [show cnd .ge x 0 = true from decide_eq_true hc]; rfl) (kt hc)
  · exact V_step hp (by rw [dq_ifCond]; show some (Sum.inl (bif cnd .ge x 0 then aux else nx, L, st, Gof h)) = _; rw [show cnd .ge x 0 = false from decide_eq_false hc]; rfl) (kf hc)
theorem V_if_gt {x : Int32} {o : Int} (hp : prog k pc = some (.ifCond .gt o, nx, aux)) (kt : 0 < x → V S dep k aux L st h Q) (kf : ¬ (0 < x) → V S dep k nx L st h Q) : V S dep k pc L (.int x :: st) h Q := by
  by_cases hc : 0 < x
  · exact V_step hp (by rw [dq_ifCond]; show some (Sum.inl (bif cnd .gt x 0 then aux else nx, L, st, Gof h)) = _; rw [show cnd .gt x 0 = true from decide_eq_true hc]; rfl) (kt hc)
  · exact V_step hp (by rw [dq_ifCond]; show some (Sum.inl (bif cnd .gt x 0 then aux else nx, L, st, Gof h)) = _; rw [show cnd .gt x 0 = false from decide_eq_false hc]; rfl) (kf hc)
theorem V_if_le {x : Int32} {o : Int} (hp : prog k pc = some (.ifCond .le o, nx, aux)) (kt : x ≤ 0 → V S dep k aux L st h Q) (kf : ¬ (x ≤ 0) → V S dep k nx L st h Q) : V S dep k pc L (.int x :: st) h Q := by
  by_cases hc : x ≤ 0
  · exact V_step hp (by rw [dq_ifCond]; show some (Sum.inl (bif cnd .le x 0 then aux else nx, L, st, Gof h)) = _; rw [show cnd .le x 0 = true from decide_eq_true hc]; rfl) (kt hc)
  · exact V_step hp (by rw [dq_ifCond]; show some (Sum.inl (bif cnd .le x 0 then aux else nx, L, st, Gof h)) = _; rw [show cnd .le x 0 = false from decide_eq_false hc]; rfl) (kf hc)
theorem V_icmp_eq {x y : Int32} {o : Int} (hp : prog k pc = some (.if_icmp .eq o, nx, aux)) (kt : x = y → V S dep k aux L st h Q) (kf : ¬ (x = y) → V S dep k nx L st h Q) : V S dep k pc L (.int y :: .int x :: st) h Q := by
  by_cases hc : x = y
  · exact V_step hp (by rw [dq_if_icmp]; show some (Sum.inl (bif cnd .eq x y then aux else nx, L, st, Gof h)) = _; rw [show cnd .eq x y = true from decide_eq_true hc]; rfl) (kt hc)
  · exact V_step hp (by rw [dq_if_icmp]; show some (Sum.inl (bif cnd .eq x y then aux else nx, L, st, Gof h)) = _; rw [show cnd .eq x y = false from decide_eq_false hc]; rfl) (kf hc)
theorem V_icmp_ne {x y : Int32} {o : Int} (hp : prog k pc = some (.if_icmp .ne o, nx, aux)) (kt : ¬ x = y → V S dep k aux L st h Q) (kf : ¬ (¬ x = y) → V S dep k nx L st h Q) : V S dep k pc L (.int y :: .int x :: st) h Q := by
  by_cases hc : ¬ x = y
  · exact V_step hp (by rw [dq_if_icmp]; show some (Sum.inl (bif cnd .ne x y then aux else nx, L, st, Gof h)) = _; rw [show cnd .ne x y = true from decide_eq_true hc]; rfl) (kt hc)
  · exact V_step hp (by rw [dq_if_icmp]; show some (Sum.inl (bif cnd .ne x y then aux else nx, L, st, Gof h)) = _; rw [show cnd .ne x y = false from decide_eq_false hc]; rfl) (kf hc)
theorem V_icmp_lt {x y : Int32} {o : Int} (hp : prog k pc = some (.if_icmp .lt o, nx, aux)) (kt : x < y → V S dep k aux L st h Q) (kf : ¬ (x < y) → V S dep k nx L st h Q) : V S dep k pc L (.int y :: .int x :: st) h Q := by
  by_cases hc : x < y
  · exact V_step hp (by rw [dq_if_icmp]; show some (Sum.inl (bif cnd .lt x y then aux else nx, L, st, Gof h)) = _; rw [show cnd .lt x y = true from decide_eq_true hc]; rfl) (kt hc)
  · exact V_step hp (by rw [dq_if_icmp]; show some (Sum.inl (bif cnd .lt x y then aux else nx, L, st, Gof h)) = _; rw [show cnd .lt x y = false from decide_eq_false hc]; rfl) (kf hc)
theorem V_icmp_ge {x y : Int32} {o : Int} (hp : prog k pc = some (.if_icmp .ge o, nx, aux)) (kt : y ≤ x → V S dep k aux L st h Q) (kf : ¬ (y ≤ x) → V S dep k nx L st h Q) : V S dep k pc L (.int y :: .int x :: st) h Q := by
  by_cases hc : y ≤ x
  · exact V_step hp (by rw [dq_if_icmp]; show some (Sum.inl (bif cnd .ge x y then aux else nx, L, st, Gof h)) = _; rw [show cnd .ge x y = true from decide_eq_true hc]; rfl) (kt hc)
  · exact V_step hp (by rw [dq_if_icmp]; show some (Sum.inl (bif cnd .ge x y then aux else nx, L, st, Gof h)) = _; rw [show cnd .ge x y = false from decide_eq_false hc]; rfl) (kf hc)
theorem V_icmp_gt {x y : Int32} {o : Int} (hp : prog k pc = some (.if_icmp .gt o, nx, aux)) (kt : y < x → V S dep k aux L st h Q) (kf : ¬ (y < x) → V S dep k nx L st h Q) : V S dep k pc L (.int y :: .int x :: st) h Q := by
  by_cases hc : y < x
  · exact V_step hp (by rw [dq_if_icmp]; show some (Sum.inl (bif cnd .gt x y then aux else nx, L, st, Gof h)) = _; rw [show cnd .gt x y = true from decide_eq_true hc]; rfl) (kt hc)
  · exact V_step hp (by rw [dq_if_icmp]; show some (Sum.inl (bif cnd .gt x y then aux else nx, L, st, Gof h)) = _; rw [show cnd .gt x y = false from decide_eq_false hc]; rfl) (kf hc)
theorem V_icmp_le {x y : Int32} {o : Int} (hp : prog k pc = some (.if_icmp .le o, nx, aux)) (kt : x ≤ y → V S dep k aux L st h Q) (kf : ¬ (x ≤ y) → V S dep k nx L st h Q) : V S dep k pc L (.int y :: .int x :: st) h Q := by
  by_cases hc : x ≤ y
  · exact V_step hp (by rw [dq_if_icmp]; show some (Sum.inl (bif cnd .le x y then aux else nx, L, st, Gof h)) = _; rw [show cnd .le x y = true from decide_eq_true hc]; rfl) (kt hc)
  · exact V_step hp (by rw [dq_if_icmp]; show some (Sum.inl (bif cnd .le x y then aux else nx, L, st, Gof h)) = _; rw [show cnd .le x y = false from decide_eq_false hc]; rfl) (kf hc)
theorem V_getI {i a : Nat} (hp : prog k pc = some (.getfield i, nx, aux)) (hs : shI a aux = true) (kk : V S dep k nx L (.int (h.1 a (aux % 100)) :: st) h Q) : V S dep k pc L (.ref a :: st) h Q := by
  refine V_step hp ?_ kk
  obtain ⟨h0, fs, h1, h2, -⟩ := shI_eq (h := h) hs
  rw [dq_getfield]
  show (getF (Gof h) aux a).bind _ = _
  have e : getF (Gof h) aux a = some (.int (h.1 a (aux % 100))) := by
    unfold getF ownO
    rw [show Nat.ble 5000 aux = false from by cases hb : Nat.ble 5000 aux with
      | false => rfl
      | true => have := ble_l hb; omega, cond_false, h1]
    show (bif Nat.beq (aux / 100) (aux / 100) then fs[aux % 100]? else none) = _
    rw [Nat.beq_refl, cond_true, h2]
  rw [e]; rfl
theorem V_getR {i a r : Nat} (hp : prog k pc = some (.getfield i, nx, aux)) (hs : shR a aux r = true) (kk : V S dep k nx L (.ref r :: st) h Q) : V S dep k pc L (.ref a :: st) h Q := by
  refine V_step hp ?_ kk
  obtain ⟨h0, fs, h1, h2⟩ := shR_eq (h := h) hs
  rw [dq_getfield]
  show (getF (Gof h) aux a).bind _ = _
  have e : getF (Gof h) aux a = some (.ref r) := by
    unfold getF ownO
    rw [show Nat.ble 5000 aux = false from by cases hb : Nat.ble 5000 aux with
      | false => rfl
      | true => have := ble_l hb; omega, cond_false, h1]
    show (bif Nat.beq (aux / 100) (aux / 100) then fs[aux % 100]? else none) = _
    rw [Nat.beq_refl, cond_true, h2]
  rw [e]; rfl
theorem V_putI {i a : Nat} {v : Int32} (hp : prog k pc = some (.putfield i, nx, aux)) (hs : shI a aux = true) (ho : putOk k aux (.int v) = true) (kk : V S dep k nx L st (wI h a (aux % 100) v) Q) : V S dep k pc L (.int v :: .ref a :: st) h Q := by
  refine V_step hp ?_ kk
  obtain ⟨h0, -⟩ := shI_eq (h := h) hs
  obtain ⟨fs, h1, h2, h3⟩ := Gof_fld (h := h) (v := v) hs
  rw [dq_putfield]
  show (ownO (Gof h) a).bind _ = _
  rw [h1]
  show gc1 (Nat.beq (aux / 100) (aux / 100) && Nat.blt (aux % 100) fs.length && putOk k aux (.int v) && Nat.blt aux 5000) _ = _
  rw [Nat.beq_refl, blt_t h2, ho, blt_t h0]
  show go _ L st ((Gof h).set a (.inr (aux / 100, fs.set (aux % 100) (.int v)))) = _
  rw [h3]; rfl
theorem inB_nI {i : Int32} {n : Nat} (h1 : 0 ≤ i) (h2 : i.toNatClampNeg < n) : inB i n = true := by
  unfold inB
  rw [decide_eq_true h1, blt_t h2]; rfl
theorem V_iald {a n : Nat} {i : Int32} (hp : prog k pc = some (.iaload, nx, aux)) (hs : shA a 0 n = true) (hi : inB i n = true) (kk : V S dep k nx L (.int (h.1 a i.toNatClampNeg) :: st) h Q) : V S dep k pc L (.int i :: .ref a :: st) h Q := by
  refine V_step hp ?_ kk
  obtain ⟨h0, h1, -⟩ := shA_eq (h := h) hs
  rw [dq_iaload]
  show (arrI S.1 S.2 (Gof h) 0 a).bind _ = _
  have e : arrI S.1 S.2 (Gof h) 0 a = some (n, h.1 a) := by
    unfold arrI
    rw [show Nat.ble 1000 a = false from by cases hb : Nat.ble 1000 a with
      | false => rfl
      | true => have := ble_l hb; omega, cond_false, h1]; rfl
  rw [e]
  show gc1 (inB i n) _ = _
  rw [hi]; rfl
theorem V_bald {a n : Nat} {i : Int32} (hp : prog k pc = some (.baload, nx, aux)) (hs : shA a 1 n = true) (hi : inB i n = true) (kk : V S dep k nx L (.int (h.1 a i.toNatClampNeg) :: st) h Q) : V S dep k pc L (.int i :: .ref a :: st) h Q := by
  refine V_step hp ?_ kk
  obtain ⟨h0, h1, -⟩ := shA_eq (h := h) hs
  rw [dq_baload]
  show (arrI S.1 S.2 (Gof h) 1 a).bind _ = _
  have e : arrI S.1 S.2 (Gof h) 1 a = some (n, h.1 a) := by
    unfold arrI
    rw [show Nat.ble 1000 a = false from by cases hb : Nat.ble 1000 a with
      | false => rfl
      | true => have := ble_l hb; omega, cond_false, h1]; rfl
  rw [e]
  show gc1 (inB i n) _ = _
  rw [hi]; rfl
/-- an array outside -/
theorem V_xald {a n : Nat} {f : Nat → Int32} {i : Int32} (hp : prog k pc = some (.iaload, nx, aux)) (hs : arrI S.1 S.2 [] 0 a = some (n, f)) (ha : 1000 ≤ a) (hi : inB i n = true) (kk : V S dep k nx L (.int (f i.toNatClampNeg) :: st) h Q) : V S dep k pc L (.int i :: .ref a :: st) h Q := by
  refine V_step hp ?_ kk
  rw [dq_iaload]
  show (arrI S.1 S.2 (Gof h) 0 a).bind _ = _
  have e : arrI S.1 S.2 (Gof h) 0 a = some (n, f) := by
    rw [← hs]
    unfold arrI
    rw [ble_t ha]; rfl
  rw [e]
  show gc1 (inB i n) _ = _
  rw [hi]; rfl
theorem V_xbald {a n : Nat} {f : Nat → Int32} {i : Int32} (hp : prog k pc = some (.baload, nx, aux)) (hs : arrI S.1 S.2 [] 1 a = some (n, f)) (ha : 1000 ≤ a) (hi : inB i n = true) (kk : V S dep k nx L (.int (f i.toNatClampNeg) :: st) h Q) : V S dep k pc L (.int i :: .ref a :: st) h Q := by
  refine V_step hp ?_ kk
  rw [dq_baload]
  show (arrI S.1 S.2 (Gof h) 1 a).bind _ = _
  have e : arrI S.1 S.2 (Gof h) 1 a = some (n, f) := by
    rw [← hs]
    unfold arrI
    rw [ble_t ha]; rfl
  rw [e]
  show gc1 (inB i n) _ = _
  rw [hi]; rfl
theorem V_lald {a n : Nat} {i : Int32} (hp : prog k pc = some (.laload, nx, aux)) (hs : shJ a n = true) (hi : inB i n = true) (kk : V S dep k nx L (.long (h.2 a i.toNatClampNeg) :: st) h Q) : V S dep k pc L (.int i :: .ref a :: st) h Q := by
  refine V_step hp ?_ kk
  obtain ⟨h0, h1, -⟩ := shJ_eq (h := h) hs
  rw [dq_laload]
  show (ownJ (Gof h) a).bind _ = _
  have e : ownJ (Gof h) a = some (n, h.2 a) := by
    unfold ownJ
    rw [h1]; rfl
  rw [e]
  show gc1 (inB i n) _ = _
  rw [hi]; rfl
theorem V_aald {a r : Nat} {rs : List Nat} {i : Int32} (hp : prog k pc = some (.aaload, nx, aux)) (hs : shQ a rs = true) (hi : inB i rs.length = true) (hr : rs[i.toNatClampNeg]? = some r) (hr2 : Nat.blt r 1000 = true) (kk : V S dep k nx L (.ref r :: st) h Q) : V S dep k pc L (.int i :: .ref a :: st) h Q := by
  refine V_step hp ?_ kk
  obtain ⟨t, ht, h1⟩ := shQ_eq (h := h) hs
  rw [dq_aaload]
  show (ownQ (Gof h) a).bind _ = _
  have e : ownQ (Gof h) a = some (t, rs.length, rs.map some) := by
    unfold ownQ
    rw [h1]
    show (bif (Nat.beq t 3 || Nat.beq t 4) && Nat.beq rs.length (rs.map some).length then some (t, rs.length, rs.map some) else none) = _
    rw [List.length_map, Nat.beq_refl]
    rcases ht with rfl | rfl <;> rfl
  rw [e]
  show gc1 (inB i rs.length) (match (rs.map some).getD i.toNatClampNeg none with
    | some x => gc1 (Nat.blt x 1000) (go _ L (.ref x :: st) (Gof h))
    | none => none) = _
  rw [hi, List.getD_eq_getElem?_getD, List.getElem?_map, hr]
  show gc1 (Nat.blt r 1000) _ = _
  rw [hr2]; rfl
theorem V_iast {a n : Nat} {i x : Int32} (hp : prog k pc = some (.iastore, nx, aux)) (hs : shA a 0 n = true) (hi : inB i n = true) (kk : V S dep k nx L st (wI h a i.toNatClampNeg x) Q) : V S dep k pc L (.int x :: .int i :: .ref a :: st) h Q := by
  refine V_step hp ?_ kk
  obtain ⟨h0, h1, -⟩ := shA_eq (h := h) hs
  rw [dq_iastore]
  show (ownI (Gof h) 0 a).bind _ = _
  have e : ownI (Gof h) 0 a = some (n, h.1 a) := by
    unfold ownI
    rw [h1]; rfl
  rw [e]
  show gc1 (inB i n) (go _ L st ((Gof h).set a (.inl (0, n, .inl (upd (h.1 a) i.toNatClampNeg x))))) = _
  rw [hi, Gof_arr hs]; rfl
theorem V_bast {a n : Nat} {i x : Int32} (hp : prog k pc = some (.bastore, nx, aux)) (hs : shA a 1 n = true) (hi : inB i n = true) (kk : V S dep k nx L st (wI h a i.toNatClampNeg (vp_nar .byte x)) Q) : V S dep k pc L (.int x :: .int i :: .ref a :: st) h Q := by
  refine V_step hp ?_ kk
  obtain ⟨h0, h1, -⟩ := shA_eq (h := h) hs
  rw [dq_bastore]
  show (ownI (Gof h) 1 a).bind _ = _
  have e : ownI (Gof h) 1 a = some (n, h.1 a) := by
    unfold ownI
    rw [h1]; rfl
  rw [e]
  show gc1 (inB i n) (go _ L st ((Gof h).set a (.inl (1, n, .inl (upd (h.1 a) i.toNatClampNeg (vp_nar .byte x)))))) = _
  rw [hi, Gof_arr hs]; rfl
theorem V_last {a n : Nat} {i : Int32} {x : Int64} (hp : prog k pc = some (.lastore, nx, aux)) (hs : shJ a n = true) (hi : inB i n = true) (kk : V S dep k nx L st (wJ h a i.toNatClampNeg x) Q) : V S dep k pc L (.long x :: .int i :: .ref a :: st) h Q := by
  refine V_step hp ?_ kk
  obtain ⟨h0, h1, -⟩ := shJ_eq (h := h) hs
  rw [dq_lastore]
  show (ownJ (Gof h) a).bind _ = _
  have e : ownJ (Gof h) a = some (n, h.2 a) := by
    unfold ownJ
    rw [h1]; rfl
  rw [e]
  show gc1 (inB i n) (go _ L st ((Gof h).set a (.inl (2, n, .inr (.inl (vp_updL (h.2 a) i.toNatClampNeg x)))))) = _
  rw [hi, Gof_lng hs]; rfl
theorem V_alen {a t n : Nat} (hp : prog k pc = some (.arraylength, nx, aux)) (hs : shA a t n = true) (ht : Nat.ble t 4 = true) (kk : V S dep k nx L (.int (Int32.ofNat n) :: st) h Q) : V S dep k pc L (.ref a :: st) h Q := by
  refine V_step hp ?_ kk
  obtain ⟨h0, h1, -⟩ := shA_eq (h := h) hs
  rw [dq_arraylength]
  show (lenA S.1 S.2 (Gof h) a).bind _ = _
  have e : lenA S.1 S.2 (Gof h) a = some n := by
    unfold lenA
    rw [show Nat.ble 1000 a = false from by cases hb : Nat.ble 1000 a with
      | false => rfl
      | true => have := ble_l hb; omega, cond_false, h1]
    show (bif Nat.ble t 4 then some n else none) = _
    rw [ht]; rfl
  rw [e]; rfl
theorem V_qlen {a : Nat} {rs : List Nat} (hp : prog k pc = some (.arraylength, nx, aux)) (hs : shQ a rs = true) (ha : Nat.blt a 1000 = true) (kk : V S dep k nx L (.int (Int32.ofNat rs.length) :: st) h Q) : V S dep k pc L (.ref a :: st) h Q := by
  refine V_step hp ?_ kk
  obtain ⟨t, ht, h1⟩ := shQ_eq (h := h) hs
  have ha := blt_l ha
  rw [dq_arraylength]
  show (lenA S.1 S.2 (Gof h) a).bind _ = _
  have e : lenA S.1 S.2 (Gof h) a = some rs.length := by
    unfold lenA
    rw [show Nat.ble 1000 a = false from by cases hb : Nat.ble 1000 a with
      | false => rfl
      | true => have := ble_l hb; omega, cond_false, h1]
    rcases ht with rfl | rfl <;> rfl
  rw [e]; rfl
theorem V_xlen {a n : Nat} (hp : prog k pc = some (.arraylength, nx, aux)) (hs : lenA S.1 S.2 [] a = some n) (ha : 1000 ≤ a) (kk : V S dep k nx L (.int (Int32.ofNat n) :: st) h Q) : V S dep k pc L (.ref a :: st) h Q := by
  refine V_step hp ?_ kk
  rw [dq_arraylength]
  show (lenA S.1 S.2 (Gof h) a).bind _ = _
  have e : lenA S.1 S.2 (Gof h) a = some n := by
    rw [← hs]
    unfold lenA
    rw [ble_t ha]; rfl
  rw [e]; rfl
theorem V_stat {i : Nat} {v : Value} (hp : prog k pc = some (.getstatic i, nx, aux)) (hs : dstep S.1 S.2 dep k pc (.getstatic i, nx, aux) L st (Gof h) = some (.inl (nx, L, v :: st, Gof h))) (kk : V S dep k nx L (v :: st) h Q) : V S dep k pc L st h Q := V_step hp hs kk
theorem V_ldc {i : Nat} {v : Value} (hp : prog k pc = some (.ldc i, nx, aux)) (hs : dstep S.1 S.2 dep k pc (.ldc i, nx, aux) L st (Gof h) = some (.inl (nx, L, v :: st, Gof h))) (kk : V S dep k nx L (v :: st) h Q) : V S dep k pc L st h Q := V_step hp hs kk
theorem V_strv {i a r : Nat} (hp : prog k pc = some (.getfield i, nx, 5000)) (hs : (Nat.ble 1010 a && Nat.ble a 1013 && Nat.beq (a - 7) r) = true) (kk : V S dep k nx L (.ref r :: st) h Q) : V S dep k pc L (.ref a :: st) h Q := by
  rw [Bool.and_eq_true] at hs
  refine V_step hp ?_ kk
  rw [dq_getfield]
  show (getF (Gof h) 5000 a).bind _ = _
  have e : getF (Gof h) 5000 a = some (.ref r) := by
    unfold getF
    rw [show Nat.ble 5000 5000 = true from rfl, show Nat.beq 5000 5000 = true from rfl, cond_true, hs.1, cond_true, cond_true, Nat.eq_of_beq_eq_true hs.2]
  rw [e]; rfl
theorem V_strc {i a : Nat} (hp : prog k pc = some (.getfield i, nx, 5001)) (hs : (Nat.ble 1010 a && Nat.ble a 1013) = true) (kk : V S dep k nx L (.int 0 :: st) h Q) : V S dep k pc L (.ref a :: st) h Q := by
  refine V_step hp ?_ kk
  rw [dq_getfield]
  show (getF (Gof h) 5001 a).bind _ = _
  have e : getF (Gof h) 5001 a = some (.int 0) := by
    unfold getF
    rw [show Nat.ble 5000 5001 = true from rfl, show Nat.beq 5001 5000 = false from rfl, cond_true, hs, cond_true, cond_false]
  rw [e]; rfl
theorem V_max {i : Nat} {x y : Int32} (hp : prog k pc = some (.invokestatic i, nx, 902)) (hd : Nat.blt 0 dep = true) (hc : Nat.ble (catS st) 8 = true) (kk : V S dep k nx L (.int (if x < y then y else x) :: st) h Q) : V S dep k pc L (.int y :: .int x :: st) h Q := by
  refine V_step hp ?_ kk
  rw [dq_invokestatic, show Nat.beq 902 901 = false from rfl, show Nat.beq 902 902 = true from rfl, cond_false, cond_true]
  show gc1 (Nat.blt 0 dep && Nat.ble (catS st) 8) _ = _
  rw [hd, hc]; rfl
theorem V_min {i : Nat} {x y : Int32} (hp : prog k pc = some (.invokestatic i, nx, 903)) (hd : Nat.blt 0 dep = true) (hc : Nat.ble (catS st) 8 = true) (kk : V S dep k nx L (.int (if y < x then y else x) :: st) h Q) : V S dep k pc L (.int y :: .int x :: st) h Q := by
  refine V_step hp ?_ kk
  rw [dq_invokestatic, show Nat.beq 903 901 = false from rfl, show Nat.beq 903 902 = false from rfl, show Nat.beq 903 903 = true from rfl, cond_false, cond_false, cond_true]
  show gc1 (Nat.blt 0 dep && Nat.ble (catS st) 8) _ = _
  rw [hd, hc]; rfl
/-- System.arraycopy between two int arrays -/
theorem V_copy {i a b n0 n1 : Nat} {n dp sp : Int32} (hp : prog k pc = some (.invokestatic i, nx, 901)) (ha : shA a 0 n0 = true) (hb : shA b 0 n1 = true) (h1 : ¬ sp < 0) (h2 : ¬ dp < 0) (h3 : ¬ n < 0) (h4 : sp.toNatClampNeg + n.toNatClampNeg ≤ n0) (h5 : dp.toNatClampNeg + n.toNatClampNeg ≤ n1) (hd : Nat.blt 0 dep = true) (hc : Nat.ble (catS st) 8 = true)
    (kk : V S dep k nx L st (wA h b (va_cpy (h.1 a) (h.1 b) sp.toNatClampNeg dp.toNatClampNeg n.toNatClampNeg)) Q) : V S dep k pc L (.int n :: .int dp :: .ref b :: .int sp :: .ref a :: st) h Q := by
  refine V_step hp ?_ kk
  obtain ⟨-, e1, -⟩ := shA_eq (h := h) ha
  obtain ⟨-, e2, -⟩ := shA_eq (h := h) hb
  have o1 : ownI (Gof h) 0 a = some (n0, h.1 a) := by unfold ownI; rw [e1]; rfl
  have o2 : ownI (Gof h) 0 b = some (n1, h.1 b) := by unfold ownI; rw [e2]; rfl
  rw [dq_invokestatic, show Nat.beq 901 901 = true from rfl, cond_true]
  show ((ownI (Gof h) 0 a).bind fun x => (ownI (Gof h) 0 b).bind fun y => _) = _
  rw [o1, Option.bind_some, o2, Option.bind_some]
  show gc1 (decide (¬ sp < 0) && decide (¬ dp < 0) && decide (¬ n < 0) && Nat.ble (sp.toNatClampNeg + n.toNatClampNeg) n0 && Nat.ble (dp.toNatClampNeg + n.toNatClampNeg) n1 && Nat.blt 0 dep && Nat.ble (catS st) 8) (go _ L st ((Gof h).set b (.inl (0, n1, .inl (cpyF (h.1 a) (h.1 b) sp.toNatClampNeg dp.toNatClampNeg n.toNatClampNeg))))) = _
  rw [decide_eq_true h1, decide_eq_true h2, decide_eq_true h3, ble_t h4, ble_t h5, hd, hc, Gof_row hb]; rfl
/-- the ends of a method -/
theorem V_ireturn {v : Int32} (hp : prog k pc = some (.ireturn, nx, aux)) (hr : retOk (mRet k) v = true) (hq : Q (some (.int v)) h) : V S dep k pc L [.int v] h Q := by
  refine ⟨1, some (.int v), h, ?_, hq⟩
  rw [dexec, hp]
  dsimp only
  have e : dstep S.1 S.2 dep k pc (.ireturn, nx, aux) L [.int v] (Gof h) = some (.inr (.inl (some (.int v)))) := by
    rw [dq_ireturn]
    show gc1 (retOk (mRet k) v) _ = _
    rw [hr]; rfl
  rw [e]
theorem V_areturn {a : Nat} (hp : prog k pc = some (.areturn, nx, aux)) (hr : (Nat.blt a 1000 && (match mRet k with
      | some (.object _) => true
      | _ => false)) = true) (hq : Q (some (.ref a)) h) : V S dep k pc L [.ref a] h Q := by
  refine ⟨1, some (.ref a), h, ?_, hq⟩
  rw [dexec, hp]
  dsimp only
  have e : dstep S.1 S.2 dep k pc (.areturn, nx, aux) L [.ref a] (Gof h) = some (.inr (.inl (some (.ref a)))) := by
    rw [dq_areturn]
    show gc1 (Nat.blt a 1000 && (match mRet k with
      | some (.object _) => true
      | _ => false)) _ = _
    rw [hr]; rfl
  rw [e]
theorem V_return (hp : prog k pc = some (.return_, nx, aux)) (hr : decide (mRet k = none) = true) (hq : Q none h) : V S dep k pc L [] h Q := by
  refine ⟨1, none, h, ?_, hq⟩
  rw [dexec, hp]
  dsimp only
  have e : dstep S.1 S.2 dep k pc (.return_, nx, aux) L [] (Gof h) = some (.inr (.inl none)) := by
    rw [dq_return_]
    show gc1 (decide (mRet k = none)) _ = _
    rw [hr]; rfl
  rw [e]
theorem V_call {e : mI} {k' : Nat} {as rest : List Value} {Q' : Option Value → Hp → Prop} (hp : prog k pc = some e) (hs : dstep S.1 S.2 (dep + 1) k pc e L st (Gof h) = some (.inr (.inr (k', as, nx, rest)))) (hc : Cal S dep k' as h Q') (kk : ∀ r h', Q' r h' → V S (dep + 1) k nx L (r.toList ++ rest) h' Q) : V S (dep + 1) k pc L st h Q := by
  obtain ⟨n1, r1, h1, e1, q1⟩ := hc
  obtain ⟨n2, r2, h2, e2, q2⟩ := kk r1 h1 q1
  refine ⟨max n1 n2 + 1, r2, h2, ?_, q2⟩
  rw [dexec, hp]
  dsimp only
  rw [hs]
  dsimp only
  rw [dexec_le e1 (Nat.le_max_left _ _)]
  dsimp only
  have eb : wfB (Gof h).length (Gof h1).length L rest (Gof h) = true := by
    unfold wfB
    rw [Gof_len, Gof_len]; rfl
  rw [eb, cond_true]
  exact dexec_le e2 (Nat.le_max_right _ _)
/-- may the method k' be called so -/
def okC (k' : Nat) (as rest : List Value) : Bool := Nat.beq as.length (mArgs k') && Nat.ble (catS rest) 8 && Nat.ble (wrds as).length (mMax k')
theorem call0_ok {i : Instr} {k' : Nat} {as rest : List Value} (h1 : okC k' as rest = true) : call0 k (i, nx, k') (as.reverse ++ rest) = some (.inr (.inr (k', as, nx, rest))) := by
  unfold okC at h1
  simp only [Bool.and_eq_true] at h1
  obtain ⟨⟨a1, a2⟩, a3⟩ := h1
  have a1 := Nat.eq_of_beq_eq_true a1
  have t1 : (as.reverse ++ rest).take (mArgs k') = as.reverse := by
    rw [← a1, show as.length = as.reverse.length by simp, List.take_left]
  have t2 : (as.reverse ++ rest).drop (mArgs k') = rest := by
    rw [← a1, show as.length = as.reverse.length by simp, List.drop_left]
  unfold call0
  dsimp only
  rw [t1, t2, wrds_rev, List.reverse_reverse, a2, a3, ble_t (show mArgs k' ≤ (as.reverse ++ rest).length by rw [← a1]; simp)]
  rfl
theorem V_callS {i k' : Nat} {as rest : List Value} {Q' : Option Value → Hp → Prop} (hp : prog k pc = some (.invokestatic i, nx, k')) (hk : (Nat.beq (mKind k') 0 && Nat.blt k' 900) = true) (ho : okC k' as rest = true) (hst : st = as.reverse ++ rest) (hc : Cal S dep k' as h Q') (kk : ∀ r h', Q' r h' → V S (dep + 1) k nx L (r.toList ++ rest) h' Q) : V S (dep + 1) k pc L st h Q := by
  refine V_call hp ?_ hc kk
  rw [Bool.and_eq_true] at hk
  have hlt := blt_l hk.2
  have nb : ∀ n, 900 ≤ n → Nat.beq k' n = false := by
    intro n hn
    cases hb : Nat.beq k' n with
    | false => rfl
    | true => have := Nat.eq_of_beq_eq_true hb; omega
  rw [dq_invokestatic, nb 901 (by omega), nb 902 (by omega), nb 903 (by omega), cond_false, cond_false, cond_false, hk.1, hst]
  exact call0_ok (k := k) ho
theorem V_callV {i k' a : Nat} {as rest : List Value} {Q' : Option Value → Hp → Prop} (hp : prog k pc = some (.invokevirtual i, nx, k')) (hk : (Nat.beq (mKind k') 1 && !(Nat.beq (mCls k') 50)) = true) (ha : shC a (mCls k') = true) (ho : okC k' (.ref a :: as) rest = true) (hst : st = (.ref a :: as).reverse ++ rest) (hc : Cal S dep k' (.ref a :: as) h Q') (kk : ∀ r h', Q' r h' → V S (dep + 1) k nx L (r.toList ++ rest) h' Q) : V S (dep + 1) k pc L st h Q := by
  refine V_call hp ?_ hc kk
  rw [Bool.and_eq_true] at hk
  have hn : mArgs k' - 1 = as.length := by
    unfold okC at ho
    simp only [Bool.and_eq_true] at ho
    have := Nat.eq_of_beq_eq_true ho.1.1
    simp at this
    omega
  have hat : st[mArgs k' - 1]? = some (.ref a) := by
    rw [hst, hn, List.reverse_cons, List.append_assoc, List.getElem?_append_right (by simp)]
    simp
  obtain ⟨fs, hfs⟩ := shC_eq (h := h) ha
  have hrc : rcv (Gof h) k' (some (.ref a)) = true := by
    unfold rcv ownO
    dsimp only
    rw [hfs]
    have h2 := hk.2
    cases hb : Nat.beq (mCls k') 50 with
    | true => rw [hb] at h2; cases h2
    | false =>
      rw [cond_false]
      exact Nat.beq_refl _
  rw [dq_invokevirtual, hat, hrc, hk.1, hst]
  exact call0_ok (k := k) ho
/-- a call on a text -/
theorem V_callT {i k' a : Nat} {as rest : List Value} {Q' : Option Value → Hp → Prop} (hp : prog k pc = some (.invokevirtual i, nx, k')) (hk : (Nat.beq (mKind k') 1 && Nat.beq (mCls k') 50) = true) (ha : (Nat.ble 1010 a && Nat.ble a 1013) = true) (ho : okC k' (.ref a :: as) rest = true) (hst : st = (.ref a :: as).reverse ++ rest) (hc : Cal S dep k' (.ref a :: as) h Q') (kk : ∀ r h', Q' r h' → V S (dep + 1) k nx L (r.toList ++ rest) h' Q) : V S (dep + 1) k pc L st h Q := by
  refine V_call hp ?_ hc kk
  rw [Bool.and_eq_true] at hk
  have hn : mArgs k' - 1 = as.length := by
    unfold okC at ho
    simp only [Bool.and_eq_true] at ho
    have := Nat.eq_of_beq_eq_true ho.1.1
    simp at this
    omega
  have hat : st[mArgs k' - 1]? = some (.ref a) := by
    rw [hst, hn, List.reverse_cons, List.append_assoc, List.getElem?_append_right (by simp)]
    simp
  have hrc : rcv (Gof h) k' (some (.ref a)) = true := by
    unfold rcv
    dsimp only
    rw [hk.2, cond_true]
    exact ha
  rw [dq_invokevirtual, hat, hrc, hk.1, hst]
  exact call0_ok (k := k) ho
end ROW
/-- a loop up: from j to n -/
theorem loopUp {P : Nat → Prop} (n : Nat) (hend : P n) (hstep : ∀ j, j < n → P (j + 1) → P j) : ∀ j, j ≤ n → P j := by
  intro j hj
  obtain ⟨d, hd⟩ : ∃ d, d = n - j := ⟨_, rfl⟩
  induction d generalizing j with
  | zero => rw [show j = n by omega]; exact hend
  | succ d ih => exact hstep j (by omega) (ih (j + 1) (by omega) (by omega))
