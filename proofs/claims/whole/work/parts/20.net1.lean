/-! nets: the class's own (Net) -/
theorem nI_0' : nI 0 = 0 := rfl
theorem tb_z {s j : Nat} (hs : s < 2 ^ 31) (hj : j < 32) : (nI s >>> (nI j &&& 31)) &&& nI 1 = 0 ↔ s.testBit j = false := by
  rw [nI_shr hs hj, nI_and, ← nI_0']
  have h1 : (s >>> j) &&& 1 < 2 ^ 31 := Nat.lt_of_le_of_lt Nat.and_le_right (by decide)
  rw [nI_eq h1 (by decide)]
  rw [Nat.testBit, Nat.and_comm]
  simp
theorem tb_nz {s j : Nat} (hs : s < 2 ^ 31) (hj : j < 32) : ¬ ((nI s >>> (nI j &&& 31)) &&& nI 1 = 0) ↔ s.testBit j = true := by
  rw [tb_z hs hj]
  simp
theorem nI_div2 {x : Nat} (hx : x < 2 ^ 31) {k : Nat} (hk : 0 < k) (hk2 : k < 2 ^ 31) : nI x / nI k = nI (x / k) := by
  apply Int32.toInt_inj.mp
  rw [Int32.toInt_div_of_ne_right, nI_toInt hx, nI_toInt hk2, nI_toInt (Nat.lt_of_le_of_lt (Nat.div_le_self _ _) hx)]
  · exact Int.ofNat_tdiv x k
  · intro q
    have := congrArg Int32.toInt q
    rw [nI_toInt hk2] at this
    have h1 : Int32.toInt (-1) = -1 := by decide
    rw [h1] at this
    omega
theorem nI_andn (e x : Nat) : nI e &&& (nI x ^^^ (-1)) = nI (e ^^^ (e &&& x)) := by
  rw [← nI_xor, ← nI_and]
  apply nI_ext
  show (nI e).toBitVec &&& ((nI x).toBitVec ^^^ (-1 : Int32).toBitVec) = (nI e).toBitVec ^^^ ((nI e).toBitVec &&& (nI x).toBitVec)
  have ha : (-1 : Int32).toBitVec = BitVec.allOnes 32 := by decide
  rw [ha]
  generalize (nI e).toBitVec = E
  generalize (nI x).toBitVec = X
  ext i hi
  simp only [BitVec.getElem_and, BitVec.getElem_xor, BitVec.getElem_allOnes]
  cases E[i] <;> cases X[i] <;> rfl
/-- heaps that differ at A alone -/
def Fr (A : List Nat) (h h' : Hp) : Prop := (∀ b, b ∉ A → h'.1 b = h.1 b) ∧ h'.2 = h.2
theorem Fr.rf {A : List Nat} {h : Hp} : Fr A h h := ⟨fun _ _ => rfl, rfl⟩
theorem Fr.tr {A : List Nat} {h h1 h2 : Hp} (a : Fr A h h1) (b : Fr A h1 h2) : Fr A h h2 := ⟨fun q hq => (b.1 q hq).trans (a.1 q hq), b.2.trans a.2⟩
theorem Fr.mono {A B : List Nat} {h h1 : Hp} (a : Fr A h h1) (hs : ∀ q ∈ A, q ∈ B) : Fr B h h1 := ⟨fun q hq => a.1 q (fun z => hq (hs q z)), a.2⟩
theorem Fr.w {A : List Nat} {h : Hp} {a i : Nat} {v : Int32} (ha : a ∈ A) : Fr A h (wI h a i v) := ⟨fun b hb => wI_oth (fun q => hb (q ▸ ha)), rfl⟩
theorem Fr.wr {A : List Nat} {h : Hp} {a : Nat} {f : Nat → Int32} (ha : a ∈ A) : Fr A h (wA h a f) := ⟨fun b hb => wA_oth (fun q => hb (q ▸ ha)), rfl⟩
/-- a net at a: n nodes, rows g -/
def NA (h : Hp) (a n : Nat) (g : Nat → Nat) : Prop := isNet a = true ∧ n ≤ 7 ∧ h.1 a 0 = nI n ∧ (∀ v, v < 7 → h.1 (a + 1) v = nI (g v)) ∧ ∀ v, g v < 128
/-- a net at a: n nodes, its code -/
def NC (h : Hp) (a n C : Nat) : Prop := NA h a n (rowOf n C) ∧ C < 2 ^ tri n
theorem NC.fr {A : List Nat} {h h' : Hp} {a n C : Nat} (hN : NC h a n C) (hf : Fr A h h') (h1 : a ∉ A) (h2 : a + 1 ∉ A) : NC h' a n C := by
  obtain ⟨⟨ha, hn, h0, hg, hb⟩, hC⟩ := hN
  exact ⟨⟨ha, hn, by rw [hf.1 a h1]; exact h0, fun v hv => by rw [hf.1 _ h2]; exact hg v hv, hb⟩, hC⟩
theorem NC.lt {h : Hp} {a n C : Nat} (hN : NC h a n C) : C < 2 ^ 21 := Nat.lt_of_lt_of_le hN.2 (Nat.pow_le_pow_right (by decide) (tri_le hN.1.2.1))
def bI (b : Bool) : Int32 := if b = true then 1 else 0
theorem bI_01 (b : Bool) : bI b = 0 ∨ bI b = 1 := by cases b <;> simp [bI]
theorem bI_z {b : Bool} : bI b = 0 ↔ b = false := by cases b <;> simp [bI] <;> decide
def wnb (g : Nat → Nat) (s : Nat) : Nat → Nat
  | 0 => s
  | v + 1 => if s.testBit v = true then wnb g s v ||| g v else wnb g s v
theorem c_wnb {S : mScr} {dep a n s : Nat} {g : Nat → Nat} {h : Hp} (hN : NA h a n g) (hs : s < 128) : Cal S dep 70 [.ref a, .int (nI s)] h (Rt (nI (wnb g s n)) h) := by
  obtain ⟨ha, hn, h0, hg, hb⟩ := hN
  have hb1 := net_b ha
  show V S dep 70 0 [.ref a, .int (nI s), .null, .null] [] h _
  refine V_iload_n rfl rfl ?_
  refine V_istore_n (L' := [_, _, _, _]) rfl rfl rfl ?_
  refine V_ic (v := nI 0) rfl rfl ?_
  refine V_istore_n (L' := [_, _, _, _]) rfl rfl rfl ?_
  -- at 4: .iload_n 3
  refine loopUp (P := fun j => V S dep 70 4 [.ref a, .int (nI s), .int (nI (wnb g s j)), .int (nI j)] [] h (Rt (nI (wnb g s n)) h)) n ?_ ?_ 0 (Nat.zero_le _)
  · refine V_iload_n rfl rfl ?_
    refine V_aload_n rfl rfl (by first | assumption | rfl) ?_
    refine V_gi 0 rfl (net_sz (by first | assumption | rfl)) rfl ?_
    -- at 9: .if_icmp .ge 26
    refine V_icmp_ge rfl (fun hc => ?_) (fun hc => ?_)
    · refine V_iload_n rfl rfl ?_
      -- at 36: .ireturn
      refine V_iret rfl rfl ?_
      exact Rt.rf
    · exact absurd (by rw [h0]; exact nI_le (Nat.le_refl n) (by omega)) hc
  · intro j hj ih
    refine V_iload_n rfl rfl ?_
    refine V_aload_n rfl rfl (by first | assumption | rfl) ?_
    refine V_gi 0 rfl (net_sz (by first | assumption | rfl)) rfl ?_
    -- at 9: .if_icmp .ge 26
    refine V_icmp_ge rfl (fun hc => ?_) (fun hc => ?_)
    · exact absurd hc (by rw [h0]; exact nI_ge hj (by omega))
    · refine V_iload_n rfl rfl ?_
      refine V_iload_n rfl rfl ?_
      refine V_ishr rfl ?_
      refine V_ic (v := nI 1) rfl rfl ?_
      refine V_iand rfl ?_
      -- at 17: .ifCond .eq 12
      refine V_if_eq rfl (fun hb2 => ?_) (fun hb2 => ?_)
      · have e := (tb_z (by omega) (by omega)).mp hb2
        refine V_iinc (L' := [_, _, _, _]) rfl rfl rfl ?_
        refine V_goto rfl ?_
        -- at 4: .iload_n 3
        refine V_L ?_ ih
        simp [wnb, e, nI_succ]
      · have e := (tb_nz (by omega) (by omega)).mp hb2
        refine V_iload_n rfl rfl ?_
        refine V_aload_n rfl rfl (by first | assumption | rfl) ?_
        refine V_getR rfl (net_nr (by first | assumption | rfl)) ?_
        refine V_iload_n rfl rfl ?_
        refine V_al 7 rfl (net_ar (by first | assumption | rfl)) (by first | rfl | assumption) (by first | omega | assumption) rfl ?_
        refine V_ior rfl ?_
        refine V_istore_n (L' := [_, _, _, _]) rfl rfl rfl ?_
        refine V_iinc (L' := [_, _, _, _]) rfl rfl rfl ?_
        refine V_goto rfl ?_
        -- at 4: .iload_n 3
        refine V_L ?_ ih
        simp [wnb, e, nI_succ, hg j (by omega), nI_or]
theorem c_fbo {S : mScr} {dep b : Nat} {h : Hp} (hb : b < 100) : Cal S dep 58 [.int (nI b)] h (Rt (nI (tri b)) h) := by
  show V S dep 58 0 [.int (nI b)] [] h _
  refine V_iload_n rfl rfl ?_
  refine V_iload_n rfl rfl ?_
  refine V_ic (v := nI 1) rfl rfl ?_
  refine V_isub rfl ?_
  refine V_imul rfl ?_
  refine V_ic (v := nI 2) rfl rfl ?_
  refine V_idiv rfl (by first | assumption | decide | omega) ?_
  -- at 7: .ireturn
  refine V_iret rfl rfl ?_
  apply Rt.of
  rcases Nat.eq_zero_or_pos b with q | q
  · subst q; decide
  · have h1 : b * (b - 1) < 2 ^ 31 := Nat.lt_of_le_of_lt (Nat.mul_le_mul (Nat.le_of_lt hb) (show b - 1 ≤ 100 by omega)) (by decide)
    rw [nI_sub q, nI_mul, nI_div2 h1 (by decide) (by decide)]; rfl
theorem c_evn {S : mScr} {dep a n : Nat} {g : Nat → Nat} {h : Hp} (hN : NA h a n g) : Cal S dep 60 [.ref a] h (Rt (nI (2 ^ n - 1)) h) := by
  obtain ⟨ha, hn, h0, hg, hb⟩ := hN
  have hb1 := net_b ha
  show V S dep 60 0 [.ref a] [] h _
  refine V_ic (v := nI 1) rfl rfl ?_
  refine V_aload_n rfl rfl (by first | assumption | rfl) ?_
  refine V_gi 0 rfl (net_sz (by first | assumption | rfl)) rfl ?_
  refine V_ishl rfl ?_
  refine V_ic (v := nI 1) rfl rfl ?_
  refine V_isub rfl ?_
  -- at 8: .ireturn
  refine V_iret rfl rfl ?_
  apply Rt.of
  rw [h0, nI_shl (by omega), Nat.shiftLeft_eq, Nat.one_mul, nI_sub (Nat.two_pow_pos n)]
def hnb (n : Nat) (v : Int32) : Bool := decide (0 ≤ v) && decide (v < nI n)
theorem hnb_nI {n j : Nat} (hn : n ≤ 7) (hj : j < 2 ^ 31) : hnb n (nI j) = decide (j < n) := by
  unfold hnb
  rw [decide_eq_true (nI_pos' hj), Bool.true_and]
  by_cases h : j < n
  · rw [decide_eq_true h, decide_eq_true (nI_lt h (by omega))]
  · rw [decide_eq_false h, decide_eq_false (nI_nlt (by omega) hj)]
theorem c_hn {S : mScr} {dep a n : Nat} {g : Nat → Nat} {h : Hp} {v : Int32} (hN : NA h a n g) : Cal S dep 61 [.ref a, .int v] h (Rt (bI (hnb n v)) h) := by
  obtain ⟨ha, hn, h0, hg, hb⟩ := hN
  have hb1 := net_b ha
  show V S dep 61 0 [.ref a, .int v] [] h _
  refine V_iload_n rfl rfl ?_
  -- at 1: .ifCond .lt 15
  refine V_if_lt rfl (fun hc => ?_) (fun hc => ?_)
  · refine V_ic (v := nI 0) rfl rfl ?_
    -- at 17: .ireturn
    refine V_zret rfl rfl (by first | exact Or.inl rfl | exact Or.inr rfl | assumption) ?_
    apply Rt.of
    rw [← Int32.not_le] at hc
    rw [show hnb n v = false by simp [hnb, hc]]; rfl
  · refine V_iload_n rfl rfl ?_
    refine V_aload_n rfl rfl (by first | assumption | rfl) ?_
    refine V_gi 0 rfl (net_sz (by first | assumption | rfl)) rfl ?_
    -- at 9: .if_icmp .ge 7
    refine V_icmp_ge rfl (fun hd => ?_) (fun hd => ?_)
    · refine V_ic (v := nI 0) rfl rfl ?_
      -- at 17: .ireturn
      refine V_zret rfl rfl (by first | exact Or.inl rfl | exact Or.inr rfl | assumption) ?_
      apply Rt.of
      rw [h0, ← Int32.not_lt] at hd
      rw [show hnb n v = false by simp [hnb, hd]]; rfl
    · refine V_ic (v := nI 1) rfl rfl ?_
      refine V_goto rfl ?_
      -- at 17: .ireturn
      refine V_zret rfl rfl (by first | exact Or.inl rfl | exact Or.inr rfl | assumption) ?_
      apply Rt.of
      rw [h0, Int32.not_le] at hd
      rw [Int32.not_lt] at hc
      rw [show hnb n v = true by simp [hnb, hc, hd]]; rfl
theorem c_hn' {S : mScr} {dep a n j : Nat} {g : Nat → Nat} {h : Hp} (hN : NA h a n g) (hj : j < 2 ^ 31) : Cal S dep 61 [.ref a, .int (nI j)] h (Rt (bI (decide (j < n))) h) := hnb_nI hN.2.1 hj ▸ c_hn hN
theorem c_deg {S : mScr} {dep a n j : Nat} {g : Nat → Nat} {h : Hp} (hN : NA h a n g) (hj : j < 2 ^ 31) : Cal S (dep + 1) 62 [.ref a, .int (nI j)] h (Rt (nI (if j < n then pop (g j) else 0)) h) := by
  obtain ⟨ha, hn, h0, hg, hb⟩ := id hN
  have hb1 := net_b ha
  show V S (dep + 1) 62 0 [.ref a, .int (nI j)] [] h _
  refine V_aload_n rfl rfl (by first | assumption | rfl) ?_
  refine V_iload_n rfl rfl ?_
  -- at 2: .invokevirtual 46
  refine V_cV rfl rfl (by first | assumption | rfl) rfl rfl (c_hn' hN hj) ?_
  refine V_if_eq rfl (fun hc => ?_) (fun hc => ?_)
  · have hc := bI_z.mp hc
    refine V_ic (v := nI 0) rfl rfl ?_
    -- at 21: .ireturn
    refine V_iret rfl rfl ?_
    apply Rt.of
    rw [if_neg (of_decide_eq_false hc)]
  · have hc : j < n := by
      rw [bI_z] at hc
      simpa using hc
    refine V_aload_n rfl rfl (by first | assumption | rfl) ?_
    refine V_getR rfl (net_nr (by first | assumption | rfl)) ?_
    refine V_iload_n rfl rfl ?_
    refine V_al 7 rfl (net_ar (by first | assumption | rfl)) (by first | rfl | assumption) (by first | omega | assumption) rfl ?_
    -- at 14: .invokestatic 50
    rw [hg j (by omega)]
    refine V_cS rfl rfl rfl rfl (c_bc (Nat.lt_of_lt_of_le (hb j) (by decide))) ?_
    refine V_goto rfl ?_
    -- at 21: .ireturn
    refine V_iret rfl rfl ?_
    apply Rt.of
    rw [if_pos hc]
def lsum (g : Nat → Nat) : Nat → Nat
  | 0 => 0
  | v + 1 => lsum g v + pop (g v)
theorem lsum_le {g : Nat → Nat} (hb : ∀ v, g v < 128) (n : Nat) : lsum g n ≤ 7 * n := by
  induction n with
  | zero => simp [lsum]
  | succ n ih => have := pop_le (hb n) (n := 7) (by decide); rw [lsum]; omega
theorem c_lc {S : mScr} {dep a n : Nat} {g : Nat → Nat} {h : Hp} (hN : NA h a n g) : Cal S (dep + 1) 63 [.ref a] h (Rt (nI (lsum g n / 2)) h) := by
  obtain ⟨ha, hn, h0, hg, hb⟩ := id hN
  have hb1 := net_b ha
  have hl := lsum_le hb
  show V S (dep + 1) 63 0 [.ref a, .null, .null] [] h _
  refine V_ic (v := nI 0) rfl rfl ?_
  refine V_istore_n (L' := [_, _, _]) rfl rfl rfl ?_
  refine V_ic (v := nI 0) rfl rfl ?_
  refine V_istore_n (L' := [_, _, _]) rfl rfl rfl ?_
  -- at 4: .iload_n 2
  refine loopUp (P := fun j => V S (dep + 1) 63 4 [.ref a, .int (nI (lsum g j)), .int (nI j)] [] h (Rt (nI (lsum g n / 2)) h)) n ?_ ?_ 0 (Nat.zero_le _)
  · refine V_iload_n rfl rfl ?_
    refine V_aload_n rfl rfl (by first | assumption | rfl) ?_
    refine V_gi 0 rfl (net_sz (by first | assumption | rfl)) rfl ?_
    -- at 9: .if_icmp .ge 21
    refine V_icmp_ge rfl (fun hc => ?_) (fun hc => ?_)
    · refine V_iload_n rfl rfl ?_
      refine V_ic (v := nI 2) rfl rfl ?_
      refine V_idiv rfl (by first | assumption | decide | omega) ?_
      -- at 33: .ireturn
      refine V_iret rfl rfl ?_
      apply Rt.of
      rw [nI_div2 (by have := hl n; omega) (by decide) (by decide)]
    · exact absurd (by rw [h0]; exact nI_le (Nat.le_refl n) (by omega)) hc
  · intro j hj ih
    refine V_iload_n rfl rfl ?_
    refine V_aload_n rfl rfl (by first | assumption | rfl) ?_
    refine V_gi 0 rfl (net_sz (by first | assumption | rfl)) rfl ?_
    -- at 9: .if_icmp .ge 21
    refine V_icmp_ge rfl (fun hc => ?_) (fun hc => ?_)
    · exact absurd hc (by rw [h0]; exact nI_ge hj (by omega))
    · refine V_iload_n rfl rfl ?_
      refine V_aload_n rfl rfl (by first | assumption | rfl) ?_
      refine V_getR rfl (net_nr (by first | assumption | rfl)) ?_
      refine V_iload_n rfl rfl ?_
      refine V_al 7 rfl (net_ar (by first | assumption | rfl)) (by first | rfl | assumption) (by first | omega | assumption) rfl ?_
      -- at 19: .invokestatic 50
      rw [hg j (by omega)]
      refine V_cS rfl rfl rfl rfl (c_bc (Nat.lt_of_lt_of_le (hb j) (by decide))) ?_
      refine V_iadd rfl ?_
      refine V_istore_n (L' := [_, _, _]) rfl rfl rfl ?_
      refine V_iinc (L' := [_, _, _]) rfl rfl rfl ?_
      refine V_goto rfl ?_
      -- at 4: .iload_n 2
      refine V_L ?_ ih
      simp [lsum, nI_succ, ← nI_add]
theorem c_aj {S : mScr} {dep a n x y : Nat} {g : Nat → Nat} {h : Hp} (hN : NA h a n g) (hx : x < 2 ^ 31) (hy : y < 2 ^ 31) : Cal S (dep + 1) 64 [.ref a, .int (nI x), .int (nI y)] h (Rt (bI (decide (x < n) && decide (y < n) && (g x).testBit y)) h) := by
  obtain ⟨ha, hn, h0, hg, hb⟩ := id hN
  have hb1 := net_b ha
  show V S (dep + 1) 64 0 [.ref a, .int (nI x), .int (nI y)] [] h _
  refine V_aload_n rfl rfl (by first | assumption | rfl) ?_
  refine V_iload_n rfl rfl ?_
  -- at 2: .invokevirtual 46
  refine V_cV rfl rfl (by first | assumption | rfl) rfl rfl (c_hn' hN hx) ?_
  refine V_if_eq rfl (fun hc => ?_) (fun hc => ?_)
  · have hc := bI_z.mp hc
    refine V_ic (v := nI 0) rfl rfl ?_
    -- at 34: .ireturn
    refine V_zret rfl rfl (by first | exact Or.inl rfl | exact Or.inr rfl | assumption) ?_
    apply Rt.of
    simp [hc, bI, nI]
  · have hc : x < n := by
      rw [bI_z] at hc
      simpa using hc
    refine V_aload_n rfl rfl (by first | assumption | rfl) ?_
    refine V_iload_n rfl rfl ?_
    -- at 10: .invokevirtual 46
    refine V_cV rfl rfl (by first | assumption | rfl) rfl rfl (c_hn' hN hy) ?_
    refine V_if_eq rfl (fun hd => ?_) (fun hd => ?_)
    · have hd := bI_z.mp hd
      refine V_ic (v := nI 0) rfl rfl ?_
      -- at 34: .ireturn
      refine V_zret rfl rfl (by first | exact Or.inl rfl | exact Or.inr rfl | assumption) ?_
      apply Rt.of
      simp [hd, bI, nI]
    · have hd : y < n := by
        rw [bI_z] at hd
        simpa using hd
      have hgx := hb x
      refine V_aload_n rfl rfl (by first | assumption | rfl) ?_
      refine V_getR rfl (net_nr (by first | assumption | rfl)) ?_
      refine V_iload_n rfl rfl ?_
      refine V_al 7 rfl (net_ar (by first | assumption | rfl)) (by first | rfl | assumption) (by first | omega | assumption) rfl ?_
      refine V_iload_n rfl rfl ?_
      refine V_ishr rfl ?_
      refine V_ic (v := nI 1) rfl rfl ?_
      refine V_iand rfl ?_
      -- at 26: .ifCond .eq 7
      rw [hg x (by omega)]
      refine V_if_eq rfl (fun he => ?_) (fun he => ?_)
      · have e := (tb_z (by omega) (by omega)).mp he
        refine V_ic (v := nI 0) rfl rfl ?_
        -- at 34: .ireturn
        refine V_zret rfl rfl (by first | exact Or.inl rfl | exact Or.inr rfl | assumption) ?_
        apply Rt.of
        simp [e, bI, nI]
      · have e := (tb_nz (by omega) (by omega)).mp he
        refine V_ic (v := nI 1) rfl rfl ?_
        refine V_goto rfl ?_
        -- at 34: .ireturn
        refine V_zret rfl rfl (by first | exact Or.inl rfl | exact Or.inr rfl | assumption) ?_
        apply Rt.of
        simp [e, hc, hd, bI, nI]
