/-! the reference: small things -/
theorem tb_one {a k : Nat} (ha : a < 2 ^ 31) (hk : k < 32) : nI a >>> (nI k &&& 31) &&& nI 1 = bI (a.testBit k) := by
  rw [nI_shr ha hk, nI_and]
  have : a >>> k &&& 1 = if a.testBit k = true then 1 else 0 := by
    rw [Nat.testBit]
    have h2 : 1 &&& a >>> k = (a >>> k) % 2 := by rw [Nat.and_comm, Nat.and_one_is_mod]
    rw [Nat.and_one_is_mod, h2]
    rcases Nat.mod_two_eq_zero_or_one (a >>> k) with e | e <;> rw [e] <;> rfl
  rw [this]
  cases a.testBit k <;> rfl
theorem bI_one {b : Bool} : bI b = nI 1 ↔ b = true := by cases b <;> decide
theorem m_bit {S : mScr} {dep a b : Nat} {h : Hp} (hab : a ≠ b) (ha : a < 1000) (hb : b < 1000) : Cal S dep 166 [.int (nI a), .int (nI b)] h (Rt (nI (bt a b)) h) := by
  have hm : ∀ x, x < 1000 → x * (x - 1) < 1000 * 1000 := fun x hx => Nat.mul_lt_mul_of_lt_of_le hx (by omega) (by decide)
  show V S dep 166 0 [.int (nI a), .int (nI b)] [] h _
  refine V_iload_n rfl rfl ?_
  refine V_iload_n rfl rfl ?_
  -- at 2: .if_icmp .ge 15
  refine V_icmp_ge rfl (fun hc => ?_) (fun hc => ?_)
  · have hc := (nI_leI (by omega) (by omega)).mp hc
    refine V_iload_n rfl rfl ?_
    refine V_iload_n rfl rfl ?_
    refine V_ic (v := nI 1) rfl rfl ?_
    refine V_isub rfl ?_
    -- at 21: .imul
    rw [nI_sub (by omega)]
    refine V_imul rfl ?_
    refine V_ic (v := nI 2) rfl rfl ?_
    -- at 23: .idiv
    rw [nI_mul]
    refine V_idiv rfl (by first | assumption | decide | omega) ?_
    refine V_iload_n rfl rfl ?_
    refine V_iadd rfl ?_
    -- at 26: .ireturn
    rw [nI_div2 (by have := hm a ha; omega) (by decide) (by decide), nI_add]
    refine V_iret rfl rfl ?_
    apply Rt.of
    unfold bt
    rw [if_neg (by omega)]
  · have hc := nI_ngt (by omega) (by omega) hc
    refine V_iload_n rfl rfl ?_
    refine V_iload_n rfl rfl ?_
    refine V_ic (v := nI 1) rfl rfl ?_
    refine V_isub rfl ?_
    -- at 9: .imul
    rw [nI_sub (by omega)]
    refine V_imul rfl ?_
    refine V_ic (v := nI 2) rfl rfl ?_
    -- at 11: .idiv
    rw [nI_mul]
    refine V_idiv rfl (by first | assumption | decide | omega) ?_
    refine V_iload_n rfl rfl ?_
    refine V_iadd rfl ?_
    -- at 14: .goto 12
    rw [nI_div2 (by have := hm b hb; omega) (by decide) (by decide), nI_add]
    refine V_goto rfl ?_
    -- at 26: .ireturn
    refine V_iret rfl rfl ?_
    apply Rt.of
    unfold bt
    rw [if_pos hc]
theorem bt_small {a b : Nat} (ha : a < 8) (hb : b < 8) : bt a b < 32 := by
  have : ∀ a : Fin 8, ∀ b : Fin 8, bt a.val b.val < 32 := by decide
  exact this ⟨a, ha⟩ ⟨b, hb⟩
theorem m_aj {S : mScr} {dep C a b : Nat} {h : Hp} (hC : C < 2 ^ 31) (ha : a < 8) (hb : b < 8) : Cal S (dep + 1) 167 [.int (nI C), .int (nI a), .int (nI b)] h (Rt (bI (adj C a b)) h) := by
  show V S (dep + 1) 167 0 [.int (nI C), .int (nI a), .int (nI b)] [] h _
  refine V_iload_n rfl rfl ?_
  refine V_iload_n rfl rfl ?_
  -- at 2: .if_icmp .eq 20
  refine V_icmp_eq rfl (fun hc => ?_) (fun hc => ?_)
  · have hc := nI_inj (by omega) (by omega) hc
    refine V_ic (v := nI 0) rfl rfl ?_
    -- at 23: .ireturn
    refine V_zret rfl rfl (by first | exact Or.inl rfl | exact Or.inr rfl | assumption) ?_
    rw [hc, adj_self]
    exact Rt.rf
  · have hc : a ≠ b := fun q => hc (by rw [q])
    have e : adj C a b = C.testBit (bt a b) := by unfold adj; rw [decide_eq_true hc]; rfl
    refine V_iload_n rfl rfl ?_
    refine V_iload_n rfl rfl ?_
    refine V_iload_n rfl rfl ?_
    -- at 8: .invokestatic 79
    refine V_cS rfl rfl rfl rfl (m_bit hc (by omega) (by omega)) ?_
    refine V_ishr rfl ?_
    refine V_ic (v := nI 1) rfl rfl ?_
    refine V_iand rfl ?_
    refine V_ic (v := nI 1) rfl rfl ?_
    -- at 15: .if_icmp .ne 7
    rw [tb_one hC (bt_small ha hb), ← e]
    refine V_icmp_ne rfl (fun hd => ?_) (fun hd => ?_)
    · have hd : adj C a b = false := by
        cases q : adj C a b with
        | false => rfl
        | true => rw [q] at hd; exact absurd rfl hd
      refine V_ic (v := nI 0) rfl rfl ?_
      -- at 23: .ireturn
      refine V_zret rfl rfl (by first | exact Or.inl rfl | exact Or.inr rfl | assumption) ?_
      rw [hd]
      exact Rt.rf
    · have hd : adj C a b = true := bI_one.mp (Decidable.of_not_not hd)
      refine V_ic (v := nI 1) rfl rfl ?_
      refine V_goto rfl ?_
      -- at 23: .ireturn
      refine V_zret rfl rfl (by first | exact Or.inl rfl | exact Or.inr rfl | assumption) ?_
      rw [hd]
      exact Rt.rf
theorem m_lines {S : mScr} {dep C : Nat} {h : Hp} (hC : C < 2 ^ 24) : Cal S (dep + 1) 168 [.int (nI C)] h (Rt (nI (pop C)) h) := by
  show V S (dep + 1) 168 0 [.int (nI C)] [] h _
  refine V_iload_n rfl rfl ?_
  -- at 1: .invokestatic 83
  refine V_cS rfl rfl rfl rfl (c_bc hC) ?_
  refine V_iret rfl rfl ?_
  exact Rt.rf
theorem m_whole {S : mScr} {dep n : Nat} {h : Hp} (hn : n ≤ 7) : Cal S dep 169 [.int (nI n)] h (Rt (nI (2 ^ tri n - 1)) h) := by
  have ht := tri_le hn
  show V S dep 169 0 [.int (nI n)] [] h _
  rcases Nat.eq_zero_or_pos n with e | e
  · subst e
    refine V_ic (v := nI 1) rfl rfl ?_
    refine V_iload_n rfl rfl ?_
    refine V_iload_n rfl rfl ?_
    refine V_ic (v := nI 1) rfl rfl ?_
    refine V_isub rfl ?_
    refine V_imul rfl ?_
    refine V_ic (v := nI 2) rfl rfl ?_
    refine V_idiv rfl (by first | assumption | decide | omega) ?_
    refine V_ishl rfl ?_
    refine V_ic (v := nI 1) rfl rfl ?_
    refine V_isub rfl ?_
    -- at 11: .ireturn
    refine V_iret rfl rfl ?_
    exact Rt.rf
  · refine V_ic (v := nI 1) rfl rfl ?_
    refine V_iload_n rfl rfl ?_
    refine V_iload_n rfl rfl ?_
    refine V_ic (v := nI 1) rfl rfl ?_
    refine V_isub rfl ?_
    -- at 5: .imul
    rw [nI_sub (show 1 ≤ n from e)]
    refine V_imul rfl ?_
    refine V_ic (v := nI 2) rfl rfl ?_
    -- at 7: .idiv
    rw [nI_mul]
    refine V_idiv rfl (by first | assumption | decide | omega) ?_
    -- at 8: .ishl
    rw [nI_div2 (by have : n * (n - 1) ≤ 7 * 7 := Nat.mul_le_mul hn (by omega); omega) (by decide) (by decide)]
    refine V_ishl rfl ?_
    -- at 9: .iconst 1
    rw [nI_2p _ (by unfold tri at ht; omega)]
    refine V_ic (v := nI 1) rfl rfl ?_
    refine V_isub rfl ?_
    -- at 11: .ireturn
    rw [nI_sub (Nat.two_pow_pos _)]
    refine V_iret rfl rfl ?_
    exact Rt.rf
