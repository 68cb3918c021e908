/-! the reference: trees -/
theorem pcs_1 (g : Nat → Nat) (n : Nat) : ∀ v, 0 < (pcs g n (v + 1)).2 := by
  intro v
  induction v with
  | zero =>
    rw [pcs, pcs, if_neg (by simp)]
    exact Nat.succ_pos _
  | succ v ih =>
    rw [pcs]
    split
    · exact ih
    · exact Nat.succ_pos _
theorem m_tf {S : mScr} {dep n C : Nat} {h : Hp} (hn : n ≤ 7) (h1 : 0 < n) (hC : C < 2 ^ 21) : ∀ k l t D, D = dep + k + 5 → l + k = tri n → t < 2 ^ l → Cal S D 236 [.int (nI n), .int (nI C), .int (nI l), .int (nI t)] h (Rt (nI (tfN n C l k t)) h) := by
  have ht := tri_le hn
  have etri : n * (n - 1) / 2 = tri n := by
    have : ∀ n, n < 8 → n * (n - 1) / 2 = tri n := by decide
    exact this n (by omega)
  intro k
  induction k with
  | zero =>
    intro l t D hD hl htl
    have ht24 : t < 2 ^ 21 := Nat.lt_of_lt_of_le htl (Nat.pow_le_pow_right (by decide) (by omega))
    have hpt : pop t ≤ 24 := by
      rw [pop_eq (n := 24) (by omega) (by decide)]
      exact cnt_le6 _ _
    rw [hD]
    show V S (dep + 0 + 5) 236 0 [.int (nI n), .int (nI C), .int (nI l), .int (nI t), .null] [] h _
    refine V_iload_n rfl rfl ?_
    -- at 1: .invokestatic 232
    refine V_cS rfl rfl rfl rfl (m_lines (by omega)) ?_
    refine V_iload_n rfl rfl ?_
    refine V_ic (v := nI 1) rfl rfl ?_
    refine V_isub rfl ?_
    -- at 7: .if_icmp .ne 18
    rw [nI_sub (by omega)]
    refine V_icmp_ne rfl (fun hc => ?_) (fun hc => ?_)
    · have hc : ¬ pop t = n - 1 := fun z => hc (by rw [z])
      refine V_iload_n rfl rfl ?_
      refine V_iload_n rfl rfl ?_
      refine V_iload_n rfl rfl ?_
      refine V_ic (v := nI 1) rfl rfl ?_
      refine V_isub rfl ?_
      refine V_imul rfl ?_
      -- at 31: .iconst 2
      rw [nI_sub (by omega), nI_mul]
      refine V_ic (v := nI 2) rfl rfl ?_
      refine V_idiv rfl (by first | assumption | decide | omega) ?_
      -- at 33: .if_icmp .ne 5
      rw [nI_div2 (by have : n * (n - 1) ≤ 7 * 6 := Nat.mul_le_mul hn (by omega); omega) (by decide) (by decide), etri]
      refine V_icmp_ne rfl (fun hd => ?_) (fun hd => ?_)
      · exact absurd (by rw [← hl]; rfl) hd
      · rw [tfN, if_neg hc]
        refine V_ic (v := nI 0) rfl rfl ?_
        -- at 37: .ireturn
        refine V_iret rfl rfl ?_
        exact Rt.rf
    · have hc := nI_inj (by omega) (by omega) (Decidable.of_not_not hc)
      rw [tfN, if_pos hc]
      refine V_iload_n rfl rfl ?_
      refine V_iload_n rfl rfl ?_
      -- at 12: .invokestatic 260
      refine V_cS rfl rfl rfl rfl (m_pieces hn ht24) ?_
      have hp7 : pcN n t ≤ 7 := by
        have := (pcs_lt (g := rowOf n t) (fun v => row128 hn) (n := n) n hn).2
        unfold pcN; omega
      refine V_ic (v := nI 1) rfl rfl ?_
      -- at 16: .if_icmp .ne 7
      refine V_icmp_ne rfl (fun hd => ?_) (fun hd => ?_)
      · have hd : ¬ pcN n t = 1 := fun z => hd (by rw [z])
        rw [if_neg hd]
        refine V_ic (v := nI 0) rfl rfl ?_
        -- at 24: .ireturn
        refine V_iret rfl rfl ?_
        exact Rt.rf
      · have hd := nI_inj (by omega) (by omega) (Decidable.of_not_not hd)
        rw [if_pos hd]
        refine V_ic (v := nI 1) rfl rfl ?_
        refine V_goto rfl ?_
        -- at 24: .ireturn
        refine V_iret rfl rfl ?_
        exact Rt.rf
  | succ k ih =>
    intro l t D hD hl htl
    have ht24 : t < 2 ^ 21 := Nat.lt_of_lt_of_le htl (Nat.pow_le_pow_right (by decide) (by omega))
    have htl1 : t < 2 ^ (l + 1) := Nat.lt_of_lt_of_le htl (Nat.pow_le_pow_right (by decide) (by omega))
    have hol : t ||| 2 ^ l < 2 ^ (l + 1) := Nat.or_lt_two_pow htl1 (Nat.pow_lt_pow_right (by decide) (by omega))
    have hol21 : t ||| 2 ^ l < 2 ^ 21 := Nat.lt_of_lt_of_le hol (Nat.pow_le_pow_right (by decide) (by omega))
    have hpt : pop t ≤ 24 := by
      rw [pop_eq (n := 24) (by omega) (by decide)]
      exact cnt_le6 _ _
    have hp7 : ∀ t, pcN n t ≤ 7 := fun t => by
      have := (pcs_lt (g := rowOf n t) (fun v => row128 hn) (n := n) n hn).2
      unfold pcN; omega
    have b1 := tfN_le n C k (l + 1) t
    have b2 := tfN_le n C k (l + 1) (t ||| 2 ^ l)
    have bk : 2 ^ k ≤ 2 ^ 21 := Nat.pow_le_pow_right (by decide) (by omega)
    rw [hD, show dep + (k + 1) + 5 = (dep + k + 5) + 1 by omega]
    show V S ((dep + k + 5) + 1) 236 0 [.int (nI n), .int (nI C), .int (nI l), .int (nI t), .null] [] h _
    refine V_iload_n rfl rfl ?_
    -- at 1: .invokestatic 232
    refine V_cS rfl rfl rfl rfl (m_lines (by omega)) ?_
    refine V_iload_n rfl rfl ?_
    refine V_ic (v := nI 1) rfl rfl ?_
    refine V_isub rfl ?_
    -- at 7: .if_icmp .ne 18
    rw [nI_sub (by omega)]
    refine V_icmp_ne rfl (fun hc => ?_) (fun hc => ?_)
    · have hc : ¬ pop t = n - 1 := fun z => hc (by rw [z])
      refine V_iload_n rfl rfl ?_
      refine V_iload_n rfl rfl ?_
      refine V_iload_n rfl rfl ?_
      refine V_ic (v := nI 1) rfl rfl ?_
      refine V_isub rfl ?_
      refine V_imul rfl ?_
      -- at 31: .iconst 2
      rw [nI_sub (by omega), nI_mul]
      refine V_ic (v := nI 2) rfl rfl ?_
      refine V_idiv rfl (by first | assumption | decide | omega) ?_
      -- at 33: .if_icmp .ne 5
      rw [nI_div2 (by have : n * (n - 1) ≤ 7 * 6 := Nat.mul_le_mul hn (by omega); omega) (by decide) (by decide), etri]
      refine V_icmp_ne rfl (fun hd => ?_) (fun hd => ?_)
      · rw [tfN, if_neg hc]
        refine V_iload_n rfl rfl ?_
        refine V_iload_n rfl rfl ?_
        refine V_iload_n rfl rfl ?_
        refine V_ic (v := nI 1) rfl rfl ?_
        refine V_iadd rfl ?_
        -- at 43: .iload_n 3
        rw [nI_add]
        refine V_iload_n rfl rfl ?_
        -- at 44: .invokestatic 310
        refine V_cS rfl rfl rfl rfl (ih (l + 1) t _ rfl (by omega) htl1) ?_
        refine V_istore (L' := [_, _, _, _, _]) rfl rfl rfl ?_
        refine V_iload_n rfl rfl ?_
        refine V_iload_n rfl rfl ?_
        refine V_ishr rfl ?_
        -- at 52: .iconst 1
        rw [nI_shr (by omega) (by omega)]
        refine V_ic (v := nI 1) rfl rfl ?_
        refine V_iand rfl ?_
        -- at 54: .iconst 1
        rw [nI_and]
        have etb : (C >>> l) &&& 1 = if C.testBit l = true then 1 else 0 := by
          rw [Nat.and_one_is_mod, Nat.shiftRight_eq_div_pow, Nat.testBit_eq_decide_div_mod_eq]
          by_cases q : C / 2 ^ l % 2 = 1
          · rw [q, decide_eq_true rfl]; rfl
          · rw [decide_eq_false q, if_neg (by decide)]; omega
        rw [etb]
        refine V_ic (v := nI 1) rfl rfl ?_
        -- at 55: .if_icmp .ne 38
        have skip : ¬ (C.testBit l = true ∧ pcN n (t ||| 2 ^ l) < pcN n t) → V S ((dep + k + 5) + 1) 236 93 [.int (nI n), .int (nI C), .int (nI l), .int (nI t), .int (nI (tfN n C (l + 1) k t))] [] h (Rt (nI (tfN n C (l + 1) k t + (if C.testBit l = true ∧ pcN n (t ||| 2 ^ l) < pcN n t then tfN n C (l + 1) k (t ||| 2 ^ l) else 0))) h) := by
          intro hno
          rw [if_neg hno, Nat.add_zero]
          refine V_iload rfl rfl ?_
          -- at 95: .ireturn
          refine V_iret rfl rfl ?_
          exact Rt.rf
        refine V_icmp_ne rfl (fun he => ?_) (fun he => ?_)
        · exact skip (fun z => he (by rw [if_pos z.1]))
        · have he : C.testBit l = true := by
            apply Classical.byContradiction
            intro z
            exact he (fun y => by rw [if_neg z] at y; exact absurd y (by decide))
          refine V_iload_n rfl rfl ?_
          refine V_iload_n rfl rfl ?_
          refine V_ic (v := nI 1) rfl rfl ?_
          refine V_iload_n rfl rfl ?_
          refine V_ishl rfl ?_
          -- at 63: .ior
          rw [nI_2p _ (by omega)]
          refine V_ior rfl ?_
          -- at 64: .invokestatic 260
          rw [nI_or]
          refine V_cS rfl rfl rfl rfl (m_pieces hn hol21) ?_
          refine V_iload_n rfl rfl ?_
          refine V_iload_n rfl rfl ?_
          -- at 69: .invokestatic 260
          refine V_cS rfl rfl rfl rfl (m_pieces hn ht24) ?_
          have q1 := hp7 t
          have q2 := hp7 (t ||| 2 ^ l)
          refine V_icmp_ge rfl (fun hf => ?_) (fun hf => ?_)
          · have hf := (nI_leI (by omega) (by omega)).mp hf
            exact skip (fun z => by omega)
          · have hf := nI_ngt (by omega) (by omega) hf
            rw [if_pos ⟨he, hf⟩]
            refine V_iload rfl rfl ?_
            refine V_iload_n rfl rfl ?_
            refine V_iload_n rfl rfl ?_
            refine V_iload_n rfl rfl ?_
            refine V_ic (v := nI 1) rfl rfl ?_
            refine V_iadd rfl ?_
            -- at 82: .iload_n 3
            rw [nI_add]
            refine V_iload_n rfl rfl ?_
            refine V_ic (v := nI 1) rfl rfl ?_
            refine V_iload_n rfl rfl ?_
            refine V_ishl rfl ?_
            -- at 86: .ior
            rw [nI_2p _ (by omega)]
            refine V_ior rfl ?_
            -- at 87: .invokestatic 310
            rw [nI_or]
            refine V_cS rfl rfl rfl rfl (ih (l + 1) (t ||| 2 ^ l) _ rfl (by omega) hol) ?_
            refine V_iadd rfl ?_
            -- at 91: .istore 4
            rw [nI_add]
            refine V_istore (L' := [_, _, _, _, _]) rfl rfl rfl ?_
            refine V_iload rfl rfl ?_
            -- at 95: .ireturn
            refine V_iret rfl rfl ?_
            exact Rt.rf
      · exact absurd (nI_inj (by omega) (by omega) (Decidable.of_not_not hd)) (by omega)
    · have hc := nI_inj (by omega) (by omega) (Decidable.of_not_not hc)
      rw [tfN, if_pos hc]
      refine V_iload_n rfl rfl ?_
      refine V_iload_n rfl rfl ?_
      -- at 12: .invokestatic 260
      refine V_cS rfl rfl rfl rfl (m_pieces hn ht24) ?_
      have q1 := hp7 t
      refine V_ic (v := nI 1) rfl rfl ?_
      -- at 16: .if_icmp .ne 7
      refine V_icmp_ne rfl (fun hd => ?_) (fun hd => ?_)
      · have hd : ¬ pcN n t = 1 := fun z => hd (by rw [z])
        rw [if_neg hd]
        refine V_ic (v := nI 0) rfl rfl ?_
        -- at 24: .ireturn
        refine V_iret rfl rfl ?_
        exact Rt.rf
      · have hd := nI_inj (by omega) (by omega) (Decidable.of_not_not hd)
        rw [if_pos hd]
        refine V_ic (v := nI 1) rfl rfl ?_
        refine V_goto rfl ?_
        -- at 24: .ireturn
        refine V_iret rfl rfl ?_
        exact Rt.rf
def aTree (st : St) (x : Int32) : Int32 := match ix 6 x with
  | none => -2
  | some i => if pcN (st.1.1 i) (st.1.2.1 i) = 1 then nI (trN (st.1.1 i) (st.1.2.1 i)) else 0
theorem y_tree {S : mScr} {dep : Nat} {x : Int32} {st : St} {h : Hp} (hi : InvM h st) : Cal S (dep + 40) 237 [.ref 188, .int x] h (MR h (aTree st x, st)) := by
  obtain ⟨hi0, fm0⟩ := hi.thr
  obtain ⟨h0, hh0⟩ : ∃ h0, h0 = wI h 188 4 (nI 0) := ⟨_, rfl⟩
  rw [← hh0] at hi0 fm0
  obtain ⟨hs, hw, _⟩ := id hi0
  show V S (dep + 40) 237 0 [.ref 188, .int x, .null] [] h _
  refine V_aload_n rfl rfl rfl ?_
  refine V_ic (v := nI 0) rfl rfl ?_
  refine V_pi 4 rfl rfl rfl rfl ?_
  refine V_iload_n rfl rfl ?_
  -- at 6: .invokestatic 222
  rw [← hh0]
  refine V_cS rfl rfl rfl rfl (m_isSlot) ?_
  refine V_if_ne rfl (fun hc => ?_) (fun hc => ?_)
  · obtain ⟨i, e1⟩ := bI_som hc
    obtain ⟨rfl, hi6⟩ := ix_some e1
    have hwi := hw.1 i hi6
    have hC21 := c21 hwi.1 hwi.2
    have ev : aTree st (nI i) = if pcN (st.1.1 i) (st.1.2.1 i) = 1 then nI (trN (st.1.1 i) (st.1.2.1 i)) else 0 := by unfold aTree; rw [e1]
    rw [ev]
    obtain ⟨n, hn⟩ : ∃ n, n = st.1.1 i := ⟨_, rfl⟩
    obtain ⟨C, hC⟩ : ∃ C, C = st.1.2.1 i := ⟨_, rfl⟩
    rw [← hn] at hwi
    rw [← hC] at hwi hC21
    rw [← hn, ← hC]
    have hp7 : pcN n C ≤ 7 := by
      have := (pcs_lt (g := rowOf n C) (fun v => row128 hwi.1) (n := n) n hwi.1).2
      unfold pcN; omega
    refine V_aload_n rfl rfl rfl ?_
    refine V_iload_n rfl rfl ?_
    -- at 17: .invokevirtual 201
    refine V_cV rfl rfl rfl rfl rfl (m_nodes hs hi6) ?_
    rw [← hn]
    refine V_istore_n (L' := [_, _, _]) rfl rfl rfl ?_
    refine V_iload_n rfl rfl ?_
    -- at 22: .ifCond .eq 16
    refine V_if_eq rfl (fun hd => ?_) (fun hd => ?_)
    · have hd := nI_inj (b := 0) (by omega) (by omega) hd
      have hz : ¬ pcN n C = 1 := by rw [hd]; unfold pcN; rw [pcs]; decide
      rw [if_neg hz]
      refine V_ic (v := nI 0) rfl rfl ?_
      refine V_goto rfl ?_
      -- at 53: .ireturn
      refine V_iret rfl rfl ?_
      exact mq0 hi0 fm0
    · have hd : 0 < n := Nat.pos_of_ne_zero (fun z => hd (by rw [z]; rfl))
      have hpp : 0 < pcN n C := by
        unfold pcN
        obtain ⟨w, rfl⟩ : ∃ w, n = w + 1 := ⟨n - 1, by omega⟩
        exact pcs_1 _ _ w
      refine V_iload_n rfl rfl ?_
      refine V_aload_n rfl rfl rfl ?_
      refine V_iload_n rfl rfl ?_
      -- at 28: .invokevirtual 204
      refine V_cV rfl rfl rfl rfl rfl (m_code hs hi6) ?_
      rw [← hC]
      refine V_cS rfl rfl rfl rfl (m_pieces hwi.1 hC21) ?_
      refine V_ic (v := nI 1) rfl rfl ?_
      -- at 35: .if_icmp .le 7
      refine V_icmp_le rfl (fun he => ?_) (fun he => ?_)
      · have he := (nI_leI (b := 1) (by omega) (by omega)).mp he
        rw [if_pos (by omega)]
        refine V_iload_n rfl rfl ?_
        refine V_aload_n rfl rfl rfl ?_
        refine V_iload_n rfl rfl ?_
        -- at 45: .invokevirtual 204
        refine V_cV rfl rfl rfl rfl rfl (m_code hs hi6) ?_
        rw [← hC]
        have ht := tri_le hwi.1
        have mt := m_tf (S := S) (dep := dep + 34 - tri n) (h := h0) hwi.1 hd hC21 (tri n) 0 0 (dep + 39) (by omega) (by omega) (by decide)
        rw [tf_0 hwi.1 hd] at mt
        refine V_ic (v := nI 0) rfl rfl ?_
        refine V_ic (v := nI 0) rfl rfl ?_
        -- at 50: .invokestatic 310
        refine V_cS rfl rfl rfl rfl (mt) ?_
        refine V_iret rfl rfl ?_
        exact mq0 hi0 fm0
      · have he := nI_ngt (b := 1) (by omega) (by omega) he
        rw [if_neg (by omega)]
        refine V_ic (v := nI 0) rfl rfl ?_
        refine V_goto rfl ?_
        -- at 53: .ireturn
        refine V_iret rfl rfl ?_
        exact mq0 hi0 fm0
  · have hc := bI_non (Decidable.of_not_not hc)
    have ev : aTree st x = -2 := by unfold aTree; rw [hc]
    rw [ev]
    refine V_bi (v := -2) rfl rfl ?_
    -- at 14: .ireturn
    refine V_iret rfl rfl ?_
    exact mq0 hi0 fm0
