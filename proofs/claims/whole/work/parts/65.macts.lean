/-! the reference: acts -/
theorem y_grow {S : mScr} {dep : Nat} {x y : Int32} {st : St} {h : Hp} (hi : InvM h st) : Cal S (dep + 20) 206 [.ref 188, .int x, .int y] h (MR h (aGrow st x y)) := by
  obtain ⟨hi0, fm0⟩ := hi.thr
  obtain ⟨h0, hh0⟩ : ∃ h0, h0 = wI h 188 4 (nI 0) := ⟨_, rfl⟩
  rw [← hh0] at hi0 fm0
  obtain ⟨hs, hw, _⟩ := id hi0
  show V S (dep + 20) 206 0 [.ref 188, .int x, .int y, .null] [] h _
  refine V_aload_n rfl rfl rfl ?_
  refine V_ic (v := nI 0) rfl rfl ?_
  refine V_pi 4 rfl rfl rfl rfl ?_
  refine V_iload_n rfl rfl ?_
  -- at 6: .invokestatic 222
  rw [← hh0]
  refine V_cS rfl rfl rfl rfl (m_isSlot) ?_
  refine V_if_ne rfl (fun hc => ?_) (fun hc => ?_)
  · obtain ⟨i, e1⟩ := bI_som hc
    obtain ⟨rfl, hi6⟩ := ix_some e1
    have hwi := hw.1 i hi6
    have hL : (2 : Nat) ^ st.1.1 i ≤ 128 := Nat.pow_le_pow_right (n := 2) (j := 7) (by decide) hwi.1
    have h2p := Nat.two_pow_pos (st.1.1 i)
    refine V_aload_n rfl rfl rfl ?_
    refine V_iload_n rfl rfl ?_
    -- at 17: .invokevirtual 201
    refine V_cV rfl rfl rfl rfl rfl (m_nodes hs hi6) ?_
    refine V_istore_n (L' := [_, _, _, _]) rfl rfl rfl ?_
    refine V_iload_n rfl rfl ?_
    refine V_i2l rfl ?_
    refine V_lc (v := 0) rfl rfl ?_
    refine V_ic (v := nI 1) rfl rfl ?_
    refine V_iload_n rfl rfl ?_
    refine V_ishl rfl ?_
    refine V_ic (v := nI 1) rfl rfl ?_
    refine V_isub rfl ?_
    refine V_i2l rfl ?_
    -- at 30: .invokestatic 134
    rw [nI_2p _ (by omega), nI_sub (Nat.two_pow_pos (st.1.1 i))]
    refine V_cS rfl rfl rfl rfl (m_isIn) ?_
    rw [Int32.toInt_toInt64, Int32.toInt_toInt64, show (0 : Int64).toInt = 0 from rfl, nI_toInt (by omega)]
    rw [show decide (0 ≤ y.toInt ∧ y.toInt ≤ ((2 ^ st.1.1 i - 1 : Nat) : Int)) = (ix (2 ^ st.1.1 i) y).isSome by
      rw [ix_is]; exact decide_eq_decide.mpr (by omega)]
    refine V_if_ne rfl (fun hd => ?_) (fun hd => ?_)
    · obtain ⟨t, e2⟩ := bI_som hd
      obtain ⟨rfl, ht⟩ := ix_some e2
      have ev : aGrow st (nI i) (nI t) = if st.1.1 i = 7 then (-4, st) else (nI (st.1.1 i + 1), psh st (setN st.1 i (st.1.1 i + 1) (st.1.2.1 i ||| t <<< tri (st.1.1 i)))) := by
        unfold aGrow; rw [e1]; dsimp only; rw [e2]
      rw [ev]
      refine V_iload_n rfl rfl ?_
      refine V_bi (v := nI 7) rfl rfl ?_
      -- at 42: .if_icmp .ne 6
      refine V_icmp_ne rfl (fun he => ?_) (fun he => ?_)
      · have he : ¬ st.1.1 i = 7 := fun q => he (by rw [q])
        rw [if_neg he]
        have htl := tri_le6 (p := st.1.1 i) (by omega)
        refine V_aload_n rfl rfl rfl ?_
        -- at 49: .invokevirtual 229
        refine V_callV rfl rfl rfl rfl rfl (m_rem hi0) ?_
        rintro _ h1 ⟨rfl, hs1, hr1, fm1⟩
        show V S (dep + 20) 206 52 [.ref 188, .int (nI i), .int (nI t), .int (nI (st.1.1 i))] [] h1 _
        have fm1 := fm0.tr fm1
        refine V_aload_n rfl rfl rfl ?_
        refine V_iload_n rfl rfl ?_
        refine V_iload_n rfl rfl ?_
        refine V_ic (v := nI 1) rfl rfl ?_
        refine V_iadd rfl ?_
        refine V_aload_n rfl rfl rfl ?_
        refine V_iload_n rfl rfl ?_
        -- at 59: .invokevirtual 204
        refine V_cV rfl rfl rfl rfl rfl (m_code hs1 hi6) ?_
        refine V_iload_n rfl rfl ?_
        refine V_iload_n rfl rfl ?_
        refine V_iload_n rfl rfl ?_
        refine V_ic (v := nI 1) rfl rfl ?_
        refine V_isub rfl ?_
        refine V_imul rfl ?_
        refine V_ic (v := nI 2) rfl rfl ?_
        refine V_idiv rfl (by first | assumption | decide | omega) ?_
        refine V_ishl rfl ?_
        refine V_ior rfl ?_
        -- at 72: .invokevirtual 182
        rw [triI (by omega), nI_shl (by omega), nI_or, nI_add]
        have hCl : st.1.2.1 i ||| t <<< tri (st.1.1 i) < 2 ^ tri (st.1.1 i + 1) := shift_lt (n := st.1.1 i + 1) (by omega) hwi.2 ht
        refine V_callV rfl rfl rfl rfl rfl (m_becomes hs1 hi6) ?_
        rintro _ h2 ⟨rfl, hs2, k2⟩
        show V S (dep + 20) 206 75 [.ref 188, .int (nI i), .int (nI t), .int (nI (st.1.1 i))] [] h2 _
        refine V_iload_n rfl rfl ?_
        refine V_ic (v := nI 1) rfl rfl ?_
        refine V_iadd rfl ?_
        -- at 78: .ireturn
        rw [nI_add]
        refine V_iret rfl rfl ?_
        have := InvM.act hr1 fm1 k2 (by simp) (by simp; rfl) hs2 (hw.setN (by omega) hCl)
        exact ⟨rfl, this.1, this.2⟩
      · have he := nI_inj (by omega) (by omega) (Decidable.of_not_not he)
        rw [if_pos he]
        refine V_bi (v := -4) rfl rfl ?_
        -- at 47: .ireturn
        refine V_iret rfl rfl ?_
        exact ⟨rfl, hi0, fm0⟩
    · have hd := bI_non (Decidable.of_not_not hd)
      have ev : aGrow st (nI i) y = (-3, st) := by unfold aGrow; rw [e1]; dsimp only; rw [hd]
      rw [ev]
      refine V_bi (v := -3) rfl rfl ?_
      -- at 38: .ireturn
      refine V_iret rfl rfl ?_
      exact ⟨rfl, hi0, fm0⟩
  · have hc := bI_non (Decidable.of_not_not hc)
    have ev : aGrow st x y = (-2, st) := by unfold aGrow; rw [hc]
    rw [ev]
    refine V_bi (v := -2) rfl rfl ?_
    -- at 14: .ireturn
    refine V_iret rfl rfl ?_
    exact ⟨rfl, hi0, fm0⟩
theorem y_drop {S : mScr} {dep : Nat} {x y : Int32} {st : St} {h : Hp} (hi : InvM h st) : Cal S (dep + 20) 207 [.ref 188, .int x, .int y] h (MR h (aDrop st x y)) := by
  obtain ⟨hi0, fm0⟩ := hi.thr
  obtain ⟨h0, hh0⟩ : ∃ h0, h0 = wI h 188 4 (nI 0) := ⟨_, rfl⟩
  rw [← hh0] at hi0 fm0
  obtain ⟨hs, hw, _⟩ := id hi0
  show V S (dep + 20) 207 0 [.ref 188, .int x, .int y] [] h _
  have bad : aDrop st x y = (-2, st) → V S (dep + 20) 207 21 [.ref 188, .int x, .int y] [] h0 (MR h (aDrop st x y)) := by
    intro e
    rw [e]
    refine V_bi (v := -2) rfl rfl ?_
    -- at 23: .ireturn
    refine V_iret rfl rfl ?_
    exact ⟨rfl, hi0, fm0⟩
  refine V_aload_n rfl rfl rfl ?_
  refine V_ic (v := nI 0) rfl rfl ?_
  refine V_pi 4 rfl rfl rfl rfl ?_
  refine V_iload_n rfl rfl ?_
  -- at 6: .invokestatic 222
  rw [← hh0]
  refine V_cS rfl rfl rfl rfl (m_isSlot) ?_
  refine V_if_eq rfl (fun hc => ?_) (fun hc => ?_)
  · have hc := bI_non hc
    exact bad (by unfold aDrop; rw [hc])
  · obtain ⟨i, e1⟩ := bI_som hc
    obtain ⟨rfl, hi6⟩ := ix_some e1
    have hwi := hw.1 i hi6
    refine V_aload_n rfl rfl rfl ?_
    refine V_iload_n rfl rfl ?_
    refine V_iload_n rfl rfl ?_
    -- at 15: .invokevirtual 225
    refine V_cV rfl rfl rfl rfl rfl (m_isNode hs hw hi6) ?_
    refine V_if_ne rfl (fun hd => ?_) (fun hd => ?_)
    · obtain ⟨v, e2⟩ := bI_som hd
      obtain ⟨rfl, hvi⟩ := ix_some e2
      have ev : aDrop st (nI i) (nI v) = (nI (st.1.1 i - 1), psh st (setN st.1 i (st.1.1 i - 1) (wot (st.1.1 i) (st.1.2.1 i) v))) := by
        unfold aDrop; rw [e1]; dsimp only; rw [e2]
      rw [ev]
      refine V_aload_n rfl rfl rfl ?_
      -- at 25: .invokevirtual 229
      refine V_callV rfl rfl rfl rfl rfl (m_rem hi0) ?_
      rintro _ h1 ⟨rfl, hs1, hr1, fm1⟩
      show V S (dep + 20) 207 28 [.ref 188, .int (nI i), .int (nI v)] [] h1 _
      have fm1 := fm0.tr fm1
      refine V_aload_n rfl rfl rfl ?_
      refine V_iload_n rfl rfl ?_
      refine V_aload_n rfl rfl rfl ?_
      refine V_iload_n rfl rfl ?_
      -- at 32: .invokevirtual 201
      refine V_cV rfl rfl rfl rfl rfl (m_nodes hs1 hi6) ?_
      refine V_ic (v := nI 1) rfl rfl ?_
      refine V_isub rfl ?_
      refine V_aload_n rfl rfl rfl ?_
      refine V_iload_n rfl rfl ?_
      -- at 39: .invokevirtual 201
      rw [nI_sub (by omega)]
      refine V_cV rfl rfl rfl rfl rfl (m_nodes hs1 hi6) ?_
      refine V_aload_n rfl rfl rfl ?_
      refine V_iload_n rfl rfl ?_
      -- at 44: .invokevirtual 204
      refine V_cV rfl rfl rfl rfl rfl (m_code hs1 hi6) ?_
      refine V_iload_n rfl rfl ?_
      -- at 48: .invokestatic 219
      refine V_cS rfl rfl rfl rfl (m_wot hwi.1 (c21 hwi.1 hwi.2) hvi) ?_
      refine V_callV rfl rfl rfl rfl rfl (m_becomes hs1 hi6) ?_
      rintro _ h2 ⟨rfl, hs2, k2⟩
      show V S (dep + 20) 207 54 [.ref 188, .int (nI i), .int (nI v)] [] h2 _
      refine V_aload_n rfl rfl rfl ?_
      refine V_iload_n rfl rfl ?_
      -- at 56: .invokevirtual 201
      refine V_cV rfl rfl rfl rfl rfl (m_nodes hs2 hi6) ?_
      rw [setN_n]
      refine V_iret rfl rfl ?_
      have := InvM.act hr1 fm1 k2 (by simp) (by simp; rfl) hs2 (hw.setN (by omega) (wot_lt hvi))
      exact ⟨rfl, this.1, this.2⟩
    · have hd := bI_non (Decidable.of_not_not hd)
      exact bad (by unfold aDrop; rw [e1]; dsimp only; rw [hd])
theorem y_turn {S : mScr} {dep : Nat} {x y : Int32} {st : St} {h : Hp} (hi : InvM h st) : Cal S (dep + 20) 208 [.ref 188, .int x, .int y] h (MR h (aTurn st x y)) := by
  obtain ⟨hi0, fm0⟩ := hi.thr
  obtain ⟨h0, hh0⟩ : ∃ h0, h0 = wI h 188 4 (nI 0) := ⟨_, rfl⟩
  rw [← hh0] at hi0 fm0
  obtain ⟨hs, hw, _⟩ := id hi0
  show V S (dep + 20) 208 0 [.ref 188, .int x, .int y] [] h _
  have bad : aTurn st x y = (-2, st) → V S (dep + 20) 208 19 [.ref 188, .int x, .int y] [] h0 (MR h (aTurn st x y)) := by
    intro e
    rw [e]
    refine V_bi (v := -2) rfl rfl ?_
    -- at 21: .ireturn
    refine V_iret rfl rfl ?_
    exact ⟨rfl, hi0, fm0⟩
  refine V_aload_n rfl rfl rfl ?_
  refine V_ic (v := nI 0) rfl rfl ?_
  refine V_pi 4 rfl rfl rfl rfl ?_
  refine V_iload_n rfl rfl ?_
  -- at 6: .invokestatic 222
  rw [← hh0]
  refine V_cS rfl rfl rfl rfl (m_isSlot) ?_
  refine V_if_eq rfl (fun hc => ?_) (fun hc => ?_)
  · have hc := bI_non hc
    exact bad (by unfold aTurn; rw [hc])
  · obtain ⟨i, e1⟩ := bI_som hc
    obtain ⟨rfl, hi6⟩ := ix_some e1
    have hwi := hw.1 i hi6
    refine V_iload_n rfl rfl ?_
    -- at 13: .invokestatic 222
    refine V_cS rfl rfl rfl rfl (m_isSlot) ?_
    refine V_if_ne rfl (fun hd => ?_) (fun hd => ?_)
    · obtain ⟨j, e2⟩ := bI_som hd
      obtain ⟨rfl, hj6⟩ := ix_some e2
      have ev : aTurn st (nI i) (nI j) = (nI (pop (inv (st.1.1 i) (st.1.2.1 i))), psh st (setN st.1 j (st.1.1 i) (inv (st.1.1 i) (st.1.2.1 i)))) := by
        unfold aTurn; rw [e1, e2]
      rw [ev]
      refine V_aload_n rfl rfl rfl ?_
      -- at 23: .invokevirtual 229
      refine V_callV rfl rfl rfl rfl rfl (m_rem hi0) ?_
      rintro _ h1 ⟨rfl, hs1, hr1, fm1⟩
      show V S (dep + 20) 208 26 [.ref 188, .int (nI i), .int (nI j)] [] h1 _
      have fm1 := fm0.tr fm1
      refine V_aload_n rfl rfl rfl ?_
      refine V_iload_n rfl rfl ?_
      refine V_aload_n rfl rfl rfl ?_
      refine V_iload_n rfl rfl ?_
      -- at 30: .invokevirtual 201
      refine V_cV rfl rfl rfl rfl rfl (m_nodes hs1 hi6) ?_
      refine V_aload_n rfl rfl rfl ?_
      refine V_iload_n rfl rfl ?_
      -- at 35: .invokevirtual 201
      refine V_cV rfl rfl rfl rfl rfl (m_nodes hs1 hi6) ?_
      refine V_cS rfl rfl rfl rfl (m_whole hwi.1) ?_
      refine V_aload_n rfl rfl rfl ?_
      refine V_iload_n rfl rfl ?_
      -- at 43: .invokevirtual 204
      refine V_cV rfl rfl rfl rfl rfl (m_code hs1 hi6) ?_
      refine V_ic (v := -1) rfl rfl ?_
      refine V_ixor rfl ?_
      refine V_iand rfl ?_
      -- at 49: .invokevirtual 182
      rw [nI_andn, inv_and hwi.2]
      refine V_callV rfl rfl rfl rfl rfl (m_becomes hs1 hj6) ?_
      rintro _ h2 ⟨rfl, hs2, k2⟩
      show V S (dep + 20) 208 52 [.ref 188, .int (nI i), .int (nI j)] [] h2 _
      refine V_aload_n rfl rfl rfl ?_
      refine V_iload_n rfl rfl ?_
      -- at 54: .invokevirtual 204
      refine V_cV rfl rfl rfl rfl rfl (m_code hs2 hj6) ?_
      rw [setN_c]
      refine V_cS rfl rfl rfl rfl (m_lines (Nat.lt_trans (c21 hwi.1 (inv_lt hwi.2)) (by decide))) ?_
      refine V_iret rfl rfl ?_
      have := InvM.act hr1 fm1 k2 (by simp) (by simp; rfl) hs2 (hw.setN hwi.1 (inv_lt hwi.2))
      exact ⟨rfl, this.1, this.2⟩
    · have hd := bI_non (Decidable.of_not_not hd)
      exact bad (by unfold aTurn; rw [e1, hd])
theorem y_put {S : mScr} {dep : Nat} {x y : Int32} {st : St} {h : Hp} (hi : InvM h st) : Cal S (dep + 20) 209 [.ref 188, .int x, .int y] h (MR h (aPut st x y)) := by
  obtain ⟨hi0, fm0⟩ := hi.thr
  obtain ⟨h0, hh0⟩ : ∃ h0, h0 = wI h 188 4 (nI 0) := ⟨_, rfl⟩
  rw [← hh0] at hi0 fm0
  obtain ⟨hs, hw, _⟩ := id hi0
  show V S (dep + 20) 209 0 [.ref 188, .int x, .int y] [] h _
  have bad : aPut st x y = (-2, st) → V S (dep + 20) 209 19 [.ref 188, .int x, .int y] [] h0 (MR h (aPut st x y)) := by
    intro e
    rw [e]
    refine V_bi (v := -2) rfl rfl ?_
    -- at 21: .ireturn
    refine V_iret rfl rfl ?_
    exact ⟨rfl, hi0, fm0⟩
  refine V_aload_n rfl rfl rfl ?_
  refine V_ic (v := nI 0) rfl rfl ?_
  refine V_pi 4 rfl rfl rfl rfl ?_
  refine V_iload_n rfl rfl ?_
  -- at 6: .invokestatic 222
  rw [← hh0]
  refine V_cS rfl rfl rfl rfl (m_isSlot) ?_
  refine V_if_eq rfl (fun hc => ?_) (fun hc => ?_)
  · have hc := bI_non hc
    exact bad (by unfold aPut; rw [hc])
  · obtain ⟨i, e1⟩ := bI_som hc
    obtain ⟨rfl, hi6⟩ := ix_some e1
    have hwi := hw.1 i hi6
    refine V_iload_n rfl rfl ?_
    -- at 13: .invokestatic 222
    refine V_cS rfl rfl rfl rfl (m_isSlot) ?_
    refine V_if_ne rfl (fun hd => ?_) (fun hd => ?_)
    · obtain ⟨j, e2⟩ := bI_som hd
      obtain ⟨rfl, hj6⟩ := ix_some e2
      have ev : aPut st (nI i) (nI j) = (nI (st.1.1 i), psh st (setN st.1 j (st.1.1 i) (frm (st.1.1 i) (st.1.2.1 i)))) := by
        unfold aPut; rw [e1, e2]
      rw [ev]
      refine V_aload_n rfl rfl rfl ?_
      -- at 23: .invokevirtual 229
      refine V_callV rfl rfl rfl rfl rfl (m_rem hi0) ?_
      rintro _ h1 ⟨rfl, hs1, hr1, fm1⟩
      show V S (dep + 20) 209 26 [.ref 188, .int (nI i), .int (nI j)] [] h1 _
      have fm1 := fm0.tr fm1
      refine V_aload_n rfl rfl rfl ?_
      refine V_iload_n rfl rfl ?_
      refine V_aload_n rfl rfl rfl ?_
      refine V_iload_n rfl rfl ?_
      -- at 30: .invokevirtual 201
      refine V_cV rfl rfl rfl rfl rfl (m_nodes hs1 hi6) ?_
      refine V_aload_n rfl rfl rfl ?_
      refine V_iload_n rfl rfl ?_
      -- at 35: .invokevirtual 238
      refine V_callV rfl rfl rfl rfl rfl (m_fof hs1 hw hi6) ?_
      rintro _ h2 ⟨rfl, k2⟩
      show V S (dep + 20) 209 38 [.ref 188, .int (nI i), .int (nI j)] [.int (nI (frm (st.1.1 i) (st.1.2.1 i))), .int (nI (st.1.1 i)), .int (nI j), .ref 188] h2 _
      have hs2 := hs1.mf k2 (by simp)
      refine V_callV rfl rfl rfl rfl rfl (m_becomes hs2 hj6) ?_
      rintro _ h3 ⟨rfl, hs3, k3⟩
      show V S (dep + 20) 209 41 [.ref 188, .int (nI i), .int (nI j)] [] h3 _
      refine V_aload_n rfl rfl rfl ?_
      refine V_iload_n rfl rfl ?_
      -- at 43: .invokevirtual 201
      refine V_cV rfl rfl rfl rfl rfl (m_nodes hs3 hj6) ?_
      rw [setN_n]
      refine V_iret rfl rfl ?_
      have k4 : MF [6, 7] [189, 192, 193] h1 h3 := (k2.mono (by simp) (by simp)).tr (k3.mono (by simp) (by simp))
      have := InvM.act hr1 fm1 k4 (by simp; decide) (by simp; decide) hs3 (hw.setN hwi.1 (frm_lt hwi.1))
      exact ⟨rfl, this.1, this.2⟩
    · have hd := bI_non (Decidable.of_not_not hd)
      exact bad (by unfold aPut; rw [e1, hd])
theorem y_deal {S : mScr} {dep : Nat} {x y : Int32} {st : St} {h : Hp} (hi : InvM h st) : Cal S (dep + 20) 211 [.ref 188, .int x, .int y] h (MR h (aDeal st x y)) := by
  obtain ⟨hi0, fm0⟩ := hi.thr
  obtain ⟨h0, hh0⟩ : ∃ h0, h0 = wI h 188 4 (nI 0) := ⟨_, rfl⟩
  rw [← hh0] at hi0 fm0
  obtain ⟨hs, hw, _⟩ := id hi0
  show V S (dep + 20) 211 0 [.ref 188, .int x, .int y] [] h _
  have bad : aDeal st x y = (-2, st) → V S (dep + 20) 211 24 [.ref 188, .int x, .int y] [] h0 (MR h (aDeal st x y)) := by
    intro e
    rw [e]
    refine V_bi (v := -2) rfl rfl ?_
    -- at 26: .ireturn
    refine V_iret rfl rfl ?_
    exact ⟨rfl, hi0, fm0⟩
  refine V_aload_n rfl rfl rfl ?_
  refine V_ic (v := nI 0) rfl rfl ?_
  refine V_pi 4 rfl rfl rfl rfl ?_
  refine V_iload_n rfl rfl ?_
  -- at 6: .invokestatic 222
  rw [← hh0]
  refine V_cS rfl rfl rfl rfl (m_isSlot) ?_
  refine V_if_eq rfl (fun hc => ?_) (fun hc => ?_)
  · have hc := bI_non hc
    exact bad (by unfold aDeal; rw [hc])
  · obtain ⟨i, e1⟩ := bI_som hc
    obtain ⟨rfl, hi6⟩ := ix_some e1
    have hwi := hw.1 i hi6
    refine V_iload_n rfl rfl ?_
    refine V_i2l rfl ?_
    refine V_lc (v := 0) rfl rfl ?_
    refine V_l2 (v := 2) rfl rfl ?_
    -- at 18: .invokestatic 134
    refine V_cS rfl rfl rfl rfl (m_isIn) ?_
    rw [Int32.toInt_toInt64, show (0 : Int64).toInt = 0 from rfl, show (2 : Int64).toInt = 2 from rfl]
    rw [show decide (0 ≤ y.toInt ∧ y.toInt ≤ 2) = (ix 3 y).isSome by rw [ix_is]; exact decide_eq_decide.mpr (by omega)]
    refine V_if_ne rfl (fun hd => ?_) (fun hd => ?_)
    · obtain ⟨d, e2⟩ := bI_som hd
      obtain ⟨rfl, hd3⟩ := ix_some e2
      have ev : aDeal st (nI i) (nI d) = if st.1.1 i < 2 then (-5, st) else (nI (unl (dck (st.1.1 i) (st.1.2.1 i)) (st.1.1 i)), psh st (setD st.1 d (dck (st.1.1 i) (st.1.2.1 i)))) := by
        unfold aDeal; rw [e1, e2]
      rw [ev]
      refine V_aload_n rfl rfl rfl ?_
      refine V_iload_n rfl rfl ?_
      -- at 29: .invokevirtual 201
      refine V_cV rfl rfl rfl rfl rfl (m_nodes hs hi6) ?_
      refine V_ic (v := nI 2) rfl rfl ?_
      -- at 33: .if_icmp .ge 6
      refine V_icmp_ge rfl (fun he => ?_) (fun he => ?_)
      · have he := (nI_leI (by omega) (by omega)).mp he
        rw [if_neg (by omega)]
        have hdW := dck_WD (C := st.1.2.1 i) hwi.1 he
        refine V_aload_n rfl rfl rfl ?_
        -- at 40: .invokevirtual 229
        refine V_callV rfl rfl rfl rfl rfl (m_rem hi0) ?_
        rintro _ h1 ⟨rfl, hs1, hr1, fm1⟩
        show V S (dep + 20) 211 43 [.ref 188, .int (nI i), .int (nI d)] [] h1 _
        have fm1 := fm0.tr fm1
        refine V_aload_n rfl rfl rfl ?_
        refine V_aload_n rfl rfl rfl ?_
        refine V_iload_n rfl rfl ?_
        -- at 46: .invokevirtual 201
        refine V_cV rfl rfl rfl rfl rfl (m_nodes hs1 hi6) ?_
        refine V_aload_n rfl rfl rfl ?_
        refine V_iload_n rfl rfl ?_
        -- at 51: .invokevirtual 204
        refine V_cV rfl rfl rfl rfl rfl (m_code hs1 hi6) ?_
        refine V_aload_n rfl rfl rfl ?_
        refine V_getR (r := 195) rfl rfl ?_
        -- at 58: .invokevirtual 241
        refine V_callV rfl rfl rfl rfl rfl (m_deals (r := 195) hwi.1 (by omega) hwi.2 rfl rfl (by decide) (by decide) (by decide)) ?_
        rintro _ h2 ⟨rfl, hA2, k2⟩
        show V S (dep + 20) 211 61 [.ref 188, .int (nI i), .int (nI d)] [] h2 _
        have hs2 := hs1.mf k2 (by simp)
        have hb21 : ∀ x ∈ dck (st.1.1 i) (st.1.2.1 i), x < 2 ^ 21 := fun x hx => c21 (by rw [dck_len]; omega) (hdW.2.2.2 x hx).1
        refine V_aload_n rfl rfl rfl ?_
        refine V_iload_n rfl rfl ?_
        refine V_aload_n rfl rfl rfl ?_
        refine V_iload_n rfl rfl ?_
        -- at 65: .invokevirtual 201
        refine V_cV rfl rfl rfl rfl rfl (m_nodes hs2 hi6) ?_
        refine V_st (st' := [.int (nI (dck (st.1.1 i) (st.1.2.1 i)).length), .int (nI d), .ref 188]) (by rw [dck_len]) ?_
        refine V_callV rfl rfl rfl rfl rfl (m_lays hs2 hd3 hA2 (by rw [dck_len]; exact hwi.1) hb21) ?_
        rintro _ h3 ⟨rfl, hs3, hA3, k3⟩
        show V S (dep + 20) 211 71 [.ref 188, .int (nI i), .int (nI d)] [] h3 _
        rw [srt_id hdW.2.2.1] at hs3 hA3
        refine V_aload_n rfl rfl rfl ?_
        refine V_getR (r := 195) rfl rfl ?_
        refine V_aload_n rfl rfl rfl ?_
        refine V_iload_n rfl rfl ?_
        -- at 77: .invokevirtual 201
        refine V_cV rfl rfl rfl rfl rfl (m_nodes hs3 hi6) ?_
        refine V_st (st' := [.int (nI (dck (st.1.1 i) (st.1.2.1 i)).length), .ref 195]) (by rw [dck_len]; rfl) ?_
        refine V_cS rfl rfl rfl rfl (m_unl (r := 195) (N := 7) rfl rfl rfl hA3 (by rw [dck_len]; exact hwi.1) hb21) ?_
        rw [dck_len]
        refine V_iret rfl rfl ?_
        have k4 : MF [6, 7] [189, 192, 193, 195] h1 h3 := (k2.mono (by simp) (by simp)).tr (k3.mono (by simp) (by simp))
        have := InvM.act hr1 fm1 k4 (by simp; decide) (by simp; decide) hs3 (hw.setD hdW)
        exact ⟨rfl, this.1, this.2⟩
      · have he : ¬ 2 ≤ st.1.1 i := fun q => he (nI_le q (by omega))
        rw [if_pos (by omega)]
        refine V_bi (v := -5) rfl rfl ?_
        -- at 38: .ireturn
        refine V_iret rfl rfl ?_
        exact ⟨rfl, hi0, fm0⟩
    · have hd := bI_non (Decidable.of_not_not hd)
      exact bad (by unfold aDeal; rw [e1, hd])
