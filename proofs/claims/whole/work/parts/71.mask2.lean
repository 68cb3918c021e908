/-! the reference: further questions -/
theorem y_alik {S : mScr} {dep : Nat} {x y : Int32} {st : St} {h : Hp} (hi : InvM h st) : Cal S (dep + 20) 219 [.ref 188, .int x, .int y] h (MR h (aAlik st x y, st)) := by
  obtain ⟨hi0, fm0⟩ := hi.thr
  obtain ⟨h0, hh0⟩ : ∃ h0, h0 = wI h 188 4 (nI 0) := ⟨_, rfl⟩
  rw [← hh0] at hi0 fm0
  obtain ⟨hs, hw, _⟩ := id hi0
  show V S (dep + 20) 219 0 [.ref 188, .int x, .int y] [] h _
  have bad : aAlik st x y = -2 → V S (dep + 20) 219 19 [.ref 188, .int x, .int y] [] h0 (MR h (aAlik st x y, st)) := by
    intro e
    rw [e]
    refine V_bi (v := -2) rfl rfl ?_
    -- at 21: .ireturn
    refine V_iret rfl rfl ?_
    exact mq0 hi0 fm0
  refine V_aload_n rfl rfl rfl ?_
  refine V_ic (v := nI 0) rfl rfl ?_
  refine V_pi 4 rfl rfl rfl rfl ?_
  refine V_iload_n rfl rfl ?_
  -- at 6: .invokestatic 222
  rw [← hh0]
  refine V_cS rfl rfl rfl rfl (m_isSlot) ?_
  refine V_if_eq rfl (fun hc => ?_) (fun hc => ?_)
  · have hc := bI_non hc
    exact bad (by unfold aAlik; rw [hc])
  · obtain ⟨i, e1⟩ := bI_som hc
    obtain ⟨rfl, hi6⟩ := ix_some e1
    have hwi := hw.1 i hi6
    refine V_iload_n rfl rfl ?_
    -- at 13: .invokestatic 222
    refine V_cS rfl rfl rfl rfl (m_isSlot) ?_
    refine V_if_ne rfl (fun hd => ?_) (fun hd => ?_)
    · obtain ⟨j, e2⟩ := bI_som hd
      obtain ⟨rfl, hj6⟩ := ix_some e2
      have hwj := hw.1 j hj6
      have ev : aAlik st (nI i) (nI j) = bI (decide (st.1.1 i = st.1.1 j) && decide (frm (st.1.1 i) (st.1.2.1 i) = frm (st.1.1 j) (st.1.2.1 j))) := by unfold aAlik; rw [e1, e2]
      rw [ev]
      refine V_aload_n rfl rfl rfl ?_
      refine V_iload_n rfl rfl ?_
      -- at 24: .invokevirtual 201
      refine V_cV rfl rfl rfl rfl rfl (m_nodes hs hi6) ?_
      refine V_aload_n rfl rfl rfl ?_
      refine V_iload_n rfl rfl ?_
      -- at 29: .invokevirtual 201
      refine V_cV rfl rfl rfl rfl rfl (m_nodes hs hj6) ?_
      refine V_icmp_ne rfl (fun he => ?_) (fun he => ?_)
      · rw [decide_eq_false (fun q => he (by rw [q]))]
        refine V_ic (v := nI 0) rfl rfl ?_
        -- at 53: .ireturn
        refine V_iret rfl rfl ?_
        exact mq0 hi0 fm0
      · have he := nI_inj (by omega) (by omega) (Decidable.of_not_not he)
        rw [decide_eq_true he, Bool.true_and]
        refine V_aload_n rfl rfl rfl ?_
        refine V_iload_n rfl rfl ?_
        -- at 37: .invokevirtual 238
        refine V_callV rfl rfl rfl rfl rfl (m_fof hs hw hi6) ?_
        rintro _ h1 ⟨rfl, f1⟩
        show V S (dep + 20) 219 40 [.ref 188, .int (nI i), .int (nI j)] [.int (nI (frm (st.1.1 i) (st.1.2.1 i)))] h1 _
        have hs1 := hs.mf f1 (by simp)
        refine V_aload_n rfl rfl rfl ?_
        refine V_iload_n rfl rfl ?_
        -- at 42: .invokevirtual 238
        refine V_callV rfl rfl rfl rfl rfl (m_fof hs1 hw hj6) ?_
        rintro _ h2 ⟨rfl, f2⟩
        show V S (dep + 20) 219 45 [.ref 188, .int (nI i), .int (nI j)] [.int (nI (frm (st.1.1 j) (st.1.2.1 j))), .int (nI (frm (st.1.1 i) (st.1.2.1 i)))] h2 _
        have g1 := frm21 (C := st.1.2.1 i) hwi.1
        have g2 := frm21 (C := st.1.2.1 j) hwj.1
        refine V_icmp_ne rfl (fun hf => ?_) (fun hf => ?_)
        · rw [decide_eq_false (fun q => hf (by rw [q]))]
          refine V_ic (v := nI 0) rfl rfl ?_
          -- at 53: .ireturn
          refine V_iret rfl rfl ?_
          exact mq hi0 fm0 (f1.tr f2) (by simp; decide) (by simp; decide) (by simp)
        · have hf := nI_inj (by omega) (by omega) (Decidable.of_not_not hf)
          rw [decide_eq_true hf]
          refine V_ic (v := nI 1) rfl rfl ?_
          refine V_goto rfl ?_
          -- at 53: .ireturn
          refine V_iret rfl rfl ?_
          exact mq hi0 fm0 (f1.tr f2) (by simp; decide) (by simp; decide) (by simp)
    · have hd := bI_non (Decidable.of_not_not hd)
      exact bad (by unfold aAlik; rw [e1, hd])
theorem y_part {S : mScr} {dep : Nat} {x y : Int32} {st : St} {h : Hp} (hi : InvM h st) : Cal S (dep + 20) 220 [.ref 188, .int x, .int y] h (MR h (aPart st x y, st)) := by
  obtain ⟨hi0, fm0⟩ := hi.thr
  obtain ⟨h0, hh0⟩ : ∃ h0, h0 = wI h 188 4 (nI 0) := ⟨_, rfl⟩
  rw [← hh0] at hi0 fm0
  obtain ⟨hs, hw, _⟩ := id hi0
  show V S (dep + 20) 220 0 [.ref 188, .int x, .int y] [] h _
  have bad : aPart st x y = -2 → V S (dep + 20) 220 19 [.ref 188, .int x, .int y] [] h0 (MR h (aPart st x y, st)) := by
    intro e
    rw [e]
    refine V_bi (v := -2) rfl rfl ?_
    -- at 21: .ireturn
    refine V_iret rfl rfl ?_
    exact mq0 hi0 fm0
  refine V_aload_n rfl rfl rfl ?_
  refine V_ic (v := nI 0) rfl rfl ?_
  refine V_pi 4 rfl rfl rfl rfl ?_
  refine V_iload_n rfl rfl ?_
  -- at 6: .invokestatic 222
  rw [← hh0]
  refine V_cS rfl rfl rfl rfl (m_isSlot) ?_
  refine V_if_eq rfl (fun hc => ?_) (fun hc => ?_)
  · have hc := bI_non hc
    exact bad (by unfold aPart; rw [hc])
  · obtain ⟨i, e1⟩ := bI_som hc
    obtain ⟨rfl, hi6⟩ := ix_some e1
    have hwi := hw.1 i hi6
    refine V_iload_n rfl rfl ?_
    -- at 13: .invokestatic 222
    refine V_cS rfl rfl rfl rfl (m_isSlot) ?_
    refine V_if_ne rfl (fun hd => ?_) (fun hd => ?_)
    · obtain ⟨j, e2⟩ := bI_som hd
      obtain ⟨rfl, hj6⟩ := ix_some e2
      have hwj := hw.1 j hj6
      have ev : aPart st (nI i) (nI j) = nI (prt (st.1.1 i) (frm (st.1.1 i) (st.1.2.1 i)) (st.1.1 j) (st.1.2.1 j)) := by unfold aPart; rw [e1, e2]
      rw [ev]
      refine V_aload_n rfl rfl rfl ?_
      refine V_aload_n rfl rfl rfl ?_
      refine V_iload_n rfl rfl ?_
      -- at 25: .invokevirtual 201
      refine V_cV rfl rfl rfl rfl rfl (m_nodes hs hi6) ?_
      refine V_aload_n rfl rfl rfl ?_
      refine V_iload_n rfl rfl ?_
      -- at 30: .invokevirtual 238
      refine V_callV rfl rfl rfl rfl rfl (m_fof hs hw hi6) ?_
      rintro _ h1 ⟨rfl, f1⟩
      show V S (dep + 20) 220 33 [.ref 188, .int (nI i), .int (nI j)] [.int (nI (frm (st.1.1 i) (st.1.2.1 i))), .int (nI (st.1.1 i)), .ref 188] h1 _
      have hs1 := hs.mf f1 (by simp)
      refine V_aload_n rfl rfl rfl ?_
      refine V_iload_n rfl rfl ?_
      -- at 35: .invokevirtual 201
      refine V_cV rfl rfl rfl rfl rfl (m_nodes hs1 hj6) ?_
      refine V_aload_n rfl rfl rfl ?_
      refine V_iload_n rfl rfl ?_
      -- at 40: .invokevirtual 204
      refine V_cV rfl rfl rfl rfl rfl (m_code hs1 hj6) ?_
      refine V_callV rfl rfl rfl rfl rfl (m_prt hwj.1 hwj.2 hwi.1 (frm21 hwi.1)) ?_
      rintro _ h2 ⟨rfl, f2⟩
      refine V_iret rfl rfl ?_
      exact mq hi0 fm0 (f1.tr f2) (by simp; decide) (by simp; decide) (by simp)
    · have hd := bI_non (Decidable.of_not_not hd)
      exact bad (by unfold aPart; rw [e1, hd])
theorem y_is {S : mScr} {dep : Nat} {x w : Int32} {st : St} {h : Hp} (hi : InvM h st) : Cal S (dep + 20) 234 [.ref 188, .int x, .int w] h (MR h (aIs st x w, st)) := by
  obtain ⟨hi0, fm0⟩ := hi.thr
  obtain ⟨h0, hh0⟩ : ∃ h0, h0 = wI h 188 4 (nI 0) := ⟨_, rfl⟩
  rw [← hh0] at hi0 fm0
  obtain ⟨hs, hw, _⟩ := id hi0
  show V S (dep + 20) 234 0 [.ref 188, .int x, .int w] [] h _
  have bad : aIs st x w = -2 → V S (dep + 20) 234 19 [.ref 188, .int x, .int w] [] h0 (MR h (aIs st x w, st)) := by
    intro e
    rw [e]
    refine V_bi (v := -2) rfl rfl ?_
    -- at 21: .ireturn
    refine V_iret rfl rfl ?_
    exact mq0 hi0 fm0
  refine V_aload_n rfl rfl rfl ?_
  refine V_ic (v := nI 0) rfl rfl ?_
  refine V_pi 4 rfl rfl rfl rfl ?_
  refine V_iload_n rfl rfl ?_
  -- at 6: .invokestatic 222
  rw [← hh0]
  refine V_cS rfl rfl rfl rfl (m_isSlot) ?_
  refine V_if_eq rfl (fun hc => ?_) (fun hc => ?_)
  · have hc := bI_non hc
    exact bad (by unfold aIs; rw [hc])
  · obtain ⟨i, e1⟩ := bI_som hc
    obtain ⟨rfl, hi6⟩ := ix_some e1
    have hwi := hw.1 i hi6
    refine V_iload_n rfl rfl ?_
    -- at 13: .invokestatic 304
    refine V_cS rfl rfl rfl rfl (m_isClass) ?_
    refine V_if_ne rfl (fun hd => ?_) (fun hd => ?_)
    · obtain ⟨j, e2⟩ := bI_som hd
      obtain ⟨rfl, hj6⟩ := ix_some e2
      have ev : aIs st (nI i) (nI j) = bI (isK (st.1.1 i) (st.1.2.1 i) j) := by unfold aIs; rw [e1, e2]
      rw [ev]
      refine V_aload_n rfl rfl rfl ?_
      refine V_aload_n rfl rfl rfl ?_
      refine V_iload_n rfl rfl ?_
      -- at 25: .invokevirtual 201
      refine V_cV rfl rfl rfl rfl rfl (m_nodes hs hi6) ?_
      refine V_aload_n rfl rfl rfl ?_
      refine V_iload_n rfl rfl ?_
      -- at 30: .invokevirtual 204
      refine V_cV rfl rfl rfl rfl rfl (m_code hs hi6) ?_
      refine V_iload_n rfl rfl ?_
      -- at 34: .invokevirtual 307
      refine V_callV rfl rfl rfl rfl rfl (m_isK hwi.1 hwi.2 hj6) ?_
      rintro _ h1 ⟨rfl, f1⟩
      show V S (dep + 20) 234 37 [.ref 188, .int (nI i), .int (nI j)] [.int (bI (isK (st.1.1 i) (st.1.2.1 i) j))] h1 _
      generalize isK (st.1.1 i) (st.1.2.1 i) j = b
      refine V_if_eq rfl (fun he => ?_) (fun he => ?_)
      · have he := bI_z.mp he
        rw [he]
        refine V_ic (v := nI 0) rfl rfl ?_
        -- at 45: .ireturn
        refine V_iret rfl rfl ?_
        exact mq hi0 fm0 f1 (by simp; decide) (by simp; decide) (by simp)
      · have he := bI_nz.mp he
        rw [he]
        refine V_ic (v := nI 1) rfl rfl ?_
        refine V_goto rfl ?_
        -- at 45: .ireturn
        refine V_iret rfl rfl ?_
        exact mq hi0 fm0 f1 (by simp; decide) (by simp; decide) (by simp)
    · have hd := bI_non (Decidable.of_not_not hd)
      exact bad (by unfold aIs; rw [e1, hd])
/-- the tail of lineDeck and answers: the k-th -/
theorem kth_hi {l : List Nat} {c : Nat} {k : Int32} (h1 : 0 ≤ k.toInt) (hl : l.length < 2 ^ 31) : (nI l.length ≤ k → kth l c k = -1) ∧ (¬ nI l.length ≤ k → ∃ j, k = nI j ∧ j < l.length ∧ kth l c k = nI (l.getD j 0)) := by
  have hne : ¬ k = -1 := fun q => by rw [q] at h1; exact absurd h1 (by decide)
  have ek : kth l c k = match ix l.length k with
    | some j => nI (l.getD j 0)
    | none => -1 := by unfold kth; rw [if_neg (by omega), if_neg hne]; rfl
  constructor
  · intro hf
    have e2 : ix l.length k = none := by
      cases q : ix l.length k with
      | none => rfl
      | some j =>
        obtain ⟨rfl, hj⟩ := ix_some q
        exact absurd hf (nI_ge hj (by omega))
    rw [ek, e2]
  · intro hf
    have : (ix l.length k).isSome = true := by
      rw [ix_lt (by omega)]
      have h2 : decide (0 ≤ k) = true := decide_eq_true (Int32.le_iff_toInt_le.mpr h1)
      rw [h2, decide_eq_true (Int32.not_le.mp hf)]; rfl
    obtain ⟨j, hj⟩ := Option.isSome_iff_exists.mp this
    exact ⟨j, (ix_some hj).1, (ix_some hj).2, by rw [ek, hj]⟩
theorem kth_m1 {l : List Nat} {c : Nat} : kth l c (-1) = nI c := by unfold kth; rw [if_neg (by decide), if_pos rfl]
theorem kth_lo {l : List Nat} {c : Nat} {k : Int32} (h : k.toInt < -1) : kth l c k = -3 := by unfold kth; rw [if_pos h]
theorem y_lind {S : mScr} {dep : Nat} {x k : Int32} {st : St} {h : Hp} (hi : InvM h st) : Cal S (dep + 20) 228 [.ref 188, .int x, .int k] h (MR h (aLinD st x k, st)) := by
  obtain ⟨hi0, fm0⟩ := hi.thr
  obtain ⟨h0, hh0⟩ : ∃ h0, h0 = wI h 188 4 (nI 0) := ⟨_, rfl⟩
  rw [← hh0] at hi0 fm0
  obtain ⟨hs, hw, _⟩ := id hi0
  show V S (dep + 20) 228 0 [.ref 188, .int x, .int k, .null] [] h _
  refine V_aload_n rfl rfl rfl ?_
  refine V_ic (v := nI 0) rfl rfl ?_
  refine V_pi 4 rfl rfl rfl rfl ?_
  refine V_iload_n rfl rfl ?_
  -- at 6: .invokestatic 222
  rw [← hh0]
  refine V_cS rfl rfl rfl rfl (m_isSlot) ?_
  refine V_if_ne rfl (fun hc => ?_) (fun hc => ?_)
  · obtain ⟨i, e1⟩ := bI_som hc
    obtain ⟨rfl, hi6⟩ := ix_some e1
    have hwi := hw.1 i hi6
    obtain ⟨l, hl⟩ : ∃ l, l = ldk (st.1.1 i) (st.1.2.1 i) := ⟨_, rfl⟩
    have ev : aLinD st (nI i) k = kth l (unl l l.length) k := by unfold aLinD; rw [e1, hl]
    rw [ev]
    have hle : l.length = pop (st.1.2.1 i) := by rw [hl, ldk_len hwi.1 hwi.2]
    have hll : l.length ≤ 21 := by rw [hle]; exact pop21 (c21 hwi.1 hwi.2)
    have hlb : ∀ x ∈ l, x < 2 ^ 21 := fun x hx => by rw [hl] at hx; exact lfL21 hwi.1 (srt_mem.mp hx)
    refine V_iload_n rfl rfl ?_
    refine V_ic (v := -1) rfl rfl ?_
    -- at 17: .if_icmp .ge 6
    refine V_icmp_ge rfl (fun hd => ?_) (fun hd => ?_)
    · refine V_aload_n rfl rfl rfl ?_
      refine V_aload_n rfl rfl rfl ?_
      refine V_iload_n rfl rfl ?_
      -- at 26: .invokevirtual 201
      refine V_cV rfl rfl rfl rfl rfl (m_nodes hs hi6) ?_
      refine V_aload_n rfl rfl rfl ?_
      refine V_iload_n rfl rfl ?_
      -- at 31: .invokevirtual 204
      refine V_cV rfl rfl rfl rfl rfl (m_code hs hi6) ?_
      refine V_aload_n rfl rfl rfl ?_
      refine V_getR (r := 200) rfl rfl ?_
      -- at 38: .invokevirtual 287
      refine V_callV rfl rfl rfl rfl rfl (m_ldk (r := 200) hwi.1 hwi.2 rfl rfl (by decide) (by decide) (by decide)) ?_
      rintro _ h1 ⟨rfl, hA1, f1⟩
      rw [← hl] at hA1
      rw [← hle]
      show V S (dep + 20) 228 41 [.ref 188, .int (nI i), .int k, .null] [.int (nI l.length)] h1 _
      refine V_istore_n (L' := [_, _, _, _]) rfl rfl rfl ?_
      refine V_iload_n rfl rfl ?_
      refine V_ic (v := -1) rfl rfl ?_
      -- at 44: .if_icmp .ne 14
      refine V_icmp_ne rfl (fun he => ?_) (fun he => ?_)
      · have hk0 := ge_m1 hd he
        obtain ⟨q1, q2⟩ := kth_hi (l := l) (c := unl l l.length) hk0 (by omega)
        refine V_iload_n rfl rfl ?_
        refine V_iload_n rfl rfl ?_
        -- at 60: .if_icmp .ge 12
        refine V_icmp_ge rfl (fun hf => ?_) (fun hf => ?_)
        · rw [q1 hf]
          refine V_ic (v := -1) rfl rfl ?_
          -- at 73: .ireturn
          refine V_iret rfl rfl ?_
          exact mq hi0 fm0 f1 (by simp; decide) (by simp; decide) (by simp)
        · obtain ⟨j, rfl, hj, e3⟩ := q2 hf
          rw [e3]
          refine V_aload_n rfl rfl rfl ?_
          refine V_getR (r := 200) rfl rfl ?_
          refine V_iload_n rfl rfl ?_
          refine V_al 21 rfl rfl (by first | with_reducible rfl | assumption | exact nI_sub (by omega) | exact nI_add _ _) (by first | omega | assumption) rfl ?_
          -- at 69: .goto 4
          rw [hA1 j hj]
          refine V_goto rfl ?_
          -- at 73: .ireturn
          refine V_iret rfl rfl ?_
          exact mq hi0 fm0 f1 (by simp; decide) (by simp; decide) (by simp)
      · have he := Decidable.of_not_not he
        rw [he, kth_m1]
        refine V_aload_n rfl rfl rfl ?_
        refine V_getR (r := 200) rfl rfl ?_
        refine V_iload_n rfl rfl ?_
        -- at 52: .invokestatic 245
        refine V_cS rfl rfl rfl rfl (m_unl (r := 200) (N := 21) rfl rfl rfl hA1 hll hlb) ?_
        refine V_goto rfl ?_
        -- at 73: .ireturn
        refine V_iret rfl rfl ?_
        exact mq hi0 fm0 f1 (by simp; decide) (by simp; decide) (by simp)
    · rw [kth_lo (lt_m1 hd)]
      refine V_bi (v := -3) rfl rfl ?_
      -- at 22: .ireturn
      refine V_iret rfl rfl ?_
      exact mq0 hi0 fm0
  · have hc := bI_non (Decidable.of_not_not hc)
    have ev : aLinD st x k = -2 := by unfold aLinD; rw [hc]
    rw [ev]
    refine V_bi (v := -2) rfl rfl ?_
    -- at 14: .ireturn
    refine V_iret rfl rfl ?_
    exact mq0 hi0 fm0
theorem FM.jf {A : List Nat} {h h' : Hp} (f : JF A h h') (hA : ∀ a ∈ A, 188 ≤ a) : FM h h' := fun b hb => ⟨by rw [f.1], f.2 b (fun q => by have := hA b q; omega)⟩
theorem InvM.jf {A : List Nat} {h h' : Hp} {st : St} (hi : InvM h st) (f : JF A h h') : InvM h' st := InvM.of (fun k hk => by rw [f.1]; exact hi.1 k hk) hi.2.1 (hi.r.jf f)
theorem Int32_add_comm (a b : Int32) : a + b = b + a := by
  apply nI_ext
  show a.toBitVec + b.toBitVec = b.toBitVec + a.toBitVec
  exact BitVec.add_comm _ _
theorem y_term {S : mScr} {dep : Nat} {x k : Int32} {st : St} {h : Hp} (hi : InvM h st) : Cal S (dep + 20) 239 [.ref 188, .int x, .int k] h (MR h (aTerm st x k, st)) := by
  obtain ⟨hi0, fm0⟩ := hi.thr
  obtain ⟨h0, hh0⟩ : ∃ h0, h0 = wI h 188 4 (nI 0) := ⟨_, rfl⟩
  rw [← hh0] at hi0 fm0
  obtain ⟨hs, hw, _⟩ := id hi0
  show V S (dep + 20) 239 0 [.ref 188, .int x, .int k] [] h _
  refine V_aload_n rfl rfl rfl ?_
  refine V_ic (v := nI 0) rfl rfl ?_
  refine V_pi 4 rfl rfl rfl rfl ?_
  refine V_iload_n rfl rfl ?_
  -- at 6: .invokestatic 222
  rw [← hh0]
  refine V_cS rfl rfl rfl rfl (m_isSlot) ?_
  refine V_if_ne rfl (fun hc => ?_) (fun hc => ?_)
  · obtain ⟨i, e1⟩ := bI_som hc
    obtain ⟨rfl, hi6⟩ := ix_some e1
    have hwi := hw.1 i hi6
    refine V_iload_n rfl rfl ?_
    refine V_i2l rfl ?_
    refine V_lc (v := 0) rfl rfl ?_
    refine V_aload_n rfl rfl rfl ?_
    refine V_iload_n rfl rfl ?_
    -- at 20: .invokevirtual 201
    refine V_cV rfl rfl rfl rfl rfl (m_nodes hs hi6) ?_
    refine V_i2l rfl ?_
    -- at 24: .invokestatic 134
    refine V_cS rfl rfl rfl rfl (m_isIn) ?_
    rw [Int32.toInt_toInt64, Int32.toInt_toInt64, show (0 : Int64).toInt = 0 from rfl, nI_toInt (by omega)]
    rw [show decide (0 ≤ k.toInt ∧ k.toInt ≤ (st.1.1 i : Int)) = (ix (st.1.1 i + 1) k).isSome by rw [ix_is]; exact decide_eq_decide.mpr (by omega)]
    refine V_if_ne rfl (fun hd => ?_) (fun hd => ?_)
    · obtain ⟨j, e2⟩ := bI_som hd
      obtain ⟨rfl, hj⟩ := ix_some e2
      have ev : aTerm st (nI i) (nI j) = zI (cfZ (st.1.1 i) (st.1.2.1 i) j) + nI 10000 := by unfold aTerm; rw [e1]; dsimp only; rw [e2]
      rw [ev]
      refine V_aload_n rfl rfl rfl ?_
      refine V_aload_n rfl rfl rfl ?_
      refine V_iload_n rfl rfl ?_
      -- at 36: .invokevirtual 201
      refine V_cV rfl rfl rfl rfl rfl (m_nodes hs hi6) ?_
      refine V_aload_n rfl rfl rfl ?_
      refine V_iload_n rfl rfl ?_
      -- at 41: .invokevirtual 204
      refine V_cV rfl rfl rfl rfl rfl (m_code hs hi6) ?_
      refine V_callV rfl rfl rfl rfl rfl (m_terms hwi.1 hwi.2) ?_
      rintro _ h1 ⟨rfl, f1, t1⟩
      show V S (dep + 20) 239 47 [.ref 188, .int (nI i), .int (nI j)] [] h1 _
      refine V_si (v := nI 10000) rfl rfl ?_
      refine V_aload_n rfl rfl rfl ?_
      refine V_getR (r := 203) rfl rfl ?_
      refine V_iload_n rfl rfl ?_
      refine V_ll 8 rfl rfl (by first | with_reducible rfl | assumption | exact nI_sub (by omega) | exact nI_add _ _) (by first | omega | assumption) rfl ?_
      refine V_l2i rfl ?_
      refine V_iadd rfl ?_
      -- at 58: .ireturn
      rw [t1 j (by omega), zJ_l2i, Int32_add_comm]
      refine V_iret rfl rfl ?_
      exact ⟨rfl, hi0.jf f1, fm0.tr (FM.jf f1 (by simp))⟩
    · have hd := bI_non (Decidable.of_not_not hd)
      have ev : aTerm st (nI i) k = -3 := by unfold aTerm; rw [e1]; dsimp only; rw [hd]
      rw [ev]
      refine V_bi (v := -3) rfl rfl ?_
      -- at 32: .ireturn
      refine V_iret rfl rfl ?_
      exact mq0 hi0 fm0
  · have hc := bI_non (Decidable.of_not_not hc)
    have ev : aTerm st x k = -2 := by unfold aTerm; rw [hc]
    rw [ev]
    refine V_bi (v := -2) rfl rfl ?_
    -- at 14: .ireturn
    refine V_iret rfl rfl ?_
    exact mq0 hi0 fm0
theorem y_far {S : mScr} {dep : Nat} {x a b : Int32} {st : St} {h : Hp} (hi : InvM h st) : Cal S (dep + 20) 241 [.ref 188, .int x, .int a, .int b] h (MR h (aFar st x a b, st)) := by
  obtain ⟨hi0, fm0⟩ := hi.thr
  obtain ⟨h0, hh0⟩ : ∃ h0, h0 = wI h 188 4 (nI 0) := ⟨_, rfl⟩
  rw [← hh0] at hi0 fm0
  obtain ⟨hs, hw, _⟩ := id hi0
  show V S (dep + 20) 241 0 [.ref 188, .int x, .int a, .int b, .null, .null, .null, .null, .null] [] h _
  have bad : aFar st x a b = -2 → V S (dep + 20) 241 30 [.ref 188, .int x, .int a, .int b, .null, .null, .null, .null, .null] [] h0 (MR h (aFar st x a b, st)) := by
    intro e
    rw [e]
    refine V_bi (v := -2) rfl rfl ?_
    -- at 32: .ireturn
    refine V_iret rfl rfl ?_
    exact mq0 hi0 fm0
  refine V_aload_n rfl rfl rfl ?_
  refine V_ic (v := nI 0) rfl rfl ?_
  refine V_pi 4 rfl rfl rfl rfl ?_
  refine V_iload_n rfl rfl ?_
  -- at 6: .invokestatic 222
  rw [← hh0]
  refine V_cS rfl rfl rfl rfl (m_isSlot) ?_
  refine V_if_eq rfl (fun hc => ?_) (fun hc => ?_)
  · have hc := bI_non hc
    exact bad (by unfold aFar; rw [hc])
  · obtain ⟨i, e1⟩ := bI_som hc
    obtain ⟨rfl, hi6⟩ := ix_some e1
    have hwi := hw.1 i hi6
    refine V_aload_n rfl rfl rfl ?_
    refine V_iload_n rfl rfl ?_
    refine V_iload_n rfl rfl ?_
    -- at 15: .invokevirtual 225
    refine V_cV rfl rfl rfl rfl rfl (m_isNode hs hw hi6) ?_
    refine V_if_eq rfl (fun hd => ?_) (fun hd => ?_)
    · have hd := bI_non hd
      exact bad (by unfold aFar; rw [e1]; dsimp only; rw [hd])
    · obtain ⟨u, e2⟩ := bI_som hd
      obtain ⟨rfl, hui⟩ := ix_some e2
      refine V_aload_n rfl rfl rfl ?_
      refine V_iload_n rfl rfl ?_
      refine V_iload_n rfl rfl ?_
      -- at 24: .invokevirtual 225
      refine V_cV rfl rfl rfl rfl rfl (m_isNode hs hw hi6) ?_
      refine V_if_ne rfl (fun he => ?_) (fun he => ?_)
      · obtain ⟨v, e3⟩ := bI_som he
        obtain ⟨rfl, hvi⟩ := ix_some e3
        obtain ⟨n, hn⟩ : ∃ n, n = st.1.1 i := ⟨_, rfl⟩
        obtain ⟨C, hCe⟩ : ∃ C, C = st.1.2.1 i := ⟨_, rfl⟩
        have ev : aFar st (nI i) (nI u) (nI v) = dst (rowOf n C) n v (2 ^ u) n := by unfold aFar; rw [e1]; dsimp only; rw [e2, e3, hn, hCe]
        rw [ev]
        rw [← hn] at hui hvi
        have h7 : n ≤ 7 := by rw [hn]; exact hwi.1
        have hC : C < 2 ^ tri n := by rw [hn, hCe]; exact hwi.2
        have hg : ∀ w, rowOf n C w < 128 := fun w => row128 h7
        refine V_aload_n rfl rfl rfl ?_
        refine V_iload_n rfl rfl ?_
        -- at 35: .invokevirtual 201
        refine V_cV rfl rfl rfl rfl rfl (m_nodes hs hi6) ?_
        rw [← hn]
        refine V_istore (L' := [_, _, _, _, _, _, _, _, _]) rfl rfl rfl ?_
        refine V_ic (v := nI 1) rfl rfl ?_
        refine V_iload_n rfl rfl ?_
        refine V_ishl rfl ?_
        -- at 43: .istore 5
        rw [nI_2p _ (by omega)]
        refine V_istore (L' := [_, _, _, _, _, _, _, _, _]) rfl rfl rfl ?_
        refine V_ic (v := nI 0) rfl rfl ?_
        refine V_istore (L' := [_, _, _, _, _, _, _, _, _]) rfl rfl rfl ?_
        -- at 48: .iload 6
        have lp : ∀ r t s v7 v8, t + r = n → s < 128 → V S (dep + 20) 241 48 [.ref 188, .int (nI i), .int (nI u), .int (nI v), .int (nI n), .int (nI s), .int (nI t), v7, v8] [] h0 (MR h (dst (rowOf n C) n v s r, st)) := by
          intro r
          induction r with
          | zero =>
            intro t s v7 v8 ht hs2
            refine V_iload rfl rfl ?_
            refine V_iload rfl rfl ?_
            -- at 52: .if_icmp .ge 74
            refine V_icmp_ge rfl (fun hf => ?_) (fun hf => ?_)
            · refine V_ic (v := -1) rfl rfl ?_
              -- at 127: .ireturn
              refine V_iret rfl rfl ?_
              exact mq0 hi0 fm0
            · exact absurd (nI_le (by omega) (by omega)) hf
          | succ r ihr =>
            intro t s v7 v8 ht hs2
            refine V_iload rfl rfl ?_
            refine V_iload rfl rfl ?_
            -- at 52: .if_icmp .ge 74
            refine V_icmp_ge rfl (fun hf => ?_) (fun hf => ?_)
            · exact absurd hf (nI_ge (by omega) (by omega))
            · refine V_iload rfl rfl ?_
              refine V_iload_n rfl rfl ?_
              refine V_ishr rfl ?_
              refine V_ic (v := nI 1) rfl rfl ?_
              refine V_iand rfl ?_
              -- at 61: .iconst 1
              rw [tb_one (by omega) (by omega)]
              refine V_ic (v := nI 1) rfl rfl ?_
              -- at 62: .if_icmp .ne 6
              refine V_icmp_ne rfl (fun hj => ?_) (fun hj => ?_)
              · have hj : s.testBit v = false := by
                  cases q : s.testBit v with
                  | false => rfl
                  | true => rw [q] at hj; exact absurd rfl hj
                rw [dst, hj, if_neg (by simp)]
                refine V_iload rfl rfl ?_
                refine V_istore (L' := [_, _, _, _, _, _, _, _, _]) rfl rfl rfl ?_
                refine V_ic (v := nI 0) rfl rfl ?_
                refine V_istore (L' := [_, _, _, _, _, _, _, _, _]) rfl rfl rfl ?_
                -- at 75: .iload 8
                have lq := loopUp (P := fun w => V S (dep + 20) 241 75 [.ref 188, .int (nI i), .int (nI u), .int (nI v), .int (nI n), .int (nI s), .int (nI t), .int (nI (wnb (rowOf n C) s w)), .int (nI w)] [] h0 (MR h (dst (rowOf n C) n v (wnb (rowOf n C) s n) r, st))) n ?_ ?_ 0 (Nat.zero_le _)
                · exact lq
                · refine V_iload rfl rfl ?_
                  refine V_iload rfl rfl ?_
                  -- at 79: .if_icmp .ge 37
                  refine V_icmp_ge rfl (fun hk => ?_) (fun hk => ?_)
                  · refine V_iload rfl rfl ?_
                    refine V_istore (L' := [_, _, _, _, _, _, _, _, _]) rfl rfl rfl ?_
                    refine V_iinc (L' := [_, _, _, _, _, _, _, _, _]) rfl rfl rfl ?_
                    refine V_goto rfl ?_
                    -- at 48: .iload 6
                    rw [show Int32.ofInt 1 = nI 1 from rfl, nI_add]
                    exact ihr (t + 1) _ _ _ (by omega) (wnb_lt hg hs2 n)
                  · exact absurd (nI_le (Nat.le_refl _) (by omega)) hk
                · intro w hwn ih2
                  rw [wnb] at ih2
                  refine V_iload rfl rfl ?_
                  refine V_iload rfl rfl ?_
                  -- at 79: .if_icmp .ge 37
                  refine V_icmp_ge rfl (fun hk => ?_) (fun hk => ?_)
                  · exact absurd hk (nI_ge hwn (by omega))
                  · refine V_iload rfl rfl ?_
                    refine V_iload rfl rfl ?_
                    refine V_ishr rfl ?_
                    refine V_ic (v := nI 1) rfl rfl ?_
                    -- at 88: .iand
                    refine V_iand rfl ?_
                    -- at 89: .iconst 1
                    rw [tb_one (by omega) (by omega)]
                    refine V_ic (v := nI 1) rfl rfl ?_
                    -- at 90: .if_icmp .ne 20
                    refine V_icmp_ne rfl (fun hl => ?_) (fun hl => ?_)
                    · have hl : s.testBit w = false := by
                        cases q : s.testBit w with
                        | false => rfl
                        | true => rw [q] at hl; exact absurd rfl hl
                      rw [hl, if_neg (by simp)] at ih2
                      refine V_iinc (L' := [_, _, _, _, _, _, _, _, _]) rfl rfl rfl ?_
                      refine V_goto rfl ?_
                      -- at 75: .iload 8
                      rw [show Int32.ofInt 1 = nI 1 from rfl, nI_add]
                      exact ih2
                    · have hl := bI_one.mp (Decidable.of_not_not hl)
                      rw [if_pos hl] at ih2
                      refine V_iload rfl rfl ?_
                      refine V_iload rfl rfl ?_
                      refine V_aload_n rfl rfl rfl ?_
                      refine V_iload_n rfl rfl ?_
                      -- at 99: .invokevirtual 204
                      refine V_cV rfl rfl rfl rfl rfl (m_code hs hi6) ?_
                      rw [← hCe]
                      refine V_iload rfl rfl ?_
                      -- at 104: .invokestatic 112
                      refine V_cS rfl rfl rfl rfl (m_near h7 (c21 h7 hC) (by omega)) ?_
                      rw [mnr_row hwn]
                      refine V_ior rfl ?_
                      -- at 108: .istore 7
                      rw [nI_or]
                      refine V_istore (L' := [_, _, _, _, _, _, _, _, _]) rfl rfl rfl ?_
                      refine V_iinc (L' := [_, _, _, _, _, _, _, _, _]) rfl rfl rfl ?_
                      refine V_goto rfl ?_
                      -- at 75: .iload 8
                      rw [show Int32.ofInt 1 = nI 1 from rfl, nI_add]
                      exact ih2
              · have hj := bI_one.mp (Decidable.of_not_not hj)
                rw [dst, if_pos hj, show n - (r + 1) = t by omega]
                refine V_iload rfl rfl ?_
                -- at 67: .ireturn
                refine V_iret rfl rfl ?_
                exact mq0 hi0 fm0
        exact lp n 0 _ _ _ (by omega) (Nat.lt_of_lt_of_le (Nat.pow_lt_pow_right (by decide) (show u < 7 by omega)) (by decide))
      · have he := bI_non (Decidable.of_not_not he)
        exact bad (by unfold aFar; rw [e1]; dsimp only; rw [e2, he])
