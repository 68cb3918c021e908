/-! the reference: questions on decks -/
theorem y_card {S : mScr} {dep : Nat} {x y : Int32} {st : St} {h : Hp} (hi : InvM h st) : Cal S (dep + 20) 242 [.ref 188, .int x, .int y] h (MR h (aCard st x y, st)) := by
  obtain ⟨hi0, fm0⟩ := hi.thr
  obtain ⟨h0, hh0⟩ : ∃ h0, h0 = wI h 188 4 (nI 0) := ⟨_, rfl⟩
  rw [← hh0] at hi0 fm0
  obtain ⟨hs, hw, _⟩ := id hi0
  show V S (dep + 20) 242 0 [.ref 188, .int x, .int y] [] h _
  refine V_aload_n rfl rfl rfl ?_
  refine V_ic (v := nI 0) rfl rfl ?_
  refine V_pi 4 rfl rfl rfl rfl ?_
  refine V_iload_n rfl rfl ?_
  refine V_i2l rfl ?_
  refine V_lc (v := 0) rfl rfl ?_
  refine V_l2 (v := 2) rfl rfl ?_
  -- at 11: .invokestatic 134
  rw [← hh0]
  refine V_cS rfl rfl rfl rfl (m_isIn) ?_
  rw [Int32.toInt_toInt64, show (0 : Int64).toInt = 0 from rfl, show (2 : Int64).toInt = 2 from rfl]
  rw [show decide (0 ≤ x.toInt ∧ x.toInt ≤ 2) = (ix 3 x).isSome by rw [ix_is]; exact decide_eq_decide.mpr (by omega)]
  refine V_if_ne rfl (fun hc => ?_) (fun hc => ?_)
  · obtain ⟨d, e1⟩ := bI_som hc
    obtain ⟨rfl, hd3⟩ := ix_some e1
    have h7 := hw.dl hd3
    obtain ⟨cs, hcs⟩ : ∃ cs, cs = st.1.2.2 d := ⟨_, rfl⟩
    have ev : aCard st (nI d) y = if y = -1 then (if cs.length = 0 then -1 else nI cs.length) else match ix cs.length y with
      | some k => nI (cs.getD k 0)
      | none => -2 := by unfold aCard; rw [e1, hcs]; rfl
    rw [ev]
    rw [← hcs] at h7
    refine V_iload_n rfl rfl ?_
    refine V_ic (v := -1) rfl rfl ?_
    -- at 22: .if_icmp .ne 21
    refine V_icmp_ne rfl (fun hd => ?_) (fun hd => ?_)
    · rw [if_neg hd]
      refine V_aload_n rfl rfl rfl ?_
      refine V_iload_n rfl rfl ?_
      refine V_iload_n rfl rfl ?_
      -- at 46: .invokevirtual 249
      refine V_cV rfl rfl rfl rfl rfl (m_isCard hs hw) ?_
      rw [dln_nI hd3, ← hcs]
      refine V_if_eq rfl (fun he => ?_) (fun he => ?_)
      · have he := bI_non he
        rw [he]
        refine V_bi (v := -2) rfl rfl ?_
        -- at 63: .ireturn
        refine V_iret rfl rfl ?_
        exact mq0 hi0 fm0
      · obtain ⟨k, e2⟩ := bI_som he
        obtain ⟨rfl, hk⟩ := ix_some e2
        rw [e2]
        refine V_aload_n rfl rfl rfl ?_
        refine V_iload_n rfl rfl ?_
        refine V_iload_n rfl rfl ?_
        -- at 55: .invokevirtual 216
        refine V_cV rfl rfl rfl rfl rfl (m_cardOf hs hd3 (by omega)) ?_
        rw [← hcs]
        refine V_goto rfl ?_
        -- at 63: .ireturn
        refine V_iret rfl rfl ?_
        exact mq0 hi0 fm0
    · have hd := Decidable.of_not_not hd
      rw [if_pos hd]
      refine V_aload_n rfl rfl rfl ?_
      refine V_iload_n rfl rfl ?_
      -- at 27: .invokevirtual 209
      refine V_cV rfl rfl rfl rfl rfl (m_deckOf hs) ?_
      rw [dln_nI hd3, ← hcs]
      refine V_if_ne rfl (fun he => ?_) (fun he => ?_)
      · rw [if_neg (fun q => he (by rw [q]; rfl))]
        refine V_aload_n rfl rfl rfl ?_
        refine V_iload_n rfl rfl ?_
        -- at 39: .invokevirtual 209
        refine V_cV rfl rfl rfl rfl rfl (m_deckOf hs) ?_
        rw [dln_nI hd3, ← hcs]
        refine V_iret rfl rfl ?_
        exact mq0 hi0 fm0
      · have he := nI_inj (b := 0) (by omega) (by omega) (Decidable.of_not_not he)
        rw [if_pos he]
        refine V_ic (v := -1) rfl rfl ?_
        refine V_goto rfl ?_
        -- at 42: .ireturn
        refine V_iret rfl rfl ?_
        exact mq0 hi0 fm0
  · have hc := bI_non (Decidable.of_not_not hc)
    have ev : aCard st x y = -2 := by unfold aCard; rw [hc]
    rw [ev]
    refine V_bi (v := -2) rfl rfl ?_
    -- at 19: .ireturn
    refine V_iret rfl rfl ?_
    exact mq0 hi0 fm0
theorem y_degr {S : mScr} {dep : Nat} {x y : Int32} {st : St} {h : Hp} (hi : InvM h st) : Cal S (dep + 20) 249 [.ref 188, .int x, .int y] h (MR h (aDegr st x y, st)) := by
  obtain ⟨hi0, fm0⟩ := hi.thr
  obtain ⟨h0, hh0⟩ : ∃ h0, h0 = wI h 188 4 (nI 0) := ⟨_, rfl⟩
  rw [← hh0] at hi0 fm0
  obtain ⟨hs, hw, _⟩ := id hi0
  show V S (dep + 20) 249 0 [.ref 188, .int x, .int y, .null] [] h _
  refine V_aload_n rfl rfl rfl ?_
  refine V_ic (v := nI 0) rfl rfl ?_
  refine V_pi 4 rfl rfl rfl rfl ?_
  refine V_aload_n rfl rfl rfl ?_
  refine V_iload_n rfl rfl ?_
  refine V_iload_n rfl rfl ?_
  -- at 8: .invokevirtual 249
  rw [← hh0]
  refine V_cV rfl rfl rfl rfl rfl (m_isCard hs hw) ?_
  refine V_if_ne rfl (fun hc => ?_) (fun hc => ?_)
  · obtain ⟨k, e1⟩ := bI_som hc
    obtain ⟨rfl, hk⟩ := ix_some e1
    obtain ⟨d, e3, rfl, hd3, e4⟩ := dln_pos (s := st.1) (x := x) (by omega)
    rw [e4] at hk
    have hWd := hw.wd hd3 (by omega)
    obtain ⟨cs, hcs⟩ : ∃ cs, cs = st.1.2.2 d := ⟨_, rfl⟩
    have ev : aDegr st (nI d) (nI k) = match tldL cs with
      | none => -1
      | some t => nI 100 + nI t - nI (pop (cs.getD k 0)) := by unfold aDegr; rw [e1, e3, hcs]; rfl
    rw [ev]
    refine V_aload_n rfl rfl rfl ?_
    refine V_iload_n rfl rfl ?_
    -- at 19: .invokevirtual 252
    refine V_callV rfl rfl rfl rfl rfl (m_takes hs hw hd3) ?_
    rintro _ h1 ⟨rfl, hA1, f1⟩
    rw [← hcs] at hA1 hWd hk
    show V S (dep + 20) 249 22 [.ref 188, .int (nI d), .int (nI k), .null] [] h1 _
    have hs1 := hs.mf f1 (by simp)
    have hb21 : ∀ x ∈ cs, x < 2 ^ 21 := fun x hx => c21 (by have := hWd.2.1; omega) (hWd.2.2.2 x hx).1
    refine V_aload_n rfl rfl rfl ?_
    refine V_aload_n rfl rfl rfl ?_
    refine V_iload_n rfl rfl ?_
    -- at 25: .invokevirtual 209
    refine V_cV rfl rfl rfl rfl rfl (m_deckOf hs1) ?_
    rw [dln_nI hd3, ← hcs]
    refine V_cV rfl rfl rfl rfl rfl (m_toldL hA1 hWd) ?_
    refine V_istore_n (L' := [_, _, _, _]) rfl rfl rfl ?_
    refine V_iload_n rfl rfl ?_
    refine V_ic (v := -1) rfl rfl ?_
    -- at 34: .if_icmp .ne 7
    cases ht : tldL cs with
    | none =>
      refine V_icmp_ne rfl (fun hd => ?_) (fun hd => ?_)
      · exact absurd rfl hd
      · refine V_ic (v := -1) rfl rfl ?_
        refine V_goto rfl ?_
        -- at 55: .ireturn
        refine V_iret rfl rfl ?_
        exact mq hi0 fm0 f1 (by simp) (by simp; rfl) (by simp)
    | some t =>
      have htl := tldL_le hb21 hWd.2.1 ht
      refine V_icmp_ne rfl (fun hd => ?_) (fun hd => ?_)
      · show V S (dep + 20) 249 41 [.ref 188, .int (nI d), .int (nI k), .int (nI t)] [] h1 _
        have hck := hb21 _ (getD_mem hk)
        have hw7 := hWd.2.1
        refine V_bi (v := nI 100) rfl rfl ?_
        refine V_iload_n rfl rfl ?_
        refine V_iadd rfl ?_
        refine V_aload_n rfl rfl rfl ?_
        refine V_getR (r := 195) rfl rfl ?_
        refine V_iload_n rfl rfl ?_
        refine V_al 7 rfl rfl (by first | with_reducible rfl | assumption | exact nI_sub (by omega) | exact nI_add _ _) (by first | omega | assumption) rfl ?_
        -- at 51: .invokestatic 232
        rw [hA1 k hk]
        refine V_cS rfl rfl rfl rfl (m_lines (by omega)) ?_
        refine V_isub rfl ?_
        -- at 55: .ireturn
        refine V_iret rfl rfl ?_
        exact mq hi0 fm0 f1 (by simp) (by simp; rfl) (by simp)
      · exact absurd ((oI_none (o := some t) (fun x hx => by cases hx; omega)).mp (Decidable.of_not_not hd)) (by simp)
  · have hc := bI_non (Decidable.of_not_not hc)
    have ev : aDegr st x y = -2 := by unfold aDegr; rw [hc]
    rw [ev]
    refine V_bi (v := -2) rfl rfl ?_
    -- at 16: .ireturn
    refine V_iret rfl rfl ?_
    exact mq0 hi0 fm0
theorem y_tolp {S : mScr} {dep : Nat} {x y : Int32} {st : St} {h : Hp} (hi : InvM h st) : Cal S (dep + 20) 250 [.ref 188, .int x, .int y] h (MR h (aTolP st x y, st)) := by
  obtain ⟨hi0, fm0⟩ := hi.thr
  obtain ⟨h0, hh0⟩ : ∃ h0, h0 = wI h 188 4 (nI 0) := ⟨_, rfl⟩
  rw [← hh0] at hi0 fm0
  obtain ⟨hs, hw, _⟩ := id hi0
  have hdl := dln_le (x := x) hw
  show V S (dep + 20) 250 0 [.ref 188, .int x, .int y, .null] [] h _
  have bad : aTolP st x y = -2 → ∀ v3, V S (dep + 20) 250 22 [.ref 188, .int x, .int y, v3] [] h0 (MR h (aTolP st x y, st)) := by
    intro e v3
    rw [e]
    refine V_bi (v := -2) rfl rfl ?_
    -- at 24: .ireturn
    refine V_iret rfl rfl ?_
    exact mq0 hi0 fm0
  refine V_aload_n rfl rfl rfl ?_
  refine V_ic (v := nI 0) rfl rfl ?_
  refine V_pi 4 rfl rfl rfl rfl ?_
  refine V_aload_n rfl rfl rfl ?_
  refine V_iload_n rfl rfl ?_
  -- at 7: .invokevirtual 209
  rw [← hh0]
  refine V_cV rfl rfl rfl rfl rfl (m_deckOf hs) ?_
  refine V_istore_n (L' := [_, _, _, _]) rfl rfl rfl ?_
  refine V_iload_n rfl rfl ?_
  -- at 12: .ifCond .eq 10
  refine V_if_eq rfl (fun hc => ?_) (fun hc => ?_)
  · have hc := dkO_no (nI_inj (b := 0) (by omega) (by omega) hc)
    exact bad (by unfold aTolP; rw [hc]) _
  · obtain ⟨d, ed⟩ := dkO_yes (s := st.1) (x := x) (fun q => hc (by rw [q]; rfl))
    obtain ⟨_, rfl, hd3, e4, hpos⟩ := dkO_some ed
    refine V_iload_n rfl rfl ?_
    -- at 16: .invokestatic 222
    refine V_cS rfl rfl rfl rfl (m_isSlot) ?_
    refine V_if_ne rfl (fun hd => ?_) (fun hd => ?_)
    · obtain ⟨i, e2⟩ := bI_som hd
      obtain ⟨rfl, hi6⟩ := ix_some e2
      have hwi := hw.1 i hi6
      have hWd := hw.wd hd3 hpos
      obtain ⟨cs, hcs⟩ : ∃ cs, cs = st.1.2.2 d := ⟨_, rfl⟩
      have ev : aTolP st (nI d) (nI i) = if st.1.1 i < 1 ∨ cs.length < st.1.1 i + 1 ∨ cs.length = 2 then -5 else oI (shO (pts cs (st.1.1 i) (frm (st.1.1 i) (st.1.2.1 i))) (cs.length - st.1.1 i)) := by unfold aTolP; rw [ed, e2, hcs]
      rw [ev, e4, ← hcs]
      rw [← hcs] at hWd
      have hw7 := hWd.2.1
      have hw2 := hWd.1
      have no : (st.1.1 i < 1 ∨ cs.length < st.1.1 i + 1 ∨ cs.length = 2) → V S (dep + 20) 250 47 [.ref 188, .int (nI d), .int (nI i), .int (nI cs.length)] [] h0 (MR h (if st.1.1 i < 1 ∨ cs.length < st.1.1 i + 1 ∨ cs.length = 2 then -5 else oI (shO (pts cs (st.1.1 i) (frm (st.1.1 i) (st.1.2.1 i))) (cs.length - st.1.1 i)), st)) := by
        intro e
        rw [if_pos e]
        refine V_bi (v := -5) rfl rfl ?_
        -- at 49: .ireturn
        refine V_iret rfl rfl ?_
        exact mq0 hi0 fm0
      refine V_iload_n rfl rfl ?_
      refine V_ic (v := nI 2) rfl rfl ?_
      -- at 27: .if_icmp .eq 20
      refine V_icmp_eq rfl (fun hg => ?_) (fun hg => ?_)
      · exact no (Or.inr (Or.inr (nI_inj (by omega) (by omega) hg)))
      · have hg : ¬ cs.length = 2 := fun q => hg (by rw [q])
        refine V_aload_n rfl rfl rfl ?_
        refine V_iload_n rfl rfl ?_
        -- at 32: .invokevirtual 201
        refine V_cV rfl rfl rfl rfl rfl (m_nodes hs hi6) ?_
        refine V_i2l rfl ?_
        refine V_lc (v := 1) rfl rfl ?_
        refine V_iload_n rfl rfl ?_
        refine V_ic (v := nI 1) rfl rfl ?_
        refine V_isub rfl ?_
        refine V_i2l rfl ?_
        -- at 41: .invokestatic 134
        rw [nI_sub (by omega)]
        refine V_cS rfl rfl rfl rfl (m_isIn) ?_
        rw [Int32.toInt_toInt64, Int32.toInt_toInt64, show (1 : Int64).toInt = 1 from rfl, nI_toInt (by omega), nI_toInt (by omega)]
        refine V_if_ne rfl (fun he => ?_) (fun he => ?_)
        · have he := of_decide_eq_true (bI_nz.mp he)
          rw [if_neg (by omega)]
          refine V_aload_n rfl rfl rfl ?_
          refine V_iload_n rfl rfl ?_
          -- at 52: .invokevirtual 252
          refine V_callV rfl rfl rfl rfl rfl (m_takes hs hw hd3) ?_
          rintro _ h1 ⟨rfl, hA1, f1⟩
          rw [← hcs] at hA1
          show V S (dep + 20) 250 55 [.ref 188, .int (nI d), .int (nI i), .int (nI cs.length)] [] h1 _
          have hs1 := hs.mf f1 (by simp)
          refine V_aload_n rfl rfl rfl ?_
          refine V_iload_n rfl rfl ?_
          refine V_aload_n rfl rfl rfl ?_
          refine V_iload_n rfl rfl ?_
          -- at 59: .invokevirtual 201
          refine V_cV rfl rfl rfl rfl rfl (m_nodes hs1 hi6) ?_
          refine V_aload_n rfl rfl rfl ?_
          refine V_iload_n rfl rfl ?_
          -- at 64: .invokevirtual 238
          refine V_callV rfl rfl rfl rfl rfl (m_fof hs1 hw hi6) ?_
          rintro _ h2 ⟨rfl, f2⟩
          show V S (dep + 20) 250 67 [.ref 188, .int (nI d), .int (nI i), .int (nI cs.length)] [.int (nI (frm (st.1.1 i) (st.1.2.1 i))), .int (nI (st.1.1 i)), .int (nI cs.length), .ref 188] h2 _
          have hA2 := hA1.mf f2 (by simp) (by decide)
          refine V_callV rfl rfl rfl rfl rfl (m_toldO hA2 hWd (by omega) (frm21 hwi.1)) ?_
          rintro _ h3 ⟨rfl, f3⟩
          refine V_iret rfl rfl ?_
          exact mq hi0 fm0 (((f1.mono (gs := [6, 7]) (B := [192, 193, 195]) (by simp) (by simp)).tr (f2.mono (by simp) (by simp))).tr (f3.mono (by simp) (by simp))) (by simp; decide) (by simp; decide) (by simp)
        · have he := of_decide_eq_false (bI_z.mp (Decidable.of_not_not he))
          exact no (by omega)
    · have hd := bI_non (Decidable.of_not_not hd)
      exact bad (by unfold aTolP; rw [ed, hd]) _
theorem y_reas {S : mScr} {dep : Nat} {x : Int32} {st : St} {h : Hp} (hi : InvM h st) : Cal S (dep + 20) 251 [.ref 188, .int x] h (MR h (aReas st x, st)) := by
  obtain ⟨hi0, fm0⟩ := hi.thr
  obtain ⟨h0, hh0⟩ : ∃ h0, h0 = wI h 188 4 (nI 0) := ⟨_, rfl⟩
  rw [← hh0] at hi0 fm0
  obtain ⟨hs, hw, _⟩ := id hi0
  have hdl := dln_le (x := x) hw
  show V S (dep + 20) 251 0 [.ref 188, .int x] [] h _
  refine V_aload_n rfl rfl rfl ?_
  refine V_ic (v := nI 0) rfl rfl ?_
  refine V_pi 4 rfl rfl rfl rfl ?_
  refine V_aload_n rfl rfl rfl ?_
  refine V_iload_n rfl rfl ?_
  -- at 7: .invokevirtual 209
  rw [← hh0]
  refine V_cV rfl rfl rfl rfl rfl (m_deckOf hs) ?_
  refine V_if_ne rfl (fun hc => ?_) (fun hc => ?_)
  · obtain ⟨d, ed⟩ := dkO_yes (s := st.1) (x := x) (fun q => hc (by rw [q]; rfl))
    obtain ⟨_, rfl, hd3, e4, hpos⟩ := dkO_some ed
    have hWd := hw.wd hd3 hpos
    obtain ⟨cs, hcs⟩ : ∃ cs, cs = st.1.2.2 d := ⟨_, rfl⟩
    have ev : aReas st (nI d) = nI (rsnF cs) := by unfold aReas; rw [ed, hcs]
    rw [ev]
    refine V_aload_n rfl rfl rfl ?_
    refine V_iload_n rfl rfl ?_
    -- at 18: .invokevirtual 252
    refine V_callV rfl rfl rfl rfl rfl (m_takes hs hw hd3) ?_
    rintro _ h1 ⟨rfl, hA1, f1⟩
    rw [← hcs] at hA1 hWd
    show V S (dep + 20) 251 21 [.ref 188, .int (nI d)] [] h1 _
    have hs1 := hs.mf f1 (by simp)
    refine V_aload_n rfl rfl rfl ?_
    refine V_aload_n rfl rfl rfl ?_
    refine V_iload_n rfl rfl ?_
    -- at 24: .invokevirtual 209
    refine V_cV rfl rfl rfl rfl rfl (m_deckOf hs1) ?_
    rw [dln_nI hd3, ← hcs]
    refine V_callV rfl rfl rfl rfl rfl (m_why hA1 hWd) ?_
    rintro _ h2 ⟨rfl, f2⟩
    refine V_iret rfl rfl ?_
    exact mq hi0 fm0 ((f1.mono (gs := [6, 7]) (B := [192, 193, 195, 206, 207]) (by simp) (by simp)).tr (f2.mono (by simp) (by simp))) (by simp; decide) (by simp; decide) (by simp)
  · have hc := dkO_no (nI_inj (b := 0) (by omega) (by omega) (Decidable.of_not_not hc))
    have ev : aReas st x = -2 := by unfold aReas; rw [hc]
    rw [ev]
    refine V_bi (v := -2) rfl rfl ?_
    -- at 15: .ireturn
    refine V_iret rfl rfl ?_
    exact mq0 hi0 fm0
theorem y_answ {S : mScr} {dep : Nat} {x k : Int32} {st : St} {h : Hp} (hi : InvM h st) : Cal S (dep + 20) 252 [.ref 188, .int x, .int k] h (MR h (aAnsw st x k, st)) := by
  obtain ⟨hi0, fm0⟩ := hi.thr
  obtain ⟨h0, hh0⟩ : ∃ h0, h0 = wI h 188 4 (nI 0) := ⟨_, rfl⟩
  rw [← hh0] at hi0 fm0
  obtain ⟨hs, hw, _⟩ := id hi0
  have hdl := dln_le (x := x) hw
  show V S (dep + 20) 252 0 [.ref 188, .int x, .int k, .null] [] h _
  refine V_aload_n rfl rfl rfl ?_
  refine V_ic (v := nI 0) rfl rfl ?_
  refine V_pi 4 rfl rfl rfl rfl ?_
  refine V_aload_n rfl rfl rfl ?_
  refine V_iload_n rfl rfl ?_
  -- at 7: .invokevirtual 209
  rw [← hh0]
  refine V_cV rfl rfl rfl rfl rfl (m_deckOf hs) ?_
  refine V_if_ne rfl (fun hc => ?_) (fun hc => ?_)
  · obtain ⟨d, ed⟩ := dkO_yes (s := st.1) (x := x) (fun q => hc (by rw [q]; rfl))
    obtain ⟨_, rfl, hd3, e4, hpos⟩ := dkO_some ed
    have hWd := hw.wd hd3 hpos
    obtain ⟨cs, hcs⟩ : ∃ cs, cs = st.1.2.2 d := ⟨_, rfl⟩
    obtain ⟨l, hl⟩ : ∃ l, l = ansL cs := ⟨_, rfl⟩
    have ev : aAnsw st (nI d) k = kth l l.length k := by unfold aAnsw; rw [ed, hl, hcs]
    rw [ev]
    have hll : l.length ≤ 64 := by rw [hl, hcs]; exact ans_len hWd
    refine V_iload_n rfl rfl ?_
    refine V_ic (v := -1) rfl rfl ?_
    -- at 18: .if_icmp .ge 6
    refine V_icmp_ge rfl (fun hd => ?_) (fun hd => ?_)
    · refine V_aload_n rfl rfl rfl ?_
      refine V_iload_n rfl rfl ?_
      -- at 26: .invokevirtual 252
      refine V_callV rfl rfl rfl rfl rfl (m_takes hs hw hd3) ?_
      rintro _ h1 ⟨rfl, hA1, f1⟩
      rw [← hcs] at hA1 hWd
      show V S (dep + 20) 252 29 [.ref 188, .int (nI d), .int k, .null] [] h1 _
      have hs1 := hs.mf f1 (by simp)
      refine V_aload_n rfl rfl rfl ?_
      refine V_aload_n rfl rfl rfl ?_
      refine V_iload_n rfl rfl ?_
      -- at 32: .invokevirtual 209
      refine V_cV rfl rfl rfl rfl rfl (m_deckOf hs1) ?_
      rw [dln_nI hd3, ← hcs]
      refine V_callV rfl rfl rfl rfl rfl (m_ans hA1 hWd) ?_
      rintro _ h2 ⟨rfl, hA2, f2⟩
      rw [← hl] at hA2 ⊢
      show V S (dep + 20) 252 38 [.ref 188, .int (nI d), .int k, .null] [.int (nI l.length)] h2 _
      have f2 : MF [6, 7] [192, 193, 195, 206, 207] h0 h2 := (f1.mono (by simp) (by simp)).tr (f2.mono (by simp) (by simp))
      refine V_istore_n (L' := [_, _, _, _]) rfl rfl rfl ?_
      refine V_iload_n rfl rfl ?_
      refine V_ic (v := -1) rfl rfl ?_
      -- at 41: .if_icmp .ne 7
      refine V_icmp_ne rfl (fun he => ?_) (fun he => ?_)
      · have hk0 := ge_m1 hd he
        obtain ⟨q1, q2⟩ := kth_hi (l := l) (c := l.length) hk0 (by omega)
        refine V_iload_n rfl rfl ?_
        refine V_iload_n rfl rfl ?_
        -- at 50: .if_icmp .ge 12
        refine V_icmp_ge rfl (fun hf => ?_) (fun hf => ?_)
        · rw [q1 hf]
          refine V_ic (v := -1) rfl rfl ?_
          -- at 63: .ireturn
          refine V_iret rfl rfl ?_
          exact mq hi0 fm0 f2 (by simp; decide) (by simp; decide) (by simp)
        · obtain ⟨j, rfl, hj, e3⟩ := q2 hf
          rw [e3]
          refine V_aload_n rfl rfl rfl ?_
          refine V_getR (r := 206) rfl rfl ?_
          refine V_iload_n rfl rfl ?_
          refine V_al 64 rfl rfl (by first | with_reducible rfl | assumption | exact nI_sub (by omega) | exact nI_add _ _) (by first | omega | assumption) rfl ?_
          -- at 59: .goto 4
          rw [hA2 j hj]
          refine V_goto rfl ?_
          -- at 63: .ireturn
          refine V_iret rfl rfl ?_
          exact mq hi0 fm0 f2 (by simp; decide) (by simp; decide) (by simp)
      · have he := Decidable.of_not_not he
        rw [he, kth_m1]
        refine V_iload_n rfl rfl ?_
        refine V_goto rfl ?_
        -- at 63: .ireturn
        refine V_iret rfl rfl ?_
        exact mq hi0 fm0 f2 (by simp; decide) (by simp; decide) (by simp)
    · rw [kth_lo (lt_m1 hd)]
      refine V_bi (v := -3) rfl rfl ?_
      -- at 23: .ireturn
      refine V_iret rfl rfl ?_
      exact mq0 hi0 fm0
  · have hc := dkO_no (nI_inj (b := 0) (by omega) (by omega) (Decidable.of_not_not hc))
    have ev : aAnsw st x k = -2 := by unfold aAnsw; rw [hc]
    rw [ev]
    refine V_bi (v := -2) rfl rfl ?_
    -- at 15: .ireturn
    refine V_iret rfl rfl ?_
    exact mq0 hi0 fm0
theorem y_prov {S : mScr} {dep : Nat} {x w : Int32} {st : St} {h : Hp} (hi : InvM h st) : Cal S (dep + 20) 235 [.ref 188, .int x, .int w] h (MR h (aProv st x w, st)) := by
  obtain ⟨hi0, fm0⟩ := hi.thr
  obtain ⟨h0, hh0⟩ : ∃ h0, h0 = wI h 188 4 (nI 0) := ⟨_, rfl⟩
  rw [← hh0] at hi0 fm0
  obtain ⟨hs, hw, _⟩ := id hi0
  have hdl := dln_le (x := x) hw
  show V S (dep + 20) 235 0 [.ref 188, .int x, .int w, .null, .null, .null] [] h _
  have bad : aProv st x w = -2 → V S (dep + 20) 235 20 [.ref 188, .int x, .int w, .null, .null, .null] [] h0 (MR h (aProv st x w, st)) := by
    intro e
    rw [e]
    refine V_bi (v := -2) rfl rfl ?_
    -- at 22: .ireturn
    refine V_iret rfl rfl ?_
    exact mq0 hi0 fm0
  refine V_aload_n rfl rfl rfl ?_
  refine V_ic (v := nI 0) rfl rfl ?_
  refine V_pi 4 rfl rfl rfl rfl ?_
  refine V_aload_n rfl rfl rfl ?_
  refine V_iload_n rfl rfl ?_
  -- at 7: .invokevirtual 209
  rw [← hh0]
  refine V_cV rfl rfl rfl rfl rfl (m_deckOf hs) ?_
  refine V_if_eq rfl (fun hc => ?_) (fun hc => ?_)
  · have hc := dkO_no (nI_inj (b := 0) (by omega) (by omega) hc)
    exact bad (by unfold aProv; rw [hc])
  · obtain ⟨d, ed⟩ := dkO_yes (s := st.1) (x := x) (fun q => hc (by rw [q]; rfl))
    obtain ⟨_, rfl, hd3, e4, hpos⟩ := dkO_some ed
    refine V_iload_n rfl rfl ?_
    -- at 14: .invokestatic 304
    refine V_cS rfl rfl rfl rfl (m_isClass) ?_
    refine V_if_ne rfl (fun hd => ?_) (fun hd => ?_)
    · obtain ⟨j, e2⟩ := bI_som hd
      obtain ⟨rfl, hj6⟩ := ix_some e2
      have hWd := hw.wd hd3 hpos
      obtain ⟨cs, hcs⟩ : ∃ cs, cs = st.1.2.2 d := ⟨_, rfl⟩
      have ev : aProv st (nI d) (nI j) = prvA cs j := by unfold aProv; rw [ed, e2, hcs]
      rw [ev]
      refine V_aload_n rfl rfl rfl ?_
      refine V_iload_n rfl rfl ?_
      -- at 25: .invokevirtual 252
      refine V_callV rfl rfl rfl rfl rfl (m_takes hs hw hd3) ?_
      rintro _ h1 ⟨rfl, hA1, f1⟩
      rw [← hcs] at hA1 hWd
      have hw7 := hWd.2.1
      have hal := ans_len hWd
      have hao : aoc cs.length (ansL cs) j ≤ (ansL cs).length := cnt_le _ _
      show V S (dep + 20) 235 28 [.ref 188, .int (nI d), .int (nI j), .null, .null, .null] [] h1 _
      have hs1 := hs.mf f1 (by simp)
      refine V_aload_n rfl rfl rfl ?_
      refine V_aload_n rfl rfl rfl ?_
      refine V_iload_n rfl rfl ?_
      -- at 31: .invokevirtual 209
      refine V_cV rfl rfl rfl rfl rfl (m_deckOf hs1) ?_
      rw [dln_nI hd3, ← hcs]
      refine V_callV rfl rfl rfl rfl rfl (m_ans hA1 hWd) ?_
      rintro _ h2 ⟨rfl, hA2, f2⟩
      show V S (dep + 20) 235 37 [.ref 188, .int (nI d), .int (nI j), .null, .null, .null] [.int (nI (ansL cs).length)] h2 _
      have f2 : MF [6, 7] [192, 193, 195, 206, 207] h0 h2 := (f1.mono (by simp) (by simp)).tr (f2.mono (by simp) (by simp))
      obtain ⟨F, hF⟩ : ∃ F : Nat → Bool, F = fun i => isK cs.length ((ansL cs).getD i 0) j := ⟨_, rfl⟩
      refine V_istore_n (L' := [_, _, _, _, _, _]) rfl rfl rfl ?_
      refine V_ic (v := nI 0) rfl rfl ?_
      refine V_istore (L' := [_, _, _, _, _, _]) rfl rfl rfl ?_
      refine V_ic (v := nI 0) rfl rfl ?_
      refine V_istore (L' := [_, _, _, _, _, _]) rfl rfl rfl ?_
      -- at 44: .iload 5
      have lp := loopUp (P := fun k => ∀ h3, MF [6, 7] [192, 193, 195, 206, 207] h0 h3 → AL h3 206 (ansL cs) → V S (dep + 20) 235 44 [.ref 188, .int (nI d), .int (nI j), .int (nI (ansL cs).length), .int (nI (cnt F k)), .int (nI k)] [] h3 (MR h (prvA cs j, st))) (ansL cs).length ?_ ?_ 0 (Nat.zero_le _)
      · exact lp h2 f2 hA2
      · intro h3 f3 hA3
        have eA : cnt F (ansL cs).length = aoc cs.length (ansL cs) j := by rw [hF]; rfl
        rw [eA]
        have none : ((ansL cs).length = 0 ∨ (aoc cs.length (ansL cs) j ≠ 0 ∧ aoc cs.length (ansL cs) j ≠ (ansL cs).length)) → V S (dep + 20) 235 101 [.ref 188, .int (nI d), .int (nI j), .int (nI (ansL cs).length), .int (nI (aoc cs.length (ansL cs) j)), .int (nI (ansL cs).length)] [] h3 (MR h (prvA cs j, st)) := by
          intro e
          unfold prvA
          rw [if_pos e]
          refine V_ic (v := -1) rfl rfl ?_
          refine V_goto rfl ?_
          -- at 115: .ireturn
          refine V_iret rfl rfl ?_
          exact mq hi0 fm0 f3 (by simp; decide) (by simp; decide) (by simp)
        have some1 : ¬ ((ansL cs).length = 0 ∨ (aoc cs.length (ansL cs) j ≠ 0 ∧ aoc cs.length (ansL cs) j ≠ (ansL cs).length)) → V S (dep + 20) 235 105 [.ref 188, .int (nI d), .int (nI j), .int (nI (ansL cs).length), .int (nI (aoc cs.length (ansL cs) j)), .int (nI (ansL cs).length)] [] h3 (MR h (prvA cs j, st)) := by
          intro e
          unfold prvA
          rw [if_neg e]
          refine V_iload rfl rfl ?_
          -- at 107: .ifCond .le 7
          refine V_if_le rfl (fun hk => ?_) (fun hk => ?_)
          · have hk := (nI_leI (b := 0) (by omega) (by omega)).mp hk
            rw [if_pos (by omega)]
            refine V_ic (v := nI 0) rfl rfl ?_
            -- at 115: .ireturn
            refine V_iret rfl rfl ?_
            exact mq hi0 fm0 f3 (by simp; decide) (by simp; decide) (by simp)
          · have hk : ¬ aoc cs.length (ansL cs) j = 0 := fun q => hk (by rw [q]; decide)
            rw [if_neg hk]
            refine V_ic (v := nI 1) rfl rfl ?_
            refine V_goto rfl ?_
            -- at 115: .ireturn
            refine V_iret rfl rfl ?_
            exact mq hi0 fm0 f3 (by simp; decide) (by simp; decide) (by simp)
        refine V_iload rfl rfl ?_
        refine V_iload_n rfl rfl ?_
        -- at 47: .if_icmp .ge 39
        refine V_icmp_ge rfl (fun he => ?_) (fun he => ?_)
        · refine V_iload_n rfl rfl ?_
          -- at 87: .ifCond .eq 14
          refine V_if_eq rfl (fun hf => ?_) (fun hf => ?_)
          · exact none (Or.inl (nI_inj (b := 0) (by omega) (by omega) hf))
          · have hf : ¬ (ansL cs).length = 0 := fun q => hf (by rw [q]; rfl)
            refine V_iload rfl rfl ?_
            -- at 92: .ifCond .le 13
            refine V_if_le rfl (fun hg => ?_) (fun hg => ?_)
            · have hg := (nI_leI (b := 0) (by omega) (by omega)).mp hg
              exact some1 (by omega)
            · have hg : ¬ aoc cs.length (ansL cs) j = 0 := fun q => hg (by rw [q]; decide)
              refine V_iload rfl rfl ?_
              refine V_iload_n rfl rfl ?_
              -- at 98: .if_icmp .ge 7
              refine V_icmp_ge rfl (fun hk => ?_) (fun hk => ?_)
              · have hk := (nI_leI (by omega) (by omega)).mp hk
                exact some1 (by omega)
              · have hk := nI_ngt (by omega) (by omega) hk
                exact none (Or.inr ⟨hg, by omega⟩)
        · exact absurd (nI_le (Nat.le_refl _) (by omega)) he
      · intro k hk ih h3 f3 hA3
        have hs3 := hs.mf f3 (by simp)
        rw [cnt] at ih
        have hFk : F k = isK cs.length ((ansL cs).getD k 0) j := by rw [hF]
        have up : ∀ h4 dd, MF [6, 7] [192, 193, 195, 206, 207] h0 h4 → AL h4 206 (ansL cs) → dd = (if F k = true then 1 else 0) → V S (dep + 20) 235 77 [.ref 188, .int (nI d), .int (nI j), .int (nI (ansL cs).length), .int (nI (cnt F k)), .int (nI k)] [.int (nI dd), .int (nI (cnt F k))] h4 (MR h (prvA cs j, st)) := by
          intro h4 dd f4 hA4 e
          refine V_iadd rfl ?_
          -- at 78: .istore 4
          rw [nI_add, e]
          refine V_istore (L' := [_, _, _, _, _, _]) rfl rfl rfl ?_
          refine V_iinc (L' := [_, _, _, _, _, _]) rfl rfl rfl ?_
          refine V_goto rfl ?_
          -- at 44: .iload 5
          rw [show Int32.ofInt 1 = nI 1 from rfl, nI_add]
          exact ih h4 f4 hA4
        refine V_iload rfl rfl ?_
        refine V_iload_n rfl rfl ?_
        -- at 47: .if_icmp .ge 39
        refine V_icmp_ge rfl (fun he => ?_) (fun he => ?_)
        · exact absurd he (nI_ge hk (by omega))
        · refine V_iload rfl rfl ?_
          refine V_aload_n rfl rfl rfl ?_
          refine V_aload_n rfl rfl rfl ?_
          refine V_iload_n rfl rfl ?_
          -- at 55: .invokevirtual 209
          refine V_cV rfl rfl rfl rfl rfl (m_deckOf hs3) ?_
          rw [dln_nI hd3, ← hcs]
          refine V_aload_n rfl rfl rfl ?_
          refine V_getR (r := 206) rfl rfl ?_
          refine V_iload rfl rfl ?_
          refine V_al 64 rfl rfl (by first | with_reducible rfl | assumption | exact nI_sub (by omega) | exact nI_add _ _) (by first | omega | assumption) rfl ?_
          refine V_iload_n rfl rfl ?_
          -- at 66: .invokevirtual 307
          rw [hA3 k hk]
          refine V_callV rfl rfl rfl rfl rfl (m_isK hw7 (ans_b hw7 _ (getD_mem hk)) hj6) ?_
          rintro _ h4 ⟨rfl, f4⟩
          show V S (dep + 20) 235 69 [.ref 188, .int (nI d), .int (nI j), .int (nI (ansL cs).length), .int (nI (cnt F k)), .int (nI k)] [.int (bI (isK cs.length ((ansL cs).getD k 0) j)), .int (nI (cnt F k))] h4 _
          have hA4 := hA3.mf f4 (by simp) (by decide)
          have f4 : MF [6, 7] [192, 193, 195, 206, 207] h0 h4 := f3.tr (f4.mono (by simp) (by simp))
          refine V_if_eq rfl (fun hf => ?_) (fun hf => ?_)
          · have hf := bI_z.mp hf
            refine V_ic (v := nI 0) rfl rfl ?_
            -- at 77: .iadd
            exact up h4 0 f4 hA4 (by rw [hFk, hf]; rfl)
          · have hf := bI_nz.mp hf
            refine V_ic (v := nI 1) rfl rfl ?_
            refine V_goto rfl ?_
            -- at 77: .iadd
            exact up h4 1 f4 hA4 (by rw [hFk, hf]; rfl)
    · have hd := bI_non (Decidable.of_not_not hd)
      exact bad (by unfold aProv; rw [ed, hd])
