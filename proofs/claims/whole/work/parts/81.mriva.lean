/-! the reference: rivals -/
theorem list_eq {xs ys : List Nat} (hl : xs.length = ys.length) (h : ∀ i, i < xs.length → xs.getD i 0 = ys.getD i 0) : xs = ys := by
  refine List.ext_getElem hl (fun i h1 h2 => ?_)
  have := h i h1
  rw [List.getD_eq_getElem?_getD, List.getD_eq_getElem?_getD, List.getElem?_eq_getElem h1, List.getElem?_eq_getElem h2] at this
  exact this
theorem m_ar {S : mScr} {dep n f D : Nat} {h : Hp} (hn : n ≤ 7) (hf : f < 2 ^ tri n) (hD : D < 2 ^ tri n) (hA : AL h 200 (ldk n f)) : Cal S (dep + 13) 226 [.ref 188, .int (nI n), .int (nI f), .int (nI D)] h (fun q h' => q = some (.int (bI (decide (pop D = pop f) && decide (ldk n D = ldk n f)))) ∧ MF [6, 7] [192, 193, 201] h h') := by
  have hf21 := c21 hn hf
  have hD21 := c21 hn hD
  have hpf := pop21 hf21
  have hpD := pop21 hD21
  have hl1 : (ldk n f).length = pop f := ldk_len hn hf
  have hl2 : (ldk n D).length = pop D := ldk_len hn hD
  show V S (dep + 13) 226 0 [.ref 188, .int (nI n), .int (nI f), .int (nI D), .null, .null] [] h _
  refine V_iload_n rfl rfl ?_
  -- at 1: .invokestatic 232
  refine V_cS rfl rfl rfl rfl (m_lines (by omega)) ?_
  refine V_iload_n rfl rfl ?_
  -- at 5: .invokestatic 232
  refine V_cS rfl rfl rfl rfl (m_lines (by omega)) ?_
  refine V_icmp_eq rfl (fun hc => ?_) (fun hc => ?_)
  · have hc := nI_inj (by omega) (by omega) hc
    refine V_aload_n rfl rfl rfl ?_
    refine V_iload_n rfl rfl ?_
    refine V_iload_n rfl rfl ?_
    refine V_aload_n rfl rfl rfl ?_
    refine V_getR (r := 201) rfl rfl ?_
    -- at 20: .invokevirtual 287
    refine V_callV rfl rfl rfl rfl rfl (m_ldk (r := 201) hn hD rfl rfl (by decide) (by decide) (by decide)) ?_
    rintro _ h1 ⟨rfl, hA1, f1⟩
    show V S (dep + 13) 226 23 [.ref 188, .int (nI n), .int (nI f), .int (nI D), .null, .null] [.int (nI (pop D))] h1 _
    have hA0 := hA.mf f1 (by simp) (by decide)
    have hb1 : ∀ i, (ldk n f).getD i 0 < 2 ^ 21 := fun i => getD_lt (fun x hx => lfL21 hn (srt_mem.mp hx)) (by decide)
    have hb2 : ∀ i, (ldk n D).getD i 0 < 2 ^ 21 := fun i => getD_lt (fun x hx => lfL21 hn (srt_mem.mp hx)) (by decide)
    have ed : decide (pop D = pop f) = true := decide_eq_true hc.symm
    rw [ed, Bool.true_and]
    refine V_istore (L' := [_, _, _, _, _, _]) rfl rfl rfl ?_
    refine V_ic (v := nI 0) rfl rfl ?_
    refine V_istore (L' := [_, _, _, _, _, _]) rfl rfl rfl ?_
    -- at 28: .iload 5
    have lp := loopUp (P := fun i => (∀ j, j < i → (ldk n D).getD j 0 = (ldk n f).getD j 0) → V S (dep + 13) 226 28 [.ref 188, .int (nI n), .int (nI f), .int (nI D), .int (nI (pop D)), .int (nI i)] [] h1 (fun q h' => q = some (.int (bI (decide (ldk n D = ldk n f)))) ∧ MF [6, 7] [192, 193, 201] h h')) (pop D) ?_ ?_ 0 (Nat.zero_le _)
    · exact lp (fun j hj => by omega)
    · intro hall
      refine V_iload rfl rfl ?_
      refine V_iload rfl rfl ?_
      -- at 32: .if_icmp .ge 28
      refine V_icmp_ge rfl (fun hd => ?_) (fun hd => ?_)
      · refine V_ic (v := nI 1) rfl rfl ?_
        -- at 61: .ireturn
        refine V_zret rfl rfl (by first | exact Or.inl rfl | exact Or.inr rfl | assumption) ?_
        exact ⟨by rw [decide_eq_true (list_eq (by omega) (fun i hi => hall i (by omega)))]; rfl, f1⟩
      · exact absurd (nI_le (Nat.le_refl _) (by omega)) hd
    · intro i hi ih hall
      have q1 := hb1 i
      have q2 := hb2 i
      refine V_iload rfl rfl ?_
      refine V_iload rfl rfl ?_
      -- at 32: .if_icmp .ge 28
      refine V_icmp_ge rfl (fun hd => ?_) (fun hd => ?_)
      · exact absurd hd (nI_ge hi (by omega))
      · refine V_aload_n rfl rfl rfl ?_
        refine V_getR (r := 200) rfl rfl ?_
        refine V_iload rfl rfl ?_
        refine V_al 21 rfl rfl (by first | with_reducible rfl | assumption | exact nI_sub (by omega) | exact nI_add _ _) (by first | omega | assumption) rfl ?_
        refine V_aload_n rfl rfl rfl ?_
        refine V_getR (r := 201) rfl rfl ?_
        refine V_iload rfl rfl ?_
        refine V_al 21 rfl rfl (by first | with_reducible rfl | assumption | exact nI_sub (by omega) | exact nI_add _ _) (by first | omega | assumption) rfl ?_
        -- at 49: .if_icmp .eq 5
        rw [hA0 i (by omega), hA1 i (by omega)]
        refine V_icmp_eq rfl (fun he => ?_) (fun he => ?_)
        · have he := nI_inj (by omega) (by omega) he
          refine V_iinc (L' := [_, _, _, _, _, _]) rfl rfl rfl ?_
          refine V_goto rfl ?_
          -- at 28: .iload 5
          rw [show Int32.ofInt 1 = nI 1 from rfl, nI_add]
          exact ih (fun j hj => if q : j = i then by rw [q, he] else hall j (by omega))
        · refine V_ic (v := nI 0) rfl rfl ?_
          -- at 53: .ireturn
          refine V_zret rfl rfl (by first | exact Or.inl rfl | exact Or.inr rfl | assumption) ?_
          exact ⟨by rw [decide_eq_false (fun q => he (by rw [q]))]; rfl, f1⟩
  · refine V_ic (v := nI 0) rfl rfl ?_
    -- at 12: .ireturn
    refine V_zret rfl rfl (by first | exact Or.inl rfl | exact Or.inr rfl | assumption) ?_
    exact ⟨by rw [decide_eq_false (fun q => hc (by rw [q])), Bool.false_and]; rfl, MF.rf⟩
theorem y_riva {S : mScr} {dep : Nat} {x : Int32} {st : St} {h : Hp} (hi : InvM h st) : Cal S (dep + 20) 227 [.ref 188, .int x] h (MR h (aRiva st x, st)) := by
  obtain ⟨hi0, fm0⟩ := hi.thr
  obtain ⟨h0, hh0⟩ : ∃ h0, h0 = wI h 188 4 (nI 0) := ⟨_, rfl⟩
  rw [← hh0] at hi0 fm0
  obtain ⟨hs, hw, _⟩ := id hi0
  show V S (dep + 20) 227 0 [.ref 188, .int x, .null, .null, .null, .null] [] h _
  refine V_aload_n rfl rfl rfl ?_
  refine V_ic (v := nI 0) rfl rfl ?_
  refine V_pi 4 rfl rfl rfl rfl ?_
  refine V_iload_n rfl rfl ?_
  -- at 6: .invokestatic 222
  rw [← hh0]
  refine V_cS rfl rfl rfl rfl (m_isSlot) ?_
  refine V_if_ne rfl (fun hc => ?_) (fun hc => ?_)
  · obtain ⟨i, e1⟩ := bI_som hc
    obtain ⟨rfl, hi6⟩ := ix_some e1
    have hwi := hw.1 i hi6
    obtain ⟨n, hnn⟩ : ∃ n, n = st.1.1 i := ⟨_, rfl⟩
    obtain ⟨f, hff⟩ : ∃ f, f = frm (st.1.1 i) (st.1.2.1 i) := ⟨_, rfl⟩
    have ev : aRiva st (nI i) = if n < 2 ∨ 5 < n then -5 else nI (cnt (rvC n f) (fr (n + 1))) := by unfold aRiva; rw [e1, hnn, hff]
    rw [ev]
    have h7 : n ≤ 7 := by rw [hnn]; exact hwi.1
    refine V_aload_n rfl rfl rfl ?_
    refine V_iload_n rfl rfl ?_
    -- at 17: .invokevirtual 201
    refine V_cV rfl rfl rfl rfl rfl (m_nodes hs hi6) ?_
    rw [← hnn]
    refine V_istore_n (L' := [_, _, _, _, _, _]) rfl rfl rfl ?_
    refine V_iload_n rfl rfl ?_
    refine V_i2l rfl ?_
    refine V_l2 (v := 2) rfl rfl ?_
    refine V_l2 (v := 5) rfl rfl ?_
    -- at 29: .invokestatic 134
    refine V_cS rfl rfl rfl rfl (m_isIn) ?_
    rw [Int32.toInt_toInt64, nI_toInt (by omega), show (2 : Int64).toInt = 2 from rfl, show (5 : Int64).toInt = 5 from rfl]
    refine V_if_ne rfl (fun he => ?_) (fun he => ?_)
    · have he := of_decide_eq_true (bI_nz.mp he)
      have hn6 : n < 6 := by omega
      rw [if_neg (by omega)]
      refine V_aload_n rfl rfl rfl ?_
      refine V_iload_n rfl rfl ?_
      -- at 40: .invokevirtual 238
      refine V_callV rfl rfl rfl rfl rfl (m_fof hs hw hi6) ?_
      rintro _ h1 ⟨rfl, f1⟩
      rw [← hff]
      show V S (dep + 20) 227 43 [.ref 188, .int (nI i), .int (nI n), .null, .null, .null] [.int (nI f)] h1 _
      have hi1 := hi0.mf f1 (by simp; decide) (by simp; decide) (by simp)
      have fm1 : FM h h1 := fm0.tr (f1.fm (by simp))
      refine V_istore_n (L' := [_, _, _, _, _, _]) rfl rfl rfl ?_
      refine V_aload_n rfl rfl rfl ?_
      refine V_iload_n rfl rfl ?_
      -- at 46: .invokevirtual 281
      refine V_callV rfl rfl rfl rfl rfl (m_lall hn6 hi1.2.2.2.2.2.2.2.2.2) ?_
      rintro _ h2 ⟨rfl, hl2, f2⟩
      show V S (dep + 20) 227 49 [.ref 188, .int (nI i), .int (nI n), .int (nI f), .null, .null] [] h2 _
      have hi2 := hi1.lay hn6 f2 hl2
      have fm2 : FM h h2 := fm1.tr (f2.fm (by simp))
      have hfm : f ∈ fms n := by rw [hff, hnn]; exact frm_mem (by omega) hwi.2
      have hfl := (fms_mem.mp hfm).1
      have hfl21 : f < 2 ^ 21 := c21 (by omega) hfl
      have hfr := fr_f n hn6
      obtain ⟨t1, t2⟩ := fms_T n hn6
      have hf34 := fms_len n hn6
      have ec : cnt (rvC n f) (fr (n + 1)) = cnt (fun k => rvP n f ((fms n).getD k 0)) (fms n).length := by
        rw [show fr (n + 1) = fr n + (fms n).length by omega, cnt_add, cnt_none (fun i hi => by unfold rvC; rw [decide_eq_false (by omega)]; rfl), Nat.zero_add]
        refine cnt_ext (fun k hk => ?_)
        unfold rvC
        rw [decide_eq_true (by omega), Bool.true_and, t2 k (by omega)]
      rw [ec]
      obtain ⟨F, hF⟩ : ∃ F : Nat → Bool, F = fun k => rvP n f ((fms n).getD k 0) := ⟨_, rfl⟩
      rw [← hF]
      refine V_aload_n rfl rfl rfl ?_
      refine V_iload_n rfl rfl ?_
      refine V_iload_n rfl rfl ?_
      refine V_aload_n rfl rfl rfl ?_
      refine V_getR (r := 200) rfl rfl ?_
      -- at 56: .invokevirtual 287
      refine V_callV rfl rfl rfl rfl rfl (m_ldk (r := 200) h7 hfl rfl rfl (by decide) (by decide) (by decide)) ?_
      rintro _ h3 ⟨rfl, hA3, f3⟩
      show V S (dep + 20) 227 59 [.ref 188, .int (nI i), .int (nI n), .int (nI f), .null, .null] [.int (nI (pop f))] h3 _
      have f3 : MF [6, 7] [192, 193, 200, 201] h2 h3 := f3.mono (by simp) (by simp)
      refine V_pop rfl rfl ?_
      refine V_ic (v := nI 0) rfl rfl ?_
      refine V_istore (L' := [_, _, _, _, _, _]) rfl rfl rfl ?_
      refine V_ic (v := nI 0) rfl rfl ?_
      refine V_istore (L' := [_, _, _, _, _, _]) rfl rfl rfl ?_
      -- at 66: .iload 5
      have lp := loopUp (P := fun k => ∀ h4, MF [6, 7] [192, 193, 200, 201] h2 h4 → AL h4 200 (ldk n f) → V S (dep + 20) 227 66 [.ref 188, .int (nI i), .int (nI n), .int (nI f), .int (nI (cnt F k)), .int (nI k)] [] h4 (MR h (nI (cnt F (fms n).length), st))) (fms n).length ?_ ?_ 0 (Nat.zero_le _)
      · exact lp h3 f3 hA3
      · intro h4 f4 hA4
        have e23 : h4.1 188 23 = nI (fms n).length := by rw [f4.2.2 23 (by simp)]; exact hl2.2.1
        refine V_iload rfl rfl ?_
        refine V_aload_n rfl rfl rfl ?_
        refine V_gi 23 rfl rfl rfl ?_
        -- at 72: .if_icmp .ge 46
        rw [e23]
        refine V_icmp_ge rfl (fun hd => ?_) (fun hd => ?_)
        · refine V_iload rfl rfl ?_
          -- at 120: .ireturn
          refine V_iret rfl rfl ?_
          exact mq hi2 fm2 f4 (by simp; decide) (by simp; decide) (by simp)
        · exact absurd (nI_le (Nat.le_refl _) (by omega)) hd
      · intro k hk ih h4 f4 hA4
        have e23 : h4.1 188 23 = nI (fms n).length := by rw [f4.2.2 23 (by simp)]; exact hl2.2.1
        have hA8 : AL h4 198 (fms n) := hl2.2.2.1.mf f4 (by simp) (by decide)
        have hgk : (fms n).getD k 0 < 2 ^ tri n := (fms_mem.mp (getD_mem hk)).1
        have hgk21 := c21 (by omega) hgk
        have hFk : F k = rvP n f ((fms n).getD k 0) := by rw [hF]
        rw [cnt] at ih
        have up : ∀ h5 d, d = (if F k = true then 1 else 0) → MF [6, 7] [192, 193, 200, 201] h2 h5 → AL h5 200 (ldk n f) → V S (dep + 20) 227 109 [.ref 188, .int (nI i), .int (nI n), .int (nI f), .int (nI (cnt F k)), .int (nI k)] [.int (nI d), .int (nI (cnt F k))] h5 (MR h (nI (cnt F (fms n).length), st)) := by
          intro h5 d hd f5 hA5
          rw [← hd] at ih
          refine V_iadd rfl ?_
          -- at 110: .istore 4
          rw [nI_add]
          refine V_istore (L' := [_, _, _, _, _, _]) rfl rfl rfl ?_
          refine V_iinc (L' := [_, _, _, _, _, _]) rfl rfl rfl ?_
          refine V_goto rfl ?_
          -- at 66: .iload 5
          rw [show Int32.ofInt 1 = nI 1 from rfl, nI_add]
          exact ih h5 f5 hA5
        refine V_iload rfl rfl ?_
        refine V_aload_n rfl rfl rfl ?_
        refine V_gi 23 rfl rfl rfl ?_
        -- at 72: .if_icmp .ge 46
        rw [e23]
        refine V_icmp_ge rfl (fun hd => ?_) (fun hd => ?_)
        · exact absurd hd (nI_ge hk (by omega))
        · refine V_iload rfl rfl ?_
          refine V_aload_n rfl rfl rfl ?_
          refine V_getR (r := 198) rfl rfl ?_
          refine V_iload rfl rfl ?_
          refine V_al 34 rfl rfl (by first | with_reducible rfl | assumption | exact nI_sub (by omega) | exact nI_add _ _) (by first | omega | assumption) rfl ?_
          refine V_iload_n rfl rfl ?_
          -- at 85: .if_icmp .eq 23
          rw [hA8 k hk]
          refine V_icmp_eq rfl (fun hg => ?_) (fun hg => ?_)
          · have hg := nI_inj (by omega) (by omega) hg
            refine V_ic (v := nI 0) rfl rfl ?_
            -- at 109: .iadd
            exact up h4 0 (by rw [hFk]; unfold rvP; rw [decide_eq_true hg]; rfl) f4 hA4
          · have hg : ¬ (fms n).getD k 0 = f := fun q => hg (by rw [q])
            refine V_aload_n rfl rfl rfl ?_
            refine V_iload_n rfl rfl ?_
            refine V_iload_n rfl rfl ?_
            refine V_aload_n rfl rfl rfl ?_
            refine V_getR (r := 198) rfl rfl ?_
            refine V_iload rfl rfl ?_
            refine V_al 34 rfl rfl (by first | with_reducible rfl | assumption | exact nI_sub (by omega) | exact nI_add _ _) (by first | omega | assumption) rfl ?_
            -- at 98: .invokevirtual 291
            rw [hA8 k hk]
            refine V_callV rfl rfl rfl rfl rfl (m_ar h7 hfl hgk hA4) ?_
            rintro _ h5 ⟨rfl, f5⟩
            show V S (dep + 20) 227 101 [.ref 188, .int (nI i), .int (nI n), .int (nI f), .int (nI (cnt F k)), .int (nI k)] [.int (bI (decide (pop ((fms n).getD k 0) = pop f) && decide (ldk n ((fms n).getD k 0) = ldk n f))), .int (nI (cnt F k))] h5 _
            have hA5 := hA4.mf f5 (by simp) (by decide)
            have f5 : MF [6, 7] [192, 193, 200, 201] h2 h5 := f4.tr (f5.mono (by simp) (by simp))
            have eP : F k = (decide (pop ((fms n).getD k 0) = pop f) && decide (ldk n ((fms n).getD k 0) = ldk n f)) := by rw [hFk]; unfold rvP; rw [decide_eq_false hg]; rfl
            rw [← eP]
            refine V_if_eq rfl (fun hm => ?_) (fun hm => ?_)
            · have hm := bI_z.mp hm
              refine V_ic (v := nI 0) rfl rfl ?_
              -- at 109: .iadd
              exact up h5 0 (by rw [hm]; rfl) f5 hA5
            · have hm := bI_nz.mp hm
              refine V_ic (v := nI 1) rfl rfl ?_
              refine V_goto rfl ?_
              -- at 109: .iadd
              exact up h5 1 (by rw [hm]; rfl) f5 hA5
    · have he := bI_z.mp (Decidable.of_not_not he)
      have he := of_decide_eq_false he
      rw [if_pos (by omega)]
      refine V_bi (v := -5) rfl rfl ?_
      -- at 37: .ireturn
      refine V_iret rfl rfl ?_
      exact mq0 hi0 fm0
  · have hc := bI_non (Decidable.of_not_not hc)
    have ev : aRiva st x = -2 := by unfold aRiva; rw [hc]
    rw [ev]
    refine V_bi (v := -2) rfl rfl ?_
    -- at 14: .ireturn
    refine V_iret rfl rfl ?_
    exact mq0 hi0 fm0
