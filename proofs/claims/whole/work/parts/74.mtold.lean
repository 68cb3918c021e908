/-! the reference: told -/
theorem dif_lt {t a b : Nat} (ht : t < 2 ^ 30) (ha : a < 2 ^ 30) (hb : b < 2 ^ 30) : nI t - nI a < nI t - nI b ↔ b < a := by
  rw [Int32.lt_iff_toInt_lt, dif_toInt ht ha, dif_toInt ht hb]
  omega
theorem dif_le {t a b : Nat} (ht : t < 2 ^ 30) (ha : a < 2 ^ 30) (hb : b < 2 ^ 30) : nI t - nI a ≤ nI t - nI b ↔ b ≤ a := by
  rw [Int32.le_iff_toInt_le, dif_toInt ht ha, dif_toInt ht hb]
  omega
theorem y_told {S : mScr} {dep : Nat} {x w : Int32} {st : St} {h : Hp} (hi : InvM h st) : Cal S (dep + 20) 248 [.ref 188, .int x, .int w] h (MR h (aTold st x w, st)) := by
  obtain ⟨hi0, fm0⟩ := hi.thr
  obtain ⟨h0, hh0⟩ : ∃ h0, h0 = wI h 188 4 (nI 0) := ⟨_, rfl⟩
  rw [← hh0] at hi0 fm0
  obtain ⟨hs, hw, _⟩ := id hi0
  have hdl := dln_le (x := x) hw
  show V S (dep + 20) 248 0 [.ref 188, .int x, .int w, .null, .null, .null, .null, .null, .null, .null] [] h _
  have bad : aTold st x w = -2 → V S (dep + 20) 248 27 [.ref 188, .int x, .int w, .int (nI (dln st.1 x)), .null, .null, .null, .null, .null, .null] [] h0 (MR h (aTold st x w, st)) := by
    intro e
    rw [e]
    refine V_bi (v := -2) rfl rfl ?_
    -- at 29: .ireturn
    refine V_iret rfl rfl ?_
    exact mq0 hi0 fm0
  refine V_aload_n rfl rfl rfl ?_
  refine V_ic (v := nI 0) rfl rfl ?_
  refine V_pi 4 rfl rfl rfl rfl ?_
  refine V_aload_n rfl rfl rfl ?_
  refine V_iload_n rfl rfl ?_
  -- at 7: .invokevirtual 209
  rw [← hh0]
  refine V_cV rfl rfl rfl rfl rfl (m_deckOf hs) ?_
  refine V_istore_n (L' := [_, _, _, _, _, _, _, _, _, _]) rfl rfl rfl ?_
  refine V_iload_n rfl rfl ?_
  -- at 12: .ifCond .eq 15
  refine V_if_eq rfl (fun hc => ?_) (fun hc => ?_)
  · have hc := dkO_no (nI_inj (b := 0) (by omega) (by omega) hc)
    exact bad (by unfold aTold; rw [hc])
  · obtain ⟨d, ed⟩ := dkO_yes (s := st.1) (x := x) (fun q => hc (by rw [q]; rfl))
    obtain ⟨_, rfl, hd3, e4, hpos⟩ := dkO_some ed
    refine V_iload_n rfl rfl ?_
    refine V_i2l rfl ?_
    refine V_lc (v := 0) rfl rfl ?_
    refine V_l2 (v := 4) rfl rfl ?_
    -- at 21: .invokestatic 134
    refine V_cS rfl rfl rfl rfl (m_isIn) ?_
    rw [Int32.toInt_toInt64, show (0 : Int64).toInt = 0 from rfl, show (4 : Int64).toInt = 4 from rfl]
    rw [show decide (0 ≤ w.toInt ∧ w.toInt ≤ 4) = (ix 5 w).isSome by rw [ix_is]; exact decide_eq_decide.mpr (by omega)]
    refine V_if_ne rfl (fun hd => ?_) (fun hd => ?_)
    · obtain ⟨j, e2⟩ := bI_som hd
      obtain ⟨rfl, hj⟩ := ix_some e2
      have hWd := hw.wd hd3 hpos
      obtain ⟨cs, hcs⟩ : ∃ cs, cs = st.1.2.2 d := ⟨_, rfl⟩
      have ev : aTold st (nI d) (nI j) = tolA cs j := by unfold aTold; rw [ed, e2, hcs]
      rw [ev, e4, ← hcs]
      rw [← hcs] at hWd
      have hw7 := hWd.2.1
      have hw2 := hWd.1
      have hb21 : ∀ x ∈ cs, x < 2 ^ 21 := fun x hx => c21 (by omega) (hWd.2.2.2 x hx).1
      refine V_aload_n rfl rfl rfl ?_
      refine V_iload_n rfl rfl ?_
      -- at 32: .invokevirtual 252
      refine V_callV rfl rfl rfl rfl rfl (m_takes hs hw hd3) ?_
      rintro _ h1 ⟨rfl, hA1, f1⟩
      rw [← hcs] at hA1
      show V S (dep + 20) 248 35 [.ref 188, .int (nI d), .int (nI j), .int (nI cs.length), .null, .null, .null, .null, .null, .null] [] h1 _
      have fin : ∀ v, MR h (v, st) (some (.int v)) h1 := fun v => mq hi0 fm0 f1 (by simp) (by simp; rfl) (by simp)
      refine V_ic (v := nI 0) rfl rfl ?_
      refine V_istore (L' := [_, _, _, _, _, _, _, _, _, _]) rfl rfl rfl ?_
      refine V_iload_n rfl rfl ?_
      refine V_ic (v := nI 4) rfl rfl ?_
      -- at 40: .if_icmp .ne 45
      refine V_icmp_ne rfl (fun he => ?_) (fun he => ?_)
      · have he : ¬ j = 4 := fun q => he (by rw [q])
        refine V_iload_n rfl rfl ?_
        refine V_ic (v := nI 4) rfl rfl ?_
        -- at 87: .if_icmp .ne 6
        refine V_icmp_ne rfl (fun hz => ?_) (fun hz => ?_)
        · refine V_aload_n rfl rfl rfl ?_
          refine V_iload_n rfl rfl ?_
          -- at 95: .invokevirtual 316
          refine V_cV rfl rfl rfl rfl rfl (m_toldL hA1 hWd) ?_
          refine V_istore (L' := [_, _, _, _, _, _, _, _, _, _]) rfl rfl rfl ?_
          refine V_iload rfl rfl ?_
          refine V_ic (v := -1) rfl rfl ?_
          -- at 103: .if_icmp .eq 7
          cases ht : tldL cs with
          | none =>
            have e3 : tolA cs j = -1 := by unfold tolA; rw [if_neg he, ht]
            rw [e3]
            refine V_icmp_eq rfl (fun hg => ?_) (fun hg => ?_)
            · refine V_iload rfl rfl ?_
              -- at 112: .ireturn
              refine V_iret rfl rfl ?_
              exact fin _
            · exact absurd rfl hg
          | some t =>
            have htl := tldL_le hb21 hw7 ht
            have e3 : tolA cs j = if j = 0 then nI t else if j = 3 then bI (decide (fewL cs cs.length = mosL cs cs.length)) else nI 100 + (nI t - nI (if j = 1 then fewL cs cs.length else mosL cs cs.length)) := by unfold tolA; rw [if_neg he, ht]
            rw [e3]
            refine V_icmp_eq rfl (fun hg => ?_) (fun hg => ?_)
            · exact absurd ((oI_none (o := some t) (fun x hx => by cases hx; omega)).mp hg) (by simp)
            · show V S (dep + 20) 248 106 [.ref 188, .int (nI d), .int (nI j), .int (nI cs.length), .int (nI 0), .int (nI t), .null, .null, .null, .null] [] h1 _
              refine V_iload_n rfl rfl ?_
              -- at 107: .ifCond .ne 6
              refine V_if_ne rfl (fun hk => ?_) (fun hk => ?_)
              · have hk : ¬ j = 0 := fun q => hk (by rw [q]; rfl)
                rw [if_neg hk]
                have hc0 := hb21 _ (getD_mem (show 0 < cs.length by omega))
                have hp0 := pop21 hc0
                refine V_iload rfl rfl ?_
                refine V_aload_n rfl rfl rfl ?_
                refine V_getR (r := 195) rfl rfl ?_
                refine V_ic (v := nI 0) rfl rfl ?_
                refine V_al 7 rfl rfl (by first | with_reducible rfl | assumption | exact nI_sub (by omega) | exact nI_add _ _) (by first | omega | assumption) rfl ?_
                -- at 121: .invokestatic 232
                rw [hA1 0 (by omega)]
                refine V_cS rfl rfl rfl rfl (m_lines (by omega)) ?_
                refine V_isub rfl ?_
                refine V_istore (L' := [_, _, _, _, _, _, _, _, _, _]) rfl rfl rfl ?_
                refine V_iload rfl rfl ?_
                refine V_istore (L' := [_, _, _, _, _, _, _, _, _, _]) rfl rfl rfl ?_
                refine V_ic (v := nI 1) rfl rfl ?_
                refine V_istore (L' := [_, _, _, _, _, _, _, _, _, _]) rfl rfl rfl ?_
                -- at 134: .iload 8
                have em : mosL cs 1 = pop (cs.getD 0 0) := by rw [mosL, mosL]; omega
                have ef : fewL cs 1 = pop (cs.getD 0 0) := by rw [fewL, fewL]; omega
                have lp := loopUp (P := fun k => 1 ≤ k → ∀ v9, V S (dep + 20) 248 134 [.ref 188, .int (nI d), .int (nI j), .int (nI cs.length), .int (nI 0), .int (nI t), .int (nI t - nI (mosL cs k)), .int (nI t - nI (fewL cs k)), .int (nI k), v9] [] h1 (MR h (if j = 3 then bI (decide (fewL cs cs.length = mosL cs cs.length)) else nI 100 + (nI t - nI (if j = 1 then fewL cs cs.length else mosL cs cs.length)), st))) cs.length ?_ ?_ 1 (by omega)
                · have := lp (Nat.le_refl _) .null
                  rw [em, ef] at this
                  exact this
                · intro _ v9
                  have hml := mosL_le hb21 cs.length
                  have hfl := fewL_le cs cs.length
                  refine V_iload rfl rfl ?_
                  refine V_iload_n rfl rfl ?_
                  -- at 137: .if_icmp .ge 56
                  refine V_icmp_ge rfl (fun hl => ?_) (fun hl => ?_)
                  · refine V_iload_n rfl rfl ?_
                    refine V_ic (v := nI 3) rfl rfl ?_
                    -- at 195: .if_icmp .ne 18
                    refine V_icmp_ne rfl (fun hp => ?_) (fun hp => ?_)
                    · have hp : ¬ j = 3 := fun q => hp (by rw [q])
                      rw [if_neg hp]
                      refine V_bi (v := nI 100) rfl rfl ?_
                      refine V_iload_n rfl rfl ?_
                      refine V_ic (v := nI 1) rfl rfl ?_
                      -- at 217: .if_icmp .ne 8
                      refine V_icmp_ne rfl (fun hq => ?_) (fun hq => ?_)
                      · have hq : ¬ j = 1 := fun q => hq (by rw [q])
                        rw [if_neg hq]
                        refine V_iload rfl rfl ?_
                        refine V_iadd rfl ?_
                        -- at 228: .ireturn
                        refine V_iret rfl rfl ?_
                        exact fin _
                      · have hq := nI_inj (by omega) (by omega) (Decidable.of_not_not hq)
                        rw [if_pos hq]
                        refine V_iload rfl rfl ?_
                        refine V_goto rfl ?_
                        refine V_iadd rfl ?_
                        -- at 228: .ireturn
                        refine V_iret rfl rfl ?_
                        exact fin _
                    · have hp := nI_inj (by omega) (by omega) (Decidable.of_not_not hp)
                      rw [if_pos hp]
                      refine V_iload rfl rfl ?_
                      refine V_iload rfl rfl ?_
                      -- at 202: .if_icmp .ne 7
                      refine V_icmp_ne rfl (fun hq => ?_) (fun hq => ?_)
                      · rw [decide_eq_false (fun q => hq (by rw [q]))]
                        refine V_ic (v := nI 0) rfl rfl ?_
                        refine V_goto rfl ?_
                        -- at 228: .ireturn
                        refine V_iret rfl rfl ?_
                        exact fin _
                      · have hq := sub_inj (by omega) (by omega) (by omega) (Decidable.of_not_not hq)
                        rw [decide_eq_true hq]
                        refine V_ic (v := nI 1) rfl rfl ?_
                        refine V_goto rfl ?_
                        -- at 228: .ireturn
                        refine V_iret rfl rfl ?_
                        exact fin _
                  · exact absurd (nI_le (Nat.le_refl _) (by omega)) hl
                · intro k hkn ih hk1 v9
                  have hck := hb21 _ (getD_mem hkn)
                  have hpk := pop21 hck
                  have hml := mosL_le hb21 k
                  have hfl := fewL_le cs k
                  rw [mosL, fewL] at ih
                  obtain ⟨p, hp⟩ : ∃ p, p = pop (cs.getD k 0) := ⟨_, rfl⟩
                  rw [← hp] at ih hpk
                  have st2 : ∀ m', m' = max (mosL cs k) p → V S (dep + 20) 248 169 [.ref 188, .int (nI d), .int (nI j), .int (nI cs.length), .int (nI 0), .int (nI t), .int (nI t - nI (mosL cs k)), .int (nI t - nI (fewL cs k)), .int (nI k), .int (nI t - nI p)] [.int (nI t - nI m')] h1 (MR h (if j = 3 then bI (decide (fewL cs cs.length = mosL cs cs.length)) else nI 100 + (nI t - nI (if j = 1 then fewL cs cs.length else mosL cs cs.length)), st)) := by
                    intro m' hm'
                    rw [hm']
                    have st3 : ∀ f', f' = min (fewL cs k) p → V S (dep + 20) 248 185 [.ref 188, .int (nI d), .int (nI j), .int (nI cs.length), .int (nI 0), .int (nI t), .int (nI t - nI (max (mosL cs k) p)), .int (nI t - nI (fewL cs k)), .int (nI k), .int (nI t - nI p)] [.int (nI t - nI f')] h1 (MR h (if j = 3 then bI (decide (fewL cs cs.length = mosL cs cs.length)) else nI 100 + (nI t - nI (if j = 1 then fewL cs cs.length else mosL cs cs.length)), st)) := by
                      intro f' hf'
                      rw [hf']
                      refine V_istore (L' := [_, _, _, _, _, _, _, _, _, _]) rfl rfl rfl ?_
                      refine V_iinc (L' := [_, _, _, _, _, _, _, _, _, _]) rfl rfl rfl ?_
                      refine V_goto rfl ?_
                      -- at 134: .iload 8
                      rw [show Int32.ofInt 1 = nI 1 from rfl, nI_add]
                      exact ih (by omega) _
                    refine V_istore (L' := [_, _, _, _, _, _, _, _, _, _]) rfl rfl rfl ?_
                    refine V_iload rfl rfl ?_
                    refine V_iload rfl rfl ?_
                    -- at 175: .if_icmp .le 8
                    refine V_icmp_le rfl (fun hz3 => ?_) (fun hz3 => ?_)
                    · have hz3 := (dif_le (by omega) (by omega) (by omega)).mp hz3
                      refine V_iload rfl rfl ?_
                      -- at 185: .istore 7
                      exact st3 _ (by omega)
                    · have hz3 : ¬ fewL cs k ≤ p := fun q => hz3 ((dif_le (by omega) (by omega) (by omega)).mpr q)
                      refine V_iload rfl rfl ?_
                      refine V_goto rfl ?_
                      -- at 185: .istore 7
                      exact st3 _ (by omega)
                  refine V_iload rfl rfl ?_
                  refine V_iload_n rfl rfl ?_
                  -- at 137: .if_icmp .ge 56
                  refine V_icmp_ge rfl (fun hl => ?_) (fun hl => ?_)
                  · exact absurd hl (nI_ge hkn (by omega))
                  · refine V_iload rfl rfl ?_
                    refine V_aload_n rfl rfl rfl ?_
                    refine V_getR (r := 195) rfl rfl ?_
                    refine V_iload rfl rfl ?_
                    refine V_al 7 rfl rfl (by first | with_reducible rfl | assumption | exact nI_sub (by omega) | exact nI_add _ _) (by first | omega | assumption) rfl ?_
                    -- at 149: .invokestatic 232
                    rw [hA1 k hkn]
                    refine V_cS rfl rfl rfl rfl (m_lines (by omega)) ?_
                    rw [← hp]
                    refine V_isub rfl ?_
                    refine V_istore (L' := [_, _, _, _, _, _, _, _, _, _]) rfl rfl rfl ?_
                    refine V_iload rfl rfl ?_
                    refine V_iload rfl rfl ?_
                    -- at 159: .if_icmp .ge 8
                    refine V_icmp_ge rfl (fun hz2 => ?_) (fun hz2 => ?_)
                    · have hz2 := (dif_le (by omega) (by omega) (by omega)).mp hz2
                      refine V_iload rfl rfl ?_
                      -- at 169: .istore 6
                      exact st2 _ (by omega)
                    · have hz2 : ¬ p ≤ mosL cs k := fun q => hz2 ((dif_le (by omega) (by omega) (by omega)).mpr q)
                      refine V_iload rfl rfl ?_
                      refine V_goto rfl ?_
                      -- at 169: .istore 6
                      exact st2 _ (by omega)
              · have hk := nI_inj (b := 0) (by omega) (by omega) (Decidable.of_not_not hk)
                rw [if_pos hk]
                refine V_iload rfl rfl ?_
                -- at 112: .ireturn
                refine V_iret rfl rfl ?_
                exact fin _
        · exact absurd (nI_inj (by omega) (by omega) (Decidable.of_not_not hz)) he
      · have he := nI_inj (by omega) (by omega) (Decidable.of_not_not he)
        subst he
        have e3 : tolA cs 4 = nI (opc cs) := rfl
        rw [e3]
        obtain ⟨F, hF⟩ : ∃ F : Nat → Bool, F = fun i => decide (pcN (cs.length - 1) (cs.getD i 0) = 1) := ⟨_, rfl⟩
        have hFo : opc cs = cnt F cs.length := by rw [hF]; rfl
        rw [hFo]
        refine V_ic (v := nI 0) rfl rfl ?_
        refine V_istore (L' := [_, _, _, _, _, _, _, _, _, _]) rfl rfl rfl ?_
        -- at 46: .iload 5
        have lp := loopUp (P := fun k => V S (dep + 20) 248 46 [.ref 188, .int (nI d), .int (nI 4), .int (nI cs.length), .int (nI (cnt F k)), .int (nI k), .null, .null, .null, .null] [] h1 (MR h (nI (cnt F cs.length), st))) cs.length ?_ ?_ 0 (Nat.zero_le _)
        · exact lp
        · refine V_iload rfl rfl ?_
          refine V_iload_n rfl rfl ?_
          -- at 49: .if_icmp .ge 36
          refine V_icmp_ge rfl (fun hk => ?_) (fun hk => ?_)
          · refine V_iload_n rfl rfl ?_
            refine V_ic (v := nI 4) rfl rfl ?_
            -- at 87: .if_icmp .ne 6
            refine V_icmp_ne rfl (fun hz => ?_) (fun hz => ?_)
            · exact absurd rfl hz
            · refine V_iload rfl rfl ?_
              -- at 92: .ireturn
              refine V_iret rfl rfl ?_
              exact fin _
          · exact absurd (nI_le (Nat.le_refl _) (by omega)) hk
        · intro k hkn ih
          rw [cnt] at ih
          have hFk : F k = decide (pcN (cs.length - 1) (cs.getD k 0) = 1) := by rw [hF]
          have hpl := pcN_le (n := cs.length - 1) (C := cs.getD k 0) (by omega)
          have up : ∀ dd, dd = (if F k = true then 1 else 0) → V S (dep + 20) 248 76 [.ref 188, .int (nI d), .int (nI 4), .int (nI cs.length), .int (nI (cnt F k)), .int (nI k), .null, .null, .null, .null] [.int (nI dd), .int (nI (cnt F k))] h1 (MR h (nI (cnt F cs.length), st)) := by
            intro dd e
            refine V_iadd rfl ?_
            -- at 77: .istore 4
            rw [nI_add, e]
            refine V_istore (L' := [_, _, _, _, _, _, _, _, _, _]) rfl rfl rfl ?_
            refine V_iinc (L' := [_, _, _, _, _, _, _, _, _, _]) rfl rfl rfl ?_
            refine V_goto rfl ?_
            -- at 46: .iload 5
            rw [show Int32.ofInt 1 = nI 1 from rfl, nI_add]
            exact ih
          refine V_iload rfl rfl ?_
          refine V_iload_n rfl rfl ?_
          -- at 49: .if_icmp .ge 36
          refine V_icmp_ge rfl (fun hk => ?_) (fun hk => ?_)
          · exact absurd hk (nI_ge hkn (by omega))
          · refine V_iload rfl rfl ?_
            refine V_iload_n rfl rfl ?_
            refine V_ic (v := nI 1) rfl rfl ?_
            refine V_isub rfl ?_
            refine V_aload_n rfl rfl rfl ?_
            refine V_getR (r := 195) rfl rfl ?_
            refine V_iload rfl rfl ?_
            refine V_al 7 rfl rfl (by first | with_reducible rfl | assumption | exact nI_sub (by omega) | exact nI_add _ _) (by first | omega | assumption) rfl ?_
            -- at 64: .invokestatic 260
            rw [nI_sub (by omega), hA1 k hkn]
            refine V_cS rfl rfl rfl rfl (m_pieces (by omega) (hb21 _ (getD_mem hkn))) ?_
            refine V_ic (v := nI 1) rfl rfl ?_
            -- at 68: .if_icmp .ne 7
            refine V_icmp_ne rfl (fun hz => ?_) (fun hz => ?_)
            · refine V_ic (v := nI 0) rfl rfl ?_
              -- at 76: .iadd
              exact up 0 (by rw [hFk, decide_eq_false (fun q => hz (by rw [q]))]; rfl)
            · have hz := nI_inj (by omega) (by omega) (Decidable.of_not_not hz)
              refine V_ic (v := nI 1) rfl rfl ?_
              refine V_goto rfl ?_
              -- at 76: .iadd
              exact up 1 (by rw [hFk, decide_eq_true hz]; rfl)
    · have hd := bI_non (Decidable.of_not_not hd)
      exact bad (by unfold aTold; rw [ed, hd])
