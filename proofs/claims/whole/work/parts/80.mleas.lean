/-! the reference: least -/
theorem y_leas {S : mScr} {dep : Nat} {x w : Int32} {st : St} {h : Hp} (hi : InvM h st) : Cal S (dep + 20) 224 [.ref 188, .int x, .int w] h (MR h (aLeas st x w, st)) := by
  obtain ⟨hi0, fm0⟩ := hi.thr
  obtain ⟨h0, hh0⟩ : ∃ h0, h0 = wI h 188 4 (nI 0) := ⟨_, rfl⟩
  rw [← hh0] at hi0 fm0
  obtain ⟨hs, hw, _⟩ := id hi0
  show V S (dep + 20) 224 0 [.ref 188, .int x, .int w, .null, .null, .null, .null, .null, .null, .null] [] h _
  have bad : aLeas st x w = -2 → V S (dep + 20) 224 22 [.ref 188, .int x, .int w, .null, .null, .null, .null, .null, .null, .null] [] h0 (MR h (aLeas st x w, st)) := by
    intro e
    rw [e]
    refine V_bi (v := -2) rfl rfl ?_
    -- at 24: .ireturn
    refine V_iret rfl rfl ?_
    exact mq0 hi0 fm0
  refine V_aload_n rfl rfl rfl ?_
  refine V_ic (v := nI 0) rfl rfl ?_
  refine V_pi 4 rfl rfl rfl rfl ?_
  refine V_iload_n rfl rfl ?_
  -- at 6: .invokestatic 222
  rw [← hh0]
  refine V_cS rfl rfl rfl rfl (m_isSlot) ?_
  refine V_if_eq rfl (fun hc => ?_) (fun hc => ?_)
  · have hc := bI_non hc
    exact bad (by unfold aLeas; rw [hc])
  · obtain ⟨i, e1⟩ := bI_som hc
    obtain ⟨rfl, hi6⟩ := ix_some e1
    have hwi := hw.1 i hi6
    refine V_iload_n rfl rfl ?_
    refine V_i2l rfl ?_
    refine V_lc (v := 0) rfl rfl ?_
    refine V_lc (v := 1) rfl rfl ?_
    -- at 16: .invokestatic 134
    refine V_cS rfl rfl rfl rfl (m_isIn) ?_
    rw [Int32.toInt_toInt64, show (0 : Int64).toInt = 0 from rfl, show (1 : Int64).toInt = 1 from rfl]
    rw [show decide (0 ≤ w.toInt ∧ w.toInt ≤ 1) = (ix 2 w).isSome by rw [ix_is]; exact decide_eq_decide.mpr (by omega)]
    refine V_if_ne rfl (fun hd => ?_) (fun hd => ?_)
    · obtain ⟨j, e2⟩ := bI_som hd
      obtain ⟨rfl, hj⟩ := ix_some e2
      obtain ⟨n, hnn⟩ : ∃ n, n = st.1.1 i := ⟨_, rfl⟩
      obtain ⟨f, hff⟩ : ∃ f, f = frm (st.1.1 i) (st.1.2.1 i) := ⟨_, rfl⟩
      have ev : aLeas st (nI i) (nI j) = if n < 3 ∨ 5 < n then -5 else nI (leaA n (ownF n f) j) := by unfold aLeas; rw [e1, e2, hnn, hff]
      rw [ev]
      have h7 : n ≤ 7 := by rw [hnn]; exact hwi.1
      refine V_aload_n rfl rfl rfl ?_
      refine V_iload_n rfl rfl ?_
      -- at 27: .invokevirtual 201
      refine V_cV rfl rfl rfl rfl rfl (m_nodes hs hi6) ?_
      rw [← hnn]
      refine V_istore_n (L' := [_, _, _, _, _, _, _, _, _, _]) rfl rfl rfl ?_
      refine V_iload_n rfl rfl ?_
      refine V_i2l rfl ?_
      refine V_l2 (v := 3) rfl rfl ?_
      refine V_l2 (v := 5) rfl rfl ?_
      -- at 39: .invokestatic 134
      refine V_cS rfl rfl rfl rfl (m_isIn) ?_
      rw [Int32.toInt_toInt64, nI_toInt (by omega), show (3 : Int64).toInt = 3 from rfl, show (5 : Int64).toInt = 5 from rfl]
      refine V_if_ne rfl (fun he => ?_) (fun he => ?_)
      · have he := of_decide_eq_true (bI_nz.mp he)
        have hn6 : n < 6 := by omega
        have hn3 : 3 ≤ n := by omega
        rw [if_neg (by omega)]
        refine V_aload_n rfl rfl rfl ?_
        refine V_iload_n rfl rfl ?_
        -- at 50: .invokevirtual 238
        refine V_callV rfl rfl rfl rfl rfl (m_fof hs hw hi6) ?_
        rintro _ h1 ⟨rfl, f1⟩
        rw [← hff]
        show V S (dep + 20) 224 53 [.ref 188, .int (nI i), .int (nI j), .int (nI n), .null, .null, .null, .null, .null, .null] [.int (nI f)] h1 _
        have hi1 := hi0.mf f1 (by simp; decide) (by simp; decide) (by simp)
        have fm1 : FM h h1 := fm0.tr (f1.fm (by simp))
        refine V_istore (L' := [_, _, _, _, _, _, _, _, _, _]) rfl rfl rfl ?_
        refine V_aload_n rfl rfl rfl ?_
        refine V_iload_n rfl rfl ?_
        -- at 57: .invokevirtual 281
        refine V_callV rfl rfl rfl rfl rfl (m_lall hn6 hi1.2.2.2.2.2.2.2.2.2) ?_
        rintro _ h2 ⟨rfl, hl2, f2⟩
        show V S (dep + 20) 224 60 [.ref 188, .int (nI i), .int (nI j), .int (nI n), .int (nI f), .null, .null, .null, .null, .null] [] h2 _
        have hi2 := hi1.lay hn6 f2 hl2
        have fm2 : FM h h2 := fm1.tr (f2.fm (by simp))
        have hfm : f ∈ fms n := by rw [hff, hnn]; exact frm_mem (by omega) hwi.2
        obtain ⟨o1, o2, o3, o4⟩ := ownF_spec hn6 hfm
        have hfr := fr_f n hn6
        obtain ⟨t1, t2⟩ := fms_T n hn6
        have hf34 := fms_len n hn6
        obtain ⟨o, ho⟩ : ∃ o, ownF n f = fr n + o := ⟨ownF n f - fr n, by omega⟩
        have hol : o < (fms n).length := by omega
        have hfl : f < 2 ^ 21 := by rw [← o4]; exact fmsT21 _ o3
        refine V_ic (v := nI 0) rfl rfl ?_
        refine V_istore (L' := [_, _, _, _, _, _, _, _, _, _]) rfl rfl rfl ?_
        -- at 63: .aload_n 0
        have lp := loopUp (P := fun k => V S (dep + 20) 224 63 [.ref 188, .int (nI i), .int (nI j), .int (nI n), .int (nI f), .int (nI k), .null, .null, .null, .null] [] h2 (MR h (nI (leaA n (ownF n f) j), st))) o ?_ ?_ 0 (Nat.zero_le _)
        · exact lp
        · refine V_aload_n rfl rfl rfl ?_
          refine V_getR (r := 198) rfl rfl ?_
          refine V_iload rfl rfl ?_
          refine V_al 34 rfl rfl (by first | with_reducible rfl | assumption | exact nI_sub (by omega) | exact nI_add _ _) (by first | omega | assumption) rfl ?_
          refine V_iload rfl rfl ?_
          -- at 72: .if_icmp .eq 9
          rw [hl2.2.2.1 o hol, t2 o (by omega), ← ho, o4]
          refine V_icmp_eq rfl (fun hg => ?_) (fun hg => ?_)
          · refine V_iload_n rfl rfl ?_
            refine V_istore (L' := [_, _, _, _, _, _, _, _, _, _]) rfl rfl rfl ?_
            refine V_ic (v := nI 0) rfl rfl ?_
            refine V_istore (L' := [_, _, _, _, _, _, _, _, _, _]) rfl rfl rfl ?_
            refine V_ic (v := nI 0) rfl rfl ?_
            refine V_istore (L' := [_, _, _, _, _, _, _, _, _, _]) rfl rfl rfl ?_
            -- at 90: .iload 8
            have lq := loopUp (P := fun s => ∀ h3 v9, MF [] [202] h2 h3 → V S (dep + 20) 224 90 [.ref 188, .int (nI i), .int (nI j), .int (nI n), .int (nI f), .int (nI o), .int (nI (lsT n o s).1), .int (nI (lsT n o s).2), .int (nI s), v9] [] h3 (MR h (nI (leaA n (ownF n f) j), st))) (2 ^ n) ?_ ?_ 0 (Nat.zero_le _)
            · exact lq h2 _ MF.rf
            · intro h3 v9 f3
              have fin : ∀ v, MR h (v, st) (some (.int v)) h3 := fun v => mq hi2 fm2 f3 (by simp) (by simp; decide) (by simp)
              have h32 : (2 : Nat) ^ n ≤ 32 := Nat.pow_le_pow_right (n := 2) (j := 5) (by decide) (by omega)
              refine V_iload rfl rfl ?_
              refine V_ic (v := nI 1) rfl rfl ?_
              refine V_iload_n rfl rfl ?_
              refine V_ishl rfl ?_
              -- at 95: .if_icmp .ge 67
              rw [nI_2p _ (by omega)]
              refine V_icmp_ge rfl (fun hk => ?_) (fun hk => ?_)
              · rw [lsT_all hn6 hn3 hol, ← ho]
                refine V_iload_n rfl rfl ?_
                -- at 163: .ifCond .ne 8
                refine V_if_ne rfl (fun hz => ?_) (fun hz => ?_)
                · have hz : ¬ j = 0 := fun q => hz (by rw [q]; rfl)
                  refine V_iload rfl rfl ?_
                  -- at 173: .ireturn
                  refine V_iret rfl rfl ?_
                  rw [show j = 1 by omega]
                  exact fin _
                · have hz := nI_inj (b := 0) (by omega) (by omega) (Decidable.of_not_not hz)
                  refine V_iload rfl rfl ?_
                  refine V_goto rfl ?_
                  -- at 173: .ireturn
                  refine V_iret rfl rfl ?_
                  rw [hz]
                  exact fin _
              · exact absurd (nI_le (Nat.le_refl _) (by omega)) hk
            · intro s hs2 ih h3 v9 f3
              have h32 : (2 : Nat) ^ n ≤ 32 := Nat.pow_le_pow_right (n := 2) (j := 5) (by decide) (by omega)
              have hps := pop7 (show s < 128 by omega)
              obtain ⟨b1, b2⟩ := lsT_le (n := n) (own := o) s (by omega) h7
              rw [lsT, ← tlB_T hn6 hn3 hol] at ih
              have hl3 : MLay h3 n := ⟨by rw [f3.2.2 24 (by simp)]; exact hl2.1, by rw [f3.2.2 23 (by simp)]; exact hl2.2.1, hl2.2.2.1.mf f3 (by simp) (by decide), fun q k v hk hv => by rw [f3.2.1 199 (by decide) (by simp)]; exact hl2.2.2.2 q k v hk hv⟩
              refine V_iload rfl rfl ?_
              refine V_ic (v := nI 1) rfl rfl ?_
              refine V_iload_n rfl rfl ?_
              refine V_ishl rfl ?_
              -- at 95: .if_icmp .ge 67
              rw [nI_2p _ (by omega)]
              refine V_icmp_ge rfl (fun hk => ?_) (fun hk => ?_)
              · exact absurd hk (nI_ge hs2 (by omega))
              · refine V_iload rfl rfl ?_
                -- at 100: .invokestatic 83
                refine V_cS rfl rfl rfl rfl (c_bc (by omega)) ?_
                refine V_istore (L' := [_, _, _, _, _, _, _, _, _, _]) rfl rfl rfl ?_
                refine V_aload_n rfl rfl rfl ?_
                refine V_iload_n rfl rfl ?_
                refine V_iload rfl rfl ?_
                refine V_iload rfl rfl ?_
                -- at 111: .invokevirtual 284
                refine V_callV rfl rfl rfl rfl rfl (m_tells hn6 hn3 hol hl3 (by omega)) ?_
                rintro _ h4 ⟨rfl, f4⟩
                show V S (dep + 20) 224 114 [.ref 188, .int (nI i), .int (nI j), .int (nI n), .int (nI f), .int (nI o), .int (nI (lsT n o s).1), .int (nI (lsT n o s).2), .int (nI s), .int (nI (pop s))] [.int (bI (tlB n o s))] h4 _
                have f4 := f3.tr f4
                have next : ∀ u v v9, (u, v) = (if tlB n o s = true then (min (pop s) (lsT n o s).1, (lsT n o s).2) else ((lsT n o s).1, max (pop s + 1) (lsT n o s).2)) → V S (dep + 20) 224 156 [.ref 188, .int (nI i), .int (nI j), .int (nI n), .int (nI f), .int (nI o), .int (nI u), .int (nI v), .int (nI s), v9] [] h4 (MR h (nI (leaA n (ownF n f) j), st)) := by
                  intro u v v9 e
                  rw [← e] at ih
                  refine V_iinc (L' := [_, _, _, _, _, _, _, _, _, _]) rfl rfl rfl ?_
                  refine V_goto rfl ?_
                  -- at 90: .iload 8
                  rw [show Int32.ofInt 1 = nI 1 from rfl, nI_add]
                  exact ih h4 _ f4
                refine V_if_eq rfl (fun hm => ?_) (fun hm => ?_)
                · have hm := bI_z.mp hm
                  refine V_iload rfl rfl ?_
                  refine V_ic (v := nI 1) rfl rfl ?_
                  refine V_iadd rfl ?_
                  -- at 140: .iload 7
                  rw [nI_add]
                  refine V_iload rfl rfl ?_
                  -- at 142: .if_icmp .le 10
                  refine V_icmp_le rfl (fun hp => ?_) (fun hp => ?_)
                  · have hp := (nI_leI (by omega) (by omega)).mp hp
                    refine V_iload rfl rfl ?_
                    refine V_istore (L' := [_, _, _, _, _, _, _, _, _, _]) rfl rfl rfl ?_
                    -- at 156: .iinc 8 1
                    exact next _ _ _ (by rw [hm, if_neg (by simp), Nat.max_eq_right hp])
                  · have hp := nI_ngt (by omega) (by omega) hp
                    refine V_iload rfl rfl ?_
                    refine V_ic (v := nI 1) rfl rfl ?_
                    refine V_iadd rfl ?_
                    -- at 149: .goto 5
                    rw [nI_add]
                    refine V_goto rfl ?_
                    refine V_istore (L' := [_, _, _, _, _, _, _, _, _, _]) rfl rfl rfl ?_
                    -- at 156: .iinc 8 1
                    exact next _ _ _ (by rw [hm, if_neg (by simp), Nat.max_eq_left (by omega)])
                · have hm := bI_nz.mp hm
                  refine V_iload rfl rfl ?_
                  refine V_iload rfl rfl ?_
                  -- at 121: .if_icmp .ge 8
                  refine V_icmp_ge rfl (fun hp => ?_) (fun hp => ?_)
                  · have hp := (nI_leI (by omega) (by omega)).mp hp
                    refine V_iload rfl rfl ?_
                    refine V_istore (L' := [_, _, _, _, _, _, _, _, _, _]) rfl rfl rfl ?_
                    refine V_goto rfl ?_
                    -- at 156: .iinc 8 1
                    exact next _ _ _ (by rw [if_pos hm, Nat.min_eq_right hp])
                  · have hp := nI_ngt (by omega) (by omega) hp
                    refine V_iload rfl rfl ?_
                    refine V_goto rfl ?_
                    refine V_istore (L' := [_, _, _, _, _, _, _, _, _, _]) rfl rfl rfl ?_
                    refine V_goto rfl ?_
                    -- at 156: .iinc 8 1
                    exact next _ _ _ (by rw [if_pos hm, Nat.min_eq_left (by omega)])
          · exact absurd rfl hg
        · intro k hk ih
          have hil := fmsT21 (fr n + k) (by omega)
          refine V_aload_n rfl rfl rfl ?_
          refine V_getR (r := 198) rfl rfl ?_
          refine V_iload rfl rfl ?_
          refine V_al 34 rfl rfl (by first | with_reducible rfl | assumption | exact nI_sub (by omega) | exact nI_add _ _) (by first | omega | assumption) rfl ?_
          refine V_iload rfl rfl ?_
          -- at 72: .if_icmp .eq 9
          rw [hl2.2.2.1 k (by omega), t2 k (by omega)]
          refine V_icmp_eq rfl (fun hg => ?_) (fun hg => ?_)
          · have hg := (own_iff hn6 hfm (by omega) (by omega)).mp (nI_inj (by omega) (by omega) hg)
            omega
          · refine V_iinc (L' := [_, _, _, _, _, _, _, _, _, _]) rfl rfl rfl ?_
            refine V_goto rfl ?_
            -- at 63: .aload_n 0
            rw [show Int32.ofInt 1 = nI 1 from rfl, nI_add]
            exact ih
      · have he := bI_z.mp (Decidable.of_not_not he)
        have he := of_decide_eq_false he
        rw [if_pos (by omega)]
        refine V_bi (v := -5) rfl rfl ?_
        -- at 47: .ireturn
        refine V_iret rfl rfl ?_
        exact mq0 hi0 fm0
    · have hd := bI_non (Decidable.of_not_not hd)
      exact bad (by unfold aLeas; rw [e1, hd])
