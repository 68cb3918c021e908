/-! counts and faults -/
def cntA (st : St) : Nat → Int32
  | 0 => nI st.2.1.length
  | 1 => nI st.2.2.2.1
  | 2 => nI (cnt (fun i => decide (0 < st.1.1 i)) 6)
  | _ => nI (cnt (fun d => decide (0 < (st.1.2.2 d).length)) 3)
def aCount (st : St) (x : Int32) : Int32 := match ix 4 x with
  | some j => cntA st j
  | none => match ix 16 x with
    | some j => if j < 10 then -1 else nI (fr (j - 10 + 1) - fr (j - 10))
    | none => -1
def aFault (st : St) (x : Int32) : Int32 := if x = 0 then nI st.2.2.2.2.1 else if x = nI 1 then st.2.2.2.2.2 else -1
theorem cnt_le6 (F : Nat → Bool) : ∀ n, cnt F n ≤ n
  | 0 => Nat.le_refl _
  | n + 1 => by
    have := cnt_le6 F n
    rw [cnt]; split <;> omega
theorem c_cs {S : mScr} {dep : Nat} {st : St} {h : Hp} (hi : InvX h st) : Cal S (dep + 1) 162 [.ref 0] h (Rt (nI (cnt (fun i => decide (0 < st.1.1 i)) 6)) h) := by
  obtain ⟨F, hF⟩ : ∃ F : Nat → Bool, F = fun i => decide (0 < st.1.1 i) := ⟨_, rfl⟩
  rw [← hF]
  show V S (dep + 1) 162 0 [.ref 0, .null, .null] [] h _
  refine V_ic (v := nI 0) rfl rfl ?_
  refine V_istore_n (L' := [_, _, _]) rfl rfl rfl ?_
  refine V_ic (v := nI 0) rfl rfl ?_
  refine V_istore_n (L' := [_, _, _]) rfl rfl rfl ?_
  -- at 4: .iload_n 2
  have lp := loopUp (P := fun c => V S (dep + 1) 162 4 [.ref 0, .int (nI (cnt F c)), .int (nI c)] [] h (Rt (nI (cnt F 6)) h)) 6 ?_ ?_ 0 (Nat.zero_le _)
  · exact lp
  · refine V_iload_n rfl rfl ?_
    refine V_bi (v := nI 6) rfl rfl ?_
    -- at 7: .if_icmp .ge 24
    refine V_icmp_ge rfl (fun hc => ?_) (fun hc => ?_)
    · refine V_iload_n rfl rfl ?_
      -- at 32: .ireturn
      refine V_iret rfl rfl ?_
      exact ⟨rfl, rfl⟩
    · exact absurd (by decide) hc
  · intro i h6 ih
    have hFi : F i = decide (0 < st.1.1 i) := by rw [hF]
    have hle := cnt_le6 F i
    have hn := isS i h6
    have hb1 := net_b hn
    have hN := hi.1.1 i h6
    have h7 := hN.1.2.1
    rw [cnt] at ih
    refine V_iload_n rfl rfl ?_
    refine V_bi (v := nI 6) rfl rfl ?_
    -- at 7: .if_icmp .ge 24
    refine V_icmp_ge rfl (fun hc => ?_) (fun hc => ?_)
    · exact absurd (show nI 6 ≤ nI i from hc) (nI_ge h6 (by omega))
    · refine V_aload_n rfl rfl rfl ?_
      refine V_getR (r := 1) rfl rfl ?_
      refine V_iload_n rfl rfl ?_
      refine V_a1 rfl (by first | omega | assumption) ?_
      refine V_gi 0 rfl (net_sz (by first | assumption | rfl)) rfl ?_
      -- at 19: .ifCond .le 6
      rw [hN.1.2.2.1]
      refine V_if_le rfl (fun hd => ?_) (fun hd => ?_)
      · have hd := (nI_leI (b := 0) (by omega) (by omega)).mp hd
        refine V_iinc (L' := [_, _, _]) rfl rfl rfl ?_
        refine V_goto rfl ?_
        -- at 4: .iload_n 2
        rw [show Int32.ofInt 1 = nI 1 from rfl, nI_add]
        rw [hFi, decide_eq_false (by omega)] at ih
        exact ih
      · have hd := nI_ngt (b := 0) (by omega) (by omega) hd
        refine V_iinc (L' := [_, _, _]) rfl rfl rfl ?_
        refine V_iinc (L' := [_, _, _]) rfl rfl rfl ?_
        refine V_goto rfl ?_
        -- at 4: .iload_n 2
        rw [show Int32.ofInt 1 = nI 1 from rfl, nI_add, nI_add]
        rw [hFi, decide_eq_true (by omega)] at ih
        exact ih
theorem c_cd {S : mScr} {dep : Nat} {st : St} {h : Hp} (hi : InvX h st) : Cal S (dep + 1) 163 [.ref 0] h (Rt (nI (cnt (fun d => decide (0 < (st.1.2.2 d).length)) 3)) h) := by
  obtain ⟨F, hF⟩ : ∃ F : Nat → Bool, F = fun d => decide (0 < (st.1.2.2 d).length) := ⟨_, rfl⟩
  rw [← hF]
  show V S (dep + 1) 163 0 [.ref 0, .null, .null] [] h _
  refine V_ic (v := nI 0) rfl rfl ?_
  refine V_istore_n (L' := [_, _, _]) rfl rfl rfl ?_
  refine V_ic (v := nI 0) rfl rfl ?_
  refine V_istore_n (L' := [_, _, _]) rfl rfl rfl ?_
  -- at 4: .iload_n 2
  have lp := loopUp (P := fun c => V S (dep + 1) 163 4 [.ref 0, .int (nI (cnt F c)), .int (nI c)] [] h (Rt (nI (cnt F 3)) h)) 3 ?_ ?_ 0 (Nat.zero_le _)
  · exact lp
  · refine V_iload_n rfl rfl ?_
    refine V_ic (v := nI 3) rfl rfl ?_
    -- at 6: .if_icmp .ge 24
    refine V_icmp_ge rfl (fun hc => ?_) (fun hc => ?_)
    · refine V_iload_n rfl rfl ?_
      -- at 31: .ireturn
      refine V_iret rfl rfl ?_
      exact ⟨rfl, rfl⟩
    · exact absurd (by decide) hc
  · intro i h6 ih
    have hFi : F i = decide (0 < (st.1.2.2 i).length) := by rw [hF]
    have hle := cnt_le6 F i
    have hn := isD i h6
    have hb1 := deck_b hn
    have hN := hi.1.2 i h6
    have h7 := hN.2.1
    rw [cnt] at ih
    refine V_iload_n rfl rfl ?_
    refine V_ic (v := nI 3) rfl rfl ?_
    -- at 6: .if_icmp .ge 24
    refine V_icmp_ge rfl (fun hc => ?_) (fun hc => ?_)
    · exact absurd (show nI 3 ≤ nI i from hc) (nI_ge h6 (by omega))
    · refine V_aload_n rfl rfl rfl ?_
      refine V_getR (r := 2) rfl rfl ?_
      refine V_iload_n rfl rfl ?_
      refine V_a2 rfl (by first | omega | assumption) ?_
      refine V_gi 0 rfl (deck_sz (by first | assumption | rfl)) rfl ?_
      -- at 18: .ifCond .le 6
      rw [hN.2.2.1]
      refine V_if_le rfl (fun hd => ?_) (fun hd => ?_)
      · have hd := (nI_leI (b := 0) (by omega) (by omega)).mp hd
        refine V_iinc (L' := [_, _, _]) rfl rfl rfl ?_
        refine V_goto rfl ?_
        -- at 4: .iload_n 2
        rw [show Int32.ofInt 1 = nI 1 from rfl, nI_add]
        rw [hFi, decide_eq_false (by omega)] at ih
        exact ih
      · have hd := nI_ngt (b := 0) (by omega) (by omega) hd
        refine V_iinc (L' := [_, _, _]) rfl rfl rfl ?_
        refine V_iinc (L' := [_, _, _]) rfl rfl rfl ?_
        refine V_goto rfl ?_
        -- at 4: .iload_n 2
        rw [show Int32.ofInt 1 = nI 1 from rfl, nI_add, nI_add]
        rw [hFi, decide_eq_true (by omega)] at ih
        exact ih
theorem c_hmo {S : mScr} {dep n : Nat} {h : Hp} (hn : n < 6) : Cal S (dep + 1) 76 [.ref 33, .int (nI n)] h (Rt (nI (fr (n + 1) - fr n)) h) := by
  have hfr := fr_f n hn
  show V S (dep + 1) 76 0 [.ref 33, .int (nI n)] [] h _
  refine V_iload_n rfl rfl ?_
  -- at 1: .ifCond .lt 24
  refine V_if_lt rfl (fun hc => ?_) (fun hc => ?_)
  · exact absurd hc (nI_nlt (a := n) (b := 0) (by omega) (by omega))
  · refine V_iload_n rfl rfl ?_
    refine V_ic (v := nI 5) rfl rfl ?_
    -- at 6: .if_icmp .gt 19
    refine V_icmp_gt rfl (fun hd => ?_) (fun hd => ?_)
    · exact absurd hd (nI_nlt (a := 5) (b := n) (by omega) (by omega))
    · refine V_stat (v := .ref 1001) rfl rfl ?_
      refine V_iload_n rfl rfl ?_
      refine V_ic (v := nI 1) rfl rfl ?_
      refine V_iadd rfl ?_
      -- at 15: .iaload
      rw [nI_add]
      refine V_frs rfl (by omega) ?_
      refine V_stat (v := .ref 1001) rfl rfl ?_
      refine V_iload_n rfl rfl ?_
      -- at 20: .iaload
      refine V_frs rfl (by omega) ?_
      refine V_isub rfl ?_
      -- at 22: .goto 4
      rw [show frsT.getD (n + 1) 0 = fr (n + 1) from rfl, show frsT.getD n 0 = fr n from rfl, nI_sub (by omega)]
      refine V_goto rfl ?_
      -- at 26: .ireturn
      refine V_iret rfl rfl ?_
      exact ⟨rfl, rfl⟩
theorem x_count {S : mScr} {dep : Nat} {x : Int32} {st : St} {h : Hp} (hi : InvX h st) : Cal S (dep + 20) 153 [.ref 0, .int x] h (XR h (aCount st x, st)) := by
  obtain ⟨hs, hw, hx, _, ht, _⟩ := id hi
  show V S (dep + 20) 153 0 [.ref 0, .int x] [] h _
  refine V_iload_n rfl rfl ?_
  -- at 1: .tableswitch 54 0 3 #[31, 39, 44, 49]
  cases e1 : ix 4 x with
  | some j =>
    obtain ⟨rfl, hj⟩ := ix_some e1
    have ev : aCount st (nI j) = cntA st j := by unfold aCount; rw [e1]
    rw [ev]
    rcases (by omega : j = 0 ∨ j = 1 ∨ j = 2 ∨ j = 3) with rfl | rfl | rfl | rfl
    · refine V_tabI (t := 32) rfl 0 (by decide) (by decide) rfl ?_
      refine V_aload_n rfl rfl rfl ?_
      refine V_getR (r := 4) rfl rfl ?_
      refine V_gi 2 rfl rfl rfl ?_
      -- at 39: .ireturn
      rw [hx.2.2.1]
      refine V_iret rfl rfl ?_
      exact xq0 hi
    · refine V_tabI (t := 40) rfl 1 (by decide) (by decide) rfl ?_
      refine V_aload_n rfl rfl rfl ?_
      refine V_gi 3 rfl rfl rfl ?_
      -- at 44: .ireturn
      rw [ht]
      refine V_iret rfl rfl ?_
      exact xq0 hi
    · refine V_tabI (t := 45) rfl 2 (by decide) (by decide) rfl ?_
      refine V_aload_n rfl rfl rfl ?_
      -- at 46: .invokevirtual 326
      refine V_cV rfl rfl rfl rfl rfl (c_cs hi) ?_
      refine V_iret rfl rfl ?_
      exact xq0 hi
    · refine V_tabI (t := 50) rfl 3 (by decide) (by decide) rfl ?_
      refine V_aload_n rfl rfl rfl ?_
      -- at 51: .invokevirtual 329
      refine V_cV rfl rfl rfl rfl rfl (c_cd hi) ?_
      refine V_iret rfl rfl ?_
      exact xq0 hi
  | none =>
    have n1 := ix_none e1
    have hto : x.toInt < 0 ∨ (3 : Int) < x.toInt := by omega
    refine V_tabO (t := 55) rfl (hto) rfl ?_
    refine V_iload_n rfl rfl ?_
    refine V_bi (v := nI 10) rfl rfl ?_
    -- at 58: .if_icmp .lt 9
    have k10 : (nI 10).toInt = 10 := rfl
    have k15 : (nI 15).toInt = 15 := rfl
    refine V_icmp_lt rfl (fun hc => ?_) (fun hc => ?_)
    · have hc := Int32.lt_iff_toInt_lt.mp hc
      rw [k10] at hc
      have ev : aCount st x = -1 := by
        unfold aCount
        rw [e1]
        cases e2 : ix 16 x with
        | none => rfl
        | some j =>
          obtain ⟨rfl, hj⟩ := ix_some e2
          rw [nI_toNat (by omega)] at hc
          show (if j < 10 then _ else _) = _
          rw [if_pos (by omega)]
      rw [ev]
      refine V_ic (v := -1) rfl rfl ?_
      -- at 68: .ireturn
      refine V_iret rfl rfl ?_
      exact xq0 hi
    · have hc : ¬ x.toInt < 10 := fun q => hc (Int32.lt_iff_toInt_lt.mpr q)
      refine V_iload_n rfl rfl ?_
      refine V_bi (v := nI 15) rfl rfl ?_
      -- at 64: .if_icmp .le 5
      refine V_icmp_le rfl (fun hd => ?_) (fun hd => ?_)
      · have hd := Int32.le_iff_toInt_le.mp hd
        rw [k15] at hd
        cases e2 : ix 16 x with
        | none => have := ix_none e2; omega
        | some j =>
          obtain ⟨rfl, hj⟩ := ix_some e2
          rw [nI_toNat (by omega)] at hc hd
          have ev : aCount st (nI j) = nI (fr (j - 10 + 1) - fr (j - 10)) := by
            unfold aCount
            rw [e1, e2]
            show (if j < 10 then _ else _) = _
            rw [if_neg (by omega)]
          rw [ev]
          refine V_aload_n rfl rfl rfl ?_
          refine V_getR (r := 33) rfl rfl ?_
          refine V_iload_n rfl rfl ?_
          refine V_bi (v := nI 10) rfl rfl ?_
          refine V_isub rfl ?_
          -- at 77: .invokevirtual 332
          rw [nI_sub (by omega)]
          refine V_cV rfl rfl rfl rfl rfl (c_hmo (by omega)) ?_
          refine V_iret rfl rfl ?_
          exact xq0 hi
      · have hd : ¬ x.toInt ≤ 15 := fun q => hd (Int32.le_iff_toInt_le.mpr q)
        have ev : aCount st x = -1 := by
          unfold aCount
          rw [e1]
          cases e2 : ix 16 x with
          | none => rfl
          | some j =>
            obtain ⟨rfl, hj⟩ := ix_some e2
            rw [nI_toNat (by omega)] at hd
            omega
        rw [ev]
        refine V_ic (v := -1) rfl rfl ?_
        -- at 68: .ireturn
        refine V_iret rfl rfl ?_
        exact xq0 hi
theorem y_count {S : mScr} {dep : Nat} {x : Int32} {st : St} {h : Hp} (hi : InvM h st) : Cal S (dep + 20) 254 [.ref 188, .int x] h (MR h (aCount st x, st)) := by
  obtain ⟨hi0, fm0⟩ := hi.thr
  obtain ⟨h0, hh0⟩ : ∃ h0, h0 = wI h 188 4 (nI 0) := ⟨_, rfl⟩
  rw [← hh0] at hi0 fm0
  obtain ⟨hs, hw, hx, _, ht, _⟩ := id hi0
  show V S (dep + 20) 254 0 [.ref 188, .int x, .null, .null] [] h _
  refine V_aload_n rfl rfl rfl ?_
  refine V_ic (v := nI 0) rfl rfl ?_
  refine V_pi 4 rfl rfl rfl rfl ?_
  refine V_ic (v := nI 0) rfl rfl ?_
  refine V_istore_n (L' := [_, _, _, _]) rfl rfl rfl ?_
  refine V_iload_n rfl rfl ?_
  -- at 8: .tableswitch 105 0 3 #[32, 37, 42, 74]
  rw [← hh0]
  cases e1 : ix 4 x with
  | some j =>
    obtain ⟨rfl, hj⟩ := ix_some e1
    have ev : aCount st (nI j) = cntA st j := by unfold aCount; rw [e1]
    rw [ev]
    rcases (by omega : j = 0 ∨ j = 1 ∨ j = 2 ∨ j = 3) with rfl | rfl | rfl | rfl
    · refine V_tabI (t := 40) rfl 0 (by decide) (by decide) rfl ?_
      refine V_aload_n rfl rfl rfl ?_
      refine V_gi 3 rfl rfl rfl ?_
      -- at 44: .ireturn
      rw [hx.2.2.1]
      refine V_iret rfl rfl ?_
      exact mq0 hi0 fm0
    · refine V_tabI (t := 45) rfl 1 (by decide) (by decide) rfl ?_
      refine V_aload_n rfl rfl rfl ?_
      refine V_gi 10 rfl rfl rfl ?_
      -- at 49: .ireturn
      rw [ht]
      refine V_iret rfl rfl ?_
      exact mq0 hi0 fm0
    · refine V_tabI (t := 50) rfl 2 (by decide) (by decide) rfl ?_
      show V S (dep + 20) 254 50 _ [] h0 (MR h (nI (cnt (fun i => decide (0 < st.1.1 i)) 6), st))
      obtain ⟨F, hF⟩ : ∃ F : Nat → Bool, F = fun i => decide (0 < st.1.1 i) := ⟨_, rfl⟩
      rw [← hF]
      refine V_ic (v := nI 0) rfl rfl ?_
      refine V_istore_n (L' := [_, _, _, _]) rfl rfl rfl ?_
      -- at 52: .iload_n 3
      have lp := loopUp (P := fun c => V S (dep + 20) 254 52 [.ref 188, .int (nI 2), .int (nI (cnt F c)), .int (nI c)] [] h0 (MR h (nI (cnt F 6), st))) 6 ?_ ?_ 0 (Nat.zero_le _)
      · exact lp
      · refine V_iload_n rfl rfl ?_
        refine V_bi (v := nI 6) rfl rfl ?_
        -- at 55: .if_icmp .ge 25
        refine V_icmp_ge rfl (fun hc => ?_) (fun hc => ?_)
        · refine V_iload_n rfl rfl ?_
          -- at 81: .ireturn
          refine V_iret rfl rfl ?_
          exact mq0 hi0 fm0
        · exact absurd (by decide) hc
      · intro i h6 ih
        have hFi : F i = decide (0 < st.1.1 i) := by rw [hF]
        have hle := cnt_le6 F i
        have h7 := (hw.1 i h6).1
        rw [cnt] at ih
        refine V_iload_n rfl rfl ?_
        refine V_bi (v := nI 6) rfl rfl ?_
        -- at 55: .if_icmp .ge 25
        refine V_icmp_ge rfl (fun hc => ?_) (fun hc => ?_)
        · exact absurd (show nI 6 ≤ nI i from hc) (nI_ge h6 (by omega))
        · refine V_iload_n rfl rfl ?_
          refine V_aload_n rfl rfl rfl ?_
          refine V_iload_n rfl rfl ?_
          -- at 61: .invokevirtual 201
          refine V_cV rfl rfl rfl rfl rfl (m_nodes hs h6) ?_
          refine V_if_le rfl (fun hd => ?_) (fun hd => ?_)
          · have hd := (nI_leI (b := 0) (by omega) (by omega)).mp hd
            refine V_ic (v := nI 0) rfl rfl ?_
            refine V_iadd rfl ?_
            -- at 73: .istore_n 2
            rw [nI_add]
            refine V_istore_n (L' := [_, _, _, _]) rfl rfl rfl ?_
            refine V_iinc (L' := [_, _, _, _]) rfl rfl rfl ?_
            refine V_goto rfl ?_
            -- at 52: .iload_n 3
            rw [show Int32.ofInt 1 = nI 1 from rfl, nI_add]
            rw [hFi, decide_eq_false (by omega)] at ih
            exact ih
          · have hd := nI_ngt (b := 0) (by omega) (by omega) hd
            refine V_ic (v := nI 1) rfl rfl ?_
            refine V_goto rfl ?_
            refine V_iadd rfl ?_
            -- at 73: .istore_n 2
            rw [nI_add]
            refine V_istore_n (L' := [_, _, _, _]) rfl rfl rfl ?_
            refine V_iinc (L' := [_, _, _, _]) rfl rfl rfl ?_
            refine V_goto rfl ?_
            -- at 52: .iload_n 3
            rw [show Int32.ofInt 1 = nI 1 from rfl, nI_add]
            rw [hFi, decide_eq_true (by omega)] at ih
            exact ih
    · refine V_tabI (t := 82) rfl 3 (by decide) (by decide) rfl ?_
      show V S (dep + 20) 254 82 _ [] h0 (MR h (nI (cnt (fun d => decide (0 < (st.1.2.2 d).length)) 3), st))
      obtain ⟨F, hF⟩ : ∃ F : Nat → Bool, F = fun d => decide (0 < (st.1.2.2 d).length) := ⟨_, rfl⟩
      rw [← hF]
      refine V_ic (v := nI 0) rfl rfl ?_
      refine V_istore_n (L' := [_, _, _, _]) rfl rfl rfl ?_
      -- at 84: .iload_n 3
      have lp := loopUp (P := fun c => V S (dep + 20) 254 84 [.ref 188, .int (nI 3), .int (nI (cnt F c)), .int (nI c)] [] h0 (MR h (nI (cnt F 3), st))) 3 ?_ ?_ 0 (Nat.zero_le _)
      · exact lp
      · refine V_iload_n rfl rfl ?_
        refine V_ic (v := nI 3) rfl rfl ?_
        -- at 86: .if_icmp .ge 25
        refine V_icmp_ge rfl (fun hc => ?_) (fun hc => ?_)
        · refine V_iload_n rfl rfl ?_
          -- at 112: .ireturn
          refine V_iret rfl rfl ?_
          exact mq0 hi0 fm0
        · exact absurd (by decide) hc
      · intro i h6 ih
        have hFi : F i = decide (0 < (st.1.2.2 i).length) := by rw [hF]
        have hle := cnt_le6 F i
        have h7 := hw.dl h6
        have ed : dln st.1 (nI i) = (st.1.2.2 i).length := by unfold dln; rw [ix_nI (by omega), if_pos h6]
        rw [cnt] at ih
        refine V_iload_n rfl rfl ?_
        refine V_ic (v := nI 3) rfl rfl ?_
        -- at 86: .if_icmp .ge 25
        refine V_icmp_ge rfl (fun hc => ?_) (fun hc => ?_)
        · exact absurd (show nI 3 ≤ nI i from hc) (nI_ge h6 (by omega))
        · refine V_iload_n rfl rfl ?_
          refine V_aload_n rfl rfl rfl ?_
          refine V_iload_n rfl rfl ?_
          -- at 92: .invokevirtual 209
          refine V_cV rfl rfl rfl rfl rfl (m_deckOf hs) ?_
          rw [ed]
          refine V_if_le rfl (fun hd => ?_) (fun hd => ?_)
          · have hd := (nI_leI (b := 0) (by omega) (by omega)).mp hd
            refine V_ic (v := nI 0) rfl rfl ?_
            refine V_iadd rfl ?_
            -- at 104: .istore_n 2
            rw [nI_add]
            refine V_istore_n (L' := [_, _, _, _]) rfl rfl rfl ?_
            refine V_iinc (L' := [_, _, _, _]) rfl rfl rfl ?_
            refine V_goto rfl ?_
            -- at 84: .iload_n 3
            rw [show Int32.ofInt 1 = nI 1 from rfl, nI_add]
            rw [hFi, decide_eq_false (by omega)] at ih
            exact ih
          · have hd := nI_ngt (b := 0) (by omega) (by omega) hd
            refine V_ic (v := nI 1) rfl rfl ?_
            refine V_goto rfl ?_
            refine V_iadd rfl ?_
            -- at 104: .istore_n 2
            rw [nI_add]
            refine V_istore_n (L' := [_, _, _, _]) rfl rfl rfl ?_
            refine V_iinc (L' := [_, _, _, _]) rfl rfl rfl ?_
            refine V_goto rfl ?_
            -- at 84: .iload_n 3
            rw [show Int32.ofInt 1 = nI 1 from rfl, nI_add]
            rw [hFi, decide_eq_true (by omega)] at ih
            exact ih
  | none =>
    have n1 := ix_none e1
    have hto : x.toInt < 0 ∨ (3 : Int) < x.toInt := by omega
    refine V_tabO (t := 113) rfl (hto) rfl ?_
    refine V_iload_n rfl rfl ?_
    refine V_i2l rfl ?_
    refine V_l2 (v := 10) rfl rfl ?_
    refine V_l2 (v := 15) rfl rfl ?_
    -- at 121: .invokestatic 134
    refine V_cS rfl rfl rfl rfl (m_isIn) ?_
    rw [Int32.toInt_toInt64, show (10 : Int64).toInt = 10 from rfl, show (15 : Int64).toInt = 15 from rfl]
    refine V_if_ne rfl (fun hc => ?_) (fun hc => ?_)
    · have hc := of_decide_eq_true (bI_nz.mp hc)
      cases e2 : ix 16 x with
      | none => have := ix_none e2; omega
      | some j =>
        obtain ⟨rfl, hj⟩ := ix_some e2
        rw [nI_toNat (by omega)] at hc
        have ev : aCount st (nI j) = nI (fr (j - 10 + 1) - fr (j - 10)) := by
          unfold aCount
          rw [e1, e2]
          show (if j < 10 then _ else _) = _
          rw [if_neg (by omega)]
        have hj6 : j - 10 < 6 := by omega
        rw [ev]
        refine V_aload_n rfl rfl rfl ?_
        refine V_iload_n rfl rfl ?_
        refine V_bi (v := nI 10) rfl rfl ?_
        refine V_isub rfl ?_
        -- at 134: .invokevirtual 281
        rw [nI_sub (by omega)]
        refine V_callV rfl rfl rfl rfl rfl (m_lall hj6 hi0.2.2.2.2.2.2.2.2.2) ?_
        rintro _ h1 ⟨rfl, hl1, f1⟩
        show V S (dep + 20) 254 137 [.ref 188, .int (nI j), .int (nI 0), .null] [] h1 _
        refine V_aload_n rfl rfl rfl ?_
        refine V_gi 23 rfl rfl rfl ?_
        -- at 141: .ireturn
        rw [hl1.2.1, (fms_T _ hj6).1]
        refine V_iret rfl rfl ?_
        exact ⟨rfl, hi0.lay hj6 f1 hl1, fm0.tr (f1.fm (by simp))⟩
    · have hc := of_decide_eq_false (bI_z.mp (Decidable.of_not_not hc))
      have ev : aCount st x = -1 := by
        unfold aCount
        rw [e1]
        cases e2 : ix 16 x with
        | none => rfl
        | some j =>
          obtain ⟨rfl, hj⟩ := ix_some e2
          rw [nI_toNat (by omega)] at hc
          show (if j < 10 then _ else _) = _
          rw [if_pos (by omega)]
      rw [ev]
      refine V_ic (v := -1) rfl rfl ?_
      -- at 128: .ireturn
      refine V_iret rfl rfl ?_
      exact mq0 hi0 fm0
theorem x_fault {S : mScr} {dep : Nat} {x : Int32} {st : St} {h : Hp} (hi : InvX h st) : Cal S (dep + 20) 122 [.ref 0, .int x] h (XR h (aFault st x, st)) := by
  obtain ⟨_, _, _, _, _, _, hf, _, hp, _⟩ := id hi
  show V S (dep + 20) 122 0 [.ref 0, .int x] [] h _
  refine V_iload_n rfl rfl ?_
  -- at 1: .ifCond .ne 8
  refine V_if_ne rfl (fun hc => ?_) (fun hc => ?_)
  · have ev0 : aFault st x = if x = nI 1 then st.2.2.2.2.2 else -1 := by unfold aFault; rw [if_neg hc]
    refine V_iload_n rfl rfl ?_
    refine V_ic (v := nI 1) rfl rfl ?_
    -- at 11: .if_icmp .ne 10
    refine V_icmp_ne rfl (fun hd => ?_) (fun hd => ?_)
    · have ev : aFault st x = -1 := by rw [ev0, if_neg hd]
      rw [ev]
      refine V_ic (v := -1) rfl rfl ?_
      -- at 22: .ireturn
      refine V_iret rfl rfl ?_
      exact xq0 hi
    · have ev : aFault st x = st.2.2.2.2.2 := by rw [ev0, if_pos (Decidable.of_not_not hd)]
      rw [ev]
      refine V_aload_n rfl rfl rfl ?_
      refine V_gi 5 rfl rfl rfl ?_
      refine V_goto rfl ?_
      -- at 22: .ireturn
      rw [hp]
      refine V_iret rfl rfl ?_
      exact xq0 hi
  · have ev : aFault st x = nI st.2.2.2.2.1 := by unfold aFault; rw [if_pos (Decidable.of_not_not hc)]
    rw [ev]
    refine V_aload_n rfl rfl rfl ?_
    refine V_gi 4 rfl rfl rfl ?_
    -- at 8: .ireturn
    rw [hf]
    refine V_iret rfl rfl ?_
    exact xq0 hi
theorem y_fault {S : mScr} {dep : Nat} {x : Int32} {st : St} {h : Hp} (hi : InvM h st) : Cal S (dep + 20) 190 [.ref 188, .int x] h (MR h (aFault st x, st)) := by
  obtain ⟨hi0, fm0⟩ := hi.thr
  obtain ⟨h0, hh0⟩ : ∃ h0, h0 = wI h 188 4 (nI 0) := ⟨_, rfl⟩
  rw [← hh0] at hi0 fm0
  obtain ⟨_, _, _, _, _, _, hf, _, hp, _⟩ := id hi0
  show V S (dep + 20) 190 0 [.ref 188, .int x] [] h _
  refine V_aload_n rfl rfl rfl ?_
  refine V_ic (v := nI 0) rfl rfl ?_
  refine V_pi 4 rfl rfl rfl rfl ?_
  refine V_iload_n rfl rfl ?_
  -- at 6: .ifCond .ne 10
  rw [← hh0]
  refine V_if_ne rfl (fun hc => ?_) (fun hc => ?_)
  · have ev0 : aFault st x = if x = nI 1 then st.2.2.2.2.2 else -1 := by unfold aFault; rw [if_neg hc]
    refine V_iload_n rfl rfl ?_
    refine V_ic (v := nI 1) rfl rfl ?_
    -- at 18: .if_icmp .ne 10
    refine V_icmp_ne rfl (fun hd => ?_) (fun hd => ?_)
    · have ev : aFault st x = -1 := by rw [ev0, if_neg hd]
      rw [ev]
      refine V_ic (v := -1) rfl rfl ?_
      -- at 29: .ireturn
      refine V_iret rfl rfl ?_
      exact mq0 hi0 fm0
    · have ev : aFault st x = st.2.2.2.2.2 := by rw [ev0, if_pos (Decidable.of_not_not hd)]
      rw [ev]
      refine V_aload_n rfl rfl rfl ?_
      refine V_gi 14 rfl rfl rfl ?_
      refine V_goto rfl ?_
      -- at 29: .ireturn
      rw [hp]
      refine V_iret rfl rfl ?_
      exact mq0 hi0 fm0
  · have ev : aFault st x = nI st.2.2.2.2.1 := by unfold aFault; rw [if_pos (Decidable.of_not_not hc)]
    rw [ev]
    refine V_aload_n rfl rfl rfl ?_
    refine V_gi 13 rfl rfl rfl ?_
    refine V_goto rfl ?_
    -- at 29: .ireturn
    rw [hf]
    refine V_iret rfl rfl ?_
    exact mq0 hi0 fm0
