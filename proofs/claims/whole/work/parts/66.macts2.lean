/-! the reference: replace, solve, undo -/
theorem AL.set {h : Hp} {r k x : Nat} {cs : List Nat} (hA : AL h r cs) : AL (wI h r k (nI x)) r (cs.set k x) := fun i hi => by
  rw [List.length_set] at hi
  rw [List.getD_eq_getElem?_getD, List.getElem?_set]
  by_cases q : k = i
  · subst q; rw [if_pos rfl, if_pos hi, wI_same]; rfl
  · rw [if_neg q, wI_ne (by omega), ← List.getD_eq_getElem?_getD]; exact hA i hi
theorem fstO_at {xs : List Nat} {x : Nat} : ∀ m j, j + m = xs.length → (∀ i, i < j → xs.getD i 0 ≠ x) → (∃ i, i < xs.length ∧ xs.getD i 0 = x) → ∃ t, j ≤ t ∧ t < xs.length ∧ xs.getD t 0 = x ∧ (∀ i, i < t → xs.getD i 0 ≠ x) ∧ fstO xs x m = nI t := by
  intro m
  induction m with
  | zero =>
    rintro j hj hno ⟨i, hi, e⟩
    exact absurd e (hno i (by omega))
  | succ m ih =>
    intro j hj hno hex
    by_cases q : xs.getD j 0 = x
    · refine ⟨j, Nat.le_refl _, by omega, q, hno, ?_⟩
      unfold fstO
      have e : xs.length - (m + 1) = j := by omega
      rw [e, if_pos q]
    · obtain ⟨t, h1, h2, h3, h4, h5⟩ := ih (j + 1) (by omega) (fun i hi => if e : i = j then e ▸ q else hno i (by omega)) hex
      refine ⟨t, by omega, h2, h3, h4, ?_⟩
      rw [← h5]
      conv => lhs; unfold fstO
      have e : xs.length - (m + 1) = j := by omega
      rw [e, if_neg q]
theorem setD_d (s : Sl) (d : Nat) (cs : List Nat) : (setD s d cs).2.2 d = cs := if_pos rfl
theorem y_repl {S : mScr} {dep : Nat} {x y z : Int32} {st : St} {h : Hp} (hi : InvM h st) : Cal S (dep + 20) 212 [.ref 188, .int x, .int y, .int z] h (MR h (aRepl st x y z)) := by
  obtain ⟨hi0, fm0⟩ := hi.thr
  obtain ⟨h0, hh0⟩ : ∃ h0, h0 = wI h 188 4 (nI 0) := ⟨_, rfl⟩
  rw [← hh0] at hi0 fm0
  obtain ⟨hs, hw, _⟩ := id hi0
  show V S (dep + 20) 212 0 [.ref 188, .int x, .int y, .int z, .null, .null] [] h _
  have bad : aRepl st x y z = (-2, st) → V S (dep + 20) 212 21 [.ref 188, .int x, .int y, .int z, .null, .null] [] h0 (MR h (aRepl st x y z)) := by
    intro e
    rw [e]
    refine V_bi (v := -2) rfl rfl ?_
    -- at 23: .ireturn
    refine V_iret rfl rfl ?_
    exact ⟨rfl, hi0, fm0⟩
  refine V_aload_n rfl rfl rfl ?_
  refine V_ic (v := nI 0) rfl rfl ?_
  refine V_pi 4 rfl rfl rfl rfl ?_
  refine V_aload_n rfl rfl rfl ?_
  refine V_iload_n rfl rfl ?_
  refine V_iload_n rfl rfl ?_
  -- at 8: .invokevirtual 249
  rw [← hh0]
  refine V_cV rfl rfl rfl rfl rfl (m_isCard hs hw) ?_
  refine V_if_eq rfl (fun hc => ?_) (fun hc => ?_)
  · have hc := bI_non hc
    exact bad (by unfold aRepl; rw [hc])
  · obtain ⟨k, e1⟩ := bI_som hc
    obtain ⟨rfl, hk⟩ := ix_some e1
    obtain ⟨d, e3, rfl, hd3, e4⟩ := dln_pos (s := st.1) (x := x) (by omega)
    rw [e4] at hk
    refine V_iload_n rfl rfl ?_
    -- at 15: .invokestatic 222
    refine V_cS rfl rfl rfl rfl (m_isSlot) ?_
    refine V_if_ne rfl (fun hd => ?_) (fun hd => ?_)
    · obtain ⟨i, e2⟩ := bI_som hd
      obtain ⟨rfl, hi6⟩ := ix_some e2
      have hwi := hw.1 i hi6
      have hWd := hw.wd hd3 (by omega)
      obtain ⟨cs, hcs⟩ : ∃ cs, cs = st.1.2.2 d := ⟨_, rfl⟩
      obtain ⟨f, hf⟩ : ∃ f, f = frm (st.1.1 i) (st.1.2.1 i) := ⟨_, rfl⟩
      have ev : aRepl st (nI d) (nI k) (nI i) = if st.1.1 i + 1 = cs.length then (fstO (rpl cs k f) f cs.length, psh st (setD st.1 d (rpl cs k f))) else (-5, st) := by
        unfold aRepl; rw [e1, e2]; dsimp only; rw [e3, hcs, hf]
      rw [ev]
      rw [← hcs] at hWd hk
      have hw7 := hWd.2.1
      have hw2 := hWd.1
      refine V_aload_n rfl rfl rfl ?_
      refine V_iload_n rfl rfl ?_
      -- at 26: .invokevirtual 201
      refine V_cV rfl rfl rfl rfl rfl (m_nodes hs hi6) ?_
      refine V_aload_n rfl rfl rfl ?_
      refine V_iload_n rfl rfl ?_
      -- at 31: .invokevirtual 209
      refine V_cV rfl rfl rfl rfl rfl (m_deckOf hs) ?_
      rw [dln_nI hd3, ← hcs]
      refine V_ic (v := nI 1) rfl rfl ?_
      refine V_isub rfl ?_
      -- at 36: .if_icmp .eq 6
      rw [nI_sub (by omega)]
      refine V_icmp_eq rfl (fun he => ?_) (fun he => ?_)
      · have he := nI_inj (by omega) (by omega) he
        rw [if_pos (by omega)]
        have hfl : f < 2 ^ tri (cs.length - 1) := by rw [hf, ← he]; exact frm_lt hwi.1
        have hff : frm (cs.length - 1) f = f := by rw [hf, ← he]; exact frm_frm hwi.1 hwi.2
        have hf21 : f < 2 ^ 21 := by rw [hf]; exact frm21 hwi.1
        have hRW := rpl_WD (k := k) hWd hfl hff
        have hrl : (rpl cs k f).length = cs.length := by unfold rpl; rw [srt_len, List.length_set]
        refine V_aload_n rfl rfl rfl ?_
        -- at 43: .invokevirtual 229
        refine V_callV rfl rfl rfl rfl rfl (m_rem hi0) ?_
        rintro _ h1 ⟨rfl, hs1, hr1, fm1⟩
        show V S (dep + 20) 212 46 [.ref 188, .int (nI d), .int (nI k), .int (nI i), .null, .null] [] h1 _
        have fm1 := fm0.tr fm1
        refine V_aload_n rfl rfl rfl ?_
        refine V_iload_n rfl rfl ?_
        -- at 48: .invokevirtual 238
        refine V_callV rfl rfl rfl rfl rfl (m_fof hs1 hw hi6) ?_
        rintro _ h2 ⟨rfl, k2⟩
        rw [← hf]
        show V S (dep + 20) 212 51 [.ref 188, .int (nI d), .int (nI k), .int (nI i), .null, .null] [.int (nI f)] h2 _
        have hs2 := hs1.mf k2 (by simp)
        refine V_istore (L' := [_, _, _, _, _, _]) rfl rfl rfl ?_
        refine V_aload_n rfl rfl rfl ?_
        refine V_iload_n rfl rfl ?_
        -- at 55: .invokevirtual 252
        refine V_callV rfl rfl rfl rfl rfl (m_takes hs2 hw hd3) ?_
        rintro _ h3 ⟨rfl, hA3, k3⟩
        show V S (dep + 20) 212 58 [.ref 188, .int (nI d), .int (nI k), .int (nI i), .int (nI f), .null] [] h3 _
        rw [← hcs] at hA3
        have hs3 := hs2.mf k3 (by simp)
        refine V_aload_n rfl rfl rfl ?_
        refine V_getR (r := 195) rfl rfl ?_
        refine V_iload_n rfl rfl ?_
        refine V_iload rfl rfl ?_
        refine V_as 7 rfl rfl (by first | with_reducible rfl | assumption | exact nI_sub (by omega) | exact nI_add _ _) (by first | omega | assumption) rfl ?_
        -- at 66: .aload_n 0
        have hA4 := hA3.set (k := k) (x := f)
        have k4 : MF [] [195] h3 (wI h3 195 k (nI f)) := MF.w (by simp) (by decide)
        have hs4 := hs3.mf k4 (by simp)
        refine V_aload_n rfl rfl rfl ?_
        refine V_iload_n rfl rfl ?_
        refine V_aload_n rfl rfl rfl ?_
        refine V_iload_n rfl rfl ?_
        -- at 70: .invokevirtual 209
        refine V_cV rfl rfl rfl rfl rfl (m_deckOf hs4) ?_
        rw [dln_nI hd3, ← hcs]
        refine V_st (st' := [.int (nI (cs.set k f).length), .int (nI d), .ref 188]) (by rw [List.length_set]) ?_
        have hb21 : ∀ x ∈ cs.set k f, x < 2 ^ 21 := fun x hx => by
          rcases List.mem_or_eq_of_mem_set hx with q | q
          · exact c21 (by omega) (hWd.2.2.2 x q).1
          · rw [q]; exact hf21
        refine V_callV rfl rfl rfl rfl rfl (m_lays hs4 hd3 hA4 (by rw [List.length_set]; exact hw7) hb21) ?_
        rintro _ h5 ⟨rfl, hs5, hA5, k5⟩
        show V S (dep + 20) 212 76 [.ref 188, .int (nI d), .int (nI k), .int (nI i), .int (nI f), .null] [] h5 _
        have hs5 : MSt h5 (setD st.1 d (rpl cs k f)) := hs5
        have kk : MF [6, 7] [189, 192, 193, 195] h1 h5 := (((k2.mono (by simp) (by simp)).tr (k3.mono (by simp) (by simp))).tr (k4.mono (by simp) (by simp))).tr (k5.mono (by simp) (by simp))
        have hact := InvM.act hr1 fm1 kk (by simp; decide) (by simp; decide) hs5 (hw.setD hRW)
        have hex : ∃ i, i < (rpl cs k f).length ∧ (rpl cs k f).getD i 0 = f := by
          have hm : f ∈ rpl cs k f := srt_mem.mpr (List.mem_set hk f)
          obtain ⟨t, ht, e⟩ := List.mem_iff_getElem.mp hm
          exact ⟨t, ht, by rw [List.getD_eq_getElem?_getD, List.getElem?_eq_getElem ht]; exact e⟩
        obtain ⟨t, _, ht, e5, hno, efst⟩ := fstO_at (xs := rpl cs k f) (x := f) (rpl cs k f).length 0 (by omega) (fun i hi => by omega) hex
        rw [hrl] at ht efst
        refine V_ic (v := nI 0) rfl rfl ?_
        refine V_istore (L' := [_, _, _, _, _, _]) rfl rfl rfl ?_
        -- at 79: .aload_n 0
        have lp := loopUp (P := fun j => V S (dep + 20) 212 79 [.ref 188, .int (nI d), .int (nI k), .int (nI i), .int (nI f), .int (nI j)] [] h5 (MR h (fstO (rpl cs k f) f cs.length, psh st (setD st.1 d (rpl cs k f))))) t ?_ ?_ 0 (Nat.zero_le _)
        · exact lp
        · refine V_aload_n rfl rfl rfl ?_
          refine V_iload_n rfl rfl ?_
          refine V_iload rfl rfl ?_
          -- at 83: .invokevirtual 216
          refine V_cV rfl rfl rfl rfl rfl (m_cardOf hs5 hd3 (by omega)) ?_
          rw [setD_d, e5]
          refine V_iload rfl rfl ?_
          -- at 88: .if_icmp .eq 9
          refine V_icmp_eq rfl (fun hj => ?_) (fun hj => ?_)
          · refine V_iload rfl rfl ?_
            -- at 99: .ireturn
            refine V_iret rfl rfl ?_
            exact ⟨by rw [efst], hact.1, hact.2⟩
          · exact absurd rfl hj
        · intro j hj ih
          have hcj : (rpl cs k f).getD j 0 < 2 ^ 21 := c21 (by rw [hrl]; omega) (hRW.2.2.2 _ (getD_mem (by omega))).1
          refine V_aload_n rfl rfl rfl ?_
          refine V_iload_n rfl rfl ?_
          refine V_iload rfl rfl ?_
          -- at 83: .invokevirtual 216
          refine V_cV rfl rfl rfl rfl rfl (m_cardOf hs5 hd3 (by omega)) ?_
          rw [setD_d]
          refine V_iload rfl rfl ?_
          -- at 88: .if_icmp .eq 9
          refine V_icmp_eq rfl (fun hl => ?_) (fun hl => ?_)
          · exact absurd (nI_inj (by omega) (by omega) hl) (hno j hj)
          · refine V_iinc (L' := [_, _, _, _, _, _]) rfl rfl rfl ?_
            refine V_goto rfl ?_
            -- at 79: .aload_n 0
            rw [show Int32.ofInt 1 = nI 1 from rfl, nI_add]
            exact ih
      · have he : ¬ st.1.1 i = cs.length - 1 := fun q => he (by rw [q])
        rw [if_neg (by omega)]
        refine V_bi (v := -5) rfl rfl ?_
        -- at 41: .ireturn
        refine V_iret rfl rfl ?_
        exact ⟨rfl, hi0, fm0⟩
    · have hd := bI_non (Decidable.of_not_not hd)
      exact bad (by unfold aRepl; rw [hd]; cases ix (dln st.1 (nI d)) (nI k) <;> rfl)
theorem y_solv {S : mScr} {dep : Nat} {x y : Int32} {st : St} {h : Hp} (hi : InvM h st) : Cal S (dep + 20) 213 [.ref 188, .int x, .int y] h (MR h (aSolv st x y)) := by
  obtain ⟨hi0, fm0⟩ := hi.thr
  obtain ⟨h0, hh0⟩ : ∃ h0, h0 = wI h 188 4 (nI 0) := ⟨_, rfl⟩
  rw [← hh0] at hi0 fm0
  obtain ⟨hs, hw, _⟩ := id hi0
  have hdl := dln_le (x := x) hw
  show V S (dep + 20) 213 0 [.ref 188, .int x, .int y, .null] [] h _
  have bad : aSolv st x y = (-2, st) → V S (dep + 20) 213 20 [.ref 188, .int x, .int y, .null] [] h0 (MR h (aSolv st x y)) := by
    intro e
    rw [e]
    refine V_bi (v := -2) rfl rfl ?_
    -- at 22: .ireturn
    refine V_iret rfl rfl ?_
    exact ⟨rfl, hi0, fm0⟩
  refine V_aload_n rfl rfl rfl ?_
  refine V_ic (v := nI 0) rfl rfl ?_
  refine V_pi 4 rfl rfl rfl rfl ?_
  refine V_aload_n rfl rfl rfl ?_
  refine V_iload_n rfl rfl ?_
  -- at 7: .invokevirtual 209
  rw [← hh0]
  refine V_cV rfl rfl rfl rfl rfl (m_deckOf hs) ?_
  refine V_if_eq rfl (fun hc => ?_) (fun hc => ?_)
  · have hc := nI_inj (b := 0) (by omega) (by omega) hc
    refine bad ?_
    unfold aSolv
    cases q : ix 3 x with
    | none => rfl
    | some d =>
      have : dln st.1 x = (st.1.2.2 d).length := by unfold dln; rw [q]
      rw [this] at hc
      cases q2 : ix 6 y with
      | none => rfl
      | some i => dsimp only; rw [if_pos hc]
  · have hc : ¬ dln st.1 x = 0 := fun q => hc (by rw [q]; rfl)
    obtain ⟨d, e3, rfl, hd3, e4⟩ := dln_pos (s := st.1) (x := x) (by omega)
    rw [e4] at hc
    refine V_iload_n rfl rfl ?_
    -- at 14: .invokestatic 222
    refine V_cS rfl rfl rfl rfl (m_isSlot) ?_
    refine V_if_ne rfl (fun hd => ?_) (fun hd => ?_)
    · obtain ⟨i, e2⟩ := bI_som hd
      obtain ⟨rfl, hi6⟩ := ix_some e2
      have hWd := hw.wd hd3 (by omega)
      obtain ⟨cs, hcs⟩ : ∃ cs, cs = st.1.2.2 d := ⟨_, rfl⟩
      have ev : aSolv st (nI d) (nI i) = if ansL cs = [] then (-5, st) else (nI (pop ((ansL cs).getD 0 0)), psh st (setN st.1 i cs.length ((ansL cs).getD 0 0))) := by
        unfold aSolv; rw [e3, e2]; dsimp only; rw [if_neg hc, hcs]
      rw [ev]
      have hal := ans_len hWd
      refine V_aload_n rfl rfl rfl ?_
      refine V_iload_n rfl rfl ?_
      -- at 25: .invokevirtual 252
      refine V_callV rfl rfl rfl rfl rfl (m_takes hs hw hd3) ?_
      rintro _ h1 ⟨rfl, hA1, k1⟩
      rw [← hcs] at hA1 hWd hal
      show V S (dep + 20) 213 28 [.ref 188, .int (nI d), .int (nI i), .null] [] h1 _
      have hi1 := hi0.mf k1 (by simp) (by simp; rfl) (by simp)
      have fm1 := fm0.tr (k1.fm (by simp))
      refine V_aload_n rfl rfl rfl ?_
      refine V_iload_n rfl rfl ?_
      -- at 30: .invokevirtual 209
      refine V_cV rfl rfl rfl rfl rfl (m_deckOf hi1.1) ?_
      rw [dln_nI hd3, ← hcs]
      refine V_istore_n (L' := [_, _, _, _]) rfl rfl rfl ?_
      refine V_aload_n rfl rfl rfl ?_
      refine V_iload_n rfl rfl ?_
      -- at 36: .invokevirtual 255
      refine V_callV rfl rfl rfl rfl rfl (m_ans hA1 hWd) ?_
      rintro _ h2 ⟨rfl, hA2, k2⟩
      show V S (dep + 20) 213 39 [.ref 188, .int (nI d), .int (nI i), .int (nI cs.length)] [.int (nI (ansL cs).length)] h2 _
      have hi2 := hi1.mf k2 (by simp; decide) (by simp; decide) (by simp)
      have fm2 := fm1.tr (k2.fm (by simp))
      refine V_if_ne rfl (fun he => ?_) (fun he => ?_)
      · have hne : ansL cs ≠ [] := fun q => he (by rw [q]; rfl)
        have hpos : 0 < (ansL cs).length := List.length_pos_iff.mpr hne
        have hal2 := ans_b hWd.2.1 _ (getD_mem hpos)
        rw [if_neg hne]
        refine V_aload_n rfl rfl rfl ?_
        -- at 46: .invokevirtual 229
        refine V_callV rfl rfl rfl rfl rfl (m_rem0 hi2) ?_
        rintro _ h3 ⟨rfl, hs3, hr3, fm3, k3⟩
        show V S (dep + 20) 213 49 [.ref 188, .int (nI d), .int (nI i), .int (nI cs.length)] [] h3 _
        have fm3 := fm2.tr fm3
        have hA3 := hA2.mf k3 (by simp) (by decide)
        refine V_aload_n rfl rfl rfl ?_
        refine V_iload_n rfl rfl ?_
        refine V_iload_n rfl rfl ?_
        refine V_aload_n rfl rfl rfl ?_
        refine V_getR (r := 206) rfl rfl ?_
        refine V_ic (v := nI 0) rfl rfl ?_
        refine V_al 64 rfl rfl (by first | with_reducible rfl | assumption | exact nI_sub (by omega) | exact nI_add _ _) (by first | omega | assumption) rfl ?_
        -- at 58: .invokevirtual 182
        rw [hA3 0 hpos]
        refine V_callV rfl rfl rfl rfl rfl (m_becomes hs3 hi6) ?_
        rintro _ h4 ⟨rfl, hs4, k4⟩
        show V S (dep + 20) 213 61 [.ref 188, .int (nI d), .int (nI i), .int (nI cs.length)] [] h4 _
        have hA4 := hA3.mf k4 (by simp) (by decide)
        refine V_aload_n rfl rfl rfl ?_
        refine V_getR (r := 206) rfl rfl ?_
        refine V_ic (v := nI 0) rfl rfl ?_
        refine V_al 64 rfl rfl (by first | with_reducible rfl | assumption | exact nI_sub (by omega) | exact nI_add _ _) (by first | omega | assumption) rfl ?_
        -- at 67: .invokestatic 232
        rw [hA4 0 hpos]
        refine V_cS rfl rfl rfl rfl (m_lines (Nat.lt_trans (c21 hWd.2.1 hal2) (by decide))) ?_
        refine V_iret rfl rfl ?_
        have := InvM.act hr3 fm3 k4 (by simp) (by simp; rfl) hs4 (hw.setN hWd.2.1 hal2)
        exact ⟨rfl, this.1, this.2⟩
      · have he := nI_inj (b := 0) (by omega) (by omega) (Decidable.of_not_not he)
        rw [if_pos (List.length_eq_zero_iff.mp he)]
        refine V_bi (v := -5) rfl rfl ?_
        -- at 44: .ireturn
        refine V_iret rfl rfl ?_
        exact ⟨rfl, hi2, fm2⟩
    · have hd := bI_non (Decidable.of_not_not hd)
      exact bad (by unfold aSolv; rw [e3, hd])
theorem y_undo {S : mScr} {dep : Nat} {st : St} {h : Hp} (hi : InvM h st) : Cal S (dep + 20) 214 [.ref 188] h (MR h (aUndo st)) := by
  obtain ⟨hi0, fm0⟩ := hi.thr
  obtain ⟨h0, hh0⟩ : ∃ h0, h0 = wI h 188 4 (nI 0) := ⟨_, rfl⟩
  rw [← hh0] at hi0 fm0
  obtain ⟨hs, hw, ha, hrest⟩ := id hi0
  obtain ⟨hl, hW, h3, hrow⟩ := ha
  show V S (dep + 20) 214 0 [.ref 188, .null] [] h _
  refine V_aload_n rfl rfl rfl ?_
  refine V_ic (v := nI 0) rfl rfl ?_
  refine V_pi 4 rfl rfl rfl rfl ?_
  -- at 5: .aload_n 0
  rw [← hh0]
  refine V_aload_n rfl rfl rfl ?_
  refine V_gi 3 rfl rfl rfl ?_
  -- at 9: .ifCond .ne 6
  rw [h3]
  refine V_if_ne rfl (fun hc => ?_) (fun hc => ?_)
  · cases q : st.2.1 with
    | nil => rw [q] at hc; exact absurd rfl hc
    | cons t ts =>
      have ev : aUndo st = (nI ts.length, (t, ts, st.2.2)) := by unfold aUndo; rw [q]
      rw [ev]
      rw [q] at hl hW h3 hrow
      have hll : ts.length + 1 ≤ 10 := hl
      have h3 : h0.1 188 3 = nI (ts.length + 1) := h3
      refine V_aload_n rfl rfl rfl ?_
      refine V_dup rfl rfl ?_
      refine V_gi 3 rfl rfl rfl ?_
      refine V_ic (v := nI 1) rfl rfl ?_
      refine V_isub rfl ?_
      -- at 22: .putfield 196
      rw [h3, nI_sub (by omega), show ts.length + 1 - 1 = ts.length by omega]
      refine V_pi 3 rfl rfl rfl rfl ?_
      refine V_ic (v := nI 0) rfl rfl ?_
      refine V_istore_n (L' := [_, _]) rfl rfl rfl ?_
      -- at 27: .iload_n 1
      have lp := loopUp (P := fun k => ∀ h1, MF [3] [189] h0 h1 → h1.1 188 3 = nI ts.length → (∀ i, i < k → h1.1 189 i = enc t i) → V S (dep + 20) 214 27 [.ref 188, .int (nI k)] [] h1 (MR h (nI ts.length, (t, ts, st.2.2)))) 36 ?_ ?_ 0 (Nat.zero_le _)
      · exact lp _ (MF.f (by simp)) wI_same (fun i hi => by omega)
      · intro h1 f1 e1 w1
        refine V_iload_n rfl rfl ?_
        refine V_bi (v := nI 36) rfl rfl ?_
        -- at 30: .if_icmp .ge 29
        refine V_icmp_ge rfl (fun hd => ?_) (fun hd => ?_)
        · refine V_aload_n rfl rfl rfl ?_
          refine V_gi 3 rfl rfl rfl ?_
          -- at 63: .ireturn
          rw [e1]
          refine V_iret rfl rfl ?_
          have no : ∀ b, b ≠ 188 → b ≠ 189 → h1.1 b = h0.1 b := fun b hb hk => f1.2.1 b hb (by simp; exact hk)
          have nf : ∀ i, i ≠ 3 → h1.1 188 i = h0.1 188 i := fun i hk => f1.2.2 i (by simp; exact hk)
          obtain ⟨a2, a3, a4, a5, a6, a7, a8⟩ := hrest
          refine ⟨rfl, ⟨w1, hW t (by simp), ⟨by show ts.length ≤ 10; omega, fun u hu => hW u (by simp [show u ∈ ts from hu]), e1, fun j hj k hk => ?_⟩, fun i hi => by rw [no 194 (by decide) (by decide)]; exact a2 i hi, by rw [nf 10 (by decide)]; exact a3, a4, by rw [nf 13 (by decide)]; exact a5, a6, by rw [nf 14 (by decide)]; exact a7, a8.eq (nf 24 (by decide)) (nf 23 (by decide)) (no 198 (by decide) (by decide)) (no 199 (by decide) (by decide))⟩, fm0.tr (f1.fm (by simp))⟩
          have hj : j < ts.length := hj
          have := hrow (j + 1) (by simp; omega) k hk
          rw [no 191 (by decide) (by decide)]
          rw [show (t :: ts).length - 1 - (j + 1) = ts.length - 1 - j by simp; omega] at this
          exact this
        · exact absurd (by decide) hd
      · intro k hk ih h1 f1 e1 w1
        have e191 : h1.1 191 = h0.1 191 := f1.2.1 191 (by decide) (by simp)
        refine V_iload_n rfl rfl ?_
        refine V_bi (v := nI 36) rfl rfl ?_
        -- at 30: .if_icmp .ge 29
        refine V_icmp_ge rfl (fun hd => ?_) (fun hd => ?_)
        · exact absurd hd (nI_ge hk (by decide))
        · refine V_aload_n rfl rfl rfl ?_
          refine V_getR (r := 189) rfl rfl ?_
          refine V_iload_n rfl rfl ?_
          refine V_aload_n rfl rfl rfl ?_
          refine V_getR (r := 191) rfl rfl ?_
          refine V_bi (v := nI 36) rfl rfl ?_
          refine V_aload_n rfl rfl rfl ?_
          refine V_gi 3 rfl rfl rfl ?_
          refine V_imul rfl ?_
          refine V_iload_n rfl rfl ?_
          refine V_iadd rfl ?_
          -- at 51: .iaload
          rw [e1, nI_mul, nI_add]
          refine V_al 360 rfl rfl (by first | with_reducible rfl | assumption | exact nI_sub (by omega) | exact nI_add _ _) (by first | omega | assumption) rfl ?_
          -- at 52: .iastore
          have := hrow 0 (by simp) k hk
          rw [show (t :: ts).length - 1 - 0 = ts.length by simp] at this
          rw [e191, this]
          refine V_as 36 rfl rfl (by first | with_reducible rfl | assumption | exact nI_sub (by omega) | exact nI_add _ _) (by first | omega | assumption) rfl ?_
          refine V_iinc (L' := [_, _]) rfl rfl rfl ?_
          refine V_goto rfl ?_
          -- at 27: .iload_n 1
          rw [show Int32.ofInt 1 = nI 1 from rfl, nI_add]
          refine ih _ (f1.tr (MF.w (by simp) (by decide))) (by rw [wI_oth (by decide)]; exact e1) (fun i hi => ?_)
          by_cases z : i = k
          · rw [z, wI_same]; rfl
          · rw [wI_ne (by omega)]; exact w1 i (by omega)
  · have hc := nI_inj (b := 0) (by omega) (by omega) (Decidable.of_not_not hc)
    have q := List.length_eq_zero_iff.mp hc
    have ev : aUndo st = (-5, st) := by unfold aUndo; rw [q]
    rw [ev]
    refine V_bi (v := -5) rfl rfl ?_
    -- at 14: .ireturn
    refine V_iret rfl rfl ?_
    exact ⟨rfl, hi0, fm0⟩
