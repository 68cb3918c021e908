/-! the class: questions on decks -/
def tolA (cs : List Nat) (j : Nat) : Int32 := if j = 4 then nI (opc cs) else match tldL cs with
  | none => -1
  | some t => if j = 0 then nI t else if j = 3 then bI (decide (fewL cs cs.length = mosL cs cs.length)) else nI 100 + (nI t - nI (if j = 1 then fewL cs cs.length else mosL cs cs.length))
def aTold (st : St) (x w : Int32) : Int32 := match dkO st.1 x, ix 5 w with
  | some d, some j => tolA (st.1.2.2 d) j
  | _, _ => -2
theorem sub_inj {t a b : Nat} (ht : t < 2 ^ 30) (ha : a < 2 ^ 30) (hb : b < 2 ^ 30) (h : nI t - nI a = nI t - nI b) : a = b := by
  have := congrArg Int32.toInt h
  rw [dif_toInt ht ha, dif_toInt ht hb] at this
  omega
theorem x_told {S : mScr} {dep : Nat} {x w : Int32} {st : St} {h : Hp} (hi : InvX h st) : Cal S (dep + 20) 145 [.ref 0, .int x, .int w] h (XR h (aTold st x w, st)) := by
  obtain ⟨hs, hw, hx, _⟩ := id hi
  show V S (dep + 20) 145 0 [.ref 0, .int x, .int w, .null, .null, .null, .null] [] h _
  have bad : aTold st x w = -2 → V S (dep + 20) 145 17 [.ref 0, .int x, .int w, .null, .null, .null, .null] [] h (XR h (aTold st x w, st)) := by
    intro e
    rw [e]
    refine V_bi (v := -2) rfl rfl ?_
    -- at 19: .ireturn
    refine V_iret rfl rfl ?_
    exact xq0 hi
  have z0 : (0 : Int32).toInt = 0 := rfl
  refine V_aload_n rfl rfl rfl ?_
  refine V_iload_n rfl rfl ?_
  -- at 2: .invokevirtual 199
  refine V_cV rfl rfl rfl rfl rfl (c_noD hs) ?_
  refine V_if_ne rfl (fun hc => ?_) (fun hc => ?_)
  · have hc := dkO_no (of_decide_eq_true (bI_nz.mp hc))
    exact bad (by unfold aTold; rw [hc])
  · obtain ⟨d, ed⟩ := dkO_yes (of_decide_eq_false (bI_z.mp (Decidable.of_not_not hc)))
    obtain ⟨_, rfl, hd3, _, hpos⟩ := dkO_some ed
    have nobad : ix 5 w = none → aTold st (nI d) w = -2 := fun q => by unfold aTold; rw [ed, q]
    refine V_iload_n rfl rfl ?_
    -- at 9: .ifCond .lt 8
    refine V_if_lt rfl (fun hd => ?_) (fun hd => ?_)
    · refine bad (nobad ?_)
      unfold ix
      rw [if_neg]
      intro q
      rw [Int32.lt_iff_toInt_lt] at hd
      omega
    · refine V_iload_n rfl rfl ?_
      refine V_ic (v := nI 4) rfl rfl ?_
      -- at 14: .if_icmp .le 6
      refine V_icmp_le rfl (fun he => ?_) (fun he => ?_)
      · obtain ⟨j, e2, rfl, hj⟩ : ∃ j, ix 5 w = some j ∧ w = nI j ∧ j < 5 := by
          have : (ix 5 w).isSome = true := by
            rw [ix_is]
            refine decide_eq_true ?_
            rw [Int32.lt_iff_toInt_lt] at hd
            rw [Int32.le_iff_toInt_le, nI_toInt (by omega)] at he
            omega
          obtain ⟨j, hj⟩ := Option.isSome_iff_exists.mp this
          exact ⟨j, hj, ix_some hj⟩
        have hnd := isD d hd3
        have hb2 := deck_b hnd
        have hD := hs.2 d hd3
        have hWd := hw.wd hd3 hpos
        obtain ⟨cs, hcs⟩ : ∃ cs, cs = st.1.2.2 d := ⟨_, rfl⟩
        have ev : aTold st (nI d) (nI j) = tolA cs j := by unfold aTold; rw [ed, e2, hcs]
        rw [ev]
        rw [← hcs] at hD hWd
        have hb21 := hD.2.2.2.2
        refine V_aload_n rfl rfl rfl ?_
        refine V_getR (r := 2) rfl rfl ?_
        refine V_iload_n rfl rfl ?_
        refine V_a2 rfl (by first | omega | assumption) ?_
        refine V_astore_n (L' := [_, _, _, _, _, _, _]) rfl (by first | rfl | (rw [Bool.and_eq_true]; exact ⟨rfl, by first | assumption | rfl⟩)) rfl ?_
        refine V_iload_n rfl rfl ?_
        refine V_ic (v := nI 4) rfl rfl ?_
        -- at 29: .if_icmp .ne 12
        refine V_icmp_ne rfl (fun hf => ?_) (fun hf => ?_)
        · have hf : ¬ j = 4 := fun q => hf (by rw [q])
          refine V_aload_n rfl rfl (by first | assumption | rfl) ?_
          -- at 42: .invokevirtual 297
          refine V_cV rfl rfl (by first | assumption | rfl) rfl rfl (c_tld hD) ?_
          refine V_istore (L' := [_, _, _, _, _, _, _]) rfl rfl rfl ?_
          refine V_iload rfl rfl ?_
          refine V_ic (v := -1) rfl rfl ?_
          -- at 50: .if_icmp .eq 7
          cases ht : tldL cs with
          | none =>
            have e3 : tolA cs j = -1 := by unfold tolA; rw [if_neg hf, ht]
            rw [e3]
            refine V_icmp_eq rfl (fun hg => ?_) (fun hg => ?_)
            · refine V_iload rfl rfl ?_
              -- at 59: .ireturn
              refine V_iret rfl rfl ?_
              exact xq0 hi
            · exact absurd rfl hg
          | some t =>
            have htl := tldL_le hb21 hWd.2.1 ht
            have hml := mosL_le hb21 cs.length
            have hfl := fewL_le cs cs.length
            have e3 : tolA cs j = if j = 0 then nI t else if j = 3 then bI (decide (fewL cs cs.length = mosL cs cs.length)) else nI 100 + (nI t - nI (if j = 1 then fewL cs cs.length else mosL cs cs.length)) := by unfold tolA; rw [if_neg hf, ht]
            rw [e3]
            refine V_icmp_eq rfl (fun hg => ?_) (fun hg => ?_)
            · exact absurd ((oI_none (o := some t) (fun x hx => by cases hx; omega)).mp hg) (by simp)
            · show V S (dep + 20) 145 53 [.ref 0, .int (nI d), .int (nI j), .ref (182 + 2 * d), .int (nI t), .null, .null] [] h _
              refine V_iload_n rfl rfl ?_
              -- at 54: .ifCond .ne 6
              refine V_if_ne rfl (fun hk => ?_) (fun hk => ?_)
              · have hk : ¬ j = 0 := fun q => hk (by rw [q]; rfl)
                rw [if_neg hk]
                refine V_iload rfl rfl ?_
                refine V_aload_n rfl rfl (by first | assumption | rfl) ?_
                -- at 63: .invokevirtual 300
                refine V_cV rfl rfl (by first | assumption | rfl) rfl rfl (c_few hD) ?_
                refine V_isub rfl ?_
                refine V_istore (L' := [_, _, _, _, _, _, _]) rfl rfl rfl ?_
                refine V_iload rfl rfl ?_
                refine V_aload_n rfl rfl (by first | assumption | rfl) ?_
                -- at 72: .invokevirtual 303
                refine V_cV rfl rfl (by first | assumption | rfl) rfl rfl (c_mos hD) ?_
                refine V_isub rfl ?_
                refine V_istore (L' := [_, _, _, _, _, _, _]) rfl rfl rfl ?_
                refine V_iload_n rfl rfl ?_
                refine V_ic (v := nI 3) rfl rfl ?_
                -- at 80: .if_icmp .ne 16
                refine V_icmp_ne rfl (fun hl => ?_) (fun hl => ?_)
                · have hl : ¬ j = 3 := fun q => hl (by rw [q])
                  rw [if_neg hl]
                  refine V_bi (v := nI 100) rfl rfl ?_
                  refine V_iload_n rfl rfl ?_
                  refine V_ic (v := nI 1) rfl rfl ?_
                  -- at 100: .if_icmp .ne 8
                  refine V_icmp_ne rfl (fun hp => ?_) (fun hp => ?_)
                  · have hp : ¬ j = 1 := fun q => hp (by rw [q])
                    rw [if_neg hp]
                    refine V_iload rfl rfl ?_
                    refine V_iadd rfl ?_
                    -- at 111: .ireturn
                    refine V_iret rfl rfl ?_
                    exact xq0 hi
                  · have hp := nI_inj (by omega) (by omega) (Decidable.of_not_not hp)
                    rw [if_pos hp]
                    refine V_iload rfl rfl ?_
                    refine V_goto rfl ?_
                    refine V_iadd rfl ?_
                    -- at 111: .ireturn
                    refine V_iret rfl rfl ?_
                    exact xq0 hi
                · have hl := nI_inj (by omega) (by omega) (Decidable.of_not_not hl)
                  rw [if_pos hl]
                  refine V_iload rfl rfl ?_
                  refine V_iload rfl rfl ?_
                  -- at 87: .if_icmp .ne 7
                  refine V_icmp_ne rfl (fun hp => ?_) (fun hp => ?_)
                  · rw [decide_eq_false (fun q => hp (by rw [q]))]
                    refine V_ic (v := nI 0) rfl rfl ?_
                    -- at 95: .ireturn
                    refine V_iret rfl rfl ?_
                    exact xq0 hi
                  · have hp := sub_inj (by omega) (by omega) (by omega) (Decidable.of_not_not hp)
                    rw [decide_eq_true hp]
                    refine V_ic (v := nI 1) rfl rfl ?_
                    refine V_goto rfl ?_
                    -- at 95: .ireturn
                    refine V_iret rfl rfl ?_
                    exact xq0 hi
              · have hk := nI_inj (b := 0) (by omega) (by omega) (Decidable.of_not_not hk)
                rw [if_pos hk]
                refine V_iload rfl rfl ?_
                -- at 59: .ireturn
                refine V_iret rfl rfl ?_
                exact xq0 hi
        · have hf := nI_inj (by omega) (by omega) (Decidable.of_not_not hf)
          have e3 : tolA cs j = nI (opc cs) := by unfold tolA; rw [if_pos hf]
          rw [e3]
          refine V_aload_n rfl rfl rfl ?_
          refine V_getR (r := 25) rfl rfl ?_
          refine V_aload_n rfl rfl (by first | assumption | rfl) ?_
          -- at 37: .invokevirtual 294
          refine V_callV rfl rfl rfl rfl rfl (c_opc hD hWd) ?_
          rintro _ h1 ⟨rfl, f1⟩
          refine V_iret rfl rfl ?_
          exact xq hi f1 (by simp; decide)
      · refine bad (nobad ?_)
        unfold ix
        rw [if_neg]
        intro q
        rw [Int32.le_iff_toInt_le, nI_toInt (by omega)] at he
        omega
def aDegr (st : St) (x y : Int32) : Int32 := match ix (dln st.1 x) y, ix 3 x with
  | some k, some d => match tldL (st.1.2.2 d) with
    | none => -1
    | some t => nI 100 + nI t - nI (pop ((st.1.2.2 d).getD k 0))
  | _, _ => -2
theorem x_degr {S : mScr} {dep : Nat} {x y : Int32} {st : St} {h : Hp} (hi : InvX h st) : Cal S (dep + 20) 146 [.ref 0, .int x, .int y] h (XR h (aDegr st x y, st)) := by
  obtain ⟨hs, hw, hx, _⟩ := id hi
  show V S (dep + 20) 146 0 [.ref 0, .int x, .int y, .null] [] h _
  refine V_aload_n rfl rfl rfl ?_
  refine V_iload_n rfl rfl ?_
  refine V_iload_n rfl rfl ?_
  -- at 3: .invokevirtual 184
  refine V_cV rfl rfl rfl rfl rfl (c_noC hs) ?_
  refine V_if_eq rfl (fun hc => ?_) (fun hc => ?_)
  · obtain ⟨k, e1, rfl, hk⟩ := ix_yes hc
    obtain ⟨d, e3, rfl, hd3, e4⟩ := dln_pos (s := st.1) (x := x) (by omega)
    rw [e4] at hk
    have hnd := isD d hd3
    have hb2 := deck_b hnd
    have hD := hs.2 d hd3
    have hWd := hw.wd hd3 (by omega)
    obtain ⟨cs, hcs⟩ : ∃ cs, cs = st.1.2.2 d := ⟨_, rfl⟩
    have ev : aDegr st (nI d) (nI k) = match tldL cs with
      | none => -1
      | some t => nI 100 + nI t - nI (pop (cs.getD k 0)) := by unfold aDegr; rw [e1, e3, hcs]
    rw [ev]
    rw [← hcs] at hD hWd hk
    refine V_aload_n rfl rfl rfl ?_
    refine V_getR (r := 2) rfl rfl ?_
    refine V_iload_n rfl rfl ?_
    refine V_a2 rfl (by first | omega | assumption) ?_
    -- at 18: .invokevirtual 297
    refine V_cV rfl rfl (by first | assumption | rfl) rfl rfl (c_tld hD) ?_
    refine V_istore_n (L' := [_, _, _, _]) rfl rfl rfl ?_
    refine V_iload_n rfl rfl ?_
    refine V_ic (v := -1) rfl rfl ?_
    -- at 24: .if_icmp .ne 7
    cases ht : tldL cs with
    | none =>
      refine V_icmp_ne rfl (fun hd => ?_) (fun hd => ?_)
      · exact absurd rfl hd
      · refine V_ic (v := -1) rfl rfl ?_
        refine V_goto rfl ?_
        -- at 46: .ireturn
        refine V_iret rfl rfl ?_
        exact xq0 hi
    | some t =>
      have htl := tldL_le hD.2.2.2.2 hWd.2.1 ht
      refine V_icmp_ne rfl (fun hd => ?_) (fun hd => ?_)
      · show V S (dep + 20) 146 31 [.ref 0, .int (nI d), .int (nI k), .int (nI t)] [] h _
        refine V_bi (v := nI 100) rfl rfl ?_
        refine V_iload_n rfl rfl ?_
        refine V_iadd rfl ?_
        refine V_aload_n rfl rfl rfl ?_
        refine V_getR (r := 2) rfl rfl ?_
        refine V_iload_n rfl rfl ?_
        refine V_a2 rfl (by first | omega | assumption) ?_
        refine V_iload_n rfl rfl ?_
        -- at 42: .invokevirtual 306
        refine V_cV rfl rfl (by first | assumption | rfl) rfl rfl (c_lno hD hk) ?_
        refine V_isub rfl ?_
        -- at 46: .ireturn
        refine V_iret rfl rfl ?_
        exact xq0 hi
      · exact absurd ((oI_none (o := some t) (fun x hx => by cases hx; omega)).mp (Decidable.of_not_not hd)) (by simp)
  · have hc := ix_no hc
    have ev : aDegr st x y = -2 := by unfold aDegr; rw [hc]
    rw [ev]
    refine V_bi (v := -2) rfl rfl ?_
    -- at 11: .ireturn
    refine V_iret rfl rfl ?_
    exact xq0 hi
def aTolP (st : St) (x y : Int32) : Int32 := match dkO st.1 x, ix 6 y with
  | some d, some i => if st.1.1 i < 1 ∨ (st.1.2.2 d).length < st.1.1 i + 1 ∨ (st.1.2.2 d).length = 2 then -5 else oI (shO (pts (st.1.2.2 d) (st.1.1 i) (frm (st.1.1 i) (st.1.2.1 i))) ((st.1.2.2 d).length - st.1.1 i))
  | _, _ => -2
theorem x_tolp {S : mScr} {dep : Nat} {x y : Int32} {st : St} {h : Hp} (hi : InvX h st) : Cal S (dep + 20) 147 [.ref 0, .int x, .int y] h (XR h (aTolP st x y, st)) := by
  obtain ⟨hs, hw, hx, _⟩ := id hi
  show V S (dep + 20) 147 0 [.ref 0, .int x, .int y, .null, .null] [] h _
  have bad : aTolP st x y = -2 → V S (dep + 20) 147 15 [.ref 0, .int x, .int y, .null, .null] [] h (XR h (aTolP st x y, st)) := by
    intro e
    rw [e]
    refine V_bi (v := -2) rfl rfl ?_
    -- at 17: .ireturn
    refine V_iret rfl rfl ?_
    exact xq0 hi
  refine V_aload_n rfl rfl rfl ?_
  refine V_iload_n rfl rfl ?_
  -- at 2: .invokevirtual 199
  refine V_cV rfl rfl rfl rfl rfl (c_noD hs) ?_
  refine V_if_ne rfl (fun hc => ?_) (fun hc => ?_)
  · have hc := dkO_no (of_decide_eq_true (bI_nz.mp hc))
    exact bad (by unfold aTolP; rw [hc])
  · obtain ⟨d, ed⟩ := dkO_yes (of_decide_eq_false (bI_z.mp (Decidable.of_not_not hc)))
    obtain ⟨_, rfl, hd3, _, hpos⟩ := dkO_some ed
    refine V_iload_n rfl rfl ?_
    -- at 9: .invokestatic 143
    refine V_cS rfl rfl rfl rfl (c_noS) ?_
    refine V_if_eq rfl (fun hd => ?_) (fun hd => ?_)
    · obtain ⟨i, e2, rfl, hi6⟩ := ix_yes hd
      have hnd := isD d hd3
      have hb2 := deck_b hnd
      have hn := isS i hi6
      have hb1 := net_b hn
      have hN := hs.1 i hi6
      have h7 := hN.1.2.1
      have hD := hs.2 d hd3
      have hWd := hw.wd hd3 hpos
      obtain ⟨cs, hcs⟩ : ∃ cs, cs = st.1.2.2 d := ⟨_, rfl⟩
      have ev : aTolP st (nI d) (nI i) = if st.1.1 i < 1 ∨ cs.length < st.1.1 i + 1 ∨ cs.length = 2 then -5 else oI (shO (pts cs (st.1.1 i) (frm (st.1.1 i) (st.1.2.1 i))) (cs.length - st.1.1 i)) := by unfold aTolP; rw [ed, e2, hcs]
      rw [ev]
      rw [← hcs] at hD hWd
      have hw7 := hWd.2.1
      have hw2 := hWd.1
      have no : (st.1.1 i < 1 ∨ cs.length < st.1.1 i + 1 ∨ cs.length = 2) → V S (dep + 20) 147 61 [.ref 0, .int (nI d), .int (nI i), .ref (170 + 2 * i), .int (nI cs.length)] [] h (XR h (if st.1.1 i < 1 ∨ cs.length < st.1.1 i + 1 ∨ cs.length = 2 then -5 else oI (shO (pts cs (st.1.1 i) (frm (st.1.1 i) (st.1.2.1 i))) (cs.length - st.1.1 i)), st)) := by
        intro e
        rw [if_pos e]
        refine V_bi (v := -5) rfl rfl ?_
        -- at 63: .ireturn
        refine V_iret rfl rfl ?_
        exact xq0 hi
      refine V_aload_n rfl rfl rfl ?_
      refine V_getR (r := 1) rfl rfl ?_
      refine V_iload_n rfl rfl ?_
      refine V_a1 rfl (by first | omega | assumption) ?_
      refine V_astore_n (L' := [_, _, _, _, _]) rfl (by first | rfl | (rw [Bool.and_eq_true]; exact ⟨rfl, by first | assumption | rfl⟩)) rfl ?_
      refine V_aload_n rfl rfl rfl ?_
      refine V_getR (r := 2) rfl rfl ?_
      refine V_iload_n rfl rfl ?_
      refine V_a2 rfl (by first | omega | assumption) ?_
      refine V_gi 0 rfl (deck_sz (by first | assumption | rfl)) rfl ?_
      refine V_istore (L' := [_, _, _, _, _]) rfl rfl rfl ?_
      refine V_aload_n rfl rfl (by first | assumption | rfl) ?_
      refine V_gi 0 rfl (net_sz (by first | assumption | rfl)) rfl ?_
      refine V_ic (v := nI 1) rfl rfl ?_
      -- at 41: .if_icmp .lt 20
      rw [hD.2.2.1, hN.1.2.2.1]
      refine V_icmp_lt rfl (fun he => ?_) (fun he => ?_)
      · exact no (Or.inl ((nI_ltI (by omega) (by omega)).mp he))
      · have he : ¬ st.1.1 i < 1 := fun q => he (nI_lt q (by omega))
        refine V_aload_n rfl rfl (by first | assumption | rfl) ?_
        refine V_gi 0 rfl (net_sz (by first | assumption | rfl)) rfl ?_
        refine V_iload rfl rfl ?_
        refine V_ic (v := nI 1) rfl rfl ?_
        refine V_isub rfl ?_
        -- at 52: .if_icmp .gt 9
        rw [hN.1.2.2.1, nI_sub (by omega)]
        refine V_icmp_gt rfl (fun hf => ?_) (fun hf => ?_)
        · have hf := (nI_ltI (by omega) (by omega)).mp hf
          exact no (Or.inr (Or.inl (by omega)))
        · have hf : ¬ cs.length - 1 < st.1.1 i := fun q => hf (nI_lt q (by omega))
          refine V_iload rfl rfl ?_
          refine V_ic (v := nI 2) rfl rfl ?_
          -- at 58: .if_icmp .ne 6
          refine V_icmp_ne rfl (fun hg => ?_) (fun hg => ?_)
          · have hg : ¬ cs.length = 2 := fun q => hg (by rw [q])
            rw [if_neg (by omega)]
            refine V_aload_n rfl rfl rfl ?_
            refine V_getR (r := 25) rfl rfl ?_
            refine V_aload_n rfl rfl rfl ?_
            refine V_getR (r := 2) rfl rfl ?_
            refine V_iload_n rfl rfl ?_
            refine V_a2 rfl (by first | omega | assumption) ?_
            refine V_aload_n rfl rfl (by first | assumption | rfl) ?_
            refine V_gi 0 rfl (net_sz (by first | assumption | rfl)) rfl ?_
            refine V_aload_n rfl rfl rfl ?_
            refine V_getR (r := 6) rfl rfl ?_
            refine V_aload_n rfl rfl (by first | assumption | rfl) ?_
            -- at 83: .invokevirtual 163
            rw [hN.1.2.2.1]
            refine V_callV rfl rfl rfl rfl rfl (c_frm hN) ?_
            rintro _ h1 ⟨rfl, f1⟩
            show V S (dep + 20) 147 86 [.ref 0, .int (nI d), .int (nI i), .ref (170 + 2 * i), .int (nI cs.length)] [.int (nI (frm (st.1.1 i) (st.1.2.1 i))), .int (nI (st.1.1 i)), .ref (182 + 2 * d), .ref 25] h1 _
            have hD1 := hD.fr f1 (by simp; omega) (by simp; omega)
            refine V_callV rfl rfl rfl rfl rfl (c_pts hD1 hWd (by omega) (frm21 h7)) ?_
            rintro _ h2 ⟨rfl, f2⟩
            refine V_iret rfl rfl ?_
            exact xq hi ((f1.mono (by simp)).tr f2) (by simp; decide)
          · have hg := nI_inj (by omega) (by omega) (Decidable.of_not_not hg)
            exact no (Or.inr (Or.inr hg))
    · have hd := ix_no hd
      exact bad (by unfold aTolP; rw [ed, hd])
/-- a sum shared out -/
def shZ (s : Int) (k : Nat) : Int32 := if s - s.tdiv k * k = 0 then zI (s.tdiv k) + nI 10000 else -1
def aTolT (st : St) (x y : Int32) : Int32 := match dkO st.1 x with
  | none => -2
  | some d => match ix (st.1.2.2 d).length y with
    | none => -3
    | some k => shZ (cfs (st.1.2.2 d) k) ((st.1.2.2 d).length - k)
theorem cB_le : ∀ k, cB k ≤ 10007712 := by
  intro k
  unfold cB
  split <;> decide
theorem cfs_le {cs : List Nat} {k : Nat} (hW : WD cs) (hk : k < cs.length) : (cfs cs k).natAbs ≤ 7 * 10007712 := by
  unfold cfs
  refine Nat.le_trans (sumZ_abs (B := 10007712) (fun i hi => ?_)) (Nat.mul_le_mul_right _ hW.2.1)
  have := (tz_bd (n := cs.length - 1) (C := cs.getD i 0) (by have := hW.2.1; omega) k (by have := hW.2.1; omega)).2.1
  exact Nat.le_trans this (cB_le k)
theorem zI_mul (x : Int) (k : Nat) : zI x * nI k = zI (x * k) := (Int32.ofInt_mul x k).symm
theorem zI_sub (x y : Int) : zI x - zI y = zI (x - y) := (Int32.ofInt_sub x y).symm
theorem zI_z {x : Int} (h : x.natAbs < 2 ^ 31) : zI x = 0 ↔ x = 0 := by
  constructor
  · intro q
    have := congrArg Int32.toInt q
    unfold zI at this
    rw [Int32.toInt_ofInt_of_le (by omega) (by omega)] at this
    exact this
  · intro q; rw [q]; rfl
theorem tdiv_bd {s : Int} {k B : Nat} (h : s.natAbs ≤ B) : (s.tdiv k).natAbs ≤ B ∧ (s - s.tdiv k * k).natAbs ≤ B := by
  constructor
  · rw [Int.natAbs_tdiv]
    exact Nat.le_trans (Nat.div_le_self _ _) h
  · have e : s - s.tdiv k * k = s.tmod k := by
      have := Int.tdiv_mul_add_tmod s k
      omega
    rw [e, Int.natAbs_tmod]
    exact Nat.le_trans (Nat.mod_le _ _) h
theorem x_tolt {S : mScr} {dep : Nat} {x y : Int32} {st : St} {h : Hp} (hi : InvX h st) : Cal S (dep + 20) 148 [.ref 0, .int x, .int y] h (XR h (aTolT st x y, st)) := by
  obtain ⟨hs, hw, hx, _⟩ := id hi
  have z0 : (0 : Int32).toInt = 0 := rfl
  show V S (dep + 20) 148 0 [.ref 0, .int x, .int y, .null, .null, .null] [] h _
  refine V_aload_n rfl rfl rfl ?_
  refine V_iload_n rfl rfl ?_
  -- at 2: .invokevirtual 199
  refine V_cV rfl rfl rfl rfl rfl (c_noD hs) ?_
  refine V_if_eq rfl (fun hc => ?_) (fun hc => ?_)
  · obtain ⟨d, ed⟩ := dkO_yes (of_decide_eq_false (bI_z.mp hc))
    obtain ⟨_, rfl, hd3, _, hpos⟩ := dkO_some ed
    have hnd := isD d hd3
    have hb2 := deck_b hnd
    have hD := hs.2 d hd3
    have hWd := hw.wd hd3 hpos
    obtain ⟨cs, hcs⟩ : ∃ cs, cs = st.1.2.2 d := ⟨_, rfl⟩
    have ev : aTolT st (nI d) y = match ix cs.length y with
      | none => -3
      | some k => shZ (cfs cs k) (cs.length - k) := by unfold aTolT; rw [ed, hcs]
    rw [ev]
    rw [← hcs] at hD hWd
    have hw7 := hWd.2.1
    have hw2 := hWd.1
    have bad : ix cs.length y = none → V S (dep + 20) 148 32 [.ref 0, .int (nI d), .int y, .int (nI cs.length), .null, .null] [] h (XR h (match ix cs.length y with
      | none => -3
      | some k => shZ (cfs cs k) (cs.length - k), st)) := by
      intro e
      rw [e]
      refine V_bi (v := -3) rfl rfl ?_
      -- at 34: .ireturn
      refine V_iret rfl rfl ?_
      exact xq0 hi
    refine V_aload_n rfl rfl rfl ?_
    refine V_getR (r := 2) rfl rfl ?_
    refine V_iload_n rfl rfl ?_
    refine V_a2 rfl (by first | omega | assumption) ?_
    refine V_gi 0 rfl (deck_sz (by first | assumption | rfl)) rfl ?_
    refine V_istore_n (L' := [_, _, _, _, _, _]) rfl rfl rfl ?_
    refine V_iload_n rfl rfl ?_
    -- at 22: .ifCond .lt 10
    rw [hD.2.2.1]
    refine V_if_lt rfl (fun hd => ?_) (fun hd => ?_)
    · refine bad ?_
      unfold ix
      rw [if_neg]
      intro q
      rw [Int32.lt_iff_toInt_lt] at hd
      omega
    · refine V_iload_n rfl rfl ?_
      refine V_iload_n rfl rfl ?_
      refine V_ic (v := nI 1) rfl rfl ?_
      refine V_isub rfl ?_
      -- at 29: .if_icmp .le 6
      rw [nI_sub (by omega)]
      refine V_icmp_le rfl (fun he => ?_) (fun he => ?_)
      · obtain ⟨k, e2, rfl, hk⟩ : ∃ j, ix cs.length y = some j ∧ y = nI j ∧ j < cs.length := by
          have : (ix cs.length y).isSome = true := by
            rw [ix_is]
            refine decide_eq_true ?_
            rw [Int32.lt_iff_toInt_lt] at hd
            rw [Int32.le_iff_toInt_le, nI_toInt (by omega)] at he
            omega
          obtain ⟨j, hj⟩ := Option.isSome_iff_exists.mp this
          exact ⟨j, hj, ix_some hj⟩
        rw [e2]
        have hsb := cfs_le hWd hk
        have htd := tdiv_bd (k := cs.length - k) hsb
        refine V_aload_n rfl rfl rfl ?_
        refine V_getR (r := 25) rfl rfl ?_
        refine V_aload_n rfl rfl rfl ?_
        refine V_getR (r := 2) rfl rfl ?_
        refine V_iload_n rfl rfl ?_
        refine V_a2 rfl (by first | omega | assumption) ?_
        refine V_iload_n rfl rfl ?_
        -- at 46: .invokevirtual 313
        refine V_callV rfl rfl rfl rfl rfl (c_cfs hD hWd hk) ?_
        rintro _ h1 ⟨rfl, f1⟩
        show V S (dep + 20) 148 49 [.ref 0, .int (nI d), .int (nI k), .int (nI cs.length), .null, .null] [.int (zI (cfs cs k))] h1 _
        have hz : ¬ nI (cs.length - k) = 0 := nI_ne0 (by omega) (by omega)
        refine V_istore (L' := [_, _, _, _, _, _]) rfl rfl rfl ?_
        refine V_iload_n rfl rfl ?_
        refine V_iload_n rfl rfl ?_
        refine V_isub rfl ?_
        -- at 54: .istore 5
        rw [nI_sub (by omega)]
        refine V_istore (L' := [_, _, _, _, _, _]) rfl rfl rfl ?_
        refine V_iload rfl rfl ?_
        refine V_iload rfl rfl ?_
        refine V_irem rfl (by first | assumption | decide | omega) ?_
        -- at 61: .ifCond .ne 15
        rw [zI_div (by omega) (by omega), zI_mul, zI_sub]
        show V S (dep + 20) 148 61 _ _ _ (XR h (shZ (cfs cs k) (cs.length - k), st))
        refine V_if_ne rfl (fun hf => ?_) (fun hf => ?_)
        · have hf : ¬ cfs cs k - (cfs cs k).tdiv ((cs.length - k : Nat) : Int) * ((cs.length - k : Nat) : Int) = 0 := fun q => hf (by rw [q]; rfl)
          unfold shZ
          rw [if_neg hf]
          refine V_ic (v := -1) rfl rfl ?_
          -- at 77: .ireturn
          refine V_iret rfl rfl ?_
          exact xq hi f1 (by simp; decide)
        · have hf := (zI_z (by omega)).mp (Decidable.of_not_not hf)
          unfold shZ
          rw [if_pos hf]
          refine V_iload rfl rfl ?_
          refine V_iload rfl rfl ?_
          refine V_idiv rfl (by first | assumption | decide | omega) ?_
          -- at 69: .sipush 10000
          rw [zI_div (by omega) (by omega)]
          refine V_si (v := nI 10000) rfl rfl ?_
          refine V_iadd rfl ?_
          refine V_goto rfl ?_
          -- at 77: .ireturn
          refine V_iret rfl rfl ?_
          exact xq hi f1 (by simp; decide)
      · refine bad ?_
        unfold ix
        rw [if_neg]
        intro q
        rw [Int32.le_iff_toInt_le, nI_toInt (by omega)] at he
        omega
  · have hc := dkO_no (of_decide_eq_true (bI_nz.mp hc))
    have ev : aTolT st x y = -2 := by unfold aTolT; rw [hc]
    rw [ev]
    refine V_bi (v := -2) rfl rfl ?_
    -- at 10: .ireturn
    refine V_iret rfl rfl ?_
    exact xq0 hi
noncomputable def prvA (cs : List Nat) (j : Nat) : Int32 := if (ansL cs).length = 0 ∨ (aoc cs.length (ansL cs) j ≠ 0 ∧ aoc cs.length (ansL cs) j ≠ (ansL cs).length) then -1 else if aoc cs.length (ansL cs) j = 0 then nI 0 else nI 1
noncomputable def aProv (st : St) (x w : Int32) : Int32 := match dkO st.1 x, ix 6 w with
  | some d, some j => prvA (st.1.2.2 d) j
  | _, _ => -2
theorem x_prov {S : mScr} {dep : Nat} {x w : Int32} {st : St} {h : Hp} (hi : InvX h st) : Cal S (dep + 20) 149 [.ref 0, .int x, .int w] h (XR h (aProv st x w, st)) := by
  obtain ⟨hs, hw, hx, _⟩ := id hi
  show V S (dep + 20) 149 0 [.ref 0, .int x, .int w, .null, .null] [] h _
  have bad : aProv st x w = -2 → V S (dep + 20) 149 15 [.ref 0, .int x, .int w, .null, .null] [] h (XR h (aProv st x w, st)) := by
    intro e
    rw [e]
    refine V_bi (v := -2) rfl rfl ?_
    -- at 17: .ireturn
    refine V_iret rfl rfl ?_
    exact xq0 hi
  refine V_aload_n rfl rfl rfl ?_
  refine V_iload_n rfl rfl ?_
  -- at 2: .invokevirtual 199
  refine V_cV rfl rfl rfl rfl rfl (c_noD hs) ?_
  refine V_if_ne rfl (fun hc => ?_) (fun hc => ?_)
  · have hc := dkO_no (of_decide_eq_true (bI_nz.mp hc))
    exact bad (by unfold aProv; rw [hc])
  · obtain ⟨d, ed⟩ := dkO_yes (of_decide_eq_false (bI_z.mp (Decidable.of_not_not hc)))
    obtain ⟨_, rfl, hd3, _, hpos⟩ := dkO_some ed
    refine V_iload_n rfl rfl ?_
    -- at 9: .invokestatic 275
    refine V_cS rfl rfl rfl rfl (c_noK) ?_
    refine V_if_eq rfl (fun hd => ?_) (fun hd => ?_)
    · obtain ⟨j, e2, rfl, hj6⟩ := ix_yes hd
      have hnd := isD d hd3
      have hb2 := deck_b hnd
      have hD := hs.2 d hd3
      have hWd := hw.wd hd3 hpos
      obtain ⟨cs, hcs⟩ : ∃ cs, cs = st.1.2.2 d := ⟨_, rfl⟩
      have ev : aProv st (nI d) (nI j) = prvA cs j := by unfold aProv; rw [ed, e2, hcs]
      rw [ev]
      rw [← hcs] at hD hWd
      have hal := ans_len hWd
      have hao : aoc cs.length (ansL cs) j ≤ (ansL cs).length := cnt_le _ _
      refine V_aload_n rfl rfl rfl ?_
      refine V_getR (r := 25) rfl rfl ?_
      refine V_aload_n rfl rfl rfl ?_
      refine V_getR (r := 2) rfl rfl ?_
      refine V_iload_n rfl rfl ?_
      refine V_a2 rfl (by first | omega | assumption) ?_
      -- at 28: .invokevirtual 202
      refine V_callV rfl rfl rfl rfl rfl (c_fndA hD hWd) ?_
      rintro _ h1 ⟨rfl, hF1, f1⟩
      show V S (dep + 20) 149 31 [.ref 0, .int (nI d), .int (nI j), .null, .null] [.int (nI (ansL cs).length)] h1 _
      have hD1 := hD.fr f1 (by simp; omega) (by simp; omega)
      refine V_istore_n (L' := [_, _, _, _, _]) rfl rfl rfl ?_
      refine V_aload_n rfl rfl rfl ?_
      refine V_getR (r := 25) rfl rfl ?_
      refine V_aload_n rfl rfl rfl ?_
      refine V_getR (r := 2) rfl rfl ?_
      refine V_iload_n rfl rfl ?_
      refine V_a2 rfl (by first | omega | assumption) ?_
      refine V_gi 0 rfl (deck_sz (by first | assumption | rfl)) rfl ?_
      refine V_iload_n rfl rfl ?_
      -- at 46: .invokevirtual 317
      rw [hD1.2.2.1]
      refine V_callV rfl rfl rfl rfl rfl (c_aoc hF1 hWd.2.1 (ans_b hWd.2.1) hj6) ?_
      rintro _ h2 ⟨rfl, f2⟩
      show V S (dep + 20) 149 49 [.ref 0, .int (nI d), .int (nI j), .int (nI (ansL cs).length), .null] [.int (nI (aoc cs.length (ansL cs) j))] h2 _
      have f2 : Fr [6, 7, 8, 9, 14, 15, 16, 21, 22, 25, 26, 27, 28, 29, 30, 32] h h2 := (f1.mono (by simp)).tr (f2.mono (by simp))
      have hoo : ∀ a ∈ [6, 7, 8, 9, 14, 15, 16, 21, 22, 25, 26, 27, 28, 29, 30, 32], okX a = true := by simp; decide
      have none : ((ansL cs).length = 0 ∨ (aoc cs.length (ansL cs) j ≠ 0 ∧ aoc cs.length (ansL cs) j ≠ (ansL cs).length)) → V S (dep + 20) 149 66 [.ref 0, .int (nI d), .int (nI j), .int (nI (ansL cs).length), .int (nI (aoc cs.length (ansL cs) j))] [] h2 (XR h (prvA cs j, st)) := by
        intro e
        unfold prvA
        rw [if_pos e]
        refine V_ic (v := -1) rfl rfl ?_
        -- at 67: .ireturn
        refine V_iret rfl rfl ?_
        exact xq hi f2 hoo
      have some1 : ¬ ((ansL cs).length = 0 ∨ (aoc cs.length (ansL cs) j ≠ 0 ∧ aoc cs.length (ansL cs) j ≠ (ansL cs).length)) → V S (dep + 20) 149 68 [.ref 0, .int (nI d), .int (nI j), .int (nI (ansL cs).length), .int (nI (aoc cs.length (ansL cs) j))] [] h2 (XR h (prvA cs j, st)) := by
        intro e
        unfold prvA
        rw [if_neg e]
        refine V_iload rfl rfl ?_
        -- at 70: .ifCond .ne 7
        refine V_if_ne rfl (fun hk => ?_) (fun hk => ?_)
        · rw [if_neg (fun q => hk (by rw [q]; rfl))]
          refine V_ic (v := nI 1) rfl rfl ?_
          -- at 78: .ireturn
          refine V_iret rfl rfl ?_
          exact xq hi f2 hoo
        · have hk := nI_inj (b := 0) (by omega) (by omega) (Decidable.of_not_not hk)
          rw [if_pos hk]
          refine V_ic (v := nI 0) rfl rfl ?_
          refine V_goto rfl ?_
          -- at 78: .ireturn
          refine V_iret rfl rfl ?_
          exact xq hi f2 hoo
      refine V_istore (L' := [_, _, _, _, _]) rfl rfl rfl ?_
      refine V_iload_n rfl rfl ?_
      -- at 52: .ifCond .eq 14
      refine V_if_eq rfl (fun he => ?_) (fun he => ?_)
      · exact none (Or.inl (nI_inj (b := 0) (by omega) (by omega) he))
      · have he : ¬ (ansL cs).length = 0 := fun q => he (by rw [q]; rfl)
        refine V_iload rfl rfl ?_
        -- at 57: .ifCond .eq 11
        refine V_if_eq rfl (fun hf => ?_) (fun hf => ?_)
        · have hf := nI_inj (b := 0) (by omega) (by omega) hf
          exact some1 (by omega)
        · have hf : ¬ aoc cs.length (ansL cs) j = 0 := fun q => hf (by rw [q]; rfl)
          refine V_iload rfl rfl ?_
          refine V_iload_n rfl rfl ?_
          -- at 63: .if_icmp .eq 5
          refine V_icmp_eq rfl (fun hg => ?_) (fun hg => ?_)
          · have hg := nI_inj (by omega) (by omega) hg
            exact some1 (by omega)
          · exact none (Or.inr ⟨hf, fun q => hg (by rw [q])⟩)
    · have hd := ix_no hd
      exact bad (by unfold aProv; rw [ed, hd])
def aReas (st : St) (x : Int32) : Int32 := match dkO st.1 x with
  | some d => nI (rsnF (st.1.2.2 d))
  | none => -2
theorem rsn_le (cs : List Nat) : rsn cs ≤ 3 := by
  unfold rsn
  split
  · omega
  · split
    · omega
    · split
      · omega
      · split <;> omega
theorem x_reas {S : mScr} {dep : Nat} {x : Int32} {st : St} {h : Hp} (hi : InvX h st) : Cal S (dep + 20) 150 [.ref 0, .int x] h (XR h (aReas st x, st)) := by
  obtain ⟨hs, hw, hx, _⟩ := id hi
  show V S (dep + 20) 150 0 [.ref 0, .int x, .null] [] h _
  refine V_aload_n rfl rfl rfl ?_
  refine V_iload_n rfl rfl ?_
  -- at 2: .invokevirtual 199
  refine V_cV rfl rfl rfl rfl rfl (c_noD hs) ?_
  refine V_if_eq rfl (fun hc => ?_) (fun hc => ?_)
  · obtain ⟨d, ed⟩ := dkO_yes (of_decide_eq_false (bI_z.mp hc))
    obtain ⟨_, rfl, hd3, _, hpos⟩ := dkO_some ed
    have hnd := isD d hd3
    have hb2 := deck_b hnd
    have hD := hs.2 d hd3
    have hWd := hw.wd hd3 hpos
    obtain ⟨cs, hcs⟩ : ∃ cs, cs = st.1.2.2 d := ⟨_, rfl⟩
    have ev : aReas st (nI d) = nI (rsnF cs) := by unfold aReas; rw [ed, hcs]
    rw [ev]
    rw [← hcs] at hD hWd
    have hal := ans_len hWd
    have hrl := rsn_le cs
    refine V_aload_n rfl rfl rfl ?_
    refine V_getR (r := 25) rfl rfl ?_
    refine V_aload_n rfl rfl rfl ?_
    refine V_getR (r := 2) rfl rfl ?_
    refine V_iload_n rfl rfl ?_
    refine V_a2 rfl (by first | omega | assumption) ?_
    -- at 21: .invokevirtual 320
    refine V_callV rfl rfl rfl rfl rfl (c_rsn hD hWd) ?_
    rintro _ h1 ⟨rfl, f1⟩
    show V S (dep + 20) 150 24 [.ref 0, .int (nI d), .null] [.int (nI (rsn cs))] h1 _
    refine V_istore_n (L' := [_, _, _]) rfl rfl rfl ?_
    refine V_iload_n rfl rfl ?_
    -- at 26: .ifCond .eq 5
    refine V_if_eq rfl (fun hd => ?_) (fun hd => ?_)
    · have hd := nI_inj (b := 0) (by omega) (by omega) hd
      have hD1 := hD.fr f1 (by simp; omega) (by simp; omega)
      refine V_aload_n rfl rfl rfl ?_
      refine V_getR (r := 25) rfl rfl ?_
      refine V_aload_n rfl rfl rfl ?_
      refine V_getR (r := 2) rfl rfl ?_
      refine V_iload_n rfl rfl ?_
      refine V_a2 rfl (by first | omega | assumption) ?_
      -- at 41: .invokevirtual 202
      refine V_callV rfl rfl rfl rfl rfl (c_fndA hD1 hWd) ?_
      rintro _ h2 ⟨rfl, _, f2⟩
      show V S (dep + 20) 150 44 [.ref 0, .int (nI d), .int (nI (rsn cs))] [.int (nI (ansL cs).length)] h2 _
      have f2 : Fr [6, 7, 8, 9, 21, 22, 25, 26, 27, 28, 29, 30, 31, 32] h h2 := (f1.mono (by simp)).tr (f2.mono (by simp))
      refine V_if_ne rfl (fun he => ?_) (fun he => ?_)
      · have e : rsnF cs = 0 := by unfold rsnF; rw [hd, if_neg (by simp), if_neg (fun q => he (by rw [q]; rfl))]
        rw [e]
        refine V_ic (v := nI 0) rfl rfl ?_
        -- at 52: .ireturn
        refine V_iret rfl rfl ?_
        exact xq hi f2 (by simp; decide)
      · have he := nI_inj (b := 0) (by omega) (by omega) (Decidable.of_not_not he)
        have e : rsnF cs = 4 := by unfold rsnF; rw [hd, if_neg (by simp), if_pos (List.length_eq_zero_iff.mp he)]
        rw [e]
        refine V_ic (v := nI 4) rfl rfl ?_
        refine V_goto rfl ?_
        -- at 52: .ireturn
        refine V_iret rfl rfl ?_
        exact xq hi f2 (by simp; decide)
    · have e : rsnF cs = rsn cs := by unfold rsnF; rw [if_pos (fun q => hd (by rw [q]; rfl))]
      rw [e]
      refine V_iload_n rfl rfl ?_
      -- at 30: .ireturn
      refine V_iret rfl rfl ?_
      exact xq hi f1 (by simp; decide)
  · have hc := dkO_no (of_decide_eq_true (bI_nz.mp hc))
    have ev : aReas st x = -2 := by unfold aReas; rw [hc]
    rw [ev]
    refine V_bi (v := -2) rfl rfl ?_
    -- at 10: .ireturn
    refine V_iret rfl rfl ?_
    exact xq0 hi
def aAnsw (st : St) (x k : Int32) : Int32 := match dkO st.1 x with
  | some d => kth (ansL (st.1.2.2 d)) (ansL (st.1.2.2 d)).length k
  | none => -2
theorem x_answ {S : mScr} {dep : Nat} {x k : Int32} {st : St} {h : Hp} (hi : InvX h st) : Cal S (dep + 20) 151 [.ref 0, .int x, .int k] h (XR h (aAnsw st x k, st)) := by
  obtain ⟨hs, hw, hx, _⟩ := id hi
  show V S (dep + 20) 151 0 [.ref 0, .int x, .int k, .null] [] h _
  refine V_aload_n rfl rfl rfl ?_
  refine V_iload_n rfl rfl ?_
  -- at 2: .invokevirtual 199
  refine V_cV rfl rfl rfl rfl rfl (c_noD hs) ?_
  refine V_if_eq rfl (fun hc => ?_) (fun hc => ?_)
  · obtain ⟨d, ed⟩ := dkO_yes (of_decide_eq_false (bI_z.mp hc))
    obtain ⟨_, rfl, hd3, _, hpos⟩ := dkO_some ed
    have hnd := isD d hd3
    have hb2 := deck_b hnd
    have hD := hs.2 d hd3
    have hWd := hw.wd hd3 hpos
    obtain ⟨l, hl⟩ : ∃ l, l = ansL (st.1.2.2 d) := ⟨_, rfl⟩
    have ev : aAnsw st (nI d) k = kth l l.length k := by unfold aAnsw; rw [ed, hl]
    rw [ev]
    have hll : l.length ≤ 64 := by rw [hl]; exact ans_len hWd
    refine V_iload_n rfl rfl ?_
    refine V_ic (v := -1) rfl rfl ?_
    -- at 13: .if_icmp .ge 6
    refine V_icmp_ge rfl (fun hd => ?_) (fun hd => ?_)
    · refine V_aload_n rfl rfl rfl ?_
      refine V_getR (r := 25) rfl rfl ?_
      refine V_aload_n rfl rfl rfl ?_
      refine V_getR (r := 2) rfl rfl ?_
      refine V_iload_n rfl rfl ?_
      refine V_a2 rfl (by first | omega | assumption) ?_
      -- at 29: .invokevirtual 202
      refine V_callV rfl rfl rfl rfl rfl (c_fndA hD hWd) ?_
      rintro _ h1 ⟨rfl, hF1, f1⟩
      rw [← hl] at hF1 ⊢
      show V S (dep + 20) 151 32 [.ref 0, .int (nI d), .int k, .null] [.int (nI l.length)] h1 _
      refine V_istore_n (L' := [_, _, _, _]) rfl rfl rfl ?_
      refine V_iload_n rfl rfl ?_
      refine V_ic (v := -1) rfl rfl ?_
      -- at 35: .if_icmp .ne 5
      refine V_icmp_ne rfl (fun he => ?_) (fun he => ?_)
      · have hk0 := ge_m1 hd he
        have ek : kth l l.length k = match ix l.length k with
          | some j => nI (l.getD j 0)
          | none => -1 := by unfold kth; rw [if_neg (by omega), if_neg he]; rfl
        rw [ek]
        refine V_iload_n rfl rfl ?_
        refine V_iload_n rfl rfl ?_
        -- at 42: .if_icmp .ge 15
        refine V_icmp_ge rfl (fun hf => ?_) (fun hf => ?_)
        · have e2 : ix l.length k = none := by
            cases q : ix l.length k with
            | none => rfl
            | some j =>
              obtain ⟨rfl, hj⟩ := ix_some q
              exact absurd hf (nI_ge hj (by omega))
          rw [e2]
          refine V_ic (v := -1) rfl rfl ?_
          -- at 58: .ireturn
          refine V_iret rfl rfl ?_
          exact xq hi f1 (by simp; decide)
        · obtain ⟨j, rfl, hj⟩ : ∃ j, k = nI j ∧ j < l.length := by
            have : (ix l.length k).isSome = true := by
              rw [ix_lt (by omega)]
              have h1 : decide (0 ≤ k) = true := decide_eq_true (Int32.le_iff_toInt_le.mpr hk0)
              rw [h1, decide_eq_true (Int32.not_le.mp hf)]; rfl
            obtain ⟨j, hj⟩ := Option.isSome_iff_exists.mp this
            exact ⟨j, ix_some hj⟩
          rw [ix_nI (by omega), if_pos hj]
          refine V_aload_n rfl rfl rfl ?_
          refine V_getR (r := 25) rfl rfl ?_
          refine V_getR (r := 32) rfl rfl ?_
          refine V_iload_n rfl rfl ?_
          refine V_al 64 rfl rfl (by first | with_reducible rfl | assumption | exact nI_sub (by omega) | exact nI_add _ _) (by first | omega | assumption) rfl ?_
          -- at 54: .goto 4
          rw [hF1.2.2.1 j hj]
          refine V_goto rfl ?_
          -- at 58: .ireturn
          refine V_iret rfl rfl ?_
          exact xq hi f1 (by simp; decide)
      · have he := Decidable.of_not_not he
        have ek : kth l l.length k = nI l.length := by
          unfold kth; rw [if_neg (by rw [he]; decide), if_pos he]
        rw [ek]
        refine V_iload_n rfl rfl ?_
        -- at 39: .ireturn
        refine V_iret rfl rfl ?_
        exact xq hi f1 (by simp; decide)
    · have hk := lt_m1 hd
      have ek : kth l l.length k = -3 := by unfold kth; rw [if_pos hk]
      rw [ek]
      refine V_bi (v := -3) rfl rfl ?_
      -- at 18: .ireturn
      refine V_iret rfl rfl ?_
      exact xq0 hi
  · have hc := dkO_no (of_decide_eq_true (bI_nz.mp hc))
    have ev : aAnsw st x k = -2 := by unfold aAnsw; rw [hc]
    rw [ev]
    refine V_bi (v := -2) rfl rfl ?_
    -- at 10: .ireturn
    refine V_iret rfl rfl ?_
    exact xq0 hi
