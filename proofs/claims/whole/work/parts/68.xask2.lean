/-! the class: further questions -/
theorem lt_m1 {k : Int32} (h : ¬ (-1 : Int32) ≤ k) : k.toInt < -1 := by
  rw [Int32.le_iff_toInt_le] at h
  have e : (-1 : Int32).toInt = -1 := rfl
  omega
theorem ge_m1 {k : Int32} (h : (-1 : Int32) ≤ k) (h2 : ¬ k = -1) : 0 ≤ k.toInt := by
  rw [Int32.le_iff_toInt_le] at h
  have e : (-1 : Int32).toInt = -1 := rfl
  have : k.toInt ≠ -1 := fun q => h2 (Int32.toInt_inj.mp (by rw [q, e]))
  omega
/-- the k-th of a list, -1 asks for something else -/
def kth (l : List Nat) (c : Nat) (k : Int32) : Int32 := if k.toInt < -1 then -3 else if k = -1 then nI c else match ix l.length k with
  | some j => nI (l.getD j 0)
  | none => -1
theorem ldk_len {n C : Nat} (hn : n ≤ 7) (hC : C < 2 ^ tri n) : (ldk n C).length = pop C := by
  have := tri_le hn
  unfold ldk; rw [srt_len, lfL_len, pop_eq hC (by omega)]
def aLinD (st : St) (x k : Int32) : Int32 := match ix 6 x with
  | some i => kth (ldk (st.1.1 i) (st.1.2.1 i)) (unl (ldk (st.1.1 i) (st.1.2.1 i)) (ldk (st.1.1 i) (st.1.2.1 i)).length) k
  | none => -2
theorem x_lind {S : mScr} {dep : Nat} {x k : Int32} {st : St} {h : Hp} (hi : InvX h st) : Cal S (dep + 20) 138 [.ref 0, .int x, .int k] h (XR h (aLinD st x k, st)) := by
  obtain ⟨hs, hw, hx, _⟩ := id hi
  show V S (dep + 20) 138 0 [.ref 0, .int x, .int k, .null] [] h _
  refine V_iload_n rfl rfl ?_
  -- at 1: .invokestatic 143
  refine V_cS rfl rfl rfl rfl (c_noS) ?_
  refine V_if_eq rfl (fun hc => ?_) (fun hc => ?_)
  · obtain ⟨i, e1, rfl, hi6⟩ := ix_yes hc
    have hn := isS i hi6
    have hb1 := net_b hn
    have hN := hs.1 i hi6
    have h7 := hN.1.2.1
    obtain ⟨l, hl⟩ : ∃ l, l = ldk (st.1.1 i) (st.1.2.1 i) := ⟨_, rfl⟩
    have ev : aLinD st (nI i) k = kth l (unl l l.length) k := by unfold aLinD; rw [e1, hl]
    rw [ev]
    have hll : l.length ≤ 21 := by rw [hl, ldk_len h7 hN.2]; exact pop21 hN.lt
    refine V_iload_n rfl rfl ?_
    refine V_ic (v := -1) rfl rfl ?_
    -- at 12: .if_icmp .ge 6
    refine V_icmp_ge rfl (fun hd => ?_) (fun hd => ?_)
    · refine V_aload_n rfl rfl rfl ?_
      refine V_getR (r := 20) rfl rfl ?_
      refine V_aload_n rfl rfl rfl ?_
      refine V_getR (r := 1) rfl rfl ?_
      refine V_iload_n rfl rfl ?_
      refine V_a1 rfl (by first | omega | assumption) ?_
      -- at 28: .invokevirtual 263
      refine V_callV rfl rfl rfl rfl rfl (c_ldk hN (by omega)) ?_
      rintro _ h1 ⟨rfl, hL1, f1⟩
      rw [← hl] at hL1
      have hA1 : AL h1 24 l := hL1.2.2.2.1
      show V S (dep + 20) 138 31 [.ref 0, .int (nI i), .int k, .null] [.ref 23] h1 _
      refine V_astore_n (L' := [_, _, _, _]) rfl (by first | rfl | (rw [Bool.and_eq_true]; exact ⟨rfl, by first | assumption | rfl⟩)) rfl ?_
      refine V_iload_n rfl rfl ?_
      refine V_ic (v := -1) rfl rfl ?_
      -- at 34: .if_icmp .ne 8
      refine V_icmp_ne rfl (fun he => ?_) (fun he => ?_)
      · have hk0 := ge_m1 hd he
        have ek : kth l (unl l l.length) k = match ix l.length k with
          | some j => nI (l.getD j 0)
          | none => -1 := by unfold kth; rw [if_neg (by omega), if_neg he]
        rw [ek]
        refine V_iload_n rfl rfl ?_
        refine V_aload_n rfl rfl (by first | assumption | rfl) ?_
        refine V_gi 0 rfl (ld_sz (by first | assumption | rfl)) rfl ?_
        -- at 47: .if_icmp .ge 12
        rw [show h1.1 23 0 = nI l.length from hL1.2.2.1]
        refine V_icmp_ge rfl (fun hf => ?_) (fun hf => ?_)
        · have e2 : ix l.length k = none := by
            cases q : ix l.length k with
            | none => rfl
            | some j =>
              obtain ⟨rfl, hj⟩ := ix_some q
              exact absurd hf (nI_ge hj (by omega))
          rw [e2]
          refine V_ic (v := -1) rfl rfl ?_
          -- at 60: .ireturn
          refine V_iret rfl rfl ?_
          exact xq hi f1 (by simp; decide)
        · obtain ⟨j, rfl, hj⟩ : ∃ j, k = nI j ∧ j < l.length := by
            have : (ix l.length k).isSome = true := by
              rw [ix_lt (by omega)]
              have h1 : decide (0 ≤ k) = true := decide_eq_true (Int32.le_iff_toInt_le.mpr hk0)
              rw [h1, decide_eq_true (Int32.not_le.mp hf)]; rfl
            obtain ⟨j, hj⟩ := Option.isSome_iff_exists.mp this
            exact ⟨j, ix_some hj⟩
          rw [ix_nI (by omega), if_pos hj]
          refine V_aload_n rfl rfl (by first | assumption | rfl) ?_
          refine V_getR rfl (ld_fm (by first | assumption | rfl)) ?_
          refine V_iload_n rfl rfl ?_
          refine V_al 21 rfl (ld_ar (by first | assumption | rfl)) (by first | with_reducible rfl | assumption | exact nI_sub (by omega) | exact nI_add _ _) (by first | omega | assumption) rfl ?_
          -- at 56: .goto 4
          rw [hA1 j hj]
          refine V_goto rfl ?_
          -- at 60: .ireturn
          refine V_iret rfl rfl ?_
          exact xq hi f1 (by simp; decide)
      · have he := Decidable.of_not_not he
        have ek : kth l (unl l l.length) k = nI (unl l l.length) := by
          unfold kth; rw [if_neg (by rw [he]; decide), if_pos he]
        rw [ek]
        refine V_aload_n rfl rfl (by first | assumption | rfl) ?_
        -- at 38: .invokevirtual 267
        refine V_cV rfl rfl (by first | assumption | rfl) rfl rfl (c_unlF hL1) ?_
        refine V_iret rfl rfl ?_
        exact xq hi f1 (by simp; decide)
    · have hk := lt_m1 hd
      have ek : kth l (unl l l.length) k = -3 := by unfold kth; rw [if_pos hk]
      rw [ek]
      refine V_bi (v := -3) rfl rfl ?_
      -- at 17: .ireturn
      refine V_iret rfl rfl ?_
      exact xq0 hi
  · have hc := ix_no hc
    have ev : aLinD st x k = -2 := by unfold aLinD; rw [hc]
    rw [ev]
    refine V_bi (v := -2) rfl rfl ?_
    -- at 9: .ireturn
    refine V_iret rfl rfl ?_
    exact xq0 hi
noncomputable def aIs (st : St) (x w : Int32) : Int32 := match ix 6 x, ix 6 w with
  | some i, some j => bI (isK (st.1.1 i) (st.1.2.1 i) j)
  | _, _ => -2
theorem x_is {S : mScr} {dep : Nat} {x w : Int32} {st : St} {h : Hp} (hi : InvX h st) : Cal S (dep + 20) 139 [.ref 0, .int x, .int w] h (XR h (aIs st x w, st)) := by
  obtain ⟨hs, hw, hx, _⟩ := id hi
  show V S (dep + 20) 139 0 [.ref 0, .int x, .int w] [] h _
  have bad : aIs st x w = -2 → V S (dep + 20) 139 14 [.ref 0, .int x, .int w] [] h (XR h (aIs st x w, st)) := by
    intro e
    rw [e]
    refine V_bi (v := -2) rfl rfl ?_
    -- at 16: .ireturn
    refine V_iret rfl rfl ?_
    exact xq0 hi
  refine V_iload_n rfl rfl ?_
  -- at 1: .invokestatic 143
  refine V_cS rfl rfl rfl rfl (c_noS) ?_
  refine V_if_ne rfl (fun hc => ?_) (fun hc => ?_)
  · have hc := ix_no hc
    exact bad (by unfold aIs; rw [hc])
  · obtain ⟨i, e1, rfl, hi6⟩ := ix_yes (Decidable.of_not_not hc)
    refine V_iload_n rfl rfl ?_
    -- at 8: .invokestatic 275
    refine V_cS rfl rfl rfl rfl (c_noK) ?_
    refine V_if_eq rfl (fun hd => ?_) (fun hd => ?_)
    · obtain ⟨j, e2, rfl, hj6⟩ := ix_yes hd
      have hn := isS i hi6
      have hb1 := net_b hn
      have hN := hs.1 i hi6
      have ev : aIs st (nI i) (nI j) = bI (isK (st.1.1 i) (st.1.2.1 i) j) := by unfold aIs; rw [e1, e2]
      rw [ev]
      refine V_aload_n rfl rfl rfl ?_
      refine V_getR (r := 13) rfl rfl ?_
      refine V_aload_n rfl rfl rfl ?_
      refine V_getR (r := 1) rfl rfl ?_
      refine V_iload_n rfl rfl ?_
      refine V_a1 rfl (by first | omega | assumption) ?_
      refine V_iload_n rfl rfl ?_
      -- at 28: .invokevirtual 278
      refine V_callV rfl rfl rfl rfl rfl (c_isK hN (by omega) hj6) ?_
      rintro _ h1 ⟨rfl, f1⟩
      show V S (dep + 20) 139 31 [.ref 0, .int (nI i), .int (nI j)] [.int (bI (isK (st.1.1 i) (st.1.2.1 i) j))] h1 _
      generalize isK (st.1.1 i) (st.1.2.1 i) j = b
      refine V_if_eq rfl (fun he => ?_) (fun he => ?_)
      · have he := bI_z.mp he
        rw [he]
        refine V_ic (v := nI 0) rfl rfl ?_
        -- at 39: .ireturn
        refine V_iret rfl rfl ?_
        exact xq hi f1 (by simp; decide)
      · have he := bI_nz.mp he
        rw [he]
        refine V_ic (v := nI 1) rfl rfl ?_
        refine V_goto rfl ?_
        -- at 39: .ireturn
        refine V_iret rfl rfl ?_
        exact xq hi f1 (by simp; decide)
    · have hd := ix_no hd
      exact bad (by unfold aIs; rw [e1, hd])
def aTerm (st : St) (x k : Int32) : Int32 := match ix 6 x with
  | none => -2
  | some i => match ix (st.1.1 i + 1) k with
    | none => -3
    | some j => zI (cfZ (st.1.1 i) (st.1.2.1 i) j) + nI 10000
theorem x_term {S : mScr} {dep : Nat} {x k : Int32} {st : St} {h : Hp} (hi : InvX h st) : Cal S (dep + 20) 141 [.ref 0, .int x, .int k] h (XR h (aTerm st x k, st)) := by
  obtain ⟨hs, hw, hx, _⟩ := id hi
  show V S (dep + 20) 141 0 [.ref 0, .int x, .int k] [] h _
  refine V_iload_n rfl rfl ?_
  -- at 1: .invokestatic 143
  refine V_cS rfl rfl rfl rfl (c_noS) ?_
  refine V_if_eq rfl (fun hc => ?_) (fun hc => ?_)
  · obtain ⟨i, e1, rfl, hi6⟩ := ix_yes hc
    have hn := isS i hi6
    have hb1 := net_b hn
    have hN := hs.1 i hi6
    have h7 := hN.1.2.1
    have bad : ix (st.1.1 i + 1) k = none → V S (dep + 20) 141 27 [.ref 0, .int (nI i), .int k] [] h (XR h (aTerm st (nI i) k, st)) := by
      intro e
      have ev : aTerm st (nI i) k = -3 := by unfold aTerm; rw [e1]; dsimp only; rw [e]
      rw [ev]
      refine V_bi (v := -3) rfl rfl ?_
      -- at 29: .ireturn
      refine V_iret rfl rfl ?_
      exact xq0 hi
    refine V_iload_n rfl rfl ?_
    -- at 11: .ifCond .lt 16
    refine V_if_lt rfl (fun hd => ?_) (fun hd => ?_)
    · refine bad ?_
      unfold ix
      rw [if_neg]
      intro q
      rw [Int32.lt_iff_toInt_lt] at hd
      have : (0 : Int32).toInt = 0 := rfl
      omega
    · refine V_iload_n rfl rfl ?_
      refine V_aload_n rfl rfl rfl ?_
      refine V_getR (r := 1) rfl rfl ?_
      refine V_iload_n rfl rfl ?_
      refine V_a1 rfl (by first | omega | assumption) ?_
      refine V_gi 0 rfl (net_sz (by first | assumption | rfl)) rfl ?_
      -- at 24: .if_icmp .le 6
      rw [hN.1.2.2.1]
      refine V_icmp_le rfl (fun he => ?_) (fun he => ?_)
      · obtain ⟨j, rfl, hj⟩ : ∃ j, k = nI j ∧ j < st.1.1 i + 1 := by
          have : (ix (st.1.1 i + 1) k).isSome = true := by
            rw [ix_is]
            refine decide_eq_true ?_
            rw [Int32.lt_iff_toInt_lt] at hd
            rw [Int32.le_iff_toInt_le, nI_toInt (by omega)] at he
            have : (0 : Int32).toInt = 0 := rfl
            omega
          obtain ⟨j, hj⟩ := Option.isSome_iff_exists.mp this
          exact ⟨j, ix_some hj⟩
        have ev : aTerm st (nI i) (nI j) = zI (cfZ (st.1.1 i) (st.1.2.1 i) j) + nI 10000 := by unfold aTerm; rw [e1]; dsimp only; rw [ix_nI (by omega), if_pos hj]
        rw [ev]
        refine V_aload_n rfl rfl rfl ?_
        refine V_getR (r := 13) rfl rfl ?_
        refine V_aload_n rfl rfl rfl ?_
        refine V_getR (r := 1) rfl rfl ?_
        refine V_iload_n rfl rfl ?_
        refine V_a1 rfl (by first | omega | assumption) ?_
        refine V_iload_n rfl rfl ?_
        -- at 41: .invokevirtual 285
        refine V_callV rfl rfl rfl rfl rfl (c_coef hN (by omega)) ?_
        rintro _ h1 ⟨rfl, f1⟩
        show V S (dep + 20) 141 44 [.ref 0, .int (nI i), .int (nI j)] [.int (zI (cfZ (st.1.1 i) (st.1.2.1 i) j))] h1 _
        refine V_si (v := nI 10000) rfl rfl ?_
        refine V_iadd rfl ?_
        -- at 48: .ireturn
        refine V_iret rfl rfl ?_
        exact xq hi f1 (by simp; decide)
      · refine bad ?_
        unfold ix
        rw [if_neg]
        intro q
        rw [Int32.le_iff_toInt_le, nI_toInt (by omega)] at he
        omega
  · have hc := ix_no hc
    have ev : aTerm st x k = -2 := by unfold aTerm; rw [hc]
    rw [ev]
    refine V_bi (v := -2) rfl rfl ?_
    -- at 9: .ireturn
    refine V_iret rfl rfl ?_
    exact xq0 hi
def aFar (st : St) (x a b : Int32) : Int32 := match ix 6 x with
  | none => -2
  | some i => match ix (st.1.1 i) a, ix (st.1.1 i) b with
    | some u, some v => dst (rowOf (st.1.1 i) (st.1.2.1 i)) (st.1.1 i) v (2 ^ u) (st.1.1 i)
    | _, _ => -2
theorem x_far {S : mScr} {dep : Nat} {x a b : Int32} {st : St} {h : Hp} (hi : InvX h st) : Cal S (dep + 20) 142 [.ref 0, .int x, .int a, .int b] h (XR h (aFar st x a b, st)) := by
  obtain ⟨hs, hw, hx, _⟩ := id hi
  show V S (dep + 20) 142 0 [.ref 0, .int x, .int a, .int b] [] h _
  have bad : aFar st x a b = -2 → V S (dep + 20) 142 18 [.ref 0, .int x, .int a, .int b] [] h (XR h (aFar st x a b, st)) := by
    intro e
    rw [e]
    refine V_bi (v := -2) rfl rfl ?_
    -- at 20: .ireturn
    refine V_iret rfl rfl ?_
    exact xq0 hi
  refine V_aload_n rfl rfl rfl ?_
  refine V_iload_n rfl rfl ?_
  refine V_iload_n rfl rfl ?_
  -- at 3: .invokevirtual 127
  refine V_cV rfl rfl rfl rfl rfl (c_noN hs) ?_
  refine V_if_ne rfl (fun hc => ?_) (fun hc => ?_)
  · have hc := nd_no hc
    refine bad ?_
    unfold aFar
    cases q : ix 6 x with
    | none => rfl
    | some i =>
      have e : nd st.1 x a = ix (st.1.1 i) a := by unfold nd; rw [q]; rfl
      rw [e] at hc
      dsimp only
      rw [hc]
  · obtain ⟨u, hu⟩ := nd_yes (Decidable.of_not_not hc)
    obtain ⟨i, e1, rfl, hi6, e2, rfl, hui⟩ := nd_some hu
    refine V_aload_n rfl rfl rfl ?_
    refine V_iload_n rfl rfl ?_
    refine V_iload_n rfl rfl ?_
    -- at 12: .invokevirtual 127
    refine V_cV rfl rfl rfl rfl rfl (c_noN hs) ?_
    refine V_if_eq rfl (fun hd => ?_) (fun hd => ?_)
    · obtain ⟨v, hv⟩ := nd_yes hd
      obtain ⟨i', f1, f2, _, f3, rfl, hvi⟩ := nd_some hv
      obtain rfl : i = i' := by rw [e1] at f1; exact Option.some.inj f1
      have hn := isS i hi6
      have hb1 := net_b hn
      have hN := hs.1 i hi6
      have ev : aFar st (nI i) (nI u) (nI v) = dst (rowOf (st.1.1 i) (st.1.2.1 i)) (st.1.1 i) v (2 ^ u) (st.1.1 i) := by unfold aFar; rw [e1]; dsimp only; rw [e2, f3]
      rw [ev]
      refine V_aload_n rfl rfl rfl ?_
      refine V_getR (r := 1) rfl rfl ?_
      refine V_iload_n rfl rfl ?_
      refine V_a1 rfl (by first | omega | assumption) ?_
      refine V_iload_n rfl rfl ?_
      refine V_iload_n rfl rfl ?_
      -- at 29: .invokevirtual 288
      refine V_cV rfl rfl (by first | assumption | rfl) rfl rfl (c_dst hN.1 hui hvi) ?_
      refine V_iret rfl rfl ?_
      exact xq0 hi
    · have hd := nd_no hd
      refine bad ?_
      have e : nd st.1 (nI i) b = ix (st.1.1 i) b := by unfold nd; rw [e1]; rfl
      rw [e] at hd
      unfold aFar
      rw [e1]
      dsimp only
      rw [e2, hd]
def aCard (st : St) (x y : Int32) : Int32 := match ix 3 x with
  | none => -2
  | some d => if y = -1 then (if (st.1.2.2 d).length = 0 then -1 else nI (st.1.2.2 d).length) else match ix (st.1.2.2 d).length y with
    | some k => nI ((st.1.2.2 d).getD k 0)
    | none => -2
theorem x_card {S : mScr} {dep : Nat} {x y : Int32} {st : St} {h : Hp} (hi : InvX h st) : Cal S (dep + 20) 143 [.ref 0, .int x, .int y] h (XR h (aCard st x y, st)) := by
  obtain ⟨hs, hw, hx, _⟩ := id hi
  show V S (dep + 20) 143 0 [.ref 0, .int x, .int y] [] h _
  refine V_iload_n rfl rfl ?_
  -- at 1: .invokestatic 170
  refine V_cS rfl rfl rfl rfl (c_noDN) ?_
  refine V_if_eq rfl (fun hc => ?_) (fun hc => ?_)
  · obtain ⟨d, e1, rfl, hd3⟩ := ix_yes hc
    have hnd := isD d hd3
    have hb2 := deck_b hnd
    have hb3 := deck_b1 hnd
    have hD := hs.2 d hd3
    have h7 := hD.2.1
    obtain ⟨cs, hcs⟩ : ∃ cs, cs = st.1.2.2 d := ⟨_, rfl⟩
    have ev : aCard st (nI d) y = if y = -1 then (if cs.length = 0 then -1 else nI cs.length) else match ix cs.length y with
      | some k => nI (cs.getD k 0)
      | none => -2 := by unfold aCard; rw [e1, hcs]
    rw [ev]
    rw [← hcs] at hD h7
    refine V_iload_n rfl rfl ?_
    refine V_ic (v := -1) rfl rfl ?_
    -- at 12: .if_icmp .ne 29
    refine V_icmp_ne rfl (fun hd => ?_) (fun hd => ?_)
    · rw [if_neg hd]
      refine V_aload_n rfl rfl rfl ?_
      refine V_iload_n rfl rfl ?_
      refine V_iload_n rfl rfl ?_
      -- at 44: .invokevirtual 184
      refine V_cV rfl rfl rfl rfl rfl (c_noC hs) ?_
      rw [dln_nI hd3, ← hcs]
      refine V_if_eq rfl (fun he => ?_) (fun he => ?_)
      · obtain ⟨k, e2, rfl, hk⟩ := ix_yes he
        rw [e2]
        refine V_aload_n rfl rfl rfl ?_
        refine V_getR (r := 2) rfl rfl ?_
        refine V_iload_n rfl rfl ?_
        refine V_a2 rfl (by first | omega | assumption) ?_
        refine V_getR rfl (deck_cd (by first | assumption | rfl)) ?_
        refine V_iload_n rfl rfl ?_
        refine V_al 7 rfl (deck_ar (by first | assumption | rfl)) (by first | with_reducible rfl | assumption | exact nI_sub (by omega) | exact nI_add _ _) (by first | omega | assumption) rfl ?_
        -- at 66: .ireturn
        rw [hD.2.2.2.1 k hk]
        refine V_iret rfl rfl ?_
        exact xq0 hi
      · have he := ix_no he
        rw [he]
        refine V_bi (v := -2) rfl rfl ?_
        refine V_goto rfl ?_
        -- at 66: .ireturn
        refine V_iret rfl rfl ?_
        exact xq0 hi
    · have hd := Decidable.of_not_not hd
      rw [if_pos hd]
      refine V_aload_n rfl rfl rfl ?_
      refine V_getR (r := 2) rfl rfl ?_
      refine V_iload_n rfl rfl ?_
      refine V_a2 rfl (by first | omega | assumption) ?_
      refine V_gi 0 rfl (deck_sz (by first | assumption | rfl)) rfl ?_
      -- at 24: .ifCond .ne 7
      rw [hD.2.2.1]
      refine V_if_ne rfl (fun he => ?_) (fun he => ?_)
      · rw [if_neg (fun q => he (by rw [q]; rfl))]
        refine V_aload_n rfl rfl rfl ?_
        refine V_getR (r := 2) rfl rfl ?_
        refine V_iload_n rfl rfl ?_
        refine V_a2 rfl (by first | omega | assumption) ?_
        refine V_gi 0 rfl (deck_sz (by first | assumption | rfl)) rfl ?_
        -- at 40: .ireturn
        rw [hD.2.2.1]
        refine V_iret rfl rfl ?_
        exact xq0 hi
      · have he := nI_inj (b := 0) (by omega) (by omega) (Decidable.of_not_not he)
        rw [if_pos he]
        refine V_ic (v := -1) rfl rfl ?_
        refine V_goto rfl ?_
        -- at 40: .ireturn
        refine V_iret rfl rfl ?_
        exact xq0 hi
  · have hc := ix_no hc
    have ev : aCard st x y = -2 := by unfold aCard; rw [hc]
    rw [ev]
    refine V_bi (v := -2) rfl rfl ?_
    -- at 9: .ireturn
    refine V_iret rfl rfl ?_
    exact xq0 hi
/-- both are decks -/
def dkO (s : Sl) (x : Int32) : Option Nat := match ix 3 x with
  | none => none
  | some d => if (s.2.2 d).length = 0 then none else some d
theorem dkO_some {s : Sl} {x : Int32} {d : Nat} (h : dkO s x = some d) : ix 3 x = some d ∧ x = nI d ∧ d < 3 ∧ dln s x = (s.2.2 d).length ∧ 0 < (s.2.2 d).length := by
  unfold dkO at h
  cases q : ix 3 x with
  | none => rw [q] at h; cases h
  | some e =>
    rw [q] at h
    dsimp only at h
    split at h
    · cases h
    · rename_i hl
      cases h
      exact ⟨rfl, (ix_some q).1, (ix_some q).2, by unfold dln; rw [q], by omega⟩
theorem dkO_no {s : Sl} {x : Int32} (h : dln s x = 0) : dkO s x = none := by
  unfold dkO
  unfold dln at h
  cases q : ix 3 x with
  | none => rfl
  | some d => rw [q] at h; dsimp only at h ⊢; rw [if_pos h]
theorem dkO_yes {s : Sl} {x : Int32} (h : ¬ dln s x = 0) : ∃ d, dkO s x = some d := by
  obtain ⟨d, e1, _, _, e4⟩ := dln_pos (s := s) (x := x) (by omega)
  refine ⟨d, ?_⟩
  unfold dkO
  rw [e1]
  dsimp only
  rw [if_neg (by omega)]
def aComm (st : St) (x y : Int32) : Int32 := match dkO st.1 x, dkO st.1 y with
  | some d, some e => nI (if (st.1.2.2 d).length = (st.1.2.2 e).length then (shr (st.1.2.2 d) (st.1.2.2 e) (st.1.2.2 d).length).1 else 0)
  | _, _ => -2
theorem x_comm {S : mScr} {dep : Nat} {x y : Int32} {st : St} {h : Hp} (hi : InvX h st) : Cal S (dep + 20) 144 [.ref 0, .int x, .int y] h (XR h (aComm st x y, st)) := by
  obtain ⟨hs, hw, hx, _⟩ := id hi
  show V S (dep + 20) 144 0 [.ref 0, .int x, .int y] [] h _
  have bad : aComm st x y = -2 → V S (dep + 20) 144 16 [.ref 0, .int x, .int y] [] h (XR h (aComm st x y, st)) := by
    intro e
    rw [e]
    refine V_bi (v := -2) rfl rfl ?_
    -- at 18: .ireturn
    refine V_iret rfl rfl ?_
    exact xq0 hi
  refine V_aload_n rfl rfl rfl ?_
  refine V_iload_n rfl rfl ?_
  -- at 2: .invokevirtual 199
  refine V_cV rfl rfl rfl rfl rfl (c_noD hs) ?_
  refine V_if_ne rfl (fun hc => ?_) (fun hc => ?_)
  · have hc := dkO_no (of_decide_eq_true (bI_nz.mp hc))
    exact bad (by unfold aComm; rw [hc])
  · obtain ⟨d, ed⟩ := dkO_yes (of_decide_eq_false (bI_z.mp (Decidable.of_not_not hc)))
    obtain ⟨_, rfl, hd3, _⟩ := dkO_some ed
    refine V_aload_n rfl rfl rfl ?_
    refine V_iload_n rfl rfl ?_
    -- at 10: .invokevirtual 199
    refine V_cV rfl rfl rfl rfl rfl (c_noD hs) ?_
    refine V_if_eq rfl (fun hd => ?_) (fun hd => ?_)
    · obtain ⟨e, ee⟩ := dkO_yes (of_decide_eq_false (bI_z.mp hd))
      obtain ⟨_, rfl, he3, _⟩ := dkO_some ee
      have hnd := isD d hd3
      have hb2 := deck_b hnd
      have hne := isD e he3
      have hb3 := deck_b hne
      have ev : aComm st (nI d) (nI e) = nI (if (st.1.2.2 d).length = (st.1.2.2 e).length then (shr (st.1.2.2 d) (st.1.2.2 e) (st.1.2.2 d).length).1 else 0) := by unfold aComm; rw [ed, ee]
      rw [ev]
      refine V_aload_n rfl rfl rfl ?_
      refine V_getR (r := 2) rfl rfl ?_
      refine V_iload_n rfl rfl ?_
      refine V_a2 rfl (by first | omega | assumption) ?_
      refine V_aload_n rfl rfl rfl ?_
      refine V_getR (r := 2) rfl rfl ?_
      refine V_iload_n rfl rfl ?_
      refine V_a2 rfl (by first | omega | assumption) ?_
      -- at 31: .invokevirtual 291
      refine V_cV rfl rfl (by first | assumption | rfl) rfl rfl (c_shr (hs.2 d hd3) (hs.2 e he3)) ?_
      refine V_iret rfl rfl ?_
      exact xq0 hi
    · have hd := dkO_no (of_decide_eq_true (bI_nz.mp hd))
      exact bad (by unfold aComm; rw [ed, hd])
