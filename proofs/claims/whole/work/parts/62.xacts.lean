/-! the class: acts -/
theorem ix_lt {n : Nat} {x : Int32} (hn : n < 2 ^ 31) : (ix n x).isSome = (decide (0 ≤ x) && decide (x < nI n)) := by
  rw [ix_is, Bool.eq_iff_iff, Bool.and_eq_true, decide_eq_true_eq, decide_eq_true_eq, decide_eq_true_eq, Int32.le_iff_toInt_le, Int32.lt_iff_toInt_lt, nI_toInt hn]
  exact Iff.rfl
theorem c_noS {S : mScr} {dep : Nat} {x : Int32} {h : Hp} : Cal S dep 154 [.int x] h (Rt (bI (!(ix 6 x).isSome)) h) := by
  rw [ix_lt (by decide)]
  show V S dep 154 0 [.int x] [] h _
  refine V_iload_n rfl rfl ?_
  -- at 1: .ifCond .lt 9
  refine V_if_lt rfl (fun hc => ?_) (fun hc => ?_)
  · refine V_ic (v := nI 1) rfl rfl ?_
    refine V_goto rfl ?_
    -- at 15: .ireturn
    refine V_zret rfl rfl (by first | exact Or.inl rfl | exact Or.inr rfl | assumption) ?_
    exact Rt.of (by rw [decide_eq_false (Int32.not_le.mpr hc)]; rfl)
  · refine V_iload_n rfl rfl ?_
    refine V_bi (v := nI 6) rfl rfl ?_
    -- at 7: .if_icmp .lt 7
    refine V_icmp_lt rfl (fun hd => ?_) (fun hd => ?_)
    · refine V_ic (v := nI 0) rfl rfl ?_
      -- at 15: .ireturn
      refine V_zret rfl rfl (by first | exact Or.inl rfl | exact Or.inr rfl | assumption) ?_
      exact Rt.of (by rw [decide_eq_true (Int32.not_lt.mp hc), decide_eq_true hd]; rfl)
    · refine V_ic (v := nI 1) rfl rfl ?_
      refine V_goto rfl ?_
      -- at 15: .ireturn
      refine V_zret rfl rfl (by first | exact Or.inl rfl | exact Or.inr rfl | assumption) ?_
      exact Rt.of (by rw [decide_eq_false hd, Bool.and_false]; rfl)
theorem c_noK {S : mScr} {dep : Nat} {x : Int32} {h : Hp} : Cal S dep 159 [.int x] h (Rt (bI (!(ix 6 x).isSome)) h) := by
  rw [ix_lt (by decide)]
  show V S dep 159 0 [.int x] [] h _
  refine V_iload_n rfl rfl ?_
  -- at 1: .ifCond .lt 9
  refine V_if_lt rfl (fun hc => ?_) (fun hc => ?_)
  · refine V_ic (v := nI 1) rfl rfl ?_
    refine V_goto rfl ?_
    -- at 15: .ireturn
    refine V_zret rfl rfl (by first | exact Or.inl rfl | exact Or.inr rfl | assumption) ?_
    exact Rt.of (by rw [decide_eq_false (Int32.not_le.mpr hc)]; rfl)
  · refine V_iload_n rfl rfl ?_
    refine V_bi (v := nI 6) rfl rfl ?_
    -- at 7: .if_icmp .lt 7
    refine V_icmp_lt rfl (fun hd => ?_) (fun hd => ?_)
    · refine V_ic (v := nI 0) rfl rfl ?_
      -- at 15: .ireturn
      refine V_zret rfl rfl (by first | exact Or.inl rfl | exact Or.inr rfl | assumption) ?_
      exact Rt.of (by rw [decide_eq_true (Int32.not_lt.mp hc), decide_eq_true hd]; rfl)
    · refine V_ic (v := nI 1) rfl rfl ?_
      refine V_goto rfl ?_
      -- at 15: .ireturn
      refine V_zret rfl rfl (by first | exact Or.inl rfl | exact Or.inr rfl | assumption) ?_
      exact Rt.of (by rw [decide_eq_false hd, Bool.and_false]; rfl)
theorem c_noDN {S : mScr} {dep : Nat} {x : Int32} {h : Hp} : Cal S dep 156 [.int x] h (Rt (bI (!(ix 3 x).isSome)) h) := by
  rw [ix_lt (by decide)]
  show V S dep 156 0 [.int x] [] h _
  refine V_iload_n rfl rfl ?_
  -- at 1: .ifCond .lt 8
  refine V_if_lt rfl (fun hc => ?_) (fun hc => ?_)
  · refine V_ic (v := nI 1) rfl rfl ?_
    refine V_goto rfl ?_
    -- at 14: .ireturn
    refine V_zret rfl rfl (by first | exact Or.inl rfl | exact Or.inr rfl | assumption) ?_
    exact Rt.of (by rw [decide_eq_false (Int32.not_le.mpr hc)]; rfl)
  · refine V_iload_n rfl rfl ?_
    refine V_ic (v := nI 3) rfl rfl ?_
    -- at 6: .if_icmp .lt 7
    refine V_icmp_lt rfl (fun hd => ?_) (fun hd => ?_)
    · refine V_ic (v := nI 0) rfl rfl ?_
      -- at 14: .ireturn
      refine V_zret rfl rfl (by first | exact Or.inl rfl | exact Or.inr rfl | assumption) ?_
      exact Rt.of (by rw [decide_eq_true (Int32.not_lt.mp hc), decide_eq_true hd]; rfl)
    · refine V_ic (v := nI 1) rfl rfl ?_
      refine V_goto rfl ?_
      -- at 14: .ireturn
      refine V_zret rfl rfl (by first | exact Or.inl rfl | exact Or.inr rfl | assumption) ?_
      exact Rt.of (by rw [decide_eq_false hd, Bool.and_false]; rfl)
theorem ix_no {n : Nat} {x : Int32} (h : ¬ bI (!(ix n x).isSome) = 0) : ix n x = none := by
  have := bI_nz.mp h
  cases q : ix n x with
  | none => rfl
  | some j => rw [q] at this; exact Bool.noConfusion this
theorem ix_yes {n : Nat} {x : Int32} (h : bI (!(ix n x).isSome) = 0) : ∃ j, ix n x = some j ∧ x = nI j ∧ j < n := by
  have := bI_z.mp h
  cases q : ix n x with
  | none => rw [q] at this; exact Bool.noConfusion this
  | some j => exact ⟨j, rfl, ix_some q⟩
def nd (s : Sl) (x y : Int32) : Option Nat := (ix 6 x).bind fun i => ix (s.1 i) y
theorem c_noN {S : mScr} {dep : Nat} {x y : Int32} {s : Sl} {h : Hp} (hs : XSt h s) : Cal S (dep + 1) 155 [.ref 0, .int x, .int y] h (Rt (bI (!(nd s x y).isSome)) h) := by
  show V S (dep + 1) 155 0 [.ref 0, .int x, .int y] [] h _
  refine V_iload_n rfl rfl ?_
  -- at 1: .invokestatic 143
  refine V_cS rfl rfl rfl rfl (c_noS) ?_
  refine V_if_ne rfl (fun hc => ?_) (fun hc => ?_)
  · have hc := ix_no hc
    refine V_ic (v := nI 1) rfl rfl ?_
    refine V_goto rfl ?_
    -- at 29: .ireturn
    refine V_zret rfl rfl (by first | exact Or.inl rfl | exact Or.inr rfl | assumption) ?_
    exact Rt.of (by unfold nd; rw [hc]; rfl)
  · obtain ⟨i, e, rfl, hi⟩ := ix_yes (Decidable.of_not_not hc)
    have hn := isS i hi
    have hN := hs.1 i hi
    have h7 := hN.1.2.1
    have en : nd s (nI i) y = ix (s.1 i) y := by unfold nd; rw [e]; rfl
    rw [en, ix_lt (by omega)]
    refine V_iload_n rfl rfl ?_
    -- at 8: .ifCond .lt 16
    refine V_if_lt rfl (fun hd => ?_) (fun hd => ?_)
    · refine V_ic (v := nI 1) rfl rfl ?_
      refine V_goto rfl ?_
      -- at 29: .ireturn
      refine V_zret rfl rfl (by first | exact Or.inl rfl | exact Or.inr rfl | assumption) ?_
      exact Rt.of (by rw [decide_eq_false (Int32.not_le.mpr hd)]; rfl)
    · refine V_iload_n rfl rfl ?_
      refine V_aload_n rfl rfl rfl ?_
      refine V_getR (r := 1) rfl rfl ?_
      refine V_iload_n rfl rfl ?_
      refine V_a1 rfl (by first | omega | assumption) ?_
      refine V_gi 0 rfl (net_sz (by first | assumption | rfl)) rfl ?_
      -- at 21: .if_icmp .lt 7
      rw [hN.1.2.2.1]
      refine V_icmp_lt rfl (fun he => ?_) (fun he => ?_)
      · refine V_ic (v := nI 0) rfl rfl ?_
        -- at 29: .ireturn
        refine V_zret rfl rfl (by first | exact Or.inl rfl | exact Or.inr rfl | assumption) ?_
        exact Rt.of (by rw [decide_eq_true (Int32.not_lt.mp hd), decide_eq_true he]; rfl)
      · refine V_ic (v := nI 1) rfl rfl ?_
        refine V_goto rfl ?_
        -- at 29: .ireturn
        refine V_zret rfl rfl (by first | exact Or.inl rfl | exact Or.inr rfl | assumption) ?_
        exact Rt.of (by rw [decide_eq_false he, Bool.and_false]; rfl)
theorem c_noD {S : mScr} {dep : Nat} {x : Int32} {s : Sl} {h : Hp} (hs : XSt h s) : Cal S (dep + 1) 157 [.ref 0, .int x] h (Rt (bI (decide (dln s x = 0))) h) := by
  show V S (dep + 1) 157 0 [.ref 0, .int x] [] h _
  refine V_iload_n rfl rfl ?_
  -- at 1: .invokestatic 170
  refine V_cS rfl rfl rfl rfl (c_noDN) ?_
  refine V_if_ne rfl (fun hc => ?_) (fun hc => ?_)
  · have hc := ix_no hc
    refine V_ic (v := nI 1) rfl rfl ?_
    refine V_goto rfl ?_
    -- at 24: .ireturn
    refine V_zret rfl rfl (by first | exact Or.inl rfl | exact Or.inr rfl | assumption) ?_
    exact Rt.of (by unfold dln; rw [hc]; rfl)
  · obtain ⟨d, e, rfl, hd⟩ := ix_yes (Decidable.of_not_not hc)
    have hn := isD d hd
    have hD := hs.2 d hd
    have h7 := hD.2.1
    rw [dln_nI hd]
    refine V_aload_n rfl rfl rfl ?_
    refine V_getR (r := 2) rfl rfl ?_
    refine V_iload_n rfl rfl ?_
    refine V_a2 rfl (by first | omega | assumption) ?_
    refine V_gi 0 rfl (deck_sz (by first | assumption | rfl)) rfl ?_
    -- at 16: .ifCond .ne 7
    rw [hD.2.2.1]
    refine V_if_ne rfl (fun he => ?_) (fun he => ?_)
    · refine V_ic (v := nI 0) rfl rfl ?_
      -- at 24: .ireturn
      refine V_zret rfl rfl (by first | exact Or.inl rfl | exact Or.inr rfl | assumption) ?_
      exact Rt.of (by rw [decide_eq_false (fun q => he (by rw [q]; rfl))]; rfl)
    · have he := nI_inj (b := 0) (by omega) (by omega) (Decidable.of_not_not he)
      refine V_ic (v := nI 1) rfl rfl ?_
      refine V_goto rfl ?_
      -- at 24: .ireturn
      refine V_zret rfl rfl (by first | exact Or.inl rfl | exact Or.inr rfl | assumption) ?_
      exact Rt.of (by rw [decide_eq_true he]; rfl)
theorem c_noC {S : mScr} {dep : Nat} {x y : Int32} {s : Sl} {h : Hp} (hs : XSt h s) : Cal S (dep + 1) 158 [.ref 0, .int x, .int y] h (Rt (bI (!(ix (dln s x) y).isSome)) h) := by
  show V S (dep + 1) 158 0 [.ref 0, .int x, .int y] [] h _
  refine V_iload_n rfl rfl ?_
  -- at 1: .invokestatic 170
  refine V_cS rfl rfl rfl rfl (c_noDN) ?_
  refine V_if_ne rfl (fun hc => ?_) (fun hc => ?_)
  · have hc := ix_no hc
    refine V_ic (v := nI 1) rfl rfl ?_
    refine V_goto rfl ?_
    -- at 29: .ireturn
    refine V_zret rfl rfl (by first | exact Or.inl rfl | exact Or.inr rfl | assumption) ?_
    refine Rt.of ?_
    have : dln s x = 0 := by unfold dln; rw [hc]
    rw [this]
    have e : ix 0 y = none := by unfold ix; rw [if_neg (by omega)]
    rw [e]; rfl
  · obtain ⟨d, e, rfl, hd⟩ := ix_yes (Decidable.of_not_not hc)
    have hn := isD d hd
    have hD := hs.2 d hd
    have h7 := hD.2.1
    rw [dln_nI hd, ix_lt (by omega)]
    refine V_iload_n rfl rfl ?_
    -- at 8: .ifCond .lt 16
    refine V_if_lt rfl (fun hd2 => ?_) (fun hd2 => ?_)
    · refine V_ic (v := nI 1) rfl rfl ?_
      refine V_goto rfl ?_
      -- at 29: .ireturn
      refine V_zret rfl rfl (by first | exact Or.inl rfl | exact Or.inr rfl | assumption) ?_
      exact Rt.of (by rw [decide_eq_false (Int32.not_le.mpr hd2)]; rfl)
    · refine V_iload_n rfl rfl ?_
      refine V_aload_n rfl rfl rfl ?_
      refine V_getR (r := 2) rfl rfl ?_
      refine V_iload_n rfl rfl ?_
      refine V_a2 rfl (by first | omega | assumption) ?_
      refine V_gi 0 rfl (deck_sz (by first | assumption | rfl)) rfl ?_
      -- at 21: .if_icmp .lt 7
      rw [hD.2.2.1]
      refine V_icmp_lt rfl (fun he => ?_) (fun he => ?_)
      · refine V_ic (v := nI 0) rfl rfl ?_
        -- at 29: .ireturn
        refine V_zret rfl rfl (by first | exact Or.inl rfl | exact Or.inr rfl | assumption) ?_
        exact Rt.of (by rw [decide_eq_true (Int32.not_lt.mp hd2), decide_eq_true he]; rfl)
      · refine V_ic (v := nI 1) rfl rfl ?_
        refine V_goto rfl ?_
        -- at 29: .ireturn
        refine V_zret rfl rfl (by first | exact Or.inl rfl | exact Or.inr rfl | assumption) ?_
        exact Rt.of (by rw [decide_eq_false he, Bool.and_false]; rfl)
def aJoin (st : St) (x a b : Int32) : Int32 × St := match ix 6 x with
  | none => (-2, st)
  | some i => match ix (st.1.1 i) a, ix (st.1.1 i) b with
    | some u, some v => if u = v then (-2, st) else (nI (pop (st.1.2.1 i ^^^ 2 ^ bt u v)), psh st (setN st.1 i (st.1.1 i) (st.1.2.1 i ^^^ 2 ^ bt u v)))
    | _, _ => (-2, st)
/-- a call's answer, and the state behind it -/
def XR (h : Hp) (r : Int32 × St) : Option Value → Hp → Prop := fun q h' => q = some (.int r.1) ∧ InvX h' r.2 ∧ FX h h'
theorem nd_some {s : Sl} {x y : Int32} {v : Nat} (h : nd s x y = some v) : ∃ i, ix 6 x = some i ∧ x = nI i ∧ i < 6 ∧ ix (s.1 i) y = some v ∧ y = nI v ∧ v < s.1 i := by
  unfold nd at h
  cases q : ix 6 x with
  | none => rw [q] at h; cases h
  | some i =>
    rw [q] at h
    have h : ix (s.1 i) y = some v := h
    exact ⟨i, rfl, (ix_some q).1, (ix_some q).2, h, (ix_some h).1, (ix_some h).2⟩
theorem nd_yes {s : Sl} {x y : Int32} (h : bI (!(nd s x y).isSome) = 0) : ∃ v, nd s x y = some v := by
  have := bI_z.mp h
  cases q : nd s x y with
  | none => rw [q] at this; exact Bool.noConfusion this
  | some j => exact ⟨j, rfl⟩
theorem nd_no {s : Sl} {x y : Int32} (h : ¬ bI (!(nd s x y).isSome) = 0) : nd s x y = none := by
  have := bI_nz.mp h
  cases q : nd s x y with
  | none => rfl
  | some j => rw [q] at this; exact Bool.noConfusion this
theorem x_join {S : mScr} {dep : Nat} {x a b : Int32} {st : St} {h : Hp} (hi : InvX h st) : Cal S (dep + 20) 123 [.ref 0, .int x, .int a, .int b] h (XR h (aJoin st x a b)) := by
  obtain ⟨hs, hw, hx, _⟩ := id hi
  show V S (dep + 20) 123 0 [.ref 0, .int x, .int a, .int b, .null] [] h _
  have bad : aJoin st x a b = (-2, st) → V S (dep + 20) 123 23 [.ref 0, .int x, .int a, .int b, .null] [] h (XR h (aJoin st x a b)) := by
    intro e
    rw [e]
    refine V_bi (v := -2) rfl rfl ?_
    -- at 25: .ireturn
    refine V_iret rfl rfl ?_
    exact ⟨rfl, hi, FX.rf⟩
  refine V_aload_n rfl rfl rfl ?_
  refine V_iload_n rfl rfl ?_
  refine V_iload_n rfl rfl ?_
  -- at 3: .invokevirtual 127
  refine V_cV rfl rfl rfl rfl rfl (c_noN hs) ?_
  refine V_if_ne rfl (fun hc => ?_) (fun hc => ?_)
  · have hc := nd_no hc
    refine bad ?_
    unfold aJoin
    cases q : ix 6 x with
    | none => rfl
    | some i =>
      have e : nd st.1 x a = ix (st.1.1 i) a := by unfold nd; rw [q]; rfl
      rw [e] at hc
      dsimp only
      rw [hc]
  · obtain ⟨u, hu⟩ := nd_yes (Decidable.of_not_not hc)
    obtain ⟨i, e1, rfl, hi6, e2, rfl, hui⟩ := nd_some hu
    refine V_aload_n rfl rfl rfl ?_
    refine V_iload_n rfl rfl ?_
    refine V_iload_n rfl rfl ?_
    -- at 12: .invokevirtual 127
    refine V_cV rfl rfl rfl rfl rfl (c_noN hs) ?_
    refine V_if_ne rfl (fun hd => ?_) (fun hd => ?_)
    · have hd := nd_no hd
      refine bad ?_
      have e : nd st.1 (nI i) b = ix (st.1.1 i) b := by unfold nd; rw [e1]; rfl
      rw [e] at hd
      unfold aJoin
      rw [e1]
      dsimp only
      rw [e2, hd]
    · obtain ⟨v, hv⟩ := nd_yes (Decidable.of_not_not hd)
      obtain ⟨i', f1, f2, _, f3, rfl, hvi⟩ := nd_some hv
      obtain rfl : i = i' := by rw [e1] at f1; exact Option.some.inj f1
      have hn := isS i hi6
      have hb1 := net_b hn
      have hb2 := net_b1 hn
      have hN := hs.1 i hi6
      have h7 := hN.1.2.1
      have ev : aJoin st (nI i) (nI u) (nI v) = if u = v then (-2, st) else (nI (pop (st.1.2.1 i ^^^ 2 ^ bt u v)), psh st (setN st.1 i (st.1.1 i) (st.1.2.1 i ^^^ 2 ^ bt u v))) := by
        unfold aJoin
        rw [e1]
        dsimp only
        rw [e2, f3]
      refine V_iload_n rfl rfl ?_
      refine V_iload_n rfl rfl ?_
      -- at 20: .if_icmp .ne 6
      refine V_icmp_ne rfl (fun he => ?_) (fun he => ?_)
      · have he : u ≠ v := fun q => he (by rw [q])
        rw [ev, if_neg he]
        refine V_aload_n rfl rfl rfl ?_
        refine V_getR (r := 1) rfl rfl ?_
        refine V_iload_n rfl rfl ?_
        refine V_a1 rfl (by first | omega | assumption) ?_
        refine V_astore (L' := [_, _, _, _, _]) rfl (by first | rfl | (rw [Bool.and_eq_true]; exact ⟨rfl, by first | assumption | rfl⟩)) rfl ?_
        refine V_aload_n rfl rfl rfl ?_
        refine V_getR (r := 4) rfl rfl ?_
        refine V_iload_n rfl rfl ?_
        refine V_aload rfl rfl (by first | assumption | rfl) ?_
        -- at 41: .invokevirtual 131
        refine V_callV rfl rfl rfl rfl rfl (c_keepN hs hw hx hi6) ?_
        rintro _ h1 ⟨rfl, k1, k2⟩
        show V S (dep + 20) 123 44 [.ref 0, .int (nI i), .int (nI u), .int (nI v), .ref (170 + 2 * i)] [] h1 _
        have hN1 := hN.fr k1 (by simp; omega) (by simp; omega)
        refine V_aload rfl rfl (by first | assumption | rfl) ?_
        refine V_iload_n rfl rfl ?_
        refine V_iload_n rfl rfl ?_
        -- at 48: .invokevirtual 135
        refine V_callV rfl rfl (by first | assumption | rfl) rfl rfl (c_flip hN1 hui hvi he) ?_
        rintro _ h2 ⟨rfl, hN2, k3⟩
        show V S (dep + 20) 123 51 [.ref 0, .int (nI i), .int (nI u), .int (nI v), .ref (170 + 2 * i)] [] h2 _
        refine V_aload rfl rfl (by first | assumption | rfl) ?_
        -- at 53: .invokevirtual 139
        refine V_cV rfl rfl (by first | assumption | rfl) rfl rfl (c_lc hN2.1) ?_
        rw [lsum_row h7 hN2.2, Nat.mul_div_cancel_left _ (by decide)]
        refine V_iret rfl rfl ?_
        have := hi.actN hi6 k1 k2 k3 (by simp; omega) hN2
        exact ⟨rfl, this.1, this.2⟩
      · have he := nI_inj (by omega) (by omega) (Decidable.of_not_not he)
        exact bad (by rw [ev, if_pos he])
def aGrow (st : St) (x y : Int32) : Int32 × St := match ix 6 x with
  | none => (-2, st)
  | some i => match ix (2 ^ st.1.1 i) y with
    | none => (-3, st)
    | some t => if st.1.1 i = 7 then (-4, st) else (nI (st.1.1 i + 1), psh st (setN st.1 i (st.1.1 i + 1) (st.1.2.1 i ||| t <<< tri (st.1.1 i))))
theorem and_out {n : Nat} {y : Int32} (hn : n ≤ 7) : y &&& (nI (2 ^ n - 1) ^^^ (-1)) = 0 ↔ ∃ t, t < 2 ^ n ∧ y = nI t := by
  have h2p := Nat.two_pow_pos n
  constructor
  · intro h
    refine ⟨y.toBitVec.toNat &&& (2 ^ n - 1), Nat.lt_of_le_of_lt Nat.and_le_right (by omega), ?_⟩
    have e : y = y &&& nI (2 ^ n - 1) := by
      apply nI_ext
      have h2 : y.toBitVec &&& ((nI (2 ^ n - 1)).toBitVec ^^^ (-1)) = 0 := congrArg Int32.toBitVec h
      show y.toBitVec = y.toBitVec &&& (nI (2 ^ n - 1)).toBitVec
      apply BitVec.eq_of_getLsbD_eq
      intro i hi
      have := congrArg (fun z => z.getLsbD i) h2
      simp only [BitVec.getLsbD_and, BitVec.getLsbD_xor] at this ⊢
      have e1 : (-1 : BitVec 32).getLsbD i = true := by
        rw [show (-1 : BitVec 32) = BitVec.allOnes 32 from rfl, BitVec.getLsbD_allOnes]
        exact decide_eq_true hi
      rw [e1] at this
      have e2 : (0 : BitVec 32).getLsbD i = false := by simp
      rw [e2] at this
      revert this
      cases y.toBitVec.getLsbD i <;> cases (nI (2 ^ n - 1)).toBitVec.getLsbD i <;> simp
    have e3 : y = nI y.toBitVec.toNat := by
      apply nI_ext
      rw [nI_bv]
      simp
    refine e.trans ?_
    rw [show y &&& nI (2 ^ n - 1) = nI y.toBitVec.toNat &&& nI (2 ^ n - 1) from congrArg (fun z => z &&& nI (2 ^ n - 1)) e3, nI_and]
  · rintro ⟨t, ht, rfl⟩
    rw [nI_andn, Nat.and_two_pow_sub_one_eq_mod, Nat.mod_eq_of_lt ht, Nat.xor_self]
    rfl
theorem ix_out {n : Nat} {y : Int32} (hn : n < 2 ^ 31) : (∃ t, t < n ∧ y = nI t) ↔ (ix n y).isSome = true := by
  constructor
  · rintro ⟨t, ht, rfl⟩
    rw [ix_nI (by omega), if_pos ht]; rfl
  · intro h
    obtain ⟨j, hj⟩ := Option.isSome_iff_exists.mp h
    exact ⟨j, (ix_some hj).2, (ix_some hj).1⟩
theorem x_grow {S : mScr} {dep : Nat} {x y : Int32} {st : St} {h : Hp} (hi : InvX h st) : Cal S (dep + 20) 124 [.ref 0, .int x, .int y] h (XR h (aGrow st x y)) := by
  obtain ⟨hs, hw, hx, _⟩ := id hi
  show V S (dep + 20) 124 0 [.ref 0, .int x, .int y, .null] [] h _
  refine V_iload_n rfl rfl ?_
  -- at 1: .invokestatic 143
  refine V_cS rfl rfl rfl rfl (c_noS) ?_
  refine V_if_eq rfl (fun hc => ?_) (fun hc => ?_)
  · obtain ⟨i, e1, rfl, hi6⟩ := ix_yes hc
    have hn := isS i hi6
    have hb1 := net_b hn
    have hN := hs.1 i hi6
    have h7 := hN.1.2.1
    have hL : (2 : Nat) ^ st.1.1 i ≤ 128 := Nat.pow_le_pow_right (n := 2) (j := 7) (by decide) h7
    refine V_aload_n rfl rfl rfl ?_
    refine V_getR (r := 1) rfl rfl ?_
    refine V_iload_n rfl rfl ?_
    refine V_a1 rfl (by first | omega | assumption) ?_
    refine V_astore_n (L' := [_, _, _, _]) rfl (by first | rfl | (rw [Bool.and_eq_true]; exact ⟨rfl, by first | assumption | rfl⟩)) rfl ?_
    refine V_iload_n rfl rfl ?_
    refine V_aload_n rfl rfl (by first | assumption | rfl) ?_
    -- at 19: .invokevirtual 147
    refine V_cV rfl rfl (by first | assumption | rfl) rfl rfl (c_evn hN.1) ?_
    refine V_ic (v := -1) rfl rfl ?_
    refine V_ixor rfl ?_
    refine V_iand rfl ?_
    -- at 25: .ifCond .eq 6
    refine V_if_eq rfl (fun hd => ?_) (fun hd => ?_)
    · obtain ⟨t, ht, rfl⟩ := (and_out h7).mp hd
      have ev : aGrow st (nI i) (nI t) = if st.1.1 i = 7 then (-4, st) else (nI (st.1.1 i + 1), psh st (setN st.1 i (st.1.1 i + 1) (st.1.2.1 i ||| t <<< tri (st.1.1 i)))) := by
        unfold aGrow
        rw [e1]
        dsimp only
        rw [ix_nI (by omega), if_pos ht]
      rw [ev]
      refine V_aload_n rfl rfl (by first | assumption | rfl) ?_
      refine V_gi 0 rfl (net_sz (by first | assumption | rfl)) rfl ?_
      refine V_bi (v := nI 7) rfl rfl ?_
      -- at 37: .if_icmp .lt 6
      rw [hN.1.2.2.1]
      refine V_icmp_lt rfl (fun he => ?_) (fun he => ?_)
      · have he := (nI_ltI (by omega) (by omega)).mp he
        rw [if_neg (by omega)]
        refine V_aload_n rfl rfl rfl ?_
        refine V_getR (r := 4) rfl rfl ?_
        refine V_iload_n rfl rfl ?_
        refine V_aload_n rfl rfl (by first | assumption | rfl) ?_
        -- at 49: .invokevirtual 131
        refine V_callV rfl rfl rfl rfl rfl (c_keepN hs hw hx hi6) ?_
        rintro _ h1 ⟨rfl, k1, k2⟩
        show V S (dep + 20) 124 52 [.ref 0, .int (nI i), .int (nI t), .ref (170 + 2 * i)] [] h1 _
        have hN1 := hN.fr k1 (by simp; omega) (by simp; omega)
        refine V_aload_n rfl rfl (by first | assumption | rfl) ?_
        refine V_iload_n rfl rfl ?_
        -- at 54: .invokevirtual 153
        refine V_callV rfl rfl (by first | assumption | rfl) rfl rfl (c_app hN1 he ht) ?_
        rintro _ h2 ⟨rfl, hN2, k3⟩
        show V S (dep + 20) 124 57 [.ref 0, .int (nI i), .int (nI t), .ref (170 + 2 * i)] [] h2 _
        refine V_aload_n rfl rfl (by first | assumption | rfl) ?_
        refine V_gi 0 rfl (net_sz (by first | assumption | rfl)) rfl ?_
        -- at 61: .ireturn
        rw [hN2.1.2.2.1]
        refine V_iret rfl rfl ?_
        have := hi.actN hi6 k1 k2 k3 (by simp; omega) hN2
        exact ⟨rfl, this.1, this.2⟩
      · have he : ¬ st.1.1 i < 7 := fun q => he (nI_lt q (by omega))
        rw [if_pos (by omega)]
        refine V_bi (v := -4) rfl rfl ?_
        -- at 42: .ireturn
        refine V_iret rfl rfl ?_
        exact ⟨rfl, hi, FX.rf⟩
    · have ev : aGrow st (nI i) y = (-3, st) := by
        unfold aGrow
        rw [e1]
        dsimp only
        have : ix (2 ^ st.1.1 i) y = none := by
          cases q : ix (2 ^ st.1.1 i) y with
          | none => rfl
          | some j => exact absurd ((and_out h7).mpr ⟨j, (ix_some q).2, (ix_some q).1⟩) hd
        rw [this]
      rw [ev]
      refine V_bi (v := -3) rfl rfl ?_
      -- at 30: .ireturn
      refine V_iret rfl rfl ?_
      exact ⟨rfl, hi, FX.rf⟩
  · have hc := ix_no hc
    refine V_bi (v := -2) rfl rfl ?_
    -- at 9: .ireturn
    refine V_iret rfl rfl ?_
    refine ⟨?_, ?_, FX.rf⟩
    · unfold aGrow; rw [hc]
    · unfold aGrow; rw [hc]; exact hi
def aDrop (st : St) (x y : Int32) : Int32 × St := match ix 6 x with
  | none => (-2, st)
  | some i => match ix (st.1.1 i) y with
    | none => (-2, st)
    | some v => (nI (st.1.1 i - 1), psh st (setN st.1 i (st.1.1 i - 1) (wot (st.1.1 i) (st.1.2.1 i) v)))
theorem x_drop {S : mScr} {dep : Nat} {x y : Int32} {st : St} {h : Hp} (hi : InvX h st) : Cal S (dep + 20) 125 [.ref 0, .int x, .int y] h (XR h (aDrop st x y)) := by
  obtain ⟨hs, hw, hx, _⟩ := id hi
  show V S (dep + 20) 125 0 [.ref 0, .int x, .int y, .null] [] h _
  refine V_aload_n rfl rfl rfl ?_
  refine V_iload_n rfl rfl ?_
  refine V_iload_n rfl rfl ?_
  -- at 3: .invokevirtual 127
  refine V_cV rfl rfl rfl rfl rfl (c_noN hs) ?_
  refine V_if_eq rfl (fun hc => ?_) (fun hc => ?_)
  · obtain ⟨v, hv⟩ := nd_yes hc
    obtain ⟨i, e1, rfl, hi6, e2, rfl, hvi⟩ := nd_some hv
    have hn := isS i hi6
    have hb1 := net_b hn
    have hN := hs.1 i hi6
    have h7 := hN.1.2.1
    have ev : aDrop st (nI i) (nI v) = (nI (st.1.1 i - 1), psh st (setN st.1 i (st.1.1 i - 1) (wot (st.1.1 i) (st.1.2.1 i) v))) := by
      unfold aDrop; rw [e1]; dsimp only; rw [e2]
    rw [ev]
    refine V_aload_n rfl rfl rfl ?_
    refine V_getR (r := 1) rfl rfl ?_
    refine V_iload_n rfl rfl ?_
    refine V_a1 rfl (by first | omega | assumption) ?_
    refine V_astore_n (L' := [_, _, _, _]) rfl (by first | rfl | (rw [Bool.and_eq_true]; exact ⟨rfl, by first | assumption | rfl⟩)) rfl ?_
    refine V_aload_n rfl rfl rfl ?_
    refine V_getR (r := 4) rfl rfl ?_
    refine V_iload_n rfl rfl ?_
    refine V_aload_n rfl rfl (by first | assumption | rfl) ?_
    -- at 25: .invokevirtual 131
    refine V_callV rfl rfl rfl rfl rfl (c_keepN hs hw hx hi6) ?_
    rintro _ h1 ⟨rfl, k1, k2⟩
    show V S (dep + 20) 125 28 [.ref 0, .int (nI i), .int (nI v), .ref (170 + 2 * i)] [] h1 _
    have hN1 := hN.fr k1 (by simp; omega) (by simp; omega)
    refine V_aload_n rfl rfl (by first | assumption | rfl) ?_
    refine V_aload_n rfl rfl (by first | assumption | rfl) ?_
    refine V_aload_n rfl rfl (by first | assumption | rfl) ?_
    -- at 31: .invokevirtual 147
    refine V_cV rfl rfl (by first | assumption | rfl) rfl rfl (c_evn hN1.1) ?_
    refine V_ic (v := nI 1) rfl rfl ?_
    refine V_iload_n rfl rfl ?_
    refine V_ishl rfl ?_
    refine V_ic (v := -1) rfl rfl ?_
    refine V_ixor rfl ?_
    refine V_iand rfl ?_
    -- at 40: .invokevirtual 156
    rw [nI_2p _ (by omega), nI_andn]
    refine V_callV rfl rfl (by first | assumption | rfl) rfl rfl (c_keep hN1 hn (cset_lt h7) (by omega) (by omega)) ?_
    rintro _ h2 ⟨rfl, hN2, k3⟩
    rw [cset_rk hvi] at hN2
    show V S (dep + 20) 125 43 [.ref 0, .int (nI i), .int (nI v), .ref (170 + 2 * i)] [] h2 _
    refine V_aload_n rfl rfl (by first | assumption | rfl) ?_
    refine V_gi 0 rfl (net_sz (by first | assumption | rfl)) rfl ?_
    -- at 47: .ireturn
    rw [hN2.1.2.2.1]
    refine V_iret rfl rfl ?_
    have := hi.actN hi6 k1 k2 k3 (by simp; omega) hN2
    exact ⟨rfl, this.1, this.2⟩
  · have hc := nd_no hc
    refine V_bi (v := -2) rfl rfl ?_
    -- at 11: .ireturn
    refine V_iret rfl rfl ?_
    have ev : aDrop st x y = (-2, st) := by
      unfold aDrop
      cases q : ix 6 x with
      | none => rfl
      | some i =>
        have e : nd st.1 x y = ix (st.1.1 i) y := by unfold nd; rw [q]; rfl
        rw [e] at hc
        dsimp only
        rw [hc]
    rw [ev]
    exact ⟨rfl, hi, FX.rf⟩
def aTurn (st : St) (x y : Int32) : Int32 × St := match ix 6 x, ix 6 y with
  | some i, some j => (nI (pop (inv (st.1.1 i) (st.1.2.1 i))), psh st (setN st.1 j (st.1.1 i) (inv (st.1.1 i) (st.1.2.1 i))))
  | _, _ => (-2, st)
theorem x_turn {S : mScr} {dep : Nat} {x y : Int32} {st : St} {h : Hp} (hi : InvX h st) : Cal S (dep + 20) 126 [.ref 0, .int x, .int y] h (XR h (aTurn st x y)) := by
  obtain ⟨hs, hw, hx, _⟩ := id hi
  show V S (dep + 20) 126 0 [.ref 0, .int x, .int y] [] h _
  have bad : aTurn st x y = (-2, st) → V S (dep + 20) 126 14 [.ref 0, .int x, .int y] [] h (XR h (aTurn st x y)) := by
    intro e
    rw [e]
    refine V_bi (v := -2) rfl rfl ?_
    -- at 16: .ireturn
    refine V_iret rfl rfl ?_
    exact ⟨rfl, hi, FX.rf⟩
  refine V_iload_n rfl rfl ?_
  -- at 1: .invokestatic 143
  refine V_cS rfl rfl rfl rfl (c_noS) ?_
  refine V_if_ne rfl (fun hc => ?_) (fun hc => ?_)
  · have hc := ix_no hc
    exact bad (by unfold aTurn; rw [hc])
  · obtain ⟨i, e1, rfl, hi6⟩ := ix_yes (Decidable.of_not_not hc)
    refine V_iload_n rfl rfl ?_
    -- at 8: .invokestatic 143
    refine V_cS rfl rfl rfl rfl (c_noS) ?_
    refine V_if_eq rfl (fun hd => ?_) (fun hd => ?_)
    · obtain ⟨j, e2, rfl, hj6⟩ := ix_yes hd
      have hn := isS i hi6
      have hb1 := net_b hn
      have hnj := isS j hj6
      have hb2 := net_b hnj
      have hN := hs.1 i hi6
      have h7 := hN.1.2.1
      have ev : aTurn st (nI i) (nI j) = (nI (pop (inv (st.1.1 i) (st.1.2.1 i))), psh st (setN st.1 j (st.1.1 i) (inv (st.1.1 i) (st.1.2.1 i)))) := by
        unfold aTurn; rw [e1, e2]
      rw [ev]
      refine V_aload_n rfl rfl rfl ?_
      refine V_getR (r := 4) rfl rfl ?_
      refine V_iload_n rfl rfl ?_
      refine V_aload_n rfl rfl rfl ?_
      refine V_getR (r := 1) rfl rfl ?_
      refine V_iload_n rfl rfl ?_
      refine V_a1 rfl (by first | omega | assumption) ?_
      -- at 28: .invokevirtual 131
      refine V_callV rfl rfl rfl rfl rfl (c_keepN hs hw hx hj6) ?_
      rintro _ h1 ⟨rfl, k1, k2⟩
      show V S (dep + 20) 126 31 [.ref 0, .int (nI i), .int (nI j)] [] h1 _
      have hN1 := hN.fr k1 (by simp; omega) (by simp; omega)
      refine V_aload_n rfl rfl rfl ?_
      refine V_getR (r := 1) rfl rfl ?_
      refine V_iload_n rfl rfl ?_
      refine V_a1 rfl (by first | omega | assumption) ?_
      refine V_aload_n rfl rfl rfl ?_
      refine V_getR (r := 1) rfl rfl ?_
      refine V_iload_n rfl rfl ?_
      refine V_a1 rfl (by first | omega | assumption) ?_
      -- at 43: .invokevirtual 160
      refine V_callV rfl rfl (by first | assumption | rfl) rfl rfl (c_invert hN1 hnj (by omega) (by omega)) ?_
      rintro _ h2 ⟨rfl, hN2, k3⟩
      show V S (dep + 20) 126 46 [.ref 0, .int (nI i), .int (nI j)] [] h2 _
      refine V_aload_n rfl rfl rfl ?_
      refine V_getR (r := 1) rfl rfl ?_
      refine V_iload_n rfl rfl ?_
      refine V_a1 rfl (by first | omega | assumption) ?_
      -- at 52: .invokevirtual 139
      refine V_cV rfl rfl (by first | assumption | rfl) rfl rfl (c_lc hN2.1) ?_
      rw [lsum_row h7 hN2.2, Nat.mul_div_cancel_left _ (by decide)]
      refine V_iret rfl rfl ?_
      have := hi.actN hj6 k1 k2 k3 (by simp; omega) hN2
      exact ⟨rfl, this.1, this.2⟩
    · have hd := ix_no hd
      exact bad (by unfold aTurn; rw [e1, hd])
def aPut (st : St) (x y : Int32) : Int32 × St := match ix 6 x, ix 6 y with
  | some i, some j => (nI (st.1.1 i), psh st (setN st.1 j (st.1.1 i) (frm (st.1.1 i) (st.1.2.1 i))))
  | _, _ => (-2, st)
theorem x_put {S : mScr} {dep : Nat} {x y : Int32} {st : St} {h : Hp} (hi : InvX h st) : Cal S (dep + 20) 127 [.ref 0, .int x, .int y] h (XR h (aPut st x y)) := by
  obtain ⟨hs, hw, hx, _⟩ := id hi
  show V S (dep + 20) 127 0 [.ref 0, .int x, .int y, .null] [] h _
  have bad : aPut st x y = (-2, st) → V S (dep + 20) 127 14 [.ref 0, .int x, .int y, .null] [] h (XR h (aPut st x y)) := by
    intro e
    rw [e]
    refine V_bi (v := -2) rfl rfl ?_
    -- at 16: .ireturn
    refine V_iret rfl rfl ?_
    exact ⟨rfl, hi, FX.rf⟩
  refine V_iload_n rfl rfl ?_
  -- at 1: .invokestatic 143
  refine V_cS rfl rfl rfl rfl (c_noS) ?_
  refine V_if_ne rfl (fun hc => ?_) (fun hc => ?_)
  · have hc := ix_no hc
    exact bad (by unfold aPut; rw [hc])
  · obtain ⟨i, e1, rfl, hi6⟩ := ix_yes (Decidable.of_not_not hc)
    refine V_iload_n rfl rfl ?_
    -- at 8: .invokestatic 143
    refine V_cS rfl rfl rfl rfl (c_noS) ?_
    refine V_if_eq rfl (fun hd => ?_) (fun hd => ?_)
    · obtain ⟨j, e2, rfl, hj6⟩ := ix_yes hd
      have hn := isS i hi6
      have hb1 := net_b hn
      have hnj := isS j hj6
      have hb2 := net_b hnj
      have hN := hs.1 i hi6
      have h7 := hN.1.2.1
      have ev : aPut st (nI i) (nI j) = (nI (st.1.1 i), psh st (setN st.1 j (st.1.1 i) (frm (st.1.1 i) (st.1.2.1 i)))) := by
        unfold aPut; rw [e1, e2]
      rw [ev]
      refine V_aload_n rfl rfl rfl ?_
      refine V_getR (r := 6) rfl rfl ?_
      refine V_aload_n rfl rfl rfl ?_
      refine V_getR (r := 1) rfl rfl ?_
      refine V_iload_n rfl rfl ?_
      refine V_a1 rfl (by first | omega | assumption) ?_
      -- at 27: .invokevirtual 163
      refine V_callV rfl rfl rfl rfl rfl (c_frm hN) ?_
      rintro _ h0 ⟨rfl, k0⟩
      show V S (dep + 20) 127 30 [.ref 0, .int (nI i), .int (nI j), .null] [.int (nI (frm (st.1.1 i) (st.1.2.1 i)))] h0 _
      have hi0 := hi.fr k0 (by simp; decide)
      obtain ⟨hs0, _, hx0, _⟩ := id hi0
      have fx0 : FX h h0 := k0.fo (by simp; decide)
      refine V_istore_n (L' := [_, _, _, _]) rfl rfl rfl ?_
      refine V_aload_n rfl rfl rfl ?_
      refine V_getR (r := 4) rfl rfl ?_
      refine V_iload_n rfl rfl ?_
      refine V_aload_n rfl rfl rfl ?_
      refine V_getR (r := 1) rfl rfl ?_
      refine V_iload_n rfl rfl ?_
      refine V_a1 rfl (by first | omega | assumption) ?_
      -- at 42: .invokevirtual 131
      refine V_callV rfl rfl rfl rfl rfl (c_keepN hs0 hw hx0 hj6) ?_
      rintro _ h1 ⟨rfl, k1, k2⟩
      show V S (dep + 20) 127 45 [.ref 0, .int (nI i), .int (nI j), .int (nI (frm (st.1.1 i) (st.1.2.1 i)))] [] h1 _
      have hN1 := (hs0.1 i hi6).fr k1 (by simp; omega) (by simp; omega)
      refine V_aload_n rfl rfl rfl ?_
      refine V_getR (r := 1) rfl rfl ?_
      refine V_iload_n rfl rfl ?_
      refine V_a1 rfl (by first | omega | assumption) ?_
      refine V_aload_n rfl rfl rfl ?_
      refine V_getR (r := 1) rfl rfl ?_
      refine V_iload_n rfl rfl ?_
      refine V_a1 rfl (by first | omega | assumption) ?_
      refine V_gi 0 rfl (net_sz (by first | assumption | rfl)) rfl ?_
      refine V_iload_n rfl rfl ?_
      -- at 61: .invokevirtual 167
      rw [hN1.1.2.2.1]
      refine V_callV rfl rfl (by first | assumption | rfl) rfl rfl (c_load hnj h7 (frm_lt h7)) ?_
      rintro _ h2 ⟨rfl, hN2, k3⟩
      show V S (dep + 20) 127 64 [.ref 0, .int (nI i), .int (nI j), .int (nI (frm (st.1.1 i) (st.1.2.1 i)))] [] h2 _
      refine V_aload_n rfl rfl rfl ?_
      refine V_getR (r := 1) rfl rfl ?_
      refine V_iload_n rfl rfl ?_
      refine V_a1 rfl (by first | omega | assumption) ?_
      refine V_gi 0 rfl (net_sz (by first | assumption | rfl)) rfl ?_
      -- at 73: .ireturn
      rw [hN2.1.2.2.1]
      refine V_iret rfl rfl ?_
      have := hi0.actN hj6 k1 k2 k3 (by simp; omega) hN2
      exact ⟨rfl, this.1, fx0.tr this.2⟩
    · have hd := ix_no hd
      exact bad (by unfold aPut; rw [e1, hd])
