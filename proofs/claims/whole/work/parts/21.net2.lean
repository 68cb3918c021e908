/-! nets: what changes them -/
theorem bt_eq {x y u v : Nat} (hxy : x ≠ y) (huv : u ≠ v) (hx : x < 7) (hy : y < 7) (hu : u < 7) (hv : v < 7) : bt x y = bt u v ↔ (x = u ∧ y = v) ∨ (x = v ∧ y = u) := by
  constructor
  · intro h
    rcases Nat.lt_or_gt_of_ne hxy with p | p <;> rcases Nat.lt_or_gt_of_ne huv with q | q
    · exact Or.inl (bt_inj p hy q hv h)
    · rw [bt_comm u v] at h
      exact Or.inr (bt_inj p hy q hu h)
    · rw [bt_comm x y] at h
      have := bt_inj p hx q hv h
      omega
    · rw [bt_comm x y, bt_comm u v] at h
      have := bt_inj p hx q hu h
      omega
  · rintro (⟨rfl, rfl⟩ | ⟨rfl, rfl⟩)
    · rfl
    · exact bt_comm _ _
theorem adj_xor {C x y u v : Nat} (hxy : x ≠ y) (hx : x < 7) (hy : y < 7) (hu : u < 7) (hv : v < 7) : adj (C ^^^ 2 ^ bt x y) u v = (adj C u v ^^ decide ((x = u ∧ y = v) ∨ (x = v ∧ y = u))) := by
  by_cases huv : u = v
  · subst huv
    rw [adj_self, adj_self]
    have : ¬ ((x = u ∧ y = u) ∨ (x = u ∧ y = u)) := by omega
    rw [decide_eq_false this]; rfl
  · unfold adj
    rw [Nat.testBit_xor, tb2]
    simp only [ne_eq, huv, not_false_eq_true, decide_true, Bool.true_and]
    congr 1
    exact decide_eq_decide.mpr (bt_eq hxy huv hx hy hu hv)
theorem xor_lt {C D n : Nat} (h1 : C < 2 ^ n) (h2 : D < 2 ^ n) : C ^^^ D < 2 ^ n := Nat.xor_lt_two_pow h1 h2
theorem flip_lt {C n x y : Nat} (hn : n ≤ 7) (hC : C < 2 ^ tri n) (hxy : x ≠ y) (hx : x < n) (hy : y < n) : C ^^^ 2 ^ bt x y < 2 ^ tri n := xor_lt hC (Nat.pow_lt_pow_right (by decide) (bt_lt' hn hxy hx hy))
theorem flip_row {C n x y v : Nat} (hn : n ≤ 7) (hxy : x ≠ y) (hx : x < n) (hy : y < n) : rowOf n (C ^^^ 2 ^ bt x y) v = if v = x then rowOf n C x ^^^ 2 ^ y else if v = y then rowOf n C y ^^^ 2 ^ x else rowOf n C v := by
  apply Nat.eq_of_testBit_eq
  intro u
  have key : (rowOf n (C ^^^ 2 ^ bt x y) v).testBit u = (decide (v < n) && decide (u < n) && (adj C u v ^^ decide ((x = u ∧ y = v) ∨ (x = v ∧ y = u)))) := by
    rw [rowOf_tb]
    by_cases hv : v < n
    · by_cases hu : u < n
      · rw [adj_xor hxy (by omega) (by omega) (by omega) (by omega)]
      · simp [hu]
    · simp [hv]
  rw [key]
  by_cases h1 : v = x
  · subst h1
    rw [if_pos rfl, Nat.testBit_xor, rowOf_tb, tb2]
    by_cases hu : u = y
    · subst hu; simp [hx, hy]
    · have e1 : ¬ y = u := fun q => hu q.symm
      have e2 : ¬ ((v = u ∧ y = v) ∨ (v = v ∧ y = u)) := by omega
      rw [decide_eq_false e2]; simp [e1]
  · rw [if_neg h1]
    by_cases h2 : v = y
    · subst h2
      rw [if_pos rfl, Nat.testBit_xor, rowOf_tb, tb2]
      by_cases hu : u = x
      · subst hu; simp [hx, hy]
      · have e1 : ¬ x = u := fun q => hu q.symm
        have e2 : ¬ ((x = u ∧ v = v) ∨ (x = v ∧ v = u)) := by omega
        rw [decide_eq_false e2]; simp [e1]
    · rw [if_neg h2, rowOf_tb]
      have e2 : ¬ ((x = u ∧ y = v) ∨ (x = v ∧ y = u)) := by omega
      rw [decide_eq_false e2]; simp
theorem nI_2p (b : Nat) (hb : b < 31) : nI 1 <<< (nI b &&& 31) = nI (2 ^ b) := by rw [nI_shl (by omega), Nat.shiftLeft_eq, Nat.one_mul]
theorem c_flip {S : mScr} {dep a n C x y : Nat} {h : Hp} (hN : NC h a n C) (hx : x < n) (hy : y < n) (hxy : x ≠ y) : Cal S (dep + 1) 65 [.ref a, .int (nI x), .int (nI y)] h (fun r h' => r = none ∧ NC h' a n (C ^^^ 2 ^ bt x y) ∧ Fr [a + 1] h h') := by
  obtain ⟨⟨ha, hn, h0, hg, hb⟩, hC⟩ := id hN
  have hb1 := net_b ha
  show V S (dep + 1) 65 0 [.ref a, .int (nI x), .int (nI y)] [] h _
  refine V_aload_n rfl rfl (by first | assumption | rfl) ?_
  refine V_iload_n rfl rfl ?_
  -- at 2: .invokevirtual 46
  refine V_cV rfl rfl (by first | assumption | rfl) rfl rfl (c_hn' hN.1 (by omega)) ?_
  refine V_if_eq rfl (fun hc => ?_) (fun hc => ?_)
  · rw [bI_z] at hc
    exact absurd hx (of_decide_eq_false hc)
  · refine V_aload_n rfl rfl (by first | assumption | rfl) ?_
    refine V_iload_n rfl rfl ?_
    -- at 10: .invokevirtual 46
    refine V_cV rfl rfl (by first | assumption | rfl) rfl rfl (c_hn' hN.1 (by omega)) ?_
    refine V_if_eq rfl (fun hd => ?_) (fun hd => ?_)
    · rw [bI_z] at hd
      exact absurd hy (of_decide_eq_false hd)
    · refine V_iload_n rfl rfl ?_
      refine V_iload_n rfl rfl ?_
      -- at 18: .if_icmp .eq 27
      refine V_icmp_eq rfl (fun he => ?_) (fun he => ?_)
      · exact absurd (nI_inj (by omega) (by omega) he) hxy
      · refine V_aload_n rfl rfl (by first | assumption | rfl) ?_
        refine V_getR rfl (net_nr (by first | assumption | rfl)) ?_
        refine V_iload_n rfl rfl ?_
        refine V_dup2 rfl rfl ?_
        refine V_al 7 rfl (net_ar (by first | assumption | rfl)) (by first | rfl | assumption) (by first | omega | assumption) rfl ?_
        refine V_ic (v := nI 1) rfl rfl ?_
        refine V_iload_n rfl rfl ?_
        refine V_ishl rfl ?_
        refine V_ixor rfl ?_
        refine V_as 7 rfl (net_ar (by first | assumption | rfl)) (by first | rfl | assumption) (by first | omega | assumption) rfl ?_
        refine V_aload_n rfl rfl (by first | assumption | rfl) ?_
        refine V_getR rfl (net_nr (by first | assumption | rfl)) ?_
        refine V_iload_n rfl rfl ?_
        refine V_dup2 rfl rfl ?_
        refine V_al 7 rfl (net_ar (by first | assumption | rfl)) (by first | rfl | assumption) (by first | omega | assumption) rfl ?_
        refine V_ic (v := nI 1) rfl rfl ?_
        refine V_iload_n rfl rfl ?_
        refine V_ishl rfl ?_
        refine V_ixor rfl ?_
        refine V_as 7 rfl (net_ar (by first | assumption | rfl)) (by first | rfl | assumption) (by first | omega | assumption) rfl ?_
        -- at 45: .return_
        refine V_return rfl rfl ?_
        rw [nI_2p _ (by omega), nI_2p _ (by omega), hg x (by omega), wI_ne (by omega), hg y (by omega), nI_xor, nI_xor]
        refine ⟨rfl, ⟨⟨ha, hn, ?_, ?_, ?_⟩, flip_lt hn hC hxy hx hy⟩, (Fr.w (by simp)).tr (Fr.w (by simp))⟩
        · rw [wI_ne (by omega), wI_ne (by omega)]; exact h0
        · intro v hv
          rw [flip_row hn hxy hx hy]
          by_cases h1 : v = x
          · subst h1
            rw [wI_ne (by omega), wI_same, if_pos rfl]
          · by_cases h2 : v = y
            · subst h2
              rw [wI_same, if_neg h1, if_pos rfl]
            · rw [wI_ne (by omega), wI_ne (by omega), if_neg h1, if_neg h2]
              exact hg v hv
        · intro v
          exact rowOf_lt hn
theorem row_grow {n C v : Nat} (hn : n < 7) (hC : C < 2 ^ tri n) : rowOf (n + 1) C v = rowOf n C v := by
  apply Nat.eq_of_testBit_eq
  intro u
  rw [rowOf_tb, rowOf_tb]
  by_cases hv : v < n
  · by_cases hu : u < n
    · simp [hv, hu, show v < n + 1 by omega, show u < n + 1 by omega]
    · by_cases hu2 : u = n
      · subst hu2
        rw [adj_comm, adj_out (by omega) hC hv (Nat.le_refl _)]; simp
      · simp [show ¬ u < n + 1 by omega, hu]
  · by_cases hv2 : v = n
    · subst hv2
      by_cases hu : u < v
      · rw [adj_out (by omega) hC hu (Nat.le_refl _)]; simp
      · by_cases hu2 : u = v
        · subst hu2; simp [adj_self]
        · simp [show ¬ u < v + 1 by omega]
    · simp [show ¬ v < n + 1 by omega, hv]
theorem tri_succ (n : Nat) : tri (n + 1) = tri n + n := by
  unfold tri
  rw [Nat.add_sub_cancel]
  have h : ∀ m, (m + 1) * m / 2 = m * (m - 1) / 2 + m := by
    intro m
    cases m with
    | zero => rfl
    | succ m =>
      rw [show (m + 1 + 1) * (m + 1) = (m + 1) * (m + 1 - 1) + (m + 1) * 2 by simp [Nat.mul_add, Nat.add_mul]; omega, Nat.add_mul_div_right _ _ (by decide)]
  exact h n
/-- a node comes behind all: its lines one by one -/
def capp (C n s : Nat) : Nat → Nat
  | 0 => C
  | j + 1 => if s.testBit j = true then capp C n s j ^^^ 2 ^ bt j n else capp C n s j
theorem capp_lt {C n s : Nat} (hn : n < 7) (hC : C < 2 ^ tri n) : ∀ j, j ≤ n → capp C n s j < 2 ^ tri (n + 1) := by
  intro j
  induction j with
  | zero => intro _; exact Nat.lt_of_lt_of_le hC (Nat.pow_le_pow_right (by decide) (by rw [tri_succ]; omega))
  | succ j ih =>
    intro hj
    rw [capp]
    split
    · exact flip_lt (by omega) (ih (by omega)) (by omega) (by omega) (by omega)
    · exact ih (by omega)
theorem capp_tb {C n s : Nat} (hn : n < 7) (hC : C < 2 ^ tri n) : ∀ j, j ≤ n → ∀ i, (capp C n s j).testBit i = (C.testBit i || (decide (tri n ≤ i) && decide (i < tri n + j) && s.testBit (i - tri n))) := by
  intro j
  induction j with
  | zero =>
    intro _ i
    have : (decide (tri n ≤ i) && decide (i < tri n + 0)) = false := by
      by_cases h : tri n ≤ i
      · simp [h]
      · simp [h]
    rw [capp, this]; simp
  | succ j ih =>
    intro hj i
    have hbt : bt j n = tri n + j := by unfold bt tri; rw [if_pos (by omega)]
    have hCi : ∀ i, tri n ≤ i → C.testBit i = false := fun i hi => Nat.testBit_lt_two_pow (Nat.lt_of_lt_of_le hC (Nat.pow_le_pow_right (by decide) hi))
    rw [capp]
    by_cases hs : s.testBit j = true
    · rw [if_pos hs, Nat.testBit_xor, ih (by omega), tb2, hbt]
      by_cases h1 : tri n + j = i
      · subst h1
        rw [hCi _ (by omega)]
        simp [hs]
      · have e : decide (i < tri n + (j + 1)) = decide (i < tri n + j) := decide_eq_decide.mpr (by omega)
        rw [e]
        simp [h1]
    · rw [if_neg hs, ih (by omega)]
      by_cases h1 : tri n + j = i
      · subst h1
        simp [hs]
      · have e : decide (i < tri n + (j + 1)) = decide (i < tri n + j) := decide_eq_decide.mpr (by omega)
        rw [e]
theorem capp_end {C n s : Nat} (hn : n < 7) (hC : C < 2 ^ tri n) (hs : s < 2 ^ n) : capp C n s n = C ||| s <<< tri n := by
  apply Nat.eq_of_testBit_eq
  intro i
  rw [capp_tb hn hC n (Nat.le_refl n), Nat.testBit_or, Nat.testBit_shiftLeft]
  congr 1
  by_cases h1 : tri n ≤ i
  · by_cases h2 : i < tri n + n
    · simp [h1, h2]
    · rw [Nat.testBit_lt_two_pow (Nat.lt_of_lt_of_le hs (Nat.pow_le_pow_right (by decide) (show n ≤ i - tri n by omega)))]
      simp
  · simp [h1]
theorem c_app {S : mScr} {dep a n C s : Nat} {h : Hp} (hN : NC h a n C) (hn7 : n < 7) (hs : s < 2 ^ n) : Cal S (dep + 2) 66 [.ref a, .int (nI s)] h (fun r h' => r = none ∧ NC h' a (n + 1) (C ||| s <<< tri n) ∧ Fr [a, a + 1] h h') := by
  obtain ⟨⟨ha, hn, h0, hg, hb⟩, hC⟩ := id hN
  have hb1 := net_b ha
  have hs2 : s < 128 := Nat.lt_of_lt_of_le hs (show 2 ^ n ≤ 2 ^ 7 from Nat.pow_le_pow_right (by decide) hn)
  show V S (dep + 2) 66 0 [.ref a, .int (nI s), .null, .null] [] h _
  refine V_aload_n rfl rfl (by first | assumption | rfl) ?_
  refine V_gi 0 rfl (net_sz (by first | assumption | rfl)) rfl ?_
  refine V_bi (v := nI 7) rfl rfl ?_
  -- at 6: .if_icmp .lt 4
  refine V_icmp_lt rfl (fun hc => ?_) (fun hc => ?_)
  · refine V_aload_n rfl rfl (by first | assumption | rfl) ?_
    refine V_gi 0 rfl (net_sz (by first | assumption | rfl)) rfl ?_
    refine V_istore_n (L' := [_, _, _, _]) rfl rfl rfl ?_
    refine V_aload_n rfl rfl (by first | assumption | rfl) ?_
    refine V_dup rfl rfl ?_
    refine V_gi 0 rfl (net_sz (by first | assumption | rfl)) rfl ?_
    refine V_ic (v := nI 1) rfl rfl ?_
    refine V_iadd rfl ?_
    refine V_pi 0 rfl (net_sz (by first | assumption | rfl)) rfl rfl ?_
    refine V_ic (v := nI 0) rfl rfl ?_
    refine V_istore_n (L' := [_, _, _, _]) rfl rfl rfl ?_
    -- at 27: .iload_n 3
    have hN1 : NC (wI h a 0 (nI (n + 1))) a (n + 1) C := ⟨⟨ha, by omega, wI_same, fun v hv => by rw [wI_ne (by omega), row_grow hn7 hC]; exact hg v hv, fun v => rowOf_lt (by omega)⟩, Nat.lt_of_lt_of_le hC (Nat.pow_le_pow_right (by decide) (by rw [tri_succ]; omega))⟩
    rw [h0, nI_add]
    rw [← capp_end hn7 hC hs]
    have lp := loopUp (P := fun j => ∀ h1, NC h1 a (n + 1) (capp C n s j) → Fr [a, a + 1] h h1 → V S (dep + 2) 66 27 [.ref a, .int (nI s), .int (nI n), .int (nI j)] [] h1 (fun r h' => r = none ∧ NC h' a (n + 1) (capp C n s n) ∧ Fr [a, a + 1] h h')) n ?_ ?_ 0 (Nat.zero_le _)
    · exact lp _ hN1 (Fr.w (by simp))
    · intro h1 hN1 hF
      refine V_iload_n rfl rfl ?_
      refine V_iload_n rfl rfl ?_
      -- at 29: .if_icmp .ge 23
      refine V_icmp_ge rfl (fun hd => ?_) (fun hd => ?_)
      · refine V_return rfl rfl ?_
        exact ⟨rfl, hN1, hF⟩
      · exact absurd (nI_le (Nat.le_refl n) (by omega)) hd
    · intro j hj ih h1 hN1 hF
      refine V_iload_n rfl rfl ?_
      refine V_iload_n rfl rfl ?_
      -- at 29: .if_icmp .ge 23
      refine V_icmp_ge rfl (fun hd => ?_) (fun hd => ?_)
      · exact absurd hd (nI_ge hj (by omega))
      · refine V_iload_n rfl rfl ?_
        refine V_iload_n rfl rfl ?_
        refine V_ishr rfl ?_
        refine V_ic (v := nI 1) rfl rfl ?_
        refine V_iand rfl ?_
        -- at 37: .ifCond .eq 9
        refine V_if_eq rfl (fun he => ?_) (fun he => ?_)
        · have e := (tb_z (by omega) (by omega)).mp he
          refine V_iinc (L' := [_, _, _, _]) rfl rfl rfl ?_
          refine V_goto rfl ?_
          -- at 27: .iload_n 3
          rw [show Int32.ofInt 1 = nI 1 from rfl, nI_add]
          refine ih h1 ?_ hF
          rw [capp, if_neg (by simp [e])]
          exact hN1
        · have e := (tb_nz (by omega) (by omega)).mp he
          refine V_aload_n rfl rfl (by first | assumption | rfl) ?_
          refine V_iload_n rfl rfl ?_
          refine V_iload_n rfl rfl ?_
          -- at 43: .invokevirtual 36
          refine V_callV rfl rfl (by first | assumption | rfl) rfl rfl (c_flip hN1 (x := j) (y := n) (by omega) (by omega) (by omega)) ?_
          rintro _ h2 ⟨rfl, hN2, hF2⟩
          show V S (dep + 2) 66 46 _ [] h2 _
          refine V_iinc (L' := [_, _, _, _]) rfl rfl rfl ?_
          refine V_goto rfl ?_
          -- at 27: .iload_n 3
          rw [show Int32.ofInt 1 = nI 1 from rfl, nI_add]
          refine ih h2 ?_ (hF.tr (hF2.mono (by simp)))
          rw [capp, if_pos e]
          exact hN2
  · rw [h0] at hc
    exact absurd (nI_lt hn7 (by decide)) hc
