/-! nets: clear, load, copy, code, invert -/
theorem rowOf_0 {n v : Nat} : rowOf n 0 v = 0 := by
  apply Nat.eq_of_testBit_eq
  intro u
  rw [rowOf_tb]
  simp [adj]
theorem NC0 {h : Hp} {a m : Nat} (ha : isNet a = true) (hm : m ≤ 7) (h0 : h.1 a 0 = nI m) (hz : ∀ v, v < 7 → h.1 (a + 1) v = nI 0) : NC h a m 0 :=
  ⟨⟨ha, hm, h0, fun v hv => by rw [rowOf_0]; exact hz v hv, fun v => rowOf_lt hm⟩, Nat.two_pow_pos _⟩
theorem c_clear {S : mScr} {dep a m : Nat} {h : Hp} (ha : isNet a = true) (hm : m ≤ 7) : Cal S (dep + 1) 55 [.ref a, .int (nI m)] h (fun r h' => r = none ∧ NC h' a m 0 ∧ Fr [a, a + 1] h h') := by
  have hb1 := net_b ha
  show V S (dep + 1) 55 0 [.ref a, .int (nI m), .null] [] h _
  refine V_aload_n rfl rfl (by first | assumption | rfl) ?_
  refine V_ic (v := nI 0) rfl rfl ?_
  refine V_bi (v := nI 7) rfl rfl ?_
  refine V_iload_n rfl rfl ?_
  -- at 5: .invokestatic 19
  refine V_min rfl rfl rfl ?_
  refine V_max rfl rfl rfl ?_
  have e1 : (if nI m < nI 7 then nI m else nI 7) = nI m := by
    rcases Nat.lt_or_ge m 7 with q | q
    · rw [if_pos (nI_lt q (by decide))]
    · rw [show m = 7 by omega]; decide
  have e2 : (if nI 0 < nI m then nI m else nI 0) = nI m := by
    rcases Nat.eq_zero_or_pos m with q | q
    · subst q; decide
    · rw [if_pos (nI_lt q (by omega))]
  rw [e1, e2]
  refine V_pi 0 rfl (net_sz (by first | assumption | rfl)) rfl rfl ?_
  refine V_ic (v := nI 0) rfl rfl ?_
  refine V_istore_n (L' := [_, _, _]) rfl rfl rfl ?_
  -- at 16: .iload_n 2
  have lp := loopUp (P := fun j => ∀ h1, h1.1 a 0 = nI m → (∀ v, v < j → h1.1 (a + 1) v = nI 0) → Fr [a, a + 1] h h1 → V S (dep + 1) 55 16 [.ref a, .int (nI m), .int (nI j)] [] h1 (fun r h' => r = none ∧ NC h' a m 0 ∧ Fr [a, a + 1] h h')) 7 ?_ ?_ 0 (Nat.zero_le _)
  · exact lp _ wI_same (fun v hv => by omega) (Fr.w (by simp))
  · intro h1 g1 g2 hF
    refine V_iload_n rfl rfl ?_
    refine V_bi (v := nI 7) rfl rfl ?_
    -- at 19: .if_icmp .ge 16
    refine V_icmp_ge rfl (fun hd => ?_) (fun hd => ?_)
    · refine V_return rfl rfl ?_
      exact ⟨rfl, NC0 ha hm g1 g2, hF⟩
    · exact absurd (nI_le (Nat.le_refl 7) (by decide)) hd
  · intro j hj ih h1 g1 g2 hF
    refine V_iload_n rfl rfl ?_
    refine V_bi (v := nI 7) rfl rfl ?_
    -- at 19: .if_icmp .ge 16
    refine V_icmp_ge rfl (fun hd => ?_) (fun hd => ?_)
    · exact absurd hd (nI_ge hj (by decide))
    · refine V_aload_n rfl rfl (by first | assumption | rfl) ?_
      refine V_getR rfl (net_nr (by first | assumption | rfl)) ?_
      refine V_iload_n rfl rfl ?_
      refine V_ic (v := nI 0) rfl rfl ?_
      refine V_as 7 rfl (net_ar (by first | assumption | rfl)) (by first | rfl | assumption) (by first | omega | assumption) rfl ?_
      refine V_iinc (L' := [_, _, _]) rfl rfl rfl ?_
      refine V_goto rfl ?_
      -- at 16: .iload_n 2
      rw [show Int32.ofInt 1 = nI 1 from rfl, nI_add]
      refine ih _ (by rw [wI_ne (by omega)]; exact g1) (fun v hv => ?_) (hF.tr (Fr.w (by simp)))
      by_cases hv2 : v = j
      · subst hv2; exact wI_same
      · rw [wI_ne (by omega)]; exact g2 v (by omega)
theorem mod_step (C i : Nat) : C % 2 ^ (i + 1) = if C.testBit i = true then (C % 2 ^ i) ^^^ 2 ^ i else C % 2 ^ i := by
  apply Nat.eq_of_testBit_eq
  intro k
  rw [Nat.testBit_mod_two_pow]
  by_cases hi : C.testBit i = true
  · rw [if_pos hi, Nat.testBit_xor, Nat.testBit_mod_two_pow, tb2]
    by_cases hk : i = k
    · subst hk; simp [hi]
    · have : decide (k < i + 1) = decide (k < i) := decide_eq_decide.mpr (by omega)
      rw [this]; simp [hk]
  · rw [if_neg hi, Nat.testBit_mod_two_pow]
    by_cases hk : i = k
    · subst hk; simp [hi]
    · have : decide (k < i + 1) = decide (k < i) := decide_eq_decide.mpr (by omega)
      rw [this]
theorem bt_up {a b : Nat} (h : a < b) : bt a b = tri b + a := by unfold bt tri; rw [if_pos h]
theorem tri_mono {a b : Nat} (h : a ≤ b) : tri a ≤ tri b := by
  induction b with
  | zero => rw [Nat.le_zero.mp h]; exact Nat.le_refl _
  | succ b ih =>
    rcases Nat.lt_or_ge a (b + 1) with q | q
    · rw [tri_succ]; have := ih (by omega); omega
    · rw [show a = b + 1 by omega]; exact Nat.le_refl _
theorem mod_lt_tri {C i n : Nat} (h : i ≤ tri n) : C % 2 ^ i < 2 ^ tri n := Nat.lt_of_lt_of_le (Nat.mod_lt _ (Nat.two_pow_pos i)) (Nat.pow_le_pow_right (by decide) h)
theorem c_load {S : mScr} {dep a m C : Nat} {h : Hp} (ha : isNet a = true) (hm : m ≤ 7) (hC : C < 2 ^ tri m) : Cal S (dep + 2) 56 [.ref a, .int (nI m), .int (nI C)] h (fun r h' => r = none ∧ NC h' a m C ∧ Fr [a, a + 1] h h') := by
  have hb1 := net_b ha
  have hC2 : C < 2 ^ 21 := Nat.lt_of_lt_of_le hC (Nat.pow_le_pow_right (by decide) (tri_le hm))
  show V S (dep + 2) 56 0 [.ref a, .int (nI m), .int (nI C), .null, .null, .null] [] h _
  refine V_aload_n rfl rfl (by first | assumption | rfl) ?_
  refine V_iload_n rfl rfl ?_
  -- at 2: .invokevirtual 28
  refine V_callV rfl rfl (by first | assumption | rfl) rfl rfl (c_clear ha hm) ?_
  rintro _ h0 ⟨rfl, hN0, hF0⟩
  show V S (dep + 2) 56 5 _ [] h0 _
  refine V_ic (v := nI 1) rfl rfl ?_
  refine V_istore_n (L' := [_, _, _, _, _, _]) rfl rfl rfl ?_
  -- at 7: .iload_n 3
  have lp := loopUp (P := fun b => 1 ≤ b → ∀ h1 v4 v5, (v4 = .null ∨ ∃ x, v4 = .int x) → (v5 = .null ∨ ∃ x, v5 = .int x) → NC h1 a m (C % 2 ^ tri b) → Fr [a, a + 1] h h1 → V S (dep + 2) 56 7 [.ref a, .int (nI m), .int (nI C), .int (nI b), v4, v5] [] h1 (fun r h' => r = none ∧ NC h' a m C ∧ Fr [a, a + 1] h h')) (max m 1) ?_ ?_ 1 (by omega) (Nat.le_refl _)
  · refine lp h0 _ _ (Or.inl rfl) (Or.inl rfl) ?_ hF0
    rw [show C % 2 ^ tri 1 = 0 by simp [tri, Nat.mod_one]]
    exact hN0
  · intro hb h1 v4 v5 hv4 hv5 hN1 hF
    obtain ⟨⟨-, -, g0, -⟩, -⟩ := id hN1
    refine V_iload_n rfl rfl ?_
    refine V_aload_n rfl rfl (by first | assumption | rfl) ?_
    refine V_gi 0 rfl (net_sz (by first | assumption | rfl)) rfl ?_
    -- at 12: .if_icmp .ge 49
    refine V_icmp_ge rfl (fun hd => ?_) (fun hd => ?_)
    · refine V_return rfl rfl ?_
      refine ⟨rfl, ?_, hF⟩
      rcases Nat.eq_zero_or_pos m with q | q
      · subst q
        have : C = 0 := by simp [tri] at hC; omega
        subst this
        simpa using hN1
      · rw [show max m 1 = m by omega, Nat.mod_eq_of_lt hC] at hN1
        exact hN1
    · rw [g0] at hd
      exact absurd (nI_le (show m ≤ max m 1 by omega) (by omega)) hd
  · intro b hb ih hb1' h1 v4 v5 hv4 hv5 hN1 hF
    have hbm : b < m := by omega
    obtain ⟨⟨-, -, g0, -⟩, -⟩ := id hN1
    refine V_iload_n rfl rfl ?_
    refine V_aload_n rfl rfl (by first | assumption | rfl) ?_
    refine V_gi 0 rfl (net_sz (by first | assumption | rfl)) rfl ?_
    -- at 12: .if_icmp .ge 49
    refine V_icmp_ge rfl (fun hd => ?_) (fun hd => ?_)
    · rw [g0] at hd
      exact absurd hd (nI_ge hbm (by omega))
    · refine V_iload_n rfl rfl ?_
      refine V_iload_n rfl rfl ?_
      -- at 17: .invokestatic 32
      refine V_cS rfl rfl rfl rfl (c_fbo (by omega)) ?_
      refine V_ishr rfl ?_
      -- at 21: .istore 4
      rw [nI_shr (by omega) (by have := tri_le hm; have := tri_mono (show b ≤ m by omega); omega)]
      refine V_istore (L' := [.ref a, .int (nI m), .int (nI C), .int (nI b), .int (nI (C >>> tri b)), v5]) rfl rfl rfl ?_
      refine V_ic (v := nI 0) rfl rfl ?_
      -- at 24: .istore 5
      refine V_istore (L' := [.ref a, .int (nI m), .int (nI C), .int (nI b), .int (nI (C >>> tri b)), .int (nI 0)]) rfl rfl rfl ?_
      have lq := loopUp (P := fun j => ∀ h2, NC h2 a m (C % 2 ^ (tri b + j)) → Fr [a, a + 1] h h2 → V S (dep + 2) 56 26 [.ref a, .int (nI m), .int (nI C), .int (nI b), .int (nI (C >>> tri b)), .int (nI j)] [] h2 (fun r h' => r = none ∧ NC h' a m C ∧ Fr [a, a + 1] h h')) b ?_ ?_ 0 (Nat.zero_le _)
      · exact lq h1 hN1 hF
      · intro h2 hN2 hF2
        refine V_iload rfl rfl ?_
        refine V_iload_n rfl rfl ?_
        -- at 29: .if_icmp .ge 26
        refine V_icmp_ge rfl (fun he => ?_) (fun he => ?_)
        · refine V_iinc (L' := [_, _, _, _, _, _]) rfl rfl rfl ?_
          refine V_goto rfl ?_
          -- at 7: .iload_n 3
          rw [show Int32.ofInt 1 = nI 1 from rfl, nI_add]
          exact ih (by omega) h2 _ _ (Or.inr ⟨_, rfl⟩) (Or.inr ⟨_, rfl⟩) (by rw [tri_succ]; exact hN2) hF2
        · exact absurd (nI_le (Nat.le_refl b) (by omega)) he
      · intro j hj ihj h2 hN2 hF2
        have hsh : C >>> tri b < 2 ^ 31 := Nat.lt_of_le_of_lt (by rw [Nat.shiftRight_eq_div_pow]; exact Nat.div_le_self _ _) (show C < 2 ^ 31 by omega)
        refine V_iload rfl rfl ?_
        refine V_iload_n rfl rfl ?_
        -- at 29: .if_icmp .ge 26
        refine V_icmp_ge rfl (fun he => ?_) (fun he => ?_)
        · exact absurd he (nI_ge hj (by omega))
        · refine V_iload rfl rfl ?_
          refine V_iload rfl rfl ?_
          refine V_ishr rfl ?_
          refine V_ic (v := nI 1) rfl rfl ?_
          refine V_iand rfl ?_
          -- at 39: .ifCond .eq 10
          refine V_if_eq rfl (fun hf => ?_) (fun hf => ?_)
          · have e := (tb_z hsh (by omega)).mp hf
            rw [Nat.testBit_shiftRight] at e
            refine V_iinc (L' := [_, _, _, _, _, _]) rfl rfl rfl ?_
            refine V_goto rfl ?_
            -- at 26: .iload 5
            rw [show Int32.ofInt 1 = nI 1 from rfl, nI_add]
            refine ihj h2 ?_ hF2
            rw [← Nat.add_assoc, mod_step, if_neg (by simp [e])]
            exact hN2
          · have e := (tb_nz hsh (by omega)).mp hf
            rw [Nat.testBit_shiftRight] at e
            refine V_aload_n rfl rfl (by first | assumption | rfl) ?_
            refine V_iload rfl rfl ?_
            refine V_iload_n rfl rfl ?_
            -- at 46: .invokevirtual 36
            refine V_callV rfl rfl (by first | assumption | rfl) rfl rfl (c_flip hN2 (x := j) (y := b) (by omega) (by omega) (by omega)) ?_
            rintro _ h3 ⟨rfl, hN3, hF3⟩
            show V S (dep + 2) 56 49 _ [] h3 _
            refine V_iinc (L' := [_, _, _, _, _, _]) rfl rfl rfl ?_
            refine V_goto rfl ?_
            -- at 26: .iload 5
            rw [show Int32.ofInt 1 = nI 1 from rfl, nI_add]
            refine ihj h3 ?_ (hF2.tr (hF3.mono (by simp)))
            rw [bt_up hj] at hN3
            rw [← Nat.add_assoc, mod_step, if_pos e]
            exact hN3
theorem c_copy {S : mScr} {dep a b n C : Nat} {h : Hp} (hN : NC h b n C) (ha : isNet a = true) (hab : a ≠ b) (hab1 : b + 1 ≠ a) (hab2 : a + 1 ≠ b) : Cal S (dep + 1) 57 [.ref a, .ref b] h (fun r h' => r = none ∧ NC h' a n C ∧ Fr [a, a + 1] h h') := by
  obtain ⟨⟨hbn, hn, h0, hg, hb⟩, hC⟩ := id hN
  have hb1 := net_b ha
  have hb2 := net_b hbn
  show V S (dep + 1) 57 0 [.ref a, .ref b] [] h _
  refine V_aload_n rfl rfl hb1 ?_
  refine V_aload_n rfl rfl hb2 ?_
  refine V_gi 0 rfl (net_sz hbn) rfl ?_
  refine V_pi 0 rfl (net_sz ha) rfl rfl ?_
  refine V_aload_n rfl rfl hb2 ?_
  refine V_getR rfl (net_nr hbn) ?_
  refine V_ic (v := nI 0) rfl rfl ?_
  refine V_aload_n rfl rfl hb1 ?_
  refine V_getR rfl (net_nr ha) ?_
  refine V_ic (v := nI 0) rfl rfl ?_
  refine V_bi (v := nI 7) rfl rfl ?_
  refine V_copy rfl (net_ar hbn) (net_ar ha) (by decide) (by decide) (by decide) (by decide) (by decide) rfl rfl ?_
  refine V_return rfl rfl ?_
  refine ⟨rfl, ⟨⟨ha, hn, ?_, ?_, hb⟩, hC⟩, (Fr.w (by simp)).tr (Fr.wr (by simp))⟩
  · rw [wA_oth (by omega), wI_same]; exact h0
  · intro v hv
    rw [wA_row, wI_oth (by omega)]
    show va_cpy _ _ (nI 0).toNatClampNeg (nI 0).toNatClampNeg (nI 7).toNatClampNeg v = _
    rw [show (nI 0).toNatClampNeg = 0 from rfl, show (nI 7).toNatClampNeg = 7 from rfl]
    unfold va_cpy
    rw [if_pos (by omega), show 0 + (v - 0) = v by omega]
    exact hg v hv
theorem code_step {n C b : Nat} (hn : n ≤ 7) (hb : b < n) : C % 2 ^ tri b ||| (rowOf n C b &&& (2 ^ b - 1)) <<< tri b = C % 2 ^ tri (b + 1) := by
  apply Nat.eq_of_testBit_eq
  intro i
  rw [Nat.testBit_or, Nat.testBit_mod_two_pow, Nat.testBit_mod_two_pow, Nat.testBit_shiftLeft, Nat.testBit_and, rowOf_tb, Nat.testBit_two_pow_sub_one, tri_succ]
  by_cases h1 : i < tri b
  · have : ¬ tri b ≤ i := by omega
    simp [h1, this, show i < tri b + b by omega]
  · by_cases h2 : i < tri b + b
    · have e : bt (i - tri b) b = i := by rw [bt_up (by omega)]; omega
      unfold adj
      rw [e]
      have e1 : i - tri b ≠ b := by omega
      simp [h1, h2, hb, show tri b ≤ i by omega, show i - tri b < n by omega, show i - tri b < b by omega, e1]
    · have : ¬ i - tri b < b := by omega
      simp [h1, h2, this]
theorem c_code {S : mScr} {dep a n C : Nat} {h : Hp} (hN : NC h a n C) : Cal S (dep + 1) 59 [.ref a] h (Rt (nI C) h) := by
  obtain ⟨⟨ha, hn, h0, hg, hb⟩, hC⟩ := id hN
  have hb1 := net_b ha
  have hC2 := hN.lt
  show V S (dep + 1) 59 0 [.ref a, .null, .null] [] h _
  refine V_ic (v := nI 0) rfl rfl ?_
  refine V_istore_n (L' := [_, _, _]) rfl rfl rfl ?_
  refine V_ic (v := nI 1) rfl rfl ?_
  refine V_istore_n (L' := [_, _, _]) rfl rfl rfl ?_
  -- at 4: .iload_n 2
  have lp := loopUp (P := fun b => 1 ≤ b → V S (dep + 1) 59 4 [.ref a, .int (nI (C % 2 ^ tri b)), .int (nI b)] [] h (Rt (nI C) h)) (max n 1) ?_ ?_ 1 (by omega) (Nat.le_refl _)
  · rw [show C % 2 ^ tri 1 = 0 by simp [tri, Nat.mod_one]] at lp
    exact lp
  · intro hb'
    refine V_iload_n rfl rfl ?_
    refine V_aload_n rfl rfl (by first | assumption | rfl) ?_
    refine V_gi 0 rfl (net_sz (by first | assumption | rfl)) rfl ?_
    -- at 9: .if_icmp .ge 29
    refine V_icmp_ge rfl (fun hd => ?_) (fun hd => ?_)
    · refine V_iload_n rfl rfl ?_
      -- at 39: .ireturn
      refine V_iret rfl rfl ?_
      apply Rt.of
      rcases Nat.eq_zero_or_pos n with q | q
      · subst q
        have : C = 0 := by simp [tri] at hC; omega
        subst this
        simp
      · rw [show max n 1 = n by omega, Nat.mod_eq_of_lt hC]
    · rw [h0] at hd
      exact absurd (nI_le (show n ≤ max n 1 by omega) (by omega)) hd
  · intro b hb' ih hb1'
    have hbn : b < n := by omega
    refine V_iload_n rfl rfl ?_
    refine V_aload_n rfl rfl (by first | assumption | rfl) ?_
    refine V_gi 0 rfl (net_sz (by first | assumption | rfl)) rfl ?_
    -- at 9: .if_icmp .ge 29
    refine V_icmp_ge rfl (fun hd => ?_) (fun hd => ?_)
    · rw [h0] at hd
      exact absurd hd (nI_ge hbn (by omega))
    · refine V_iload_n rfl rfl ?_
      refine V_aload_n rfl rfl (by first | assumption | rfl) ?_
      refine V_getR rfl (net_nr (by first | assumption | rfl)) ?_
      refine V_iload_n rfl rfl ?_
      refine V_al 7 rfl (net_ar (by first | assumption | rfl)) (by first | rfl | assumption) (by first | omega | assumption) rfl ?_
      refine V_ic (v := nI 1) rfl rfl ?_
      refine V_iload_n rfl rfl ?_
      refine V_ishl rfl ?_
      refine V_ic (v := nI 1) rfl rfl ?_
      refine V_isub rfl ?_
      refine V_iand rfl ?_
      refine V_iload_n rfl rfl ?_
      -- at 26: .invokestatic 32
      refine V_cS rfl rfl rfl rfl (c_fbo (by omega)) ?_
      have ht : tri b < 32 := by have := tri_le hn; have := tri_mono (show b ≤ n by omega); omega
      refine V_ishl rfl ?_
      refine V_ior rfl ?_
      refine V_istore_n (L' := [_, _, _]) rfl rfl rfl ?_
      refine V_iinc (L' := [_, _, _]) rfl rfl rfl ?_
      refine V_goto rfl ?_
      -- at 4: .iload_n 2
      refine V_L ?_ (ih (by omega))
      rw [hg b (by omega), nI_2p _ (by omega), nI_sub (Nat.two_pow_pos b), nI_and, nI_shl ht, nI_or, code_step hn hbn, nI_succ]; rfl
def inv (n C : Nat) : Nat := (2 ^ tri n - 1) ^^^ C
theorem inv_lt {n C : Nat} (hC : C < 2 ^ tri n) : inv n C < 2 ^ tri n := xor_lt (Nat.sub_lt (Nat.two_pow_pos _) (by decide)) hC
theorem adj_inv {n C u v : Nat} (hn : n ≤ 7) (hu : u < n) (hv : v < n) (huv : u ≠ v) : adj (inv n C) u v = !adj C u v := by
  unfold adj inv
  rw [Nat.testBit_xor, Nat.testBit_two_pow_sub_one]
  simp [huv, bt_lt' hn huv hu hv]
theorem inv_row {n C v : Nat} (hn : n ≤ 7) : rowOf n (inv n C) v = if v < n then (((2 ^ n - 1) ^^^ ((2 ^ n - 1) &&& rowOf n C v)) ^^^ ((((2 ^ n - 1) ^^^ ((2 ^ n - 1) &&& rowOf n C v))) &&& 2 ^ v)) else 0 := by
  by_cases hv : v < n
  · rw [if_pos hv]
    apply Nat.eq_of_testBit_eq
    intro u
    simp only [Nat.testBit_xor, Nat.testBit_and, Nat.testBit_two_pow_sub_one, tb2, rowOf_tb]
    by_cases hu : u < n
    · by_cases huv : v = u
      · subst huv; simp [hv, adj_self]
      · rw [adj_inv hn hu hv (fun q => huv q.symm)]
        simp [hv, hu, huv]
    · simp [hu]
  · rw [if_neg hv]
    unfold rowOf
    rw [if_neg hv]
theorem c_invert {S : mScr} {dep a b n C : Nat} {h : Hp} (hN : NC h b n C) (ha : isNet a = true) (hab1 : b + 1 ≠ a) (hab2 : a + 1 ≠ b) : Cal S (dep + 1) 67 [.ref a, .ref b] h (fun r h' => r = none ∧ NC h' a n (inv n C) ∧ Fr [a, a + 1] h h') := by
  obtain ⟨⟨hbn, hn, h0, hg, hb⟩, hC⟩ := id hN
  have hb1 := net_b ha
  have hb2 := net_b hbn
  show V S (dep + 1) 67 0 [.ref a, .ref b, .null, .null] [] h _
  refine V_aload_n rfl rfl hb2 ?_
  refine V_cV rfl rfl hbn rfl rfl (c_evn hN.1) ?_
  refine V_istore_n (L' := [_, _, _, _]) rfl rfl rfl ?_
  refine V_aload_n rfl rfl hb1 ?_
  refine V_aload_n rfl rfl hb2 ?_
  refine V_gi 0 rfl (net_sz hbn) rfl ?_
  refine V_pi 0 rfl (net_sz ha) rfl rfl ?_
  refine V_ic (v := nI 0) rfl rfl ?_
  refine V_istore_n (L' := [_, _, _, _]) rfl rfl rfl ?_
  -- at 15: .iload_n 3
  rw [h0]
  have lp := loopUp (P := fun j => ∀ h1, h1.1 a 0 = nI n → (∀ v, v < j → h1.1 (a + 1) v = nI (rowOf n (inv n C) v)) → (∀ v, j ≤ v → v < 7 → h1.1 (b + 1) v = nI (rowOf n C v)) → Fr [a, a + 1] h h1 → V S (dep + 1) 67 15 [.ref a, .ref b, .int (nI (2 ^ n - 1)), .int (nI j)] [] h1 (fun r h' => r = none ∧ NC h' a n (inv n C) ∧ Fr [a, a + 1] h h')) 7 ?_ ?_ 0 (Nat.zero_le _)
  · refine lp _ wI_same (fun v hv => by omega) (fun v _ hv => ?_) (Fr.w (by simp))
    rw [wI_ne (by omega)]; exact hg v hv
  · intro h1 g1 g2 g3 hF
    refine V_iload_n rfl rfl ?_
    refine V_bi (v := nI 7) rfl rfl ?_
    -- at 18: .if_icmp .ge 43
    refine V_icmp_ge rfl (fun hd => ?_) (fun hd => ?_)
    · refine V_return rfl rfl ?_
      exact ⟨rfl, ⟨⟨ha, hn, g1, g2, fun v => rowOf_lt hn⟩, inv_lt hC⟩, hF⟩
    · exact absurd (nI_le (Nat.le_refl 7) (by decide)) hd
  · intro j hj ih h1 g1 g2 g3 hF
    have step : ∀ x, x = nI (rowOf n (inv n C) j) → V S (dep + 1) 67 55 [.ref a, .ref b, .int (nI (2 ^ n - 1)), .int (nI j)] [] (wI h1 (a + 1) j x) (fun r h' => r = none ∧ NC h' a n (inv n C) ∧ Fr [a, a + 1] h h') := by
      intro x hx
      refine V_iinc (L' := [_, _, _, _]) rfl rfl rfl ?_
      refine V_goto rfl ?_
      -- at 15: .iload_n 3
      rw [show Int32.ofInt 1 = nI 1 from rfl, nI_add]
      refine ih _ (by rw [wI_ne (by omega)]; exact g1) (fun v hv => ?_) (fun v hv hv7 => ?_) (hF.tr (Fr.w (by simp)))
      · by_cases hv2 : v = j
        · subst hv2; rw [wI_same]; exact hx
        · rw [wI_ne (by omega)]; exact g2 v (by omega)
      · rw [wI_ne (by omega)]; exact g3 v (by omega) hv7
    refine V_iload_n rfl rfl ?_
    refine V_bi (v := nI 7) rfl rfl ?_
    -- at 18: .if_icmp .ge 43
    refine V_icmp_ge rfl (fun hd => ?_) (fun hd => ?_)
    · exact absurd hd (nI_ge hj (by decide))
    · refine V_aload_n rfl rfl hb1 ?_
      refine V_getR rfl (net_nr ha) ?_
      refine V_iload_n rfl rfl ?_
      refine V_iload_n rfl rfl ?_
      refine V_aload_n rfl rfl hb1 ?_
      refine V_gi 0 rfl (net_sz ha) rfl ?_
      refine V_icmp_ge rfl (fun he => ?_) (fun he => ?_)
      · rw [g1] at he
        have he : n ≤ j := (nI_leI (by omega) (by omega)).mp he
        refine V_ic (v := nI 0) rfl rfl ?_
        -- at 54: .iastore
        refine V_as 7 rfl (net_ar ha) rfl hj rfl ?_
        refine step _ ?_
        rw [inv_row hn, if_neg (by omega)]
      · rw [g1] at he
        have he : j < n := by
          rcases Nat.lt_or_ge j n with q | q
          · exact q
          · exact absurd (nI_le q (by omega)) he
        refine V_iload_n rfl rfl ?_
        refine V_aload_n rfl rfl hb2 ?_
        refine V_getR rfl (net_nr hbn) ?_
        refine V_iload_n rfl rfl ?_
        refine V_al 7 rfl (net_ar hbn) rfl hj rfl ?_
        refine V_ic (v := -1) rfl rfl ?_
        refine V_ixor rfl ?_
        refine V_iand rfl ?_
        refine V_ic (v := nI 1) rfl rfl ?_
        refine V_iload_n rfl rfl ?_
        refine V_ishl rfl ?_
        refine V_ic (v := -1) rfl rfl ?_
        refine V_ixor rfl ?_
        refine V_iand rfl ?_
        refine V_goto rfl ?_
        -- at 54: .iastore
        refine V_as 7 rfl (net_ar ha) rfl hj rfl ?_
        refine step _ ?_
        rw [g3 j (Nat.le_refl j) hj, nI_andn, nI_2p _ (by omega), nI_andn, inv_row hn, if_pos he]
