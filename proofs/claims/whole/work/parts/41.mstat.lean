/-! the reference: sets of nodes, pieces, parts -/
theorem lg_lt {x y : Int64} : lg_cmp x y < 0 ↔ x.toInt < y.toInt := by
  unfold lg_cmp
  rw [Int64.lt_iff_toInt_lt.symm]
  by_cases h : x > y
  · rw [if_pos h]
    refine ⟨fun q => absurd q (by decide), fun q => ?_⟩
    rw [Int64.lt_iff_toInt_lt] at q
    have := Int64.lt_iff_toInt_lt.mp h
    omega
  · rw [if_neg h]
    by_cases e : x = y
    · rw [if_pos e, e]
      refine ⟨fun q => absurd q (by decide), fun q => absurd q (by rw [Int64.lt_iff_toInt_lt]; omega)⟩
    · rw [if_neg e]
      refine ⟨fun _ => ?_, fun _ => by decide⟩
      rw [Int64.lt_iff_toInt_lt]
      have h1 : ¬ y.toInt < x.toInt := fun q => h (Int64.lt_iff_toInt_lt.mpr q)
      have h2 : x.toInt ≠ y.toInt := fun q => e (Int64.toInt_inj.mp q)
      omega
theorem lg_gt {x y : Int64} : 0 < lg_cmp x y ↔ y.toInt < x.toInt := by
  unfold lg_cmp
  by_cases h : x > y
  · rw [if_pos h]
    exact ⟨fun _ => Int64.lt_iff_toInt_lt.mp h, fun _ => by decide⟩
  · rw [if_neg h]
    have h1 : ¬ y.toInt < x.toInt := fun q => h (Int64.lt_iff_toInt_lt.mpr q)
    refine ⟨fun q => ?_, fun q => absurd q h1⟩
    by_cases e : x = y
    · rw [if_pos e] at q; exact absurd q (by decide)
    · rw [if_neg e] at q; exact absurd q (by decide)
theorem m_isIn {S : mScr} {dep : Nat} {x y z : Int64} {h : Hp} : Cal S dep 165 [.long x, .long y, .long z] h (Rt (bI (decide (y.toInt ≤ x.toInt ∧ x.toInt ≤ z.toInt))) h) := by
  show V S dep 165 0 [.long x, .null, .long y, .null, .long z, .null] [] h _
  refine V_lload_n rfl rfl ?_
  refine V_lload_n rfl rfl ?_
  refine V_lcmp rfl ?_
  -- at 3: .ifCond .lt 14
  refine V_if_lt rfl (fun hc => ?_) (fun hc => ?_)
  · have hc := lg_lt.mp hc
    refine V_ic (v := nI 0) rfl rfl ?_
    -- at 18: .ireturn
    refine V_zret rfl rfl (by first | exact Or.inl rfl | exact Or.inr rfl | assumption) ?_
    exact Rt.of (by rw [decide_eq_false (by omega)]; rfl)
  · have hc : ¬ x.toInt < y.toInt := fun q => hc (lg_lt.mpr q)
    refine V_lload_n rfl rfl ?_
    refine V_lload rfl rfl ?_
    refine V_lcmp rfl ?_
    -- at 10: .ifCond .gt 7
    refine V_if_gt rfl (fun hd => ?_) (fun hd => ?_)
    · have hd := lg_gt.mp hd
      refine V_ic (v := nI 0) rfl rfl ?_
      -- at 18: .ireturn
      refine V_zret rfl rfl (by first | exact Or.inl rfl | exact Or.inr rfl | assumption) ?_
      exact Rt.of (by rw [decide_eq_false (by omega)]; rfl)
    · have hd : ¬ z.toInt < x.toInt := fun q => hd (lg_gt.mpr q)
      refine V_ic (v := nI 1) rfl rfl ?_
      refine V_goto rfl ?_
      -- at 18: .ireturn
      refine V_zret rfl rfl (by first | exact Or.inl rfl | exact Or.inr rfl | assumption) ?_
      exact Rt.of (by rw [decide_eq_true (by omega)]; rfl)
theorem rk_succ (s v : Nat) : rk s (v + 1) = rk s v + if s.testBit v = true then 1 else 0 := by
  unfold rk
  rw [cnt]
theorem wth_lt' {n C s : Nat} (hn : n ≤ 7) : wth n C s < 2 ^ 21 := Nat.lt_of_lt_of_le (wth_lt n C s) (Nat.pow_le_pow_right (by decide) (tri_le (Nat.le_trans (rk_le s n) hn)))
theorem m_wth {S : mScr} {dep n C s : Nat} {h : Hp} (hn : n ≤ 7) (hC : C < 2 ^ 21) (hs : s < 128) : Cal S (dep + 2) 173 [.int (nI n), .int (nI C), .int (nI s)] h (Rt (nI (wth n C s)) h) := by
  show V S (dep + 2) 173 0 [.int (nI n), .int (nI C), .int (nI s), .null, .null, .null, .null, .null] [] h _
  refine V_ic (v := nI 0) rfl rfl ?_
  refine V_istore_n (L' := [_, _, _, _, _, _, _, _]) rfl rfl rfl ?_
  refine V_ic (v := nI 0) rfl rfl ?_
  refine V_istore (L' := [_, _, _, _, _, _, _, _]) rfl rfl rfl ?_
  refine V_ic (v := nI 0) rfl rfl ?_
  refine V_istore (L' := [_, _, _, _, _, _, _, _]) rfl rfl rfl ?_
  -- at 8: .iload 5
  have lp := loopUp (P := fun b => ∀ v6 v7, V S (dep + 2) 173 8 [.int (nI n), .int (nI C), .int (nI s), .int (nI (wth b C s)), .int (nI (rk s b)), .int (nI b), v6, v7] [] h (Rt (nI (wth n C s)) h)) n ?_ ?_ 0 (Nat.zero_le _)
  · have e : wth 0 C s = 0 := by unfold wth; rw [show rk s 0 = 0 from rfl]; rfl
    rw [e] at lp
    exact lp _ _
  · intro v6 v7
    refine V_iload rfl rfl ?_
    refine V_iload_n rfl rfl ?_
    -- at 11: .if_icmp .ge 81
    refine V_icmp_ge rfl (fun hc => ?_) (fun hc => ?_)
    · refine V_iload_n rfl rfl ?_
      -- at 93: .ireturn
      refine V_iret rfl rfl ?_
      exact Rt.rf
    · exact absurd (nI_le (Nat.le_refl _) (by omega)) hc
  · intro b hb ih v6 v7
    have hw := wth_lt b C s
    have hrb := rk_le s b
    refine V_iload rfl rfl ?_
    refine V_iload_n rfl rfl ?_
    -- at 11: .if_icmp .ge 81
    refine V_icmp_ge rfl (fun hc => ?_) (fun hc => ?_)
    · exact absurd hc (nI_ge hb (by omega))
    · refine V_iload_n rfl rfl ?_
      refine V_iload rfl rfl ?_
      refine V_ishr rfl ?_
      refine V_ic (v := nI 1) rfl rfl ?_
      refine V_iand rfl ?_
      -- at 20: .ifCond .ne 6
      refine V_if_ne rfl (fun hd => ?_) (fun hd => ?_)
      · have hd := (tb_nz (by omega) (by omega)).mp hd
        refine V_ic (v := nI 0) rfl rfl ?_
        refine V_istore (L' := [_, _, _, _, _, _, _, _]) rfl rfl rfl ?_
        refine V_ic (v := nI 0) rfl rfl ?_
        refine V_istore (L' := [_, _, _, _, _, _, _, _]) rfl rfl rfl ?_
        -- at 32: .iload 7
        have hBl : ∀ a, a ≤ b → wth b C s + bsum (fun x => adj C (sel s x) b) (rk s a) * 2 ^ tri (rk s b) < 2 ^ (tri (rk s b) + rk s a) := by
          intro a ha
          have h1 := bsum_lt (fun x => adj C (sel s x) b) (rk s a)
          rw [Nat.pow_add]
          have : 2 ^ tri (rk s b) * (bsum (fun x => adj C (sel s x) b) (rk s a) + 1) ≤ 2 ^ tri (rk s b) * 2 ^ rk s a := Nat.mul_le_mul_left _ h1
          rw [Nat.mul_add, Nat.mul_one] at this
          rw [Nat.mul_comm (bsum _ _)]
          omega
        have lq := loopUp (P := fun a => V S (dep + 2) 173 32 [.int (nI n), .int (nI C), .int (nI s), .int (nI (wth b C s + bsum (fun x => adj C (sel s x) b) (rk s a) * 2 ^ tri (rk s b))), .int (nI (rk s b)), .int (nI b), .int (nI (rk s a)), .int (nI a)] [] h (Rt (nI (wth n C s)) h)) b ?_ ?_ 0 (Nat.zero_le _)
        · rw [show rk s 0 = 0 from rfl, show bsum (fun x => adj C (sel s x) b) 0 = 0 from rfl, Nat.zero_mul, Nat.add_zero] at lq
          exact lq
        · refine V_iload rfl rfl ?_
          refine V_iload rfl rfl ?_
          -- at 36: .if_icmp .ge 47
          refine V_icmp_ge rfl (fun he => ?_) (fun he => ?_)
          · refine V_iinc (L' := [_, _, _, _, _, _, _, _]) rfl rfl rfl ?_
            refine V_iinc (L' := [_, _, _, _, _, _, _, _]) rfl rfl rfl ?_
            refine V_goto rfl ?_
            -- at 8: .iload 5
            rw [show Int32.ofInt 1 = nI 1 from rfl, nI_add, nI_add]
            have e1 : rk s (b + 1) = rk s b + 1 := by rw [rk_succ, if_pos hd]
            have e2 : wth (b + 1) C s = wth b C s + bsum (fun x => adj C (sel s x) b) (rk s b) * 2 ^ tri (rk s b) := by
              unfold wth
              rw [e1, codeOf_succ (by omega), sel_rk hs (by omega) hd]
            rw [← e1, ← e2]
            exact ih _ _
          · exact absurd (nI_le (Nat.le_refl _) (by omega)) he
        · intro a ha ih2
          have hra := rk_le s a
          have hbl := hBl a (by omega)
          refine V_iload rfl rfl ?_
          refine V_iload rfl rfl ?_
          -- at 36: .if_icmp .ge 47
          refine V_icmp_ge rfl (fun he => ?_) (fun he => ?_)
          · exact absurd he (nI_ge ha (by omega))
          · refine V_iload_n rfl rfl ?_
            refine V_iload rfl rfl ?_
            refine V_ishr rfl ?_
            refine V_ic (v := nI 1) rfl rfl ?_
            refine V_iand rfl ?_
            -- at 45: .ifCond .ne 6
            refine V_if_ne rfl (fun hf => ?_) (fun hf => ?_)
            · have hf := (tb_nz (by omega) (by omega)).mp hf
              have hlt := rk_lt ha hf
              have e1 : rk s (a + 1) = rk s a + 1 := by rw [rk_succ, if_pos hf]
              rw [e1, bsum_succ, sel_rk hs (by omega) hf] at ih2
              refine V_iload_n rfl rfl ?_
              refine V_iload rfl rfl ?_
              refine V_iload rfl rfl ?_
              -- at 56: .invokestatic 95
              refine V_cS rfl rfl rfl rfl (m_aj (by omega) (by omega) (by omega)) ?_
              refine V_if_eq rfl (fun hj => ?_) (fun hj => ?_)
              · have hj := bI_z.mp hj
                rw [hj, if_neg (by simp), Nat.add_zero] at ih2
                refine V_iinc (L' := [_, _, _, _, _, _, _, _]) rfl rfl rfl ?_
                refine V_iinc (L' := [_, _, _, _, _, _, _, _]) rfl rfl rfl ?_
                refine V_goto rfl ?_
                -- at 32: .iload 7
                rw [show Int32.ofInt 1 = nI 1 from rfl, nI_add, nI_add]
                exact ih2
              · have hj := bI_nz.mp hj
                rw [hj, if_pos rfl] at ih2
                refine V_iload_n rfl rfl ?_
                refine V_ic (v := nI 1) rfl rfl ?_
                refine V_iload rfl rfl ?_
                refine V_iload rfl rfl ?_
                -- at 68: .invokestatic 79
                refine V_cS rfl rfl rfl rfl (m_bit (by omega) (by omega) (by omega)) ?_
                have hb31 : bt (rk s a) (rk s b) < 31 := by
                  have := bt_lt' (n := 7) (by decide) (show rk s a ≠ rk s b by omega) (by omega) (by omega)
                  have h7 : tri 7 = 21 := rfl
                  omega
                refine V_ishl rfl ?_
                refine V_ior rfl ?_
                -- at 73: .istore_n 3
                rw [nI_2p _ hb31, nI_or]
                refine V_istore_n (L' := [_, _, _, _, _, _, _, _]) rfl rfl rfl ?_
                refine V_iinc (L' := [_, _, _, _, _, _, _, _]) rfl rfl rfl ?_
                refine V_iinc (L' := [_, _, _, _, _, _, _, _]) rfl rfl rfl ?_
                refine V_goto rfl ?_
                -- at 32: .iload 7
                rw [show Int32.ofInt 1 = nI 1 from rfl, nI_add, nI_add]
                rw [bt_up hlt, show (2 : Nat) ^ (tri (rk s b) + rk s a) = 1 <<< (tri (rk s b) + rk s a) by rw [Nat.shiftLeft_eq, Nat.one_mul], or_add hbl, Nat.one_mul]
                rw [Nat.add_mul, ← Nat.pow_add, Nat.add_comm (rk s a) (tri (rk s b)), ← Nat.add_assoc] at ih2
                exact ih2
            · have hf : s.testBit a = false := (tb_z (by omega) (by omega)).mp (Decidable.of_not_not hf)
              have e1 : rk s (a + 1) = rk s a := by rw [rk_succ, hf]; rfl
              rw [e1] at ih2
              refine V_goto rfl ?_
              refine V_iinc (L' := [_, _, _, _, _, _, _, _]) rfl rfl rfl ?_
              refine V_goto rfl ?_
              -- at 32: .iload 7
              rw [show Int32.ofInt 1 = nI 1 from rfl, nI_add]
              exact ih2
      · have hd : s.testBit b = false := (tb_z (by omega) (by omega)).mp (Decidable.of_not_not hd)
        have e1 : rk s (b + 1) = rk s b := by rw [rk_succ, hd]; rfl
        have e2 : wth (b + 1) C s = wth b C s := by unfold wth; rw [e1]
        rw [e1, e2] at ih
        refine V_goto rfl ?_
        refine V_iinc (L' := [_, _, _, _, _, _, _, _]) rfl rfl rfl ?_
        refine V_goto rfl ?_
        -- at 8: .iload 5
        rw [show Int32.ofInt 1 = nI 1 from rfl, nI_add]
        exact ih _ _
/-- all nodes but one -/
def cset (n v : Nat) : Nat := (2 ^ n - 1) ^^^ ((2 ^ n - 1) &&& 2 ^ v)
theorem cset_tb {n v u : Nat} : (cset n v).testBit u = (decide (u < n) && decide (u ≠ v)) := by
  unfold cset
  rw [tb_sub, Nat.testBit_two_pow_sub_one]
theorem cset_lt {n v : Nat} (hn : n ≤ 7) : cset n v < 128 := by
  have : (2 : Nat) ^ n - 1 < 2 ^ 7 := by
    have : (2 : Nat) ^ n ≤ 2 ^ 7 := Nat.pow_le_pow_right (by decide) hn
    have : 0 < (2 : Nat) ^ n := Nat.two_pow_pos n
    omega
  exact Nat.xor_lt_two_pow (n := 7) this (Nat.lt_of_le_of_lt Nat.and_le_left this)
theorem cset_rk {n v : Nat} (hv : v < n) : rk (cset n v) n = n - 1 := by
  unfold rk
  have h1 := cnt_del (A := fun _ => true) hv rfl
  rw [cnt_true] at h1
  rw [cnt_ext (q := fun w => true && decide (w ≠ v)) (fun i hi => by rw [cset_tb, decide_eq_true hi])]
  omega
def wot (n C v : Nat) : Nat := wth n C (cset n v)
theorem wot_lt {n C v : Nat} (hv : v < n) : wot n C v < 2 ^ tri (n - 1) := by
  have := wth_lt n C (cset n v)
  rw [cset_rk hv] at this
  exact this
theorem m_wot {S : mScr} {dep n C v : Nat} {h : Hp} (hn : n ≤ 7) (hC : C < 2 ^ 21) (hv : v < n) : Cal S (dep + 3) 174 [.int (nI n), .int (nI C), .int (nI v)] h (Rt (nI (wot n C v)) h) := by
  show V S (dep + 3) 174 0 [.int (nI n), .int (nI C), .int (nI v)] [] h _
  refine V_iload_n rfl rfl ?_
  refine V_iload_n rfl rfl ?_
  refine V_ic (v := nI 1) rfl rfl ?_
  refine V_iload_n rfl rfl ?_
  refine V_ishl rfl ?_
  refine V_ic (v := nI 1) rfl rfl ?_
  refine V_isub rfl ?_
  -- at 7: .iconst 1
  rw [nI_2p _ (by omega), nI_sub (Nat.two_pow_pos n)]
  refine V_ic (v := nI 1) rfl rfl ?_
  refine V_iload_n rfl rfl ?_
  refine V_ishl rfl ?_
  refine V_ic (v := -1) rfl rfl ?_
  refine V_ixor rfl ?_
  refine V_iand rfl ?_
  -- at 13: .invokestatic 108
  rw [nI_2p _ (by omega), nI_andn]
  refine V_cS rfl rfl rfl rfl (m_wth hn hC (cset_lt hn)) ?_
  refine V_iret rfl rfl ?_
  exact Rt.rf
def mnr (n C v : Nat) : Nat := bsum (fun u => adj C u v) n
theorem mnr_row {n C v : Nat} (hv : v < n) : mnr n C v = rowOf n C v := by unfold mnr rowOf; rw [if_pos hv]
theorem mnr_lt {n C v : Nat} (hn : n ≤ 7) : mnr n C v < 128 := Nat.lt_of_lt_of_le (bsum_lt _ _) (Nat.pow_le_pow_right (n := 2) (j := 7) (by decide) hn)
theorem m_near {S : mScr} {dep n C v : Nat} {h : Hp} (hn : n ≤ 7) (hC : C < 2 ^ 21) (hv : v < 7) : Cal S (dep + 2) 175 [.int (nI n), .int (nI C), .int (nI v)] h (Rt (nI (mnr n C v)) h) := by
  show V S (dep + 2) 175 0 [.int (nI n), .int (nI C), .int (nI v), .null, .null] [] h _
  refine V_ic (v := nI 0) rfl rfl ?_
  refine V_istore_n (L' := [_, _, _, _, _]) rfl rfl rfl ?_
  refine V_ic (v := nI 0) rfl rfl ?_
  refine V_istore (L' := [_, _, _, _, _]) rfl rfl rfl ?_
  -- at 5: .iload 4
  have lp := loopUp (P := fun u => V S (dep + 2) 175 5 [.int (nI n), .int (nI C), .int (nI v), .int (nI (bsum (fun u => adj C u v) u)), .int (nI u)] [] h (Rt (nI (mnr n C v)) h)) n ?_ ?_ 0 (Nat.zero_le _)
  · exact lp
  · refine V_iload rfl rfl ?_
    refine V_iload_n rfl rfl ?_
    -- at 8: .if_icmp .ge 30
    refine V_icmp_ge rfl (fun hc => ?_) (fun hc => ?_)
    · refine V_iload_n rfl rfl ?_
      -- at 39: .ireturn
      refine V_iret rfl rfl ?_
      exact Rt.rf
    · exact absurd (nI_le (Nat.le_refl _) (by omega)) hc
  · intro u hu ih
    rw [bsum] at ih
    refine V_iload rfl rfl ?_
    refine V_iload_n rfl rfl ?_
    -- at 8: .if_icmp .ge 30
    refine V_icmp_ge rfl (fun hc => ?_) (fun hc => ?_)
    · exact absurd hc (nI_ge hu (by omega))
    · refine V_iload_n rfl rfl ?_
      refine V_iload_n rfl rfl ?_
      refine V_iload rfl rfl ?_
      refine V_iload_n rfl rfl ?_
      -- at 16: .invokestatic 95
      refine V_cS rfl rfl rfl rfl (m_aj (by omega) (by omega) (by omega)) ?_
      refine V_if_eq rfl (fun hd => ?_) (fun hd => ?_)
      · have hd := bI_z.mp hd
        rw [hd] at ih
        refine V_ic (v := nI 0) rfl rfl ?_
        refine V_ior rfl ?_
        -- at 31: .istore_n 3
        rw [nI_or, Nat.or_zero]
        refine V_istore_n (L' := [_, _, _, _, _]) rfl rfl rfl ?_
        refine V_iinc (L' := [_, _, _, _, _]) rfl rfl rfl ?_
        refine V_goto rfl ?_
        -- at 5: .iload 4
        rw [show Int32.ofInt 1 = nI 1 from rfl, nI_add]
        exact ih
      · have hd := bI_nz.mp hd
        rw [hd] at ih
        refine V_ic (v := nI 1) rfl rfl ?_
        refine V_iload rfl rfl ?_
        refine V_ishl rfl ?_
        -- at 26: .goto 4
        rw [nI_2p _ (by omega)]
        refine V_goto rfl ?_
        refine V_ior rfl ?_
        -- at 31: .istore_n 3
        rw [nI_or]
        refine V_istore_n (L' := [_, _, _, _, _]) rfl rfl rfl ?_
        refine V_iinc (L' := [_, _, _, _, _]) rfl rfl rfl ?_
        refine V_goto rfl ?_
        -- at 5: .iload 4
        rw [show Int32.ofInt 1 = nI 1 from rfl, nI_add]
        exact ih
