/-! rings, as the reference looks for them; classes -/
def gr (n C : Nat) : Nat → Nat → Nat → Prop
  | 0, a, _ => adj C a 0 = true
  | r + 1, a, T => ∃ v, v ≠ 0 ∧ v < n ∧ T.testBit v = false ∧ adj C a v = true ∧ gr n C r v (T ||| 2 ^ v)
theorem pop_or1 {T v : Nat} (h : T.testBit v = false) (hv : v < 24) : pop (T ||| 2 ^ v) = pop T + 1 := by
  unfold pop
  rw [cnt_del (a := v) hv (by rw [Nat.testBit_or, tb2]; simp)]
  congr 1
  refine cnt_ext (fun i hi => ?_)
  rw [Nat.testBit_or, tb2]
  by_cases q : v = i
  · subst q; rw [h]; simp
  · have : i ≠ v := fun z => q z.symm
    simp [q, this]
theorem pop_fl {T n : Nat} (hT : T < 2 ^ n) (hn : n ≤ 7) (h : pop T = n) : T = 2 ^ n - 1 := by
  rw [pop_eq hT (by omega)] at h
  have hf := cnt_full (p := T.testBit) (n := n) (by omega)
  apply Nat.eq_of_testBit_eq
  intro i
  rw [Nat.testBit_two_pow_sub_one, Bool.eq_iff_iff, decide_eq_true_eq]
  exact ⟨tb_lt hT, hf i⟩
theorem gr_A {n C : Nat} (hn : n ≤ 7) : ∀ r a T, RE (rowOf n C) n T a → gr n C r a T → pop T + r = n → T < 2 ^ n → a < n → 1 ≤ n → ∃ v, RE (rowOf n C) n (2 ^ n - 1) v ∧ (rowOf n C 0).testBit v = true := by
  intro r
  induction r with
  | zero =>
    intro a T h1 h2 h3 h4 h5 h6
    have := pop_fl h4 hn (by omega)
    subst this
    refine ⟨a, h1, ?_⟩
    rw [rowOf_tb, decide_eq_true (show 0 < n by omega), decide_eq_true h5]
    exact h2
  | succ r ih =>
    rintro a T h1 ⟨v, hv0, hvn, hvT, had, hg⟩ h3 h4 h5 h6
    refine ih v (T ||| 2 ^ v) (RE_step.mpr (Or.inr ⟨hvn, hv0, by rw [Nat.testBit_or, tb2]; simp, a, h5, by rw [xor_or hvT]; exact h1, ?_⟩)) hg (by rw [pop_or1 hvT (by omega)]; omega) (Nat.or_lt_two_pow h4 (Nat.pow_lt_pow_right (by decide) hvn)) hvn h6
    rw [rowOf_tb, decide_eq_true h5, decide_eq_true hvn, adj_comm]
    exact had
theorem gr_B {n C : Nat} (hn : n ≤ 7) : ∀ k T u r, re (rowOf n C) n k T u → gr n C r u T → pop T + r = n → gr n C (n - 1) 0 1 := by
  intro k
  induction k with
  | zero =>
    rintro T u r ⟨rfl, rfl⟩ h2 h3
    have : pop 1 = 1 := by decide
    rw [show n - 1 = r by omega]
    exact h2
  | succ k ih =>
    rintro T u r ⟨h1, h2, h3, e, h4, h5, h6⟩ hg hp
    have hT := or_xor h3
    have hf : (T ^^^ 2 ^ u).testBit u = false := by rw [xor_tb, h3]; simp
    refine ih (T ^^^ 2 ^ u) e (r + 1) h5 ⟨u, h2, h1, hf, ?_, by rw [hT]; exact hg⟩ ?_
    · rw [rowOf_tb, decide_eq_true h4, decide_eq_true h1, adj_comm] at h6
      exact h6
    · have := pop_or1 hf (by omega)
      rw [hT] at this
      omega
theorem gr_rng {n C : Nat} (hn : n ≤ 7) (h3 : 3 ≤ n) : rng n C = true ↔ gr n C (n - 1) 0 1 := by
  unfold rng
  rw [decide_eq_true h3, Bool.true_and, @decide_eq_true_iff _ (Classical.propDecidable _)]
  have hp1 : pop 1 = 1 := by decide
  constructor
  · rintro ⟨v, ⟨k, hk⟩, hv⟩
    have hfu : pop (2 ^ n - 1) = n := pop_full hn
    refine gr_B hn k _ v 0 hk ?_ (by omega)
    rw [rowOf_tb, Bool.and_eq_true] at hv
    exact hv.2
  · intro h
    exact gr_A hn (n - 1) 0 1 ⟨0, rfl, rfl⟩ h (by omega) (Nat.one_lt_two_pow (by omega)) (by omega) (by omega)
theorem m_gr {S : mScr} {n C : Nat} {h : Hp} (hn : n ≤ 7) (hC : C < 2 ^ 21) : ∀ (r D a T : Nat), pop T + r = n → T < 2 ^ n → a < n → r + 2 ≤ D → Cal S D 231 [.int (nI n), .int (nI C), .int (nI a), .int (nI T)] h (fun q h' => h' = h ∧ ∃ b : Bool, q = some (.int (bI b)) ∧ (b = true ↔ gr n C r a T)) := by
  have hL : (2 : Nat) ^ n ≤ 128 := Nat.pow_le_pow_right (n := 2) (j := 7) (by decide) hn
  have h2p := Nat.two_pow_pos n
  intro r
  induction r with
  | zero =>
    intro D a T hp hT ha hD
    obtain ⟨d, rfl⟩ : ∃ d, D = d + 1 + 1 := ⟨D - 2, by omega⟩
    have := pop_fl hT hn (by omega)
    subst this
    show V S (d + 1 + 1) 231 0 [.int (nI n), .int (nI C), .int (nI a), .int (nI (2 ^ n - 1)), .null] [] h _
    refine V_iload_n rfl rfl ?_
    refine V_ic (v := nI 1) rfl rfl ?_
    refine V_iload_n rfl rfl ?_
    refine V_ishl rfl ?_
    refine V_ic (v := nI 1) rfl rfl ?_
    refine V_isub rfl ?_
    -- at 6: .if_icmp .ne 10
    rw [nI_2p _ (by omega), nI_sub (Nat.two_pow_pos n)]
    refine V_icmp_ne rfl (fun hc => ?_) (fun hc => ?_)
    · exact absurd rfl hc
    · refine V_iload_n rfl rfl ?_
      refine V_iload_n rfl rfl ?_
      refine V_ic (v := nI 0) rfl rfl ?_
      -- at 12: .invokestatic 95
      refine V_cS rfl rfl rfl rfl (m_aj (by omega) (by omega) (by omega)) ?_
      have := bI_01 (adj C a 0)
      refine V_zret rfl rfl (by first | exact Or.inl rfl | exact Or.inr rfl | assumption) ?_
      exact ⟨rfl, _, rfl, Iff.rfl⟩
  | succ r ihr =>
    intro D a T hp hT ha hD
    obtain ⟨d, rfl⟩ : ∃ d, D = d + 1 + 1 := ⟨D - 2, by omega⟩
    show V S (d + 1 + 1) 231 0 [.int (nI n), .int (nI C), .int (nI a), .int (nI T), .null] [] h _
    refine V_iload_n rfl rfl ?_
    refine V_ic (v := nI 1) rfl rfl ?_
    refine V_iload_n rfl rfl ?_
    refine V_ishl rfl ?_
    refine V_ic (v := nI 1) rfl rfl ?_
    refine V_isub rfl ?_
    -- at 6: .if_icmp .ne 10
    rw [nI_2p _ (by omega), nI_sub (Nat.two_pow_pos n)]
    refine V_icmp_ne rfl (fun hc => ?_) (fun hc => ?_)
    · refine V_ic (v := nI 1) rfl rfl ?_
      refine V_istore (L' := [_, _, _, _, _]) rfl rfl rfl ?_
      -- at 19: .iload 4
      have hn1 : 1 ≤ n := by omega
      have lp := loopUp (P := fun v => 1 ≤ v → (∀ u, u ≠ 0 → u < v → T.testBit u = false → adj C a u = true → ¬ gr n C r u (T ||| 2 ^ u)) → V S (d + 1 + 1) 231 19 [.int (nI n), .int (nI C), .int (nI a), .int (nI T), .int (nI v)] [] h (fun q h' => h' = h ∧ ∃ b : Bool, q = some (.int (bI b)) ∧ (b = true ↔ gr n C (r + 1) a T))) n ?_ ?_ 1 hn1
      · exact lp (Nat.le_refl _) (fun u h1 h2 => by omega)
      · intro _ hall
        refine V_iload rfl rfl ?_
        refine V_iload_n rfl rfl ?_
        -- at 22: .if_icmp .ge 46
        refine V_icmp_ge rfl (fun hd => ?_) (fun hd => ?_)
        · refine V_ic (v := nI 0) rfl rfl ?_
          -- at 69: .ireturn
          refine V_zret rfl rfl (by first | exact Or.inl rfl | exact Or.inr rfl | assumption) ?_
          refine ⟨rfl, false, rfl, fun q => Bool.noConfusion q, ?_⟩
          rintro ⟨v, h1, h2, h3, h4, h5⟩
          exact absurd h5 (hall v h1 h2 h3 h4)
        · exact absurd (nI_le (Nat.le_refl _) (by omega)) hd
      · intro v hv ih hv1 hall
        have next : (T.testBit v = false → adj C a v = true → ¬ gr n C r v (T ||| 2 ^ v)) → V S (d + 1 + 1) 231 62 [.int (nI n), .int (nI C), .int (nI a), .int (nI T), .int (nI v)] [] h (fun q h' => h' = h ∧ ∃ b : Bool, q = some (.int (bI b)) ∧ (b = true ↔ gr n C (r + 1) a T)) := by
          intro hno
          refine V_iinc (L' := [_, _, _, _, _]) rfl rfl rfl ?_
          refine V_goto rfl ?_
          -- at 19: .iload 4
          rw [show Int32.ofInt 1 = nI 1 from rfl, nI_add]
          refine ih (by omega) (fun u h1 h2 h3 h4 => ?_)
          by_cases e : u = v
          · subst e; exact hno h3 h4
          · exact hall u h1 (by omega) h3 h4
        refine V_iload rfl rfl ?_
        refine V_iload_n rfl rfl ?_
        -- at 22: .if_icmp .ge 46
        refine V_icmp_ge rfl (fun hd => ?_) (fun hd => ?_)
        · exact absurd hd (nI_ge hv (by omega))
        · refine V_iload_n rfl rfl ?_
          refine V_iload rfl rfl ?_
          refine V_ishr rfl ?_
          refine V_ic (v := nI 1) rfl rfl ?_
          refine V_iand rfl ?_
          -- at 31: .ifCond .ne 31
          refine V_if_ne rfl (fun he => ?_) (fun he => ?_)
          · have he := (tb_nz (by omega) (by omega)).mp he
            exact next (fun q => by rw [he] at q; exact Bool.noConfusion q)
          · have he : T.testBit v = false := (tb_z (by omega) (by omega)).mp (Decidable.of_not_not he)
            refine V_iload_n rfl rfl ?_
            refine V_iload_n rfl rfl ?_
            refine V_iload rfl rfl ?_
            -- at 38: .invokestatic 95
            refine V_cS rfl rfl rfl rfl (m_aj (by omega) (by omega) (by omega)) ?_
            refine V_if_eq rfl (fun hf => ?_) (fun hf => ?_)
            · have hf := bI_z.mp hf
              exact next (fun _ q => by rw [hf] at q; exact Bool.noConfusion q)
            · have hf := bI_nz.mp hf
              refine V_iload_n rfl rfl ?_
              refine V_iload_n rfl rfl ?_
              refine V_iload rfl rfl ?_
              refine V_iload_n rfl rfl ?_
              refine V_ic (v := nI 1) rfl rfl ?_
              refine V_iload rfl rfl ?_
              refine V_ishl rfl ?_
              refine V_ior rfl ?_
              -- at 54: .invokestatic 294
              rw [nI_2p _ (by omega), nI_or]
              refine V_callS rfl rfl rfl rfl (ihr (d + 1) v (T ||| 2 ^ v) (by rw [pop_or1 he (by omega)]; omega) (Nat.or_lt_two_pow hT (Nat.pow_lt_pow_right (by decide) hv)) hv (by omega)) ?_
              rintro _ hz ⟨hz2, b, rfl, hbq⟩
              have hz3 := hz2.symm
              subst hz3
              refine V_if_eq rfl (fun hj => ?_) (fun hj => ?_)
              · have hj := bI_z.mp hj
                exact next (fun _ _ q => by have := hbq.mpr q; rw [hj] at this; exact Bool.noConfusion this)
              · have hj := bI_nz.mp hj
                refine V_ic (v := nI 1) rfl rfl ?_
                -- at 61: .ireturn
                refine V_zret rfl rfl (by first | exact Or.inl rfl | exact Or.inr rfl | assumption) ?_
                exact ⟨rfl, true, rfl, fun _ => ⟨v, by omega, hv, he, hf, hbq.mp hj⟩, fun _ => rfl⟩
    · have hc := nI_inj (by omega) (by omega) (Decidable.of_not_not hc)
      have hf : pop T = n := by rw [hc]; exact pop_full hn
      omega
noncomputable def isC (n C : Nat) : Nat → Bool
  | 0 => decide (pcN n C = 1)
  | 1 => ldg n C
  | 2 => decide (pcN n C = 1) && decide (pop C + 1 = n)
  | 3 => two n C
  | 4 => rng n C
  | _ => decide (frm n C = frm n (inv n C))
theorem isC_5 (n C : Nat) : isC n C 5 = decide (frm n C = frm n (inv n C)) := rfl
noncomputable def isK (n C j : Nat) : Bool := decide (1 ≤ n) && isC n C j
theorem pcN_le {n C : Nat} (hn : n ≤ 7) : pcN n C ≤ 7 := Nat.le_trans (pcs_lt (g := rowOf n C) (fun v => row128 hn) (n := n) n hn).2 hn
theorem inv_and {n C : Nat} (hC : C < 2 ^ tri n) : (2 ^ tri n - 1) ^^^ ((2 ^ tri n - 1) &&& C) = inv n C := by
  unfold inv
  congr 1
  rw [Nat.and_comm, Nat.and_two_pow_sub_one_eq_mod, Nat.mod_eq_of_lt hC]
theorem m_isK {S : mScr} {dep n C j : Nat} {h : Hp} (hn : n ≤ 7) (hC : C < 2 ^ tri n) (hj : j < 6) : Cal S (dep + 12) 232 [.ref 188, .int (nI n), .int (nI C), .int (nI j)] h (fun q h' => q = some (.int (bI (isK n C j))) ∧ MF [6, 7] [192, 193] h h') := by
  have hC21 := c21 hn hC
  have hpl := pcN_le (C := C) hn
  show V S (dep + 12) 232 0 [.ref 188, .int (nI n), .int (nI C), .int (nI j)] [] h _
  refine V_iload_n rfl rfl ?_
  -- at 1: .ifCond .ne 5
  refine V_if_ne rfl (fun hc => ?_) (fun hc => ?_)
  · have hn1 : 1 ≤ n := by
      rcases Nat.eq_zero_or_pos n with e | e
      · subst e; exact absurd rfl hc
      · exact e
    have ek : isK n C j = isC n C j := by unfold isK; rw [decide_eq_true hn1]; rfl
    rw [ek]
    refine V_iload_n rfl rfl ?_
    -- at 7: .tableswitch 106 0 4 #[33, 48, 54, 79, 85]
    rcases (by omega : j = 0 ∨ j = 1 ∨ j = 2 ∨ j = 3 ∨ j = 4 ∨ j = 5) with rfl | rfl | rfl | rfl | rfl | rfl
    · refine V_tabI (t := 40) rfl 0 (by decide) (by decide) rfl ?_
      refine V_iload_n rfl rfl ?_
      refine V_iload_n rfl rfl ?_
      -- at 42: .invokestatic 260
      refine V_cS rfl rfl rfl rfl (m_pieces hn hC21) ?_
      refine V_ic (v := nI 1) rfl rfl ?_
      -- at 46: .if_icmp .ne 7
      refine V_icmp_ne rfl (fun hd => ?_) (fun hd => ?_)
      · refine V_ic (v := nI 0) rfl rfl ?_
        -- at 54: .ireturn
        refine V_zret rfl rfl (by first | exact Or.inl rfl | exact Or.inr rfl | assumption) ?_
        exact ⟨by rw [isC, decide_eq_false (fun q => hd (by rw [q]))]; rfl, MF.rf⟩
      · have hd := nI_inj (by omega) (by omega) (Decidable.of_not_not hd)
        refine V_ic (v := nI 1) rfl rfl ?_
        refine V_goto rfl ?_
        -- at 54: .ireturn
        refine V_zret rfl rfl (by first | exact Or.inl rfl | exact Or.inr rfl | assumption) ?_
        exact ⟨by rw [isC, decide_eq_true hd]; rfl, MF.rf⟩
    · refine V_tabI (t := 55) rfl 1 (by decide) (by decide) rfl ?_
      refine V_iload_n rfl rfl ?_
      refine V_iload_n rfl rfl ?_
      -- at 57: .invokestatic 298
      refine V_cS rfl rfl rfl rfl (m_ldg hn hC21 hn1) ?_
      have := bI_01 (ldg n C)
      refine V_zret rfl rfl (by first | exact Or.inl rfl | exact Or.inr rfl | assumption) ?_
      exact ⟨rfl, MF.rf⟩
    · refine V_tabI (t := 61) rfl 2 (by decide) (by decide) rfl ?_
      refine V_iload_n rfl rfl ?_
      refine V_iload_n rfl rfl ?_
      -- at 63: .invokestatic 260
      refine V_cS rfl rfl rfl rfl (m_pieces hn hC21) ?_
      refine V_ic (v := nI 1) rfl rfl ?_
      -- at 67: .if_icmp .ne 17
      refine V_icmp_ne rfl (fun hd => ?_) (fun hd => ?_)
      · refine V_ic (v := nI 0) rfl rfl ?_
        -- at 85: .ireturn
        refine V_zret rfl rfl (by first | exact Or.inl rfl | exact Or.inr rfl | assumption) ?_
        exact ⟨by rw [isC, decide_eq_false (fun q => hd (by rw [q]))]; rfl, MF.rf⟩
      · have hd := nI_inj (by omega) (by omega) (Decidable.of_not_not hd)
        refine V_iload_n rfl rfl ?_
        -- at 71: .invokestatic 232
        refine V_cS rfl rfl rfl rfl (m_lines (by omega)) ?_
        have hpp := pop21 hC21
        refine V_iload_n rfl rfl ?_
        refine V_ic (v := nI 1) rfl rfl ?_
        refine V_isub rfl ?_
        -- at 77: .if_icmp .ne 7
        rw [nI_sub hn1]
        refine V_icmp_ne rfl (fun he => ?_) (fun he => ?_)
        · refine V_ic (v := nI 0) rfl rfl ?_
          -- at 85: .ireturn
          refine V_zret rfl rfl (by first | exact Or.inl rfl | exact Or.inr rfl | assumption) ?_
          exact ⟨by rw [isC, decide_eq_true hd, decide_eq_false (fun q => he (by rw [show n - 1 = pop C by omega]))]; rfl, MF.rf⟩
        · have he := nI_inj (by omega) (by omega) (Decidable.of_not_not he)
          refine V_ic (v := nI 1) rfl rfl ?_
          refine V_goto rfl ?_
          -- at 85: .ireturn
          refine V_zret rfl rfl (by first | exact Or.inl rfl | exact Or.inr rfl | assumption) ?_
          exact ⟨by rw [isC, decide_eq_true hd, decide_eq_true (show pop C + 1 = n by omega)]; rfl, MF.rf⟩
    · refine V_tabI (t := 86) rfl 3 (by decide) (by decide) rfl ?_
      refine V_iload_n rfl rfl ?_
      refine V_iload_n rfl rfl ?_
      -- at 88: .invokestatic 301
      refine V_cS rfl rfl rfl rfl (m_two hn hC21) ?_
      have := bI_01 (two n C)
      refine V_zret rfl rfl (by first | exact Or.inl rfl | exact Or.inr rfl | assumption) ?_
      exact ⟨rfl, MF.rf⟩
    · refine V_tabI (t := 92) rfl 4 (by decide) (by decide) rfl ?_
      refine V_iload_n rfl rfl ?_
      refine V_ic (v := nI 2) rfl rfl ?_
      -- at 94: .if_icmp .le 17
      refine V_icmp_le rfl (fun hd => ?_) (fun hd => ?_)
      · have hd := (nI_leI (by omega) (by omega)).mp hd
        refine V_ic (v := nI 0) rfl rfl ?_
        -- at 112: .ireturn
        refine V_zret rfl rfl (by first | exact Or.inl rfl | exact Or.inr rfl | assumption) ?_
        exact ⟨by rw [isC, show rng n C = false by unfold rng; rw [decide_eq_false (by omega)]; rfl]; rfl, MF.rf⟩
      · have hd := nI_ngt (by omega) (by omega) hd
        have hp1 : pop 1 = 1 := by decide
        refine V_iload_n rfl rfl ?_
        refine V_iload_n rfl rfl ?_
        refine V_ic (v := nI 0) rfl rfl ?_
        refine V_ic (v := nI 1) rfl rfl ?_
        -- at 101: .invokestatic 294
        refine V_callS rfl rfl rfl rfl (m_gr hn hC21 (n - 1) (dep + 11) 0 1 (by omega) (Nat.one_lt_two_pow (by omega)) (by omega) (by omega)) ?_
        rintro _ hz ⟨hz2, b, rfl, hbq⟩
        have hz3 := hz2.symm
        subst hz3
        have hb2 : b = rng n C := by rw [Bool.eq_iff_iff, hbq, gr_rng hn (by omega)]
        refine V_if_eq rfl (fun he => ?_) (fun he => ?_)
        · have he := bI_z.mp he
          refine V_ic (v := nI 0) rfl rfl ?_
          -- at 112: .ireturn
          refine V_zret rfl rfl (by first | exact Or.inl rfl | exact Or.inr rfl | assumption) ?_
          exact ⟨by rw [isC, ← hb2, he]; rfl, MF.rf⟩
        · have he := bI_nz.mp he
          refine V_ic (v := nI 1) rfl rfl ?_
          refine V_goto rfl ?_
          -- at 112: .ireturn
          refine V_zret rfl rfl (by first | exact Or.inl rfl | exact Or.inr rfl | assumption) ?_
          exact ⟨by rw [isC, ← hb2, he]; rfl, MF.rf⟩
    · refine V_tabO (t := 113) rfl (Or.inr (by decide)) rfl ?_
      refine V_aload_n rfl rfl rfl ?_
      refine V_iload_n rfl rfl ?_
      refine V_iload_n rfl rfl ?_
      -- at 116: .invokevirtual 115
      refine V_callV rfl rfl rfl rfl rfl (m_frm hn hC) ?_
      rintro _ h1 ⟨rfl, f1⟩
      show V S (dep + 12) 232 119 [.ref 188, .int (nI n), .int (nI C), .int (nI 5)] [.int (nI (frm n C))] h1 _
      refine V_aload_n rfl rfl rfl ?_
      refine V_iload_n rfl rfl ?_
      refine V_iload_n rfl rfl ?_
      -- at 122: .invokestatic 235
      refine V_cS rfl rfl rfl rfl (m_whole hn) ?_
      refine V_iload_n rfl rfl ?_
      refine V_ic (v := -1) rfl rfl ?_
      refine V_ixor rfl ?_
      refine V_iand rfl ?_
      -- at 129: .invokevirtual 115
      rw [nI_andn, inv_and hC]
      refine V_callV rfl rfl rfl rfl rfl (m_frm hn (inv_lt hC)) ?_
      rintro _ h2 ⟨rfl, f2⟩
      show V S (dep + 12) 232 132 [.ref 188, .int (nI n), .int (nI C), .int (nI 5)] [.int (nI (frm n (inv n C))), .int (nI (frm n C))] h2 _
      have hf1 := frm21 (C := C) hn
      have hf2 := frm21 (C := inv n C) hn
      refine V_icmp_ne rfl (fun hd => ?_) (fun hd => ?_)
      · refine V_ic (v := nI 0) rfl rfl ?_
        -- at 140: .ireturn
        refine V_zret rfl rfl (by first | exact Or.inl rfl | exact Or.inr rfl | assumption) ?_
        exact ⟨by rw [isC_5, decide_eq_false (fun q => hd (by rw [q]))]; rfl, f1.tr f2⟩
      · have hd := nI_inj (by omega) (by omega) (Decidable.of_not_not hd)
        refine V_ic (v := nI 1) rfl rfl ?_
        refine V_goto rfl ?_
        -- at 140: .ireturn
        refine V_zret rfl rfl (by first | exact Or.inl rfl | exact Or.inr rfl | assumption) ?_
        exact ⟨by rw [isC_5, decide_eq_true hd]; rfl, f1.tr f2⟩
  · have hc := nI_inj (b := 0) (by omega) (by omega) (Decidable.of_not_not hc)
    refine V_ic (v := nI 0) rfl rfl ?_
    -- at 5: .ireturn
    refine V_zret rfl rfl (by first | exact Or.inl rfl | exact Or.inr rfl | assumption) ?_
    exact ⟨by unfold isK; rw [decide_eq_false (by omega)]; rfl, MF.rf⟩
theorem c_isK {S : mScr} {dep a n C j : Nat} {h : Hp} (hN : NC h a n C) (h14 : a ≠ 14) (hj : j < 6) : Cal S (dep + 11) 21 [.ref 13, .ref a, .int (nI j)] h (fun q h' => q = some (.int (bI (isK n C j))) ∧ Fr [6, 7, 8, 9, 14, 15, 16] h h') := by
  obtain ⟨⟨ha, hn, h0, hg, hb⟩, hC⟩ := id hN
  have hb1 := net_b ha
  have hge := net_ge ha
  have hC21 := c21 hn hC
  have hpl := pcN_le (C := C) hn
  have ha13 : a ≠ 15 := fun q => by subst q; exact Bool.noConfusion ha
  show V S (dep + 11) 21 0 [.ref 13, .ref a, .int (nI j)] [] h _
  refine V_aload_n rfl rfl (by first | assumption | rfl) ?_
  refine V_gi 0 rfl (net_sz (by first | assumption | rfl)) rfl ?_
  refine V_ic (v := nI 1) rfl rfl ?_
  -- at 5: .if_icmp .ge 5
  rw [h0]
  refine V_icmp_ge rfl (fun hc => ?_) (fun hc => ?_)
  · have hn1 := (nI_leI (by omega) (by omega)).mp hc
    have ek : isK n C j = isC n C j := by unfold isK; rw [decide_eq_true hn1]; rfl
    rw [ek]
    refine V_iload_n rfl rfl ?_
    -- at 11: .tableswitch 115 0 5 #[37, 51, 56, 83, 88, 94]
    rcases (by omega : j = 0 ∨ j = 1 ∨ j = 2 ∨ j = 3 ∨ j = 4 ∨ j = 5) with rfl | rfl | rfl | rfl | rfl | rfl
    · refine V_tabI (t := 48) rfl 0 (by decide) (by decide) rfl ?_
      refine V_aload_n rfl rfl (by first | assumption | rfl) ?_
      -- at 49: .invokevirtual 40
      refine V_cV rfl rfl (by first | assumption | rfl) rfl rfl (c_pcs hN.1) ?_
      refine V_ic (v := nI 1) rfl rfl ?_
      -- at 53: .if_icmp .ne 7
      refine V_icmp_ne rfl (fun hd => ?_) (fun hd => ?_)
      · refine V_ic (v := nI 0) rfl rfl ?_
        -- at 61: .ireturn
        refine V_zret rfl rfl (by first | exact Or.inl rfl | exact Or.inr rfl | assumption) ?_
        exact ⟨by rw [isC, decide_eq_false (fun q => hd (by rw [← q]; rfl))]; rfl, Fr.rf⟩
      · have hd : pcN n C = 1 := nI_inj (a := pcN n C) (by omega) (by omega) (Decidable.of_not_not hd)
        refine V_ic (v := nI 1) rfl rfl ?_
        refine V_goto rfl ?_
        -- at 61: .ireturn
        refine V_zret rfl rfl (by first | exact Or.inl rfl | exact Or.inr rfl | assumption) ?_
        exact ⟨by rw [isC, decide_eq_true hd]; rfl, Fr.rf⟩
    · refine V_tabI (t := 62) rfl 1 (by decide) (by decide) rfl ?_
      refine V_aload_n rfl rfl (by first | assumption | rfl) ?_
      -- at 63: .invokestatic 44
      refine V_cS rfl rfl rfl rfl (c_ldg hN hn1) ?_
      have := bI_01 (ldg n C)
      refine V_zret rfl rfl (by first | exact Or.inl rfl | exact Or.inr rfl | assumption) ?_
      exact ⟨rfl, Fr.rf⟩
    · refine V_tabI (t := 67) rfl 2 (by decide) (by decide) rfl ?_
      refine V_aload_n rfl rfl (by first | assumption | rfl) ?_
      -- at 68: .invokevirtual 40
      refine V_cV rfl rfl (by first | assumption | rfl) rfl rfl (c_pcs hN.1) ?_
      refine V_ic (v := nI 1) rfl rfl ?_
      -- at 72: .if_icmp .ne 20
      refine V_icmp_ne rfl (fun hd => ?_) (fun hd => ?_)
      · refine V_ic (v := nI 0) rfl rfl ?_
        -- at 93: .ireturn
        refine V_zret rfl rfl (by first | exact Or.inl rfl | exact Or.inr rfl | assumption) ?_
        exact ⟨by rw [isC, decide_eq_false (fun q => hd (by rw [← q]; rfl))]; rfl, Fr.rf⟩
      · have hd : pcN n C = 1 := nI_inj (a := pcN n C) (by omega) (by omega) (Decidable.of_not_not hd)
        have hpp := pop21 hC21
        refine V_aload_n rfl rfl (by first | assumption | rfl) ?_
        -- at 76: .invokevirtual 48
        refine V_cV rfl rfl (by first | assumption | rfl) rfl rfl (c_lc hN.1) ?_
        rw [lsum_row hn hC, Nat.mul_div_cancel_left _ (by decide)]
        refine V_aload_n rfl rfl (by first | assumption | rfl) ?_
        refine V_gi 0 rfl (net_sz (by first | assumption | rfl)) rfl ?_
        refine V_ic (v := nI 1) rfl rfl ?_
        refine V_isub rfl ?_
        -- at 85: .if_icmp .ne 7
        rw [h0, nI_sub hn1]
        refine V_icmp_ne rfl (fun he => ?_) (fun he => ?_)
        · refine V_ic (v := nI 0) rfl rfl ?_
          -- at 93: .ireturn
          refine V_zret rfl rfl (by first | exact Or.inl rfl | exact Or.inr rfl | assumption) ?_
          exact ⟨by rw [isC, decide_eq_true hd, decide_eq_false (fun q => he (by rw [show n - 1 = pop C by omega]))]; rfl, Fr.rf⟩
        · have he := nI_inj (by omega) (by omega) (Decidable.of_not_not he)
          refine V_ic (v := nI 1) rfl rfl ?_
          refine V_goto rfl ?_
          -- at 93: .ireturn
          refine V_zret rfl rfl (by first | exact Or.inl rfl | exact Or.inr rfl | assumption) ?_
          exact ⟨by rw [isC, decide_eq_true hd, decide_eq_true (show pop C + 1 = n by omega)]; rfl, Fr.rf⟩
    · refine V_tabI (t := 94) rfl 3 (by decide) (by decide) rfl ?_
      refine V_aload_n rfl rfl (by first | assumption | rfl) ?_
      -- at 95: .invokestatic 51
      refine V_cS rfl rfl rfl rfl (c_two hN) ?_
      have := bI_01 (two n C)
      refine V_zret rfl rfl (by first | exact Or.inl rfl | exact Or.inr rfl | assumption) ?_
      exact ⟨rfl, Fr.rf⟩
    · refine V_tabI (t := 99) rfl 4 (by decide) (by decide) rfl ?_
      refine V_aload_n rfl rfl rfl ?_
      refine V_aload_n rfl rfl (by first | assumption | rfl) ?_
      -- at 101: .invokevirtual 54
      refine V_callV rfl rfl rfl rfl rfl (c_ring hN) ?_
      rintro _ h1 ⟨rfl, f1⟩
      have := bI_01 (rng n C)
      refine V_zret rfl rfl (by first | exact Or.inl rfl | exact Or.inr rfl | assumption) ?_
      exact ⟨rfl, f1.mono (by simp)⟩
    · refine V_tabI (t := 105) rfl 5 (by decide) (by decide) rfl ?_
      refine V_aload_n rfl rfl rfl ?_
      refine V_getR (r := 14) rfl rfl ?_
      refine V_aload_n rfl rfl (by first | assumption | rfl) ?_
      -- at 110: .invokevirtual 57
      refine V_callV rfl rfl rfl rfl rfl (c_invert (a := 14) hN rfl (by omega) (by omega)) ?_
      rintro _ h1 ⟨rfl, hN1, f1⟩
      show V S (dep + 11) 21 113 [.ref 13, .ref a, .int (nI 5)] [] h1 _
      have hN2 := hN.fr f1 (by simp; omega) (by simp; omega)
      refine V_aload_n rfl rfl rfl ?_
      refine V_getR (r := 6) rfl rfl ?_
      refine V_aload_n rfl rfl (by first | assumption | rfl) ?_
      refine V_aload_n rfl rfl rfl ?_
      refine V_getR (r := 14) rfl rfl ?_
      -- at 122: .invokevirtual 61
      refine V_callV rfl rfl rfl rfl rfl (c_alk hN2.1 hN1.1) ?_
      rintro _ h2 ⟨rfl, f2⟩
      rw [alk_frm hn hn hC (inv_lt hC), decide_eq_true rfl, Bool.true_and]
      have := bI_01 (decide (frm n C = frm n (inv n C)))
      refine V_zret rfl rfl (by first | exact Or.inl rfl | exact Or.inr rfl | assumption) ?_
      exact ⟨rfl, (f1.mono (by simp)).tr (f2.mono (by simp))⟩
  · have hc : ¬ 1 ≤ n := fun q => hc (nI_le q (by omega))
    refine V_ic (v := nI 0) rfl rfl ?_
    -- at 9: .ireturn
    refine V_zret rfl rfl (by first | exact Or.inl rfl | exact Or.inr rfl | assumption) ?_
    exact ⟨by unfold isK; rw [decide_eq_false hc]; rfl, Fr.rf⟩
