/-! the class: reasons -/
def TR (h : Hp) (T : Nat → Nat) : Prop := ∀ l, l < 4 → h.1 31 l = nI (T l)
theorem t1_succ (n C l c b a : Nat) : t1 n C l c b (a + 1) = t1 n C l c b a + if pop (wth n C (2 ^ c + (2 ^ b + 2 ^ a))) = l then 1 else 0 := rfl
theorem t2_succ (n C l c b : Nat) : t2 n C l c (b + 1) = t2 n C l c b + t1 n C l c b b := rfl
theorem t3_succ (n C l c : Nat) : t3 n C l (c + 1) = t3 n C l c + t2 n C l c c := rfl
theorem c_trip {S : mScr} {dep n C : Nat} {T : Nat → Nat} {h : Hp} (hN : NC h 26 n C) (hT : TR h T) (h2 : 2 ≤ n) : Cal S (dep + 1) 90 [.ref 25] h (fun q h' => q = none ∧ TR h' (fun l => T l + t3 n C l n) ∧ Fr [31] h h') := by
  obtain ⟨⟨ha, hn, h0, hg, hb⟩, hC⟩ := id hN
  obtain ⟨Q, hQ⟩ : ∃ Q : Option Value → Hp → Prop, Q = fun q h' => q = none ∧ TR h' (fun l => T l + t3 n C l n) ∧ Fr [31] h h' := ⟨_, rfl⟩
  rw [← hQ]
  show V S (dep + 1) 90 0 [.ref 25, .null, .null, .null, .null, .null] [] h _
  refine V_ic (v := nI 2) rfl rfl ?_
  refine V_istore_n (L' := [_, _, _, _, _, _]) rfl rfl rfl ?_
  -- at 2: .iload_n 1
  have lp := loopUp (P := fun c => 2 ≤ c → ∀ h1 v2 v3 v4 v5, Fr [31] h h1 → TR h1 (fun l => T l + t3 n C l c) → V S (dep + 1) 90 2 [.ref 25, .int (nI c), v2, v3, v4, v5] [] h1 Q) n ?_ ?_ 2 h2
  · refine lp (Nat.le_refl _) h _ _ _ _ Fr.rf (fun l hl => ?_)
    have : t3 n C l 2 = 0 := rfl
    rw [hT l hl]
    show nI (T l) = nI (T l + t3 n C l 2)
    rw [this]; rfl
  · intro _ h1 v2 v3 v4 v5 f1 e1
    have h01 := (hN.fr f1 (by decide) (by decide)).1.2.2.1
    refine V_iload_n rfl rfl ?_
    refine V_aload_n rfl rfl rfl ?_
    refine V_getR (r := 26) rfl rfl ?_
    refine V_gi 0 rfl rfl rfl ?_
    -- at 10: .if_icmp .ge 110
    rw [h01]
    refine V_icmp_ge rfl (fun hc => ?_) (fun hc => ?_)
    · refine V_return rfl rfl ?_
      rw [hQ]
      exact ⟨rfl, e1, f1⟩
    · exact absurd (nI_le (Nat.le_refl _) (by omega)) hc
  · intro c hcn ih hc2 h1 v2 v3 v4 v5 f1 e1
    have h01 := (hN.fr f1 (by decide) (by decide)).1.2.2.1
    refine V_iload_n rfl rfl ?_
    refine V_aload_n rfl rfl rfl ?_
    refine V_getR (r := 26) rfl rfl ?_
    refine V_gi 0 rfl rfl rfl ?_
    -- at 10: .if_icmp .ge 110
    rw [h01]
    refine V_icmp_ge rfl (fun hc => ?_) (fun hc => ?_)
    · exact absurd hc (nI_ge hcn (by omega))
    · refine V_ic (v := nI 1) rfl rfl ?_
      refine V_istore_n (L' := [_, _, _, _, _, _]) rfl rfl rfl ?_
      -- at 15: .iload_n 2
      have lq := loopUp (P := fun b => 1 ≤ b → ∀ h1 v3 v4 v5, Fr [31] h h1 → TR h1 (fun l => T l + t3 n C l c + t2 n C l c b) → V S (dep + 1) 90 15 [.ref 25, .int (nI c), .int (nI b), v3, v4, v5] [] h1 Q) c ?_ ?_ 1 (by omega)
      · exact lq (Nat.le_refl _) h1 _ _ _ f1 e1
      · intro _ h1 v3 v4 v5 f1 e1
        refine V_iload_n rfl rfl ?_
        refine V_iload_n rfl rfl ?_
        -- at 17: .if_icmp .ge 97
        refine V_icmp_ge rfl (fun hd => ?_) (fun hd => ?_)
        · refine V_iinc (L' := [_, _, _, _, _, _]) rfl rfl rfl ?_
          refine V_goto rfl ?_
          -- at 2: .iload_n 1
          rw [show Int32.ofInt 1 = nI 1 from rfl, nI_add]
          refine ih (by omega) h1 _ _ _ _ f1 (fun l hl => ?_)
          refine (e1 l hl).trans (congrArg nI ?_)
          show T l + t3 n C l c + t2 n C l c c = T l + t3 n C l (c + 1)
          rw [t3_succ, Nat.add_assoc]
        · exact absurd (nI_le (Nat.le_refl _) (by omega)) hd
      · intro b hbc ih2 hb1 h1 v3 v4 v5 f1 e1
        refine V_iload_n rfl rfl ?_
        refine V_iload_n rfl rfl ?_
        -- at 17: .if_icmp .ge 97
        refine V_icmp_ge rfl (fun hd => ?_) (fun hd => ?_)
        · exact absurd hd (nI_ge hbc (by omega))
        · refine V_ic (v := nI 0) rfl rfl ?_
          refine V_istore_n (L' := [_, _, _, _, _, _]) rfl rfl rfl ?_
          -- at 22: .iload_n 3
          have lr := loopUp (P := fun a => ∀ h1 v4 v5, Fr [31] h h1 → TR h1 (fun l => T l + t3 n C l c + t2 n C l c b + t1 n C l c b a) → V S (dep + 1) 90 22 [.ref 25, .int (nI c), .int (nI b), .int (nI a), v4, v5] [] h1 Q) b ?_ ?_ 0 (Nat.zero_le _)
          · exact lr h1 _ _ f1 e1
          · intro h1 v4 v5 f1 e1
            refine V_iload_n rfl rfl ?_
            refine V_iload_n rfl rfl ?_
            -- at 24: .if_icmp .ge 84
            refine V_icmp_ge rfl (fun he => ?_) (fun he => ?_)
            · refine V_iinc (L' := [_, _, _, _, _, _]) rfl rfl rfl ?_
              refine V_goto rfl ?_
              -- at 15: .iload_n 2
              rw [show Int32.ofInt 1 = nI 1 from rfl, nI_add]
              refine ih2 (by omega) h1 _ _ _ f1 (fun l hl => ?_)
              refine (e1 l hl).trans (congrArg nI ?_)
              show T l + t3 n C l c + t2 n C l c b + t1 n C l c b b = T l + t3 n C l c + t2 n C l c (b + 1)
              rw [t2_succ]; omega
            · exact absurd (nI_le (Nat.le_refl _) (by omega)) he
          · intro a hab ih3 h1 v4 v5 f1 e1
            have hN1 := hN.fr f1 (by decide) (by decide)
            have hg1 := hN1.1.2.2.2.1
            have hg1 : ∀ v, v < 7 → h1.1 27 v = nI (rowOf n C v) := hg1
            have htb := (tri_bits hab hbc).1
            have hends := ends3 (C := C) hn hab hbc hcn
            have ht : 2 ^ c + (2 ^ b + 2 ^ a) < 128 := by
              rw [← htb]
              exact Nat.or_lt_two_pow (n := 7) (Nat.or_lt_two_pow (Nat.pow_lt_pow_right (by decide) (by omega)) (Nat.pow_lt_pow_right (by decide) (by omega))) (Nat.pow_lt_pow_right (by decide) (by omega))
            obtain ⟨t, htt⟩ : ∃ t, t = 2 ^ c + (2 ^ b + 2 ^ a) := ⟨_, rfl⟩
            rw [← htt] at htb hends ht
            have hand : ∀ u, rowOf n C u &&& t < 2 ^ 24 := fun u => Nat.lt_of_le_of_lt Nat.and_le_left (Nat.lt_of_lt_of_le (hb u) (by decide))
            refine V_iload_n rfl rfl ?_
            refine V_iload_n rfl rfl ?_
            -- at 24: .if_icmp .ge 84
            refine V_icmp_ge rfl (fun he => ?_) (fun he => ?_)
            · exact absurd he (nI_ge hab (by omega))
            · refine V_ic (v := nI 1) rfl rfl ?_
              refine V_iload_n rfl rfl ?_
              refine V_ishl rfl ?_
              refine V_ic (v := nI 1) rfl rfl ?_
              refine V_iload_n rfl rfl ?_
              refine V_ishl rfl ?_
              refine V_ior rfl ?_
              refine V_ic (v := nI 1) rfl rfl ?_
              refine V_iload_n rfl rfl ?_
              refine V_ishl rfl ?_
              refine V_ior rfl ?_
              -- at 38: .istore 4
              rw [nI_2p _ (by omega), nI_2p _ (by omega), nI_2p _ (by omega), nI_or, nI_or, htb]
              refine V_istore (L' := [_, _, _, _, _, _]) rfl rfl rfl ?_
              refine V_aload_n rfl rfl rfl ?_
              refine V_getR (r := 26) rfl rfl ?_
              refine V_getR (r := 27) rfl rfl ?_
              refine V_iload_n rfl rfl ?_
              refine V_al 7 rfl rfl (by first | with_reducible rfl | assumption | exact nI_sub (by omega) | exact nI_add _ _) (by first | omega | assumption) rfl ?_
              refine V_iload rfl rfl ?_
              refine V_iand rfl ?_
              -- at 52: .invokestatic 91
              rw [hg1 a (by omega), nI_and]
              refine V_cS rfl rfl rfl rfl (c_bc (hand a)) ?_
              refine V_aload_n rfl rfl rfl ?_
              refine V_getR (r := 26) rfl rfl ?_
              refine V_getR (r := 27) rfl rfl ?_
              refine V_iload_n rfl rfl ?_
              refine V_al 7 rfl rfl (by first | with_reducible rfl | assumption | exact nI_sub (by omega) | exact nI_add _ _) (by first | omega | assumption) rfl ?_
              refine V_iload rfl rfl ?_
              refine V_iand rfl ?_
              -- at 67: .invokestatic 91
              rw [hg1 b (by omega), nI_and]
              refine V_cS rfl rfl rfl rfl (c_bc (hand b)) ?_
              refine V_iadd rfl ?_
              refine V_aload_n rfl rfl rfl ?_
              refine V_getR (r := 26) rfl rfl ?_
              refine V_getR (r := 27) rfl rfl ?_
              refine V_iload_n rfl rfl ?_
              refine V_al 7 rfl rfl (by first | with_reducible rfl | assumption | exact nI_sub (by omega) | exact nI_add _ _) (by first | omega | assumption) rfl ?_
              refine V_iload rfl rfl ?_
              refine V_iand rfl ?_
              -- at 83: .invokestatic 91
              rw [hg1 c (by omega), nI_and]
              refine V_cS rfl rfl rfl rfl (c_bc (hand c)) ?_
              refine V_iadd rfl ?_
              -- at 87: .istore 5
              rw [nI_add, nI_add, hends]
              have hpl : pop (wth n C t) ≤ 3 := by
                have h1 := wth_lt n C t
                have h2 : rk t n = 3 := by
                  have h3 := rk_pop (n := n) (s := t) (lt_of_tb (fun i hi => by
                    rw [htt, (tri_bits hab hbc).2 i] at hi
                    simp at hi; omega)) hn
                  rw [h3, htt, show 2 ^ c + (2 ^ b + 2 ^ a) = 2 ^ c + (2 ^ b + (2 ^ a + 0)) from rfl]
                  rw [pop_up (s := 2 ^ b + (2 ^ a + 0)) (m := c) (by
                    have : 2 ^ b + (2 ^ a + 0) = 2 ^ a ||| 2 ^ b := by
                      rw [show 2 ^ a ||| 2 ^ b = 2 ^ a ||| 1 <<< b by rw [Nat.shiftLeft_eq, Nat.one_mul], or_add (Nat.pow_lt_pow_right (by decide) hab), Nat.one_mul, Nat.add_comm]; rfl
                    rw [this]
                    exact Nat.or_lt_two_pow (Nat.pow_lt_pow_right (by decide) (by omega)) (Nat.pow_lt_pow_right (by decide) hbc)) (by omega)]
                  rw [pop_up (s := 2 ^ a + 0) (m := b) (Nat.pow_lt_pow_right (by decide) hab) (by omega), pop_up (s := 0) (m := a) (Nat.two_pow_pos a) (by omega)]
                  rfl
                rw [h2] at h1
                exact pop_le (n := 3) h1 (by decide)
              refine V_istore (L' := [_, _, _, _, _, _]) rfl rfl rfl ?_
              refine V_aload_n rfl rfl rfl ?_
              refine V_getR (r := 31) rfl rfl ?_
              refine V_iload rfl rfl ?_
              refine V_ic (v := nI 2) rfl rfl ?_
              refine V_idiv rfl (by first | assumption | decide | omega) ?_
              -- at 97: .dup2
              rw [nI_div2 (by omega) (by decide) (by decide), Nat.mul_div_cancel_left _ (by decide)]
              refine V_dup2 rfl rfl ?_
              refine V_al 4 rfl rfl (by first | with_reducible rfl | assumption | exact nI_sub (by omega) | exact nI_add _ _) (by first | omega | assumption) rfl ?_
              -- at 99: .iconst 1
              rw [e1 _ (by omega)]
              show V S (dep + 1) 90 99 _ (.int (nI (T (pop (wth n C t)) + t3 n C (pop (wth n C t)) c + t2 n C (pop (wth n C t)) c b + t1 n C (pop (wth n C t)) c b a)) :: _) _ _
              refine V_ic (v := nI 1) rfl rfl ?_
              refine V_iadd rfl ?_
              -- at 101: .iastore
              rw [nI_add]
              refine V_as 4 rfl rfl (by first | with_reducible rfl | assumption | exact nI_sub (by omega) | exact nI_add _ _) (by first | omega | assumption) rfl ?_
              refine V_iinc (L' := [_, _, _, _, _, _]) rfl rfl rfl ?_
              refine V_goto rfl ?_
              -- at 22: .iload_n 3
              rw [show Int32.ofInt 1 = nI 1 from rfl, nI_add]
              refine ih3 _ _ _ (f1.tr (Fr.w (by simp))) (fun l hl => ?_)
              show _ = nI (T l + t3 n C l c + t2 n C l c b + t1 n C l c b (a + 1))
              rw [t1_succ, ← htt]
              by_cases q : l = pop (wth n C t)
              · rw [q, wI_same, if_pos rfl]; rfl
              · rw [wI_ne (by omega), if_neg (fun z => q z.symm)]; exact e1 l hl
def tsm (cs : List Nat) (l : Nat) (k : Nat) : Nat := sumN (fun i => t3 (cs.length - 1) (cs.getD i 0) l (cs.length - 1)) k
def hwt (cs : List Nat) : Bool := allB (fun l => decide (tsm cs l cs.length % (cs.length - 3) = 0)) 4
theorem t3_le (n C l c : Nat) : t3 n C l c ≤ c * (c * c) := by
  unfold t3
  refine sumN_le (fun z hz => ?_)
  unfold t2
  refine Nat.le_trans (sumN_le (B := z) (fun y hy => ?_)) (Nat.mul_le_mul (by omega) (by omega))
  unfold t1
  refine Nat.le_trans (sumN_le (B := 1) (fun x hx => ?_)) (by omega)
  split <;> omega
theorem c_hwt {S : mScr} {dep b : Nat} {cs : List Nat} {h : Hp} (hD : DK h b cs) (hW : WD cs) (h4 : 4 ≤ cs.length) : Cal S (dep + 3) 89 [.ref 25, .ref b] h (fun q h' => q = some (.int (bI (hwt cs))) ∧ Fr [26, 27, 31] h h') := by
  obtain ⟨hd, hd7, hd0, hdA, hdb⟩ := id hD
  obtain ⟨hw2, hw7, hws, hwx⟩ := id hW
  have hb1 := deck_b hd
  have hb2 := deck_b1 hd
  have hge := deck_ge hd
  have hsb : b ∉ [26, 27, 31] ∧ b + 1 ∉ [26, 27, 31] := by simp; omega
  have hbd : ∀ l, tsm cs l cs.length ≤ 7 * 216 := by
    intro l
    refine Nat.le_trans (sumN_le (B := 216) (fun i hi => ?_)) (Nat.mul_le_mul_right _ hw7)
    exact Nat.le_trans (t3_le _ _ _ _) (Nat.mul_le_mul (show cs.length - 1 ≤ 6 by omega) (Nat.mul_le_mul (show cs.length - 1 ≤ 6 by omega) (show cs.length - 1 ≤ 6 by omega)))
  obtain ⟨Q, hQ⟩ : ∃ Q : Option Value → Hp → Prop, Q = fun q h' => q = some (.int (bI (hwt cs))) ∧ Fr [26, 27, 31] h h' := ⟨_, rfl⟩
  rw [← hQ]
  show V S (dep + 3) 89 0 [.ref 25, .ref b, .null, .null] [] h _
  refine V_aload_n rfl rfl (by first | assumption | rfl) ?_
  refine V_gi 0 rfl (deck_sz (by first | assumption | rfl)) rfl ?_
  refine V_ic (v := nI 3) rfl rfl ?_
  refine V_isub rfl ?_
  -- at 6: .istore_n 2
  rw [hd0, nI_sub (by omega)]
  refine V_istore_n (L' := [_, _, _, _]) rfl rfl rfl ?_
  refine V_iload_n rfl rfl ?_
  -- at 8: .ifCond .gt 5
  refine V_if_gt rfl (fun h0 => ?_) (fun h0 => ?_)
  · refine V_ic (v := nI 0) rfl rfl ?_
    refine V_istore_n (L' := [_, _, _, _]) rfl rfl rfl ?_
    -- at 15: .iload_n 3
    have lp := loopUp (P := fun x => ∀ h1, Fr [26, 27, 31] h h1 → (∀ l, l < x → h1.1 31 l = nI 0) → V S (dep + 3) 89 15 [.ref 25, .ref b, .int (nI (cs.length - 3)), .int (nI x)] [] h1 Q) 4 ?_ ?_ 0 (Nat.zero_le _)
    · exact lp h Fr.rf (fun l hl => by omega)
    · intro h1 f1 e1
      refine V_iload_n rfl rfl ?_
      refine V_ic (v := nI 3) rfl rfl ?_
      -- at 17: .if_icmp .gt 16
      refine V_icmp_gt rfl (fun hc => ?_) (fun hc => ?_)
      · refine V_ic (v := nI 0) rfl rfl ?_
        refine V_istore_n (L' := [_, _, _, _]) rfl rfl rfl ?_
        -- at 35: .iload_n 3
        have lq := loopUp (P := fun i => ∀ h1, Fr [26, 27, 31] h h1 → TR h1 (fun l => tsm cs l i) → V S (dep + 3) 89 35 [.ref 25, .ref b, .int (nI (cs.length - 3)), .int (nI i)] [] h1 Q) cs.length ?_ ?_ 0 (Nat.zero_le _)
        · exact lq h1 f1 (fun l hl => e1 l hl)
        · intro h2 f2 e2
          have hD2 := hD.fr f2 hsb.1 hsb.2
          refine V_iload_n rfl rfl ?_
          refine V_aload_n rfl rfl (by first | assumption | rfl) ?_
          refine V_gi 0 rfl (deck_sz (by first | assumption | rfl)) rfl ?_
          -- at 40: .if_icmp .ge 32
          rw [hD2.2.2.1]
          refine V_icmp_ge rfl (fun hd2 => ?_) (fun hd2 => ?_)
          · refine V_ic (v := nI 0) rfl rfl ?_
            refine V_istore_n (L' := [_, _, _, _]) rfl rfl rfl ?_
            -- at 74: .iload_n 3
            have lr := loopUp (P := fun l => (∀ k, k < l → decide (tsm cs k cs.length % (cs.length - 3) = 0) = true) → V S (dep + 3) 89 74 [.ref 25, .ref b, .int (nI (cs.length - 3)), .int (nI l)] [] h2 Q) 4 ?_ ?_ 0 (Nat.zero_le _)
            · exact lr (fun k hk => by omega)
            · intro hall
              refine V_iload_n rfl rfl ?_
              refine V_ic (v := nI 3) rfl rfl ?_
              -- at 76: .if_icmp .gt 22
              refine V_icmp_gt rfl (fun he => ?_) (fun he => ?_)
              · refine V_ic (v := nI 1) rfl rfl ?_
                -- at 99: .ireturn
                refine V_zret rfl rfl (by first | exact Or.inl rfl | exact Or.inr rfl | assumption) ?_
                rw [hQ]
                refine ⟨?_, f2⟩
                rw [show hwt cs = true from allB_iff.mpr hall]; rfl
              · exact absurd (by decide) he
            · intro l hl ih hall
              have hbl := hbd l
              have hz : ¬ nI (cs.length - 3) = 0 := nI_ne0 (by omega) (by omega)
              have hml := Nat.mod_lt (tsm cs l cs.length) (show 0 < cs.length - 3 by omega)
              refine V_iload_n rfl rfl ?_
              refine V_ic (v := nI 3) rfl rfl ?_
              -- at 76: .if_icmp .gt 22
              refine V_icmp_gt rfl (fun he => ?_) (fun he => ?_)
              · exact absurd he (nI_nlt (by omega) (by decide))
              · refine V_aload_n rfl rfl rfl ?_
                refine V_getR (r := 31) rfl rfl ?_
                refine V_iload_n rfl rfl ?_
                refine V_al 4 rfl rfl (by first | with_reducible rfl | assumption | exact nI_sub (by omega) | exact nI_add _ _) (by first | omega | assumption) rfl ?_
                -- at 85: .iload_n 2
                rw [show h2.1 31 l = nI (tsm cs l cs.length) from e2 l hl]
                refine V_iload_n rfl rfl ?_
                refine V_irem rfl (by first | assumption | decide | omega) ?_
                -- at 87: .ifCond .eq 5
                rw [nI_rem (by omega) (by omega) (by omega)]
                refine V_if_eq rfl (fun hf => ?_) (fun hf => ?_)
                · have hf := nI_inj (b := 0) (by omega) (by omega) hf
                  refine V_iinc (L' := [_, _, _, _]) rfl rfl rfl ?_
                  refine V_goto rfl ?_
                  -- at 74: .iload_n 3
                  rw [show Int32.ofInt 1 = nI 1 from rfl, nI_add]
                  exact ih (fun k hk => if e : k = l then e ▸ decide_eq_true hf else hall k (by omega))
                · refine V_ic (v := nI 0) rfl rfl ?_
                  -- at 91: .ireturn
                  refine V_zret rfl rfl (by first | exact Or.inl rfl | exact Or.inr rfl | assumption) ?_
                  rw [hQ]
                  refine ⟨?_, f2⟩
                  rw [show hwt cs = false from allB_no hl (decide_eq_false (fun q => hf (by rw [q]; rfl)))]; rfl
          · exact absurd (nI_le (Nat.le_refl _) (by omega)) hd2
        · intro i hi ih h2 f2 e2
          have hD2 := hD.fr f2 hsb.1 hsb.2
          refine V_iload_n rfl rfl ?_
          refine V_aload_n rfl rfl (by first | assumption | rfl) ?_
          refine V_gi 0 rfl (deck_sz (by first | assumption | rfl)) rfl ?_
          -- at 40: .if_icmp .ge 32
          rw [hD2.2.2.1]
          refine V_icmp_ge rfl (fun hd2 => ?_) (fun hd2 => ?_)
          · exact absurd hd2 (nI_ge hi (by omega))
          · refine V_aload_n rfl rfl rfl ?_
            refine V_getR (r := 26) rfl rfl ?_
            refine V_aload_n rfl rfl (by first | assumption | rfl) ?_
            refine V_gi 0 rfl (deck_sz (by first | assumption | rfl)) rfl ?_
            refine V_ic (v := nI 1) rfl rfl ?_
            refine V_isub rfl ?_
            -- at 53: .aload_n 1
            rw [hD2.2.2.1, nI_sub (by omega)]
            refine V_aload_n rfl rfl (by first | assumption | rfl) ?_
            refine V_getR rfl (deck_cd (by first | assumption | rfl)) ?_
            refine V_iload_n rfl rfl ?_
            refine V_al 7 rfl (deck_ar (by first | assumption | rfl)) (by first | with_reducible rfl | assumption | exact nI_sub (by omega) | exact nI_add _ _) (by first | omega | assumption) rfl ?_
            -- at 59: .invokevirtual 51
            rw [hD2.2.2.2.1 i hi]
            refine V_callV rfl rfl rfl rfl rfl (c_load (a := 26) rfl (by omega) (hW.at hi)) ?_
            rintro _ h3 ⟨rfl, hN3, f3⟩
            show V S (dep + 3) 89 62 [.ref 25, .ref b, .int (nI (cs.length - 3)), .int (nI i)] [] h3 _
            have e3 : TR h3 (fun l => tsm cs l i) := fun l hl => by rw [f3.1 31 (by simp)]; exact e2 l hl
            have f3 : Fr [26, 27, 31] h h3 := f2.tr (f3.mono (by simp))
            refine V_aload_n rfl rfl rfl ?_
            -- at 63: .invokevirtual 84
            refine V_callV rfl rfl rfl rfl rfl (c_trip hN3 e3 (by omega)) ?_
            rintro _ h4 ⟨rfl, e4, f4⟩
            show V S (dep + 3) 89 66 [.ref 25, .ref b, .int (nI (cs.length - 3)), .int (nI i)] [] h4 _
            refine V_iinc (L' := [_, _, _, _]) rfl rfl rfl ?_
            refine V_goto rfl ?_
            -- at 35: .iload_n 3
            rw [show Int32.ofInt 1 = nI 1 from rfl, nI_add]
            exact ih h4 (f3.tr (f4.mono (by simp))) e4
      · exact absurd (by decide) hc
    · intro x hx ih h1 f1 e1
      refine V_iload_n rfl rfl ?_
      refine V_ic (v := nI 3) rfl rfl ?_
      -- at 17: .if_icmp .gt 16
      refine V_icmp_gt rfl (fun hc => ?_) (fun hc => ?_)
      · exact absurd hc (nI_nlt (by omega) (by decide))
      · refine V_aload_n rfl rfl rfl ?_
        refine V_getR (r := 31) rfl rfl ?_
        refine V_iload_n rfl rfl ?_
        refine V_ic (v := nI 0) rfl rfl ?_
        refine V_as 4 rfl rfl (by first | with_reducible rfl | assumption | exact nI_sub (by omega) | exact nI_add _ _) (by first | omega | assumption) rfl ?_
        refine V_iinc (L' := [_, _, _, _]) rfl rfl rfl ?_
        refine V_goto rfl ?_
        -- at 15: .iload_n 3
        rw [show Int32.ofInt 1 = nI 1 from rfl, nI_add]
        refine ih _ (f1.tr (Fr.w (by simp))) (fun l hl => ?_)
        by_cases q : l = x
        · rw [q, wI_same]
        · rw [wI_ne (by omega)]; exact e1 l (by omega)
  · exact absurd (nI_lt (a := 0) (by omega) (by omega)) h0
/-- the reason that needs no look at nets -/
def rsn (cs : List Nat) : Nat := if cs.length < 3 then 0 else match tldL cs with
  | none => 1
  | some t => if t < mosL cs cs.length ∨ fewL cs cs.length + (cs.length - 1) < t then 2 else if 4 ≤ cs.length ∧ hwt cs = false then 3 else 0
theorem c_rsn {S : mScr} {dep b : Nat} {cs : List Nat} {h : Hp} (hD : DK h b cs) (hW : WD cs) : Cal S (dep + 4) 88 [.ref 25, .ref b] h (fun q h' => q = some (.int (nI (rsn cs))) ∧ Fr [26, 27, 31] h h') := by
  obtain ⟨hd, hd7, hd0, hdA, hdb⟩ := id hD
  obtain ⟨hw2, hw7, hws, hwx⟩ := id hW
  have hb1 := deck_b hd
  have hb2 := deck_b1 hd
  obtain ⟨Q, hQ⟩ : ∃ Q : Option Value → Hp → Prop, Q = fun q h' => q = some (.int (nI (rsn cs))) ∧ Fr [26, 27, 31] h h' := ⟨_, rfl⟩
  rw [← hQ]
  show V S (dep + 4) 88 0 [.ref 25, .ref b, .null] [] h _
  refine V_aload_n rfl rfl (by first | assumption | rfl) ?_
  refine V_gi 0 rfl (deck_sz (by first | assumption | rfl)) rfl ?_
  refine V_ic (v := nI 3) rfl rfl ?_
  -- at 5: .if_icmp .ge 5
  rw [hd0]
  refine V_icmp_ge rfl (fun hc => ?_) (fun hc => ?_)
  · have hc := (nI_leI (by omega) (by omega)).mp hc
    refine V_aload_n rfl rfl (by first | assumption | rfl) ?_
    -- at 11: .invokevirtual 71
    refine V_cV rfl rfl (by first | assumption | rfl) rfl rfl (c_tld hD) ?_
    refine V_istore_n (L' := [_, _, _]) rfl rfl rfl ?_
    refine V_iload_n rfl rfl ?_
    refine V_ic (v := -1) rfl rfl ?_
    -- at 17: .if_icmp .ne 5
    refine V_icmp_ne rfl (fun hd2 => ?_) (fun hd2 => ?_)
    · obtain ⟨t, ht⟩ : ∃ t, tldL cs = some t := by
        cases q : tldL cs with
        | none => rw [q] at hd2; exact absurd rfl hd2
        | some t => exact ⟨t, rfl⟩
      have htl := tldL_le hdb hw7 ht
      have hml := mosL_le hdb cs.length
      have hfl := fewL_le cs cs.length
      have hrs : rsn cs = if t < mosL cs cs.length ∨ fewL cs cs.length + (cs.length - 1) < t then 2 else if 4 ≤ cs.length ∧ hwt cs = false then 3 else 0 := by
        unfold rsn; rw [if_neg (by omega), ht]
      rw [ht]
      show V S (dep + 4) 88 22 [.ref 25, .ref b, .int (nI t)] [] h _
      have two : (t < mosL cs cs.length ∨ fewL cs cs.length + (cs.length - 1) < t) → V S (dep + 4) 88 45 [.ref 25, .ref b, .int (nI t)] [] h Q := by
        intro hor
        refine V_ic (v := nI 2) rfl rfl ?_
        -- at 46: .ireturn
        refine V_iret rfl rfl ?_
        rw [hQ]
        exact ⟨by rw [hrs, if_pos hor], Fr.rf⟩
      refine V_iload_n rfl rfl ?_
      refine V_aload_n rfl rfl (by first | assumption | rfl) ?_
      -- at 24: .invokevirtual 74
      refine V_cV rfl rfl (by first | assumption | rfl) rfl rfl (c_mos hD) ?_
      refine V_icmp_lt rfl (fun he => ?_) (fun he => ?_)
      · exact two (Or.inl ((nI_ltI (by omega) (by omega)).mp he))
      · have he : ¬ t < mosL cs cs.length := fun q => he (nI_lt q (by omega))
        refine V_iload_n rfl rfl ?_
        refine V_aload_n rfl rfl (by first | assumption | rfl) ?_
        -- at 32: .invokevirtual 77
        refine V_cV rfl rfl (by first | assumption | rfl) rfl rfl (c_few hD) ?_
        have hpos : fewL cs cs.length ≤ t := by
          have h1 : fewL cs cs.length ≤ mosL cs cs.length := by
            have : ∀ k, 0 < k → fewL cs k ≤ mosL cs k := by
              intro k
              induction k with
              | zero => intro h; omega
              | succ k ih =>
                intro _
                rw [fewL, mosL]
                omega
            exact this _ (by omega)
          omega
        refine V_isub rfl ?_
        refine V_aload_n rfl rfl (by first | assumption | rfl) ?_
        refine V_gi 0 rfl (deck_sz (by first | assumption | rfl)) rfl ?_
        refine V_ic (v := nI 1) rfl rfl ?_
        refine V_isub rfl ?_
        -- at 42: .if_icmp .le 5
        rw [hd0, nI_sub hpos, nI_sub (by omega)]
        refine V_icmp_le rfl (fun hf => ?_) (fun hf => ?_)
        · have hf := (nI_leI (by omega) (by omega)).mp hf
          have hno : ¬ (t < mosL cs cs.length ∨ fewL cs cs.length + (cs.length - 1) < t) := by omega
          rw [if_neg hno] at hrs
          refine V_aload_n rfl rfl (by first | assumption | rfl) ?_
          refine V_gi 0 rfl (deck_sz (by first | assumption | rfl)) rfl ?_
          refine V_ic (v := nI 4) rfl rfl ?_
          -- at 52: .if_icmp .lt 15
          rw [hd0]
          refine V_icmp_lt rfl (fun hj => ?_) (fun hj => ?_)
          · have hj := (nI_ltI (by omega) (by omega)).mp hj
            refine V_ic (v := nI 0) rfl rfl ?_
            -- at 68: .ireturn
            refine V_iret rfl rfl ?_
            rw [hQ]
            exact ⟨by rw [hrs, if_neg (by omega)], Fr.rf⟩
          · have hj : 4 ≤ cs.length := by
              apply Classical.byContradiction
              intro q
              exact hj (nI_lt (by omega) (by omega))
            refine V_aload_n rfl rfl rfl ?_
            refine V_aload_n rfl rfl (by first | assumption | rfl) ?_
            -- at 57: .invokevirtual 80
            refine V_callV rfl rfl rfl rfl rfl (c_hwt hD hW hj) ?_
            rintro _ h1 ⟨rfl, f1⟩
            show V S (dep + 4) 88 60 [.ref 25, .ref b, .int (nI t)] [.int (bI (hwt cs))] h1 _
            refine V_if_ne rfl (fun hl => ?_) (fun hl => ?_)
            · have hl := bI_nz.mp hl
              refine V_ic (v := nI 0) rfl rfl ?_
              -- at 68: .ireturn
              refine V_iret rfl rfl ?_
              rw [hQ]
              exact ⟨by rw [hrs, if_neg (by rw [hl]; simp)], f1⟩
            · have hl := bI_z.mp (Decidable.of_not_not hl)
              refine V_ic (v := nI 3) rfl rfl ?_
              refine V_goto rfl ?_
              -- at 68: .ireturn
              refine V_iret rfl rfl ?_
              rw [hQ]
              exact ⟨by rw [hrs, if_pos ⟨hj, hl⟩], f1⟩
        · have hf := nI_ngt (by omega) (by omega) hf
          exact two (Or.inr (by omega))
    · have hno : tldL cs = none := by
        cases q : tldL cs with
        | none => rfl
        | some t =>
          have htl := tldL_le hdb hw7 q
          rw [q] at hd2
          have := (oI_none (o := some t) (fun x hx => by cases hx; omega)).mp (Decidable.of_not_not hd2)
          cases this
      refine V_ic (v := nI 1) rfl rfl ?_
      -- at 21: .ireturn
      refine V_iret rfl rfl ?_
      rw [hQ]
      exact ⟨by unfold rsn; rw [if_neg (by omega), hno], Fr.rf⟩
  · have hc : ¬ 3 ≤ cs.length := fun q => hc (nI_le q (by omega))
    refine V_ic (v := nI 0) rfl rfl ?_
    -- at 9: .ireturn
    refine V_iret rfl rfl ?_
    rw [hQ]
    exact ⟨by unfold rsn; rw [if_pos (by omega)], Fr.rf⟩
