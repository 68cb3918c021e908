/-! the reference: pairs, decks, lines -/
theorem num2 {T : Nat → Int32} {N p : Nat} (hsk : sk T N p = p) (k1 : kd T N p = 1) : num T N 2 0 99 p = if rn T N dgB p - p = 2 then .inr (10 * dv T p + dv T (p + 1), rn T N dgB p) else .inl (2, p) := by
  have e : nv T p 2 = 10 * dv T p + dv T (p + 1) := by
    unfold nv nv nv
    rw [Nat.mul_zero, Nat.zero_add]
    rfl
  unfold num
  rw [hsk, if_pos k1, e]
  have hpd := kd_1.mp k1
  by_cases q : rn T N dgB p - p = 2
  · have d0 := (dv_eq hpd.2).2
    have d1 := (dv_eq (rn_all (T := T) (N := N) (c := dgB) (p := p) (i := p + 1) (by omega) (by omega)).2).2
    rw [if_pos q, if_pos ⟨q, by omega, by omega⟩]
  · rw [if_neg q, if_neg (fun z => q z.1)]
theorem m_prsB {S : mScr} {dep N k p : Nat} {n : Int32} {h : Hp} (hB : WB h N k p) : Cal S (dep + 4) 186 [.ref 188, .int n] h (Rt (nI 0) h) := by
  have h0 := hB.2.2.1
  have h4 := hB.2.2.2.1
  show V S (dep + 4) 186 0 [.ref 188, .int n, .null, .null, .null, .null] [] h _
  refine V_ic (v := nI 0) rfl rfl ?_
  refine V_istore_n (L' := [_, _, _, _, _, _]) rfl rfl rfl ?_
  refine V_aload_n rfl rfl rfl ?_
  refine V_gi 13 rfl rfl rfl ?_
  -- at 6: .ifCond .ne 95
  rw [hB.1]
  refine V_if_ne rfl (fun hc => ?_) (fun hc => ?_)
  · refine V_iload_n rfl rfl ?_
    -- at 102: .ireturn
    refine V_iret rfl rfl ?_
    exact Rt.rf
  · exact absurd (nI_inj (b := 0) (by omega) (by omega) (Decidable.of_not_not hc)) (by omega)
theorem m_prs {S : mScr} {dep N q f n : Nat} {T : Nat → Int32} {h : Hp} (hb : BT T) (hs : RM h T N q) (hn : n ≤ 7) (hf : N < q + f) : Cal S (dep + 4) 186 [.ref 188, .int (nI n)] h (fun r h' => ((∃ k p x, prs T N n f 0 q = .inl (k, p) ∧ WB h' N k p ∧ r = some (.int x)) ∨ (∃ C q', prs T N n f 0 q = .inr (C, q') ∧ RM h' T N q' ∧ r = some (.int (nI C)))) ∧ MF [12, 13, 14, 15] [] h h') := by
  obtain ⟨X, hX⟩ : ∃ X, X = prs T N n f 0 q := ⟨_, rfl⟩
  rw [← hX]
  obtain ⟨Q, hQ⟩ : ∃ Q : Option Value → Hp → Prop, Q = (fun r h' => ((∃ k p x, X = .inl (k, p) ∧ WB h' N k p ∧ r = some (.int x)) ∨ (∃ C q', X = .inr (C, q') ∧ RM h' T N q' ∧ r = some (.int (nI C)))) ∧ MF [12, 13, 14, 15] [] h h') := ⟨_, rfl⟩
  rw [← hQ]
  have h600 := hs.1.2.2.2.2
  have bad : ∀ k p c v3 v4 v5 h5, X = .inl (k, p) → WB h5 N k p → MF [12, 13, 14, 15] [] h h5 → V S (dep + 4) 186 79 [.ref 188, .int (nI n), .int c, v3, v4, v5] [] h5 Q := by
    intro k p c v3 v4 v5 h5 eX hB f5
    have h0 := hB.2.2.1
    have h4 := hB.2.2.2.1
    refine V_aload_n rfl rfl rfl ?_
    refine V_gi 13 rfl rfl rfl ?_
    -- at 83: .ifCond .ne 15
    rw [hB.1]
    refine V_if_ne rfl (fun hx => ?_) (fun hx => ?_)
    · refine V_goto rfl ?_
      refine V_aload_n rfl rfl rfl ?_
      refine V_gi 13 rfl rfl rfl ?_
      -- at 6: .ifCond .ne 95
      rw [hB.1]
      refine V_if_ne rfl (fun hy => ?_) (fun hy => ?_)
      · refine V_iload_n rfl rfl ?_
        -- at 102: .ireturn
        refine V_iret rfl rfl ?_
        rw [hQ]
        exact ⟨Or.inl ⟨k, p, c, eX, hB, rfl⟩, f5⟩
      · exact absurd (nI_inj (b := 0) (by omega) (by omega) (Decidable.of_not_not hy)) (by omega)
    · exact absurd (nI_inj (b := 0) (by omega) (by omega) (Decidable.of_not_not hx)) (by omega)
  have lp : ∀ f q C v3 v4 v5 h1, N < q + f → RM h1 T N q → C < 2 ^ tri n → X = prs T N n f C q → MF [12, 13, 14, 15] [] h h1 → V S (dep + 4) 186 2 [.ref 188, .int (nI n), .int (nI C), v3, v4, v5] [] h1 Q := by
    intro f
    induction f with
    | zero =>
      intro q C v3 v4 v5 h1 hf hs1
      have := hs1.1.2.2.2.1
      omega
    | succ f ih =>
      intro q C v3 v4 v5 h1 hf hs1 hC hX f1
      have hle := sk_le (T := T) hs1.1.2.2.2.1
      obtain ⟨p, hp⟩ : ∃ p, p = sk T N q := ⟨_, rfl⟩
      have hsk : sk T N p = p := by rw [hp]; exact sk_sk _ _ _
      have hC21 := c21 hn hC
      rw [prs, ← hp] at hX
      rw [← hp] at hle
      refine V_aload_n rfl rfl rfl ?_
      refine V_gi 13 rfl rfl rfl ?_
      -- at 6: .ifCond .ne 95
      rw [hs1.2.1]
      refine V_if_ne rfl (fun hc => ?_) (fun hc => ?_)
      · exact absurd rfl hc
      · refine V_aload_n rfl rfl rfl ?_
        -- at 10: .invokevirtual 146
        refine V_callV rfl rfl rfl rfl rfl (m_peekR hs1) ?_
        rintro _ h2 ⟨rfl, hs2, f2⟩
        show V S (dep + 4) 186 13 [.ref 188, .int (nI n), .int (nI C), v3, v4, v5] [.int (pkv T N (sk T N q))] h2 _
        rw [← hp] at hs2
        rw [← hp]
        have g2 : MF [12, 13, 14, 15] [] h h2 := f1.tr (f2.mono (by simp) (by simp))
        refine V_cS rfl rfl rfl rfl (m_isDg) ?_
        rw [pkv_d hb h600]
        refine V_if_eq rfl (fun hd => ?_) (fun hd => ?_)
        · have k1 := of_decide_eq_false (bI_z.mp hd)
          rw [if_neg k1] at hX
          refine V_iload_n rfl rfl ?_
          -- at 102: .ireturn
          refine V_iret rfl rfl ?_
          rw [hQ]
          exact ⟨Or.inr ⟨C, p, hX, hs2, rfl⟩, g2⟩
        · have k1 := of_decide_eq_true (bI_nz.mp hd)
          have en2 := num2 hsk k1
          have hpd := kd_1.mp k1
          have hrs := rn_st (c := dgB) hpd
          rw [if_pos k1] at hX
          refine V_aload_n rfl rfl rfl ?_
          refine V_ic (v := nI 2) rfl rfl ?_
          refine V_ic (v := nI 0) rfl rfl ?_
          refine V_bi (v := nI 99) rfl rfl ?_
          -- at 24: .invokevirtual 173
          refine V_callV rfl rfl rfl rfl rfl (m_num (D := 2) (lo := 0) (hi := 99) hb hs2 (by decide) (by decide) (by decide)) ?_
          rintro _ h3 ⟨⟨k, p', e3, hB, rfl⟩ | ⟨v, q', e3, hs3, rfl, e15⟩, f3⟩
          · show V S (dep + 4) 186 27 [.ref 188, .int (nI n), .int (nI C), v3, v4, v5] [.int (nI 0)] h3 _
            have g3 : MF [12, 13, 14, 15] [] h h3 := g2.tr f3
            have hn2 : ¬ rn T N dgB p - p = 2 := fun z => by rw [en2, if_pos z] at e3; cases e3
            rw [en2, if_neg hn2] at e3
            injection e3 with e3
            injection e3 with ek ep
            rw [if_neg hn2] at hX
            have fl : ∀ v3 v4 v5, V S (dep + 4) 186 70 [.ref 188, .int (nI n), .int (nI C), v3, v4, v5] [] h3 Q := by
              intro v3 v4 v5
              refine V_aload_n rfl rfl rfl ?_
              refine V_ic (v := nI 3) rfl rfl ?_
              refine V_aload_n rfl rfl rfl ?_
              refine V_gi 15 rfl rfl rfl ?_
              -- at 76: .invokevirtual 167
              refine V_callV rfl rfl rfl rfl rfl (m_flsB hB) ?_
              rintro _ h4 ⟨rfl, eh⟩
              rw [eh]
              exact bad 2 p _ _ _ _ h3 hX (by rw [ek, ep]; exact hB) g3
            refine V_istore_n (L' := [_, _, _, _, _, _]) rfl rfl rfl ?_
            refine V_iload_n rfl rfl ?_
            refine V_bi (v := nI 10) rfl rfl ?_
            refine V_idiv rfl (by first | assumption | decide | omega) ?_
            -- at 32: .istore 4
            rw [nI_div2 (by decide) (by decide) (by decide)]
            refine V_istore (L' := [_, _, _, _, _, _]) rfl rfl rfl ?_
            refine V_iload_n rfl rfl ?_
            refine V_bi (v := nI 10) rfl rfl ?_
            refine V_irem rfl (by first | assumption | decide | omega) ?_
            -- at 38: .istore 5
            rw [nI_rem (by decide) (by decide) (by decide)]
            refine V_istore (L' := [_, _, _, _, _, _]) rfl rfl rfl ?_
            refine V_iload rfl rfl ?_
            refine V_iload_n rfl rfl ?_
            -- at 43: .if_icmp .ge 27
            refine V_icmp_ge rfl (fun hx => ?_) (fun hx => ?_)
            · exact fl _ _ _
            · refine V_iload rfl rfl ?_
              refine V_iload_n rfl rfl ?_
              -- at 49: .if_icmp .ge 21
              refine V_icmp_ge rfl (fun hy => ?_) (fun hy => ?_)
              · exact fl _ _ _
              · refine V_iload rfl rfl ?_
                refine V_iload rfl rfl ?_
                -- at 56: .if_icmp .eq 14
                refine V_icmp_eq rfl (fun hz => ?_) (fun hz => ?_)
                · exact fl _ _ _
                · exact absurd rfl hz
          · show V S (dep + 4) 186 27 [.ref 188, .int (nI n), .int (nI C), v3, v4, v5] [.int (nI v)] h3 _
            have g3 : MF [12, 13, 14, 15] [] h h3 := g2.tr f3
            rw [hsk] at e15
            have hn2 : rn T N dgB p - p = 2 := Decidable.of_not_not (fun z => by rw [en2, if_neg z] at e3; cases e3)
            rw [en2, if_pos hn2] at e3
            injection e3 with e3
            injection e3 with ev eq
            rw [if_pos hn2] at hX
            have d0 := (dv_eq hpd.2).2
            have d1 := (dv_eq (rn_all (T := T) (N := N) (c := dgB) (p := p) (i := p + 1) (by omega) (by omega)).2).2
            have hva : v / 10 = dv T p := by omega
            have hvb : v % 10 = dv T (p + 1) := by omega
            refine V_istore_n (L' := [_, _, _, _, _, _]) rfl rfl rfl ?_
            refine V_iload_n rfl rfl ?_
            refine V_bi (v := nI 10) rfl rfl ?_
            refine V_idiv rfl (by first | assumption | decide | omega) ?_
            -- at 32: .istore 4
            rw [nI_div2 (by omega) (by decide) (by decide), hva]
            refine V_istore (L' := [_, _, _, _, _, _]) rfl rfl rfl ?_
            refine V_iload_n rfl rfl ?_
            refine V_bi (v := nI 10) rfl rfl ?_
            refine V_irem rfl (by first | assumption | decide | omega) ?_
            -- at 38: .istore 5
            rw [nI_rem (by omega) (by decide) (by decide), hvb]
            refine V_istore (L' := [_, _, _, _, _, _]) rfl rfl rfl ?_
            refine V_iload rfl rfl ?_
            refine V_iload_n rfl rfl ?_
            -- at 43: .if_icmp .ge 27
            have fl : ∀ v3 v4 v5, prOk T n C p = false → V S (dep + 4) 186 70 [.ref 188, .int (nI n), .int (nI C), v3, v4, v5] [] h3 Q := by
              intro v3 v4 v5 hno
              rw [if_neg (by rw [hno]; decide)] at hX
              refine V_aload_n rfl rfl rfl ?_
              refine V_ic (v := nI 3) rfl rfl ?_
              refine V_aload_n rfl rfl rfl ?_
              refine V_gi 15 rfl rfl rfl ?_
              -- at 76: .invokevirtual 167
              rw [e15]
              refine V_callV rfl rfl rfl rfl rfl (m_fls (k := 3) hs3 (by decide) (by decide) hle.2) ?_
              rintro _ h4 ⟨rfl, hB, _, f4⟩
              exact bad 3 p _ _ _ _ h4 hX hB (g3.tr (f4.mono (by simp) (by simp)))
            refine V_icmp_ge rfl (fun hx => ?_) (fun hx => ?_)
            · have hx := (nI_leI (by omega) (by omega)).mp hx
              exact fl _ _ _ (by unfold prOk; exact decide_eq_false (by omega))
            · have hx := nI_ngt (by omega) (by omega) hx
              refine V_iload rfl rfl ?_
              refine V_iload_n rfl rfl ?_
              -- at 49: .if_icmp .ge 21
              refine V_icmp_ge rfl (fun hy => ?_) (fun hy => ?_)
              · have hy := (nI_leI (by omega) (by omega)).mp hy
                exact fl _ _ _ (by unfold prOk; exact decide_eq_false (by omega))
              · have hy := nI_ngt (by omega) (by omega) hy
                refine V_iload rfl rfl ?_
                refine V_iload rfl rfl ?_
                -- at 56: .if_icmp .eq 14
                refine V_icmp_eq rfl (fun hz => ?_) (fun hz => ?_)
                · have hz := nI_inj (by omega) (by omega) hz
                  exact fl _ _ _ (by unfold prOk; exact decide_eq_false (fun w => w.2.2.1 hz))
                · have hz : dv T p ≠ dv T (p + 1) := fun w => hz (by rw [w])
                  refine V_iload_n rfl rfl ?_
                  refine V_iload rfl rfl ?_
                  refine V_iload rfl rfl ?_
                  -- at 64: .invokestatic 95
                  refine V_cS rfl rfl rfl rfl (m_aj (by omega) (by omega) (by omega)) ?_
                  refine V_if_eq rfl (fun hw => ?_) (fun hw => ?_)
                  · have hw := bI_z.mp hw
                    have hok : prOk T n C p = true := by unfold prOk; exact decide_eq_true ⟨hx, hy, hz, hw⟩
                    rw [if_pos hok] at hX
                    refine V_aload_n rfl rfl rfl ?_
                    refine V_gi 13 rfl rfl rfl ?_
                    -- at 83: .ifCond .ne 15
                    rw [hs3.2.1]
                    refine V_if_ne rfl (fun hu => ?_) (fun hu => ?_)
                    · exact absurd rfl hu
                    · have hbt : bt (dv T p) (dv T (p + 1)) < 31 := by
                        have := bt_lt' hn hz hx hy
                        have := tri_le hn
                        omega
                      refine V_iload_n rfl rfl ?_
                      refine V_ic (v := nI 1) rfl rfl ?_
                      refine V_iload rfl rfl ?_
                      refine V_iload rfl rfl ?_
                      -- at 92: .invokestatic 79
                      refine V_cS rfl rfl rfl rfl (m_bit hz (by omega) (by omega)) ?_
                      refine V_ishl rfl ?_
                      -- at 96: .ior
                      rw [nI_2p _ hbt]
                      refine V_ior rfl ?_
                      -- at 97: .istore_n 2
                      rw [nI_or]
                      refine V_istore_n (L' := [_, _, _, _, _, _]) rfl rfl rfl ?_
                      refine V_goto rfl ?_
                      -- at 2: .aload_n 0
                      rw [← eq] at hs3
                      exact ih _ _ _ _ _ h3 (by omega) hs3 (or_lt hn hC hz hx hy) hX g3
                  · have hw := bI_nz.mp hw
                    exact fl _ _ _ (by unfold prOk; exact decide_eq_false (fun z => by rw [hw] at z; exact Bool.noConfusion z.2.2.2))
  show V S (dep + 4) 186 0 [.ref 188, .int (nI n), .null, .null, .null, .null] [] h _
  refine V_ic (v := nI 0) rfl rfl ?_
  refine V_istore_n (L' := [_, _, _, _, _, _]) rfl rfl rfl ?_
  -- at 2: .aload_n 0
  exact lp f q 0 _ _ _ h hf hs (Nat.two_pow_pos _) hX MF.rf
theorem m_srtG {S : mScr} {dep n : Nat} {h : Hp} (hn : n ≤ 7) : Cal S dep 200 [.ref 195, .int (nI n)] h (fun q h' => q = none ∧ Fr [195] h h') := by
  have hsh : shA 195 0 7 = true := rfl
  have hb7 : Nat.blt 7 2147483648 = true := rfl
  show V S dep 200 0 [.ref 195, .int (nI n), .null, .null, .null] [] h _
  refine V_ic (v := nI 1) rfl rfl ?_
  refine V_istore_n (L' := [_, _, _, _, _]) rfl rfl rfl ?_
  -- at 2: .iload_n 2
  have lp := loopUp (P := fun i => 1 ≤ i → ∀ h1 v3 v4, Fr [195] h h1 → V S dep 200 2 [.ref 195, .int (nI n), .int (nI i), v3, v4] [] h1 (fun q h' => q = none ∧ Fr [195] h h')) (max 1 n) ?_ ?_ 1 (by omega) (Nat.le_refl _)
  · exact lp h _ _ Fr.rf
  · intro _ h1 v3 v4 f1
    refine V_iload_n rfl rfl ?_
    refine V_iload_n rfl rfl ?_
    -- at 4: .if_icmp .ge 52
    refine V_icmp_ge rfl (fun hc => ?_) (fun hc => ?_)
    · refine V_return rfl rfl ?_
      exact ⟨rfl, f1⟩
    · exact absurd (nI_le (show n ≤ max 1 n by omega) (by omega)) hc
  · intro i hi ih hi1 h1 v3 v4 f1
    refine V_iload_n rfl rfl ?_
    refine V_iload_n rfl rfl ?_
    -- at 4: .if_icmp .ge 52
    refine V_icmp_ge rfl (fun hc => ?_) (fun hc => ?_)
    · exact absurd hc (nI_ge (by omega) (by omega))
    · refine V_aload_n rfl rfl (by first | assumption | rfl) ?_
      refine V_iload_n rfl rfl ?_
      refine V_al _ rfl (by assumption) (by first | with_reducible rfl | assumption | exact nI_sub (by omega) | exact nI_add _ _) (by first | omega | assumption) (by first | rfl | assumption) ?_
      -- at 10: .istore_n 3
      obtain ⟨x, hx⟩ : ∃ x, x = h1.1 195 i := ⟨_, rfl⟩
      rw [← hx]
      refine V_istore_n (L' := [.ref 195, .int (nI n), .int (nI i), .int x, v4]) rfl rfl rfl ?_
      refine V_iload_n rfl rfl ?_
      refine V_istore (L' := [.ref 195, .int (nI n), .int (nI i), .int x, .int (nI i)]) rfl rfl rfl ?_
      have fin : ∀ t h2, t ≤ i → Fr [195] h h2 → V S dep 200 45 [.ref 195, .int (nI n), .int (nI i), .int x, .int (nI t)] [] h2 (fun q h' => q = none ∧ Fr [195] h h') := by
        intro t h2 ht f2
        refine V_aload_n rfl rfl (by first | assumption | rfl) ?_
        refine V_iload rfl rfl ?_
        refine V_iload_n rfl rfl ?_
        refine V_as _ rfl (by assumption) (by first | with_reducible rfl | assumption | exact nI_sub (by omega) | exact nI_add _ _) (by first | omega | assumption) (by first | rfl | assumption) ?_
        refine V_iinc (L' := [_, _, _, _, _]) rfl rfl rfl ?_
        refine V_goto rfl ?_
        -- at 2: .iload_n 2
        rw [show Int32.ofInt 1 = nI 1 from rfl, nI_add]
        exact ih (by omega) _ _ _ (f2.tr (Fr.w (by simp)))
      have lq : ∀ t, t ≤ i → ∀ h2, Fr [195] h h2 → V S dep 200 14 [.ref 195, .int (nI n), .int (nI i), .int x, .int (nI t)] [] h2 (fun q h' => q = none ∧ Fr [195] h h') := by
        intro t
        induction t with
        | zero =>
          intro _ h2 f2
          refine V_iload rfl rfl ?_
          -- at 16: .ifCond .le 29
          refine V_if_le rfl (fun he => ?_) (fun he => ?_)
          · exact fin 0 h2 (by omega) f2
          · exact absurd (by decide) he
        | succ t iht =>
          intro ht h2 f2
          refine V_iload rfl rfl ?_
          -- at 16: .ifCond .le 29
          refine V_if_le rfl (fun he => ?_) (fun he => ?_)
          · exact fin (t + 1) h2 ht f2
          · refine V_aload_n rfl rfl (by first | assumption | rfl) ?_
            refine V_iload rfl rfl ?_
            refine V_ic (v := nI 1) rfl rfl ?_
            refine V_isub rfl ?_
            -- at 24: .iaload
            rw [nI_sub (by omega), show t + 1 - 1 = t by omega]
            refine V_al _ rfl (by assumption) (by first | with_reducible rfl | assumption | exact nI_sub (by omega) | exact nI_add _ _) (by first | omega | assumption) (by first | rfl | assumption) ?_
            refine V_iload_n rfl rfl ?_
            -- at 26: .if_icmp .le 19
            refine V_icmp_le rfl (fun hg => ?_) (fun hg => ?_)
            · exact fin (t + 1) h2 ht f2
            · refine V_aload_n rfl rfl (by first | assumption | rfl) ?_
              refine V_iload rfl rfl ?_
              refine V_aload_n rfl rfl (by first | assumption | rfl) ?_
              refine V_iload rfl rfl ?_
              refine V_ic (v := nI 1) rfl rfl ?_
              refine V_isub rfl ?_
              -- at 37: .iaload
              rw [nI_sub (by omega), show t + 1 - 1 = t by omega]
              refine V_al _ rfl (by assumption) (by first | with_reducible rfl | assumption | exact nI_sub (by omega) | exact nI_add _ _) (by first | omega | assumption) (by first | rfl | assumption) ?_
              refine V_as _ rfl (by assumption) (by first | with_reducible rfl | assumption | exact nI_sub (by omega) | exact nI_add _ _) (by first | omega | assumption) (by first | rfl | assumption) ?_
              refine V_iinc (L' := [_, _, _, _, _]) rfl rfl rfl ?_
              refine V_goto rfl ?_
              -- at 14: .iload 4
              rw [show nI (t + 1) + Int32.ofInt (-1) = nI t from by rw [show nI (t + 1) = nI t + nI 1 from (nI_add t 1).symm, Int32.add_assoc]; rw [show nI 1 + Int32.ofInt (-1) = 0 from rfl, Int32.add_zero]]
              exact iht (by omega) _ (f2.tr (Fr.w (by simp)))
      exact lq i (Nat.le_refl _) h1 f1
theorem m_laysG {S : mScr} {dep d n : Nat} {h : Hp} (hd : d < 3) (hn : n ≤ 7) : Cal S (dep + 1) 201 [.ref 188, .int (nI d), .int (nI n)] h (fun q h' => q = none ∧ MF [] [189, 195] h h') := by
  show V S (dep + 1) 201 0 [.ref 188, .int (nI d), .int (nI n), .null] [] h _
  refine V_aload_n rfl rfl rfl ?_
  refine V_getR (r := 195) rfl rfl ?_
  refine V_iload_n rfl rfl ?_
  -- at 5: .invokestatic 212
  refine V_callS rfl rfl rfl rfl (m_srtG hn) ?_
  rintro _ h1 ⟨rfl, f1⟩
  show V S (dep + 1) 201 8 [.ref 188, .int (nI d), .int (nI n), .null] [] h1 _
  have f1 : MF [] [189, 195] h h1 := MF.of f1 (by simp) (by decide)
  refine V_aload_n rfl rfl rfl ?_
  refine V_getR (r := 189) rfl rfl ?_
  refine V_bi (v := nI 12) rfl rfl ?_
  refine V_bi (v := nI 8) rfl rfl ?_
  refine V_iload_n rfl rfl ?_
  refine V_imul rfl ?_
  refine V_iadd rfl ?_
  -- at 19: .iload_n 2
  rw [nI_mul, nI_add]
  refine V_iload_n rfl rfl ?_
  refine V_as 36 rfl rfl (by first | with_reducible rfl | assumption | exact nI_sub (by omega) | exact nI_add _ _) (by first | omega | assumption) rfl ?_
  refine V_ic (v := nI 0) rfl rfl ?_
  refine V_istore_n (L' := [_, _, _, _]) rfl rfl rfl ?_
  -- at 23: .iload_n 3
  have lp := loopUp (P := fun k => ∀ h2, MF [] [189, 195] h h2 → V S (dep + 1) 201 23 [.ref 188, .int (nI d), .int (nI n), .int (nI k)] [] h2 (fun q h' => q = none ∧ MF [] [189, 195] h h')) 7 ?_ ?_ 0 (Nat.zero_le _)
  · exact lp _ (f1.tr (MF.w (by simp) (by decide)))
  · intro h2 f2
    refine V_iload_n rfl rfl ?_
    refine V_bi (v := nI 7) rfl rfl ?_
    -- at 26: .if_icmp .ge 40
    refine V_icmp_ge rfl (fun hc => ?_) (fun hc => ?_)
    · refine V_return rfl rfl ?_
      exact ⟨rfl, f2⟩
    · exact absurd (by decide) hc
  · intro k hk ih h2 f2
    have key : ∀ v, V S (dep + 1) 201 59 [.ref 188, .int (nI d), .int (nI n), .int (nI k)] [.int v, .int (nI (12 + 8 * d + 1 + k)), .ref 189] h2 (fun q h' => q = none ∧ MF [] [189, 195] h h') := by
      intro v
      refine V_as 36 rfl rfl (by first | with_reducible rfl | assumption | exact nI_sub (by omega) | exact nI_add _ _) (by first | omega | assumption) rfl ?_
      refine V_iinc (L' := [_, _, _, _]) rfl rfl rfl ?_
      refine V_goto rfl ?_
      -- at 23: .iload_n 3
      rw [show Int32.ofInt 1 = nI 1 from rfl, nI_add]
      exact ih _ (f2.tr (MF.w (by simp) (by decide)))
    refine V_iload_n rfl rfl ?_
    refine V_bi (v := nI 7) rfl rfl ?_
    -- at 26: .if_icmp .ge 40
    refine V_icmp_ge rfl (fun hc => ?_) (fun hc => ?_)
    · exact absurd hc (nI_ge hk (by decide))
    · refine V_aload_n rfl rfl rfl ?_
      refine V_getR (r := 189) rfl rfl ?_
      refine V_bi (v := nI 12) rfl rfl ?_
      refine V_bi (v := nI 8) rfl rfl ?_
      refine V_iload_n rfl rfl ?_
      refine V_imul rfl ?_
      refine V_iadd rfl ?_
      refine V_ic (v := nI 1) rfl rfl ?_
      refine V_iadd rfl ?_
      refine V_iload_n rfl rfl ?_
      refine V_iadd rfl ?_
      -- at 44: .iload_n 3
      rw [nI_mul, nI_add, nI_add, nI_add]
      refine V_iload_n rfl rfl ?_
      refine V_iload_n rfl rfl ?_
      -- at 46: .if_icmp .ge 12
      refine V_icmp_ge rfl (fun he => ?_) (fun he => ?_)
      · refine V_ic (v := nI 0) rfl rfl ?_
        -- at 59: .iastore
        exact key _
      · have he := nI_ngt (by omega) (by omega) he
        refine V_aload_n rfl rfl rfl ?_
        refine V_getR (r := 195) rfl rfl ?_
        refine V_iload_n rfl rfl ?_
        refine V_al 7 rfl rfl (by first | with_reducible rfl | assumption | exact nI_sub (by omega) | exact nI_add _ _) (by first | omega | assumption) rfl ?_
        refine V_goto rfl ?_
        -- at 59: .iastore
        exact key _
