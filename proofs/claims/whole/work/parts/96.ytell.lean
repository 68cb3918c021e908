/-! the reference: tell -/
theorem fin_00 : fin s00 = s00 := rfl
theorem enc_00 : ∀ k, k < 36 → enc s00 k = nI 0 := by decide +kernel
def zF : List Nat := [3, 4, 6, 7, 10, 11, 12, 13, 14, 15]
def zA : List Nat := [189, 190, 192, 193, 195]
theorem y_tell {S : mScr} {dep : Nat} {x : Int32} {st : St} {h : Hp} (hb : BT st.2.2.1) (hi : InvM h st) : Cal S (dep + 20) 189 [.ref 188, .int x] h (MR h (aTell st x)) := by
  obtain ⟨hi0, fm0⟩ := hi.thr
  obtain ⟨h0, hh0⟩ : ∃ h0, h0 = wI h 188 4 (nI 0) := ⟨_, rfl⟩
  rw [← hh0] at hi0 fm0
  obtain ⟨i1, i2, i3, i4, i5, i6, i7, i8, i9, i10⟩ := id hi0
  obtain ⟨t, ht⟩ : ∃ t, t = st.2.2.2.1 := ⟨_, rfl⟩
  rw [← ht] at i5 i6
  show V S (dep + 20) 189 0 [.ref 188, .int x, .null, .null] [] h _
  refine V_aload_n rfl rfl rfl ?_
  refine V_ic (v := nI 0) rfl rfl ?_
  refine V_pi 4 rfl rfl rfl rfl ?_
  -- at 5: .iload_n 1
  rw [← hh0]
  refine V_iload_n rfl rfl ?_
  refine V_i2l rfl ?_
  refine V_lc (v := 0) rfl rfl ?_
  refine V_aload_n rfl rfl rfl ?_
  refine V_gi 10 rfl rfl rfl ?_
  refine V_i2l rfl ?_
  -- at 13: .invokestatic 134
  rw [i5]
  refine V_cS rfl rfl rfl rfl (m_isIn) ?_
  rw [Int32.toInt_toInt64, Int32.toInt_toInt64, nI_toNat (by omega), show (0 : Int64).toInt = 0 from rfl]
  refine V_if_ne rfl (fun hc => ?_) (fun hc => ?_)
  · have hc := of_decide_eq_true (bI_nz.mp hc)
    obtain ⟨N, hN⟩ : ∃ N, N = x.toInt.toNat := ⟨_, rfl⟩
    have hx : x = nI N := by
      apply Int32.toInt_inj.mp
      rw [nI_toNat (by omega)]
      omega
    have hN6 : N ≤ 600 := by omega
    have e : ix (t + 1) x = some N := by unfold ix; rw [if_pos (by omega), ← hN]
    obtain ⟨T, hT⟩ : ∃ T, T = st.2.2.1 := ⟨_, rfl⟩
    rw [← hT] at i4 hb
    have ev : aTell st x = match lnsP T N (N + 1) 0 s00 0 with
        | .inl (k, p) => (Int32.ofInt (-30) - nI k, (st.1, st.2.1, T, 0, k, nI p))
        | .inr ((s, m), _) => (nI m, (fin s, [], T, 0, 0, -1)) := by unfold aTell; rw [← ht, ← hT, e]; rfl
    rw [ev, hx]
    obtain ⟨X, hX⟩ : ∃ X, X = lnsP T N (N + 1) 0 s00 0 := ⟨_, rfl⟩
    rw [← hX]
    obtain ⟨Q, hQ⟩ : ∃ Q, Q = MR h (match X with
        | .inl (k, p) => (Int32.ofInt (-30) - nI k, (st.1, st.2.1, T, 0, k, nI p))
        | .inr ((s, m), _) => (nI m, (fin s, [], T, 0, 0, -1))) := ⟨_, rfl⟩
    rw [← hQ]
    refine V_aload_n rfl rfl rfl ?_
    refine V_ic (v := nI 0) rfl rfl ?_
    refine V_pi 10 rfl rfl rfl rfl ?_
    refine V_aload_n rfl rfl rfl ?_
    refine V_iload_n rfl rfl ?_
    refine V_pi 11 rfl rfl rfl rfl ?_
    refine V_aload_n rfl rfl rfl ?_
    refine V_ic (v := nI 0) rfl rfl ?_
    refine V_pi 12 rfl rfl rfl rfl ?_
    refine V_aload_n rfl rfl rfl ?_
    refine V_ic (v := nI 0) rfl rfl ?_
    refine V_pi 13 rfl rfl rfl rfl ?_
    refine V_aload_n rfl rfl rfl ?_
    refine V_ic (v := -1) rfl rfl ?_
    refine V_pi 14 rfl rfl rfl rfl ?_
    refine V_ic (v := nI 0) rfl rfl ?_
    refine V_istore_n (L' := [_, _, _, _]) rfl rfl rfl ?_
    -- at 49: .iload_n 2
    obtain ⟨h1, hh1⟩ : ∃ h1, h1 = wI (wI (wI (wI (wI h0 188 10 (nI 0)) 188 11 (nI N)) 188 12 (nI 0)) 188 13 (nI 0)) 188 14 (-1) := ⟨_, rfl⟩
    rw [← hh1]
    have f1 : MF zF zA h0 h1 := by rw [hh1]; exact ((((MF.f (by decide)).tr (MF.f (by decide))).tr (MF.f (by decide))).tr (MF.f (by decide))).tr (MF.f (by decide))
    have e10 : h1.1 188 10 = nI 0 := by rw [hh1, wI_ne (by omega), wI_ne (by omega), wI_ne (by omega), wI_ne (by omega), wI_same]
    have e3 : h1.1 188 3 = h0.1 188 3 := by rw [hh1, wI_ne (by omega), wI_ne (by omega), wI_ne (by omega), wI_ne (by omega), wI_ne (by omega)]
    have hs1 : RM h1 T N 0 := by
      refine ⟨⟨?_, ?_, fun i hi => ?_, Nat.zero_le _, hN6⟩, ?_, ?_⟩
      · rw [hh1, wI_ne (by omega), wI_ne (by omega), wI_ne (by omega), wI_same]
      · rw [hh1, wI_ne (by omega), wI_ne (by omega), wI_same]
      · rw [f1.2.1 194 (by decide) (by decide)]; exact i4 i hi
      · rw [hh1, wI_ne (by omega), wI_same]
      · rw [hh1, wI_same]
    have o1 : h1.1 189 = h0.1 189 := by rw [hh1, wI_oth (by decide), wI_oth (by decide), wI_oth (by decide), wI_oth (by decide), wI_oth (by decide)]
    have lp := loopUp (P := fun c => ∀ h2, MF [] [189, 190] h1 h2 → (∀ k, k < 36 → h2.1 189 k = if k < c then nI 0 else enc st.1 k) → (∀ k, k < c → h2.1 190 k = enc st.1 k) → V S (dep + 20) 189 49 [.ref 188, .int (nI N), .int (nI c), .null] [] h2 Q) 36 ?_ ?_ 0 (Nat.zero_le _)
    · refine lp h1 MF.rf (fun k hk => ?_) (fun k hk => by omega)
      rw [if_neg (by omega), o1]
      exact i1 k hk
    · intro h2 f2 s2 v2
      have hs2 := hs1.mf f2 (by simp) (by simp) (by simp) (by simp) (by simp)
      have hM2 : MSt h2 (fin s00) := fun k hk => by rw [fin_00, enc_00 k hk, s2 k hk, if_pos hk]
      have k2 : h2.1 188 10 = nI 0 ∧ h2.1 188 3 = h0.1 188 3 := ⟨by rw [f2.2.2 10 (by simp)]; exact e10, by rw [f2.2.2 3 (by simp)]; exact e3⟩
      have g2 : MF zF zA h0 h2 := f1.tr (f2.mono (by simp) (by decide))
      refine V_iload_n rfl rfl ?_
      refine V_bi (v := nI 36) rfl rfl ?_
      -- at 52: .if_icmp .ge 28
      refine V_icmp_ge rfl (fun hd => ?_) (fun hd => ?_)
      · refine V_ic (v := nI 0) rfl rfl ?_
        refine V_istore_n (L' := [_, _, _, _]) rfl rfl rfl ?_
        -- at 82: .aload_n 0
        have inv : ∀ h5 k z, MSt h5 st.1 → k ≤ 4 → h5.1 188 13 = nI k → h5.1 188 14 = z → h5.1 188 10 = nI 0 → h5.1 188 3 = h0.1 188 3 → MF zF zA h0 h5 → InvM h5 (st.1, st.2.1, T, 0, k, z) ∧ FM h h5 := by
          intro h5 k z hM5 hk4 e1 e2 e3 e4 f5
          refine ⟨⟨hM5, i2, i3.eq e4 (f5.2.1 191 (by decide) (by decide)), fun i hi => by rw [f5.2.1 194 (by decide) (by decide)]; exact i4 i hi, e3, Nat.zero_le _, e1, hk4, e2, i10.eq (f5.2.2 24 (by decide)) (f5.2.2 23 (by decide)) (f5.2.1 198 (by decide) (by decide)) (f5.2.1 199 (by decide) (by decide))⟩, fm0.tr (f5.fm (by decide))⟩
        have bad : ∀ k p m h5, X = .inl (k, p) → WB h5 N k p → (∀ k, k < 36 → h5.1 190 k = enc st.1 k) → h5.1 188 10 = nI 0 → h5.1 188 3 = h0.1 188 3 → MF zF zA h0 h5 → V S (dep + 20) 189 82 [.ref 188, .int (nI N), .int m, .null] [] h5 Q := by
          intro k p m h5 eX hB v5 t5 a5 g5
          have hk0 := hB.2.2.1
          have hk4 := hB.2.2.2.1
          have nz : ¬ nI k = nI 0 := fun z => by have := nI_inj (b := 0) (by omega) (by omega) z; omega
          refine V_aload_n rfl rfl rfl ?_
          refine V_gi 13 rfl rfl rfl ?_
          -- at 86: .ifCond .ne 21
          rw [hB.1]
          refine V_if_ne rfl (fun hu => ?_) (fun hu => ?_)
          · refine V_aload_n rfl rfl rfl ?_
            refine V_gi 13 rfl rfl rfl ?_
            -- at 111: .ifCond .ne 10
            rw [hB.1]
            refine V_if_ne rfl (fun hv => ?_) (fun hv => ?_)
            · refine V_ic (v := nI 0) rfl rfl ?_
              refine V_istore_n (L' := [_, _, _, _]) rfl rfl rfl ?_
              -- at 123: .iload_n 3
              have lr := loopUp (P := fun c => ∀ h6, MF [] [189] h5 h6 → (∀ k, k < c → h6.1 189 k = enc st.1 k) → V S (dep + 20) 189 123 [.ref 188, .int (nI N), .int m, .int (nI c)] [] h6 Q) 36 ?_ ?_ 0 (Nat.zero_le _)
              · exact lr h5 MF.rf (fun k hk => by omega)
              · intro h6 f6 s6
                refine V_iload_n rfl rfl ?_
                refine V_bi (v := nI 36) rfl rfl ?_
                -- at 126: .if_icmp .ge 21
                refine V_icmp_ge rfl (fun hw => ?_) (fun hw => ?_)
                · refine V_bi (v := -30) rfl rfl ?_
                  refine V_aload_n rfl rfl rfl ?_
                  refine V_gi 13 rfl rfl rfl ?_
                  -- at 153: .isub
                  rw [f6.2.2 13 (by simp), hB.1]
                  refine V_isub rfl ?_
                  -- at 154: .ireturn
                  refine V_iret rfl rfl ?_
                  rw [hQ, eX]
                  have := inv h6 k (nI p) s6 hk4 (by rw [f6.2.2 13 (by simp)]; exact hB.1) (by rw [f6.2.2 14 (by simp)]; exact hB.2.1) (by rw [f6.2.2 10 (by simp)]; exact t5) (by rw [f6.2.2 3 (by simp)]; exact a5) (g5.tr (f6.mono (by simp) (by decide)))
                  exact ⟨rfl, this.1, this.2⟩
                · exact absurd (by decide) hw
              · intro c hc36 ih h6 f6 s6
                refine V_iload_n rfl rfl ?_
                refine V_bi (v := nI 36) rfl rfl ?_
                -- at 126: .if_icmp .ge 21
                refine V_icmp_ge rfl (fun hw => ?_) (fun hw => ?_)
                · exact absurd (show nI 36 ≤ nI c from hw) (nI_ge hc36 (by omega))
                · refine V_aload_n rfl rfl rfl ?_
                  refine V_getR (r := 189) rfl rfl ?_
                  refine V_iload_n rfl rfl ?_
                  refine V_aload_n rfl rfl rfl ?_
                  refine V_getR (r := 190) rfl rfl ?_
                  refine V_iload_n rfl rfl ?_
                  refine V_al 36 rfl rfl (by first | with_reducible rfl | assumption | exact nI_sub (by omega) | exact nI_add _ _) (by first | omega | assumption) rfl ?_
                  refine V_as 36 rfl rfl (by first | with_reducible rfl | assumption | exact nI_sub (by omega) | exact nI_add _ _) (by first | omega | assumption) rfl ?_
                  refine V_iinc (L' := [_, _, _, _]) rfl rfl rfl ?_
                  refine V_goto rfl ?_
                  -- at 123: .iload_n 3
                  rw [show Int32.ofInt 1 = nI 1 from rfl, nI_add]
                  refine ih _ (f6.tr (MF.w (by simp) (by decide))) (fun j hj => ?_)
                  by_cases z : j = c
                  · rw [z, wI_same, f6.2.1 190 (by decide) (by simp)]; exact v5 c hc36
                  · rw [wI_ne (by omega)]; exact s6 j (by omega)
            · exact absurd (Decidable.of_not_not hv) nz
          · exact absurd (Decidable.of_not_not hu) nz
        have ln : ∀ f m s q h5, N < q + f → RWf s → RM h5 T N q → MSt h5 (fin s) → X = lnsP T N f m s q → (∀ k, k < 36 → h5.1 190 k = enc st.1 k) → h5.1 188 10 = nI 0 → h5.1 188 3 = h0.1 188 3 → MF zF zA h0 h5 → V S (dep + 20) 189 82 [.ref 188, .int (nI N), .int (nI m), .null] [] h5 Q := by
          intro f
          induction f with
          | zero =>
            intro m s q h5 hf _ hs5
            have := hs5.1.2.2.2.1
            omega
          | succ f ih =>
            intro m s q h5 hf hw5 hs5 hM5 hX v5 t5 a5 g5
            have hle := sk_le (T := T) hs5.1.2.2.2.1
            rw [lnsP] at hX
            refine V_aload_n rfl rfl rfl ?_
            refine V_gi 13 rfl rfl rfl ?_
            -- at 86: .ifCond .ne 21
            rw [hs5.2.1]
            refine V_if_ne rfl (fun hu => ?_) (fun hu => ?_)
            · exact absurd rfl hu
            · refine V_aload_n rfl rfl rfl ?_
              -- at 90: .invokevirtual 146
              refine V_callV rfl rfl rfl rfl rfl (m_peekR hs5) ?_
              rintro _ h6 ⟨rfl, hs6, f6⟩
              show V S (dep + 20) 189 93 [.ref 188, .int (nI N), .int (nI m), .null] [.int (pkv T N (sk T N q))] h6 _
              have hM6 := hM5.mf f6 (by simp)
              have g6 : MF zF zA h0 h6 := g5.tr (f6.mono (by decide) (by simp))
              have v6 : ∀ k, k < 36 → h6.1 190 k = enc st.1 k := fun k hk => by rw [f6.2.1 190 (by decide) (by simp)]; exact v5 k hk
              have t6 : h6.1 188 10 = nI 0 := by rw [f6.2.2 10 (by simp)]; exact t5
              have a6 : h6.1 188 3 = h0.1 188 3 := by rw [f6.2.2 3 (by simp)]; exact a5
              refine V_ic (v := -1) rfl rfl ?_
              -- at 94: .if_icmp .eq 13
              refine V_icmp_eq rfl (fun hv => ?_) (fun hv => ?_)
              · have hv := (pkv_n hb hN6).mp hv
                rw [if_neg hv] at hX
                refine V_aload_n rfl rfl rfl ?_
                refine V_gi 13 rfl rfl rfl ?_
                -- at 111: .ifCond .ne 10
                rw [hs6.2.1]
                refine V_if_ne rfl (fun hw => ?_) (fun hw => ?_)
                · exact absurd rfl hw
                · refine V_aload_n rfl rfl rfl ?_
                  refine V_ic (v := nI 0) rfl rfl ?_
                  refine V_pi 3 rfl rfl rfl rfl ?_
                  refine V_iload_n rfl rfl ?_
                  -- at 120: .ireturn
                  refine V_iret rfl rfl ?_
                  rw [hQ, hX]
                  obtain ⟨h7, hh7⟩ : ∃ h7, h7 = wI h6 188 3 (nI 0) := ⟨_, rfl⟩
                  rw [← hh7]
                  have f7 : MF [3] [] h6 h7 := by rw [hh7]; exact MF.f (by simp)
                  have g7 : MF zF zA h0 h7 := g6.tr (f7.mono (by decide) (by simp))
                  refine ⟨rfl, ⟨hM6.mf f7 (by simp), hw5.fin, ⟨by simp, by simp, by rw [hh7, wI_same]; rfl, fun j hj => by simp at hj⟩, fun i hi => by rw [g7.2.1 194 (by decide) (by decide)]; exact i4 i hi, by rw [f7.2.2 10 (by simp)]; exact t6, Nat.zero_le _, by rw [f7.2.2 13 (by simp)]; exact hs6.2.1, Nat.zero_le _, by rw [f7.2.2 14 (by simp)]; exact hs6.2.2, i10.eq (g7.2.2 24 (by decide)) (g7.2.2 23 (by decide)) (g7.2.1 198 (by decide) (by decide)) (g7.2.1 199 (by decide) (by decide))⟩, fm0.tr (g7.fm (by decide))⟩
              · have hv : sk T N q < N := Decidable.of_not_not (fun w => hv ((pkv_n hb hN6).mpr w))
                rw [if_pos hv] at hX
                have el : linP T N s (sk T N q) = linP T N s q := by unfold linP; rw [sk_sk]
                refine V_aload_n rfl rfl rfl ?_
                -- at 98: .invokevirtual 193
                refine V_callV rfl rfl rfl rfl rfl (m_line hb hs6 hM6) ?_
                rintro _ h7 ⟨rfl, hr, f7⟩
                show V S (dep + 20) 189 101 [.ref 188, .int (nI N), .int (nI m), .null] [] h7 _
                rw [el] at hr
                have g7 : MF zF zA h0 h7 := g6.tr (f7.mono (by decide) (by decide))
                have v7 : ∀ k, k < 36 → h7.1 190 k = enc st.1 k := fun k hk => by rw [f7.2.1 190 (by decide) (by decide)]; exact v6 k hk
                have t7 : h7.1 188 10 = nI 0 := by rw [f7.2.2 10 (by decide)]; exact t6
                have a7 : h7.1 188 3 = h0.1 188 3 := by rw [f7.2.2 3 (by decide)]; exact a6
                refine V_iinc (L' := [_, _, _, _]) rfl rfl rfl ?_
                refine V_goto rfl ?_
                -- at 82: .aload_n 0
                rw [show Int32.ofInt 1 = nI 1 from rfl, nI_add]
                rcases hr with ⟨k, p, e7, hB⟩ | ⟨s', q', e7, hs7, hM7⟩
                · rw [e7] at hX
                  exact bad k p _ h7 hX hB v7 t7 a7 g7
                · rw [e7] at hX
                  have hk := lin_ok hw5 hs5.1.2.2.2.1 e7
                  exact ih (m + 1) s' q' h7 (by omega) hk.1 hs7 hM7 hX v7 t7 a7 g7
        have w00 : RWf s00 := ⟨fun i _ => ⟨Nat.zero_le _, Nat.two_pow_pos _⟩, fun d _ => Or.inl rfl⟩
        exact ln (N + 1) 0 s00 0 h2 (by omega) w00 hs2 hM2 hX v2 k2.1 k2.2 g2
      · exact absurd (by decide) hd
    · intro c hc36 ih h2 f2 s2 v2
      have sc := s2 c hc36
      rw [if_neg (by omega)] at sc
      refine V_iload_n rfl rfl ?_
      refine V_bi (v := nI 36) rfl rfl ?_
      -- at 52: .if_icmp .ge 28
      refine V_icmp_ge rfl (fun hd => ?_) (fun hd => ?_)
      · exact absurd (show nI 36 ≤ nI c from hd) (nI_ge hc36 (by omega))
      · refine V_aload_n rfl rfl rfl ?_
        refine V_getR (r := 190) rfl rfl ?_
        refine V_iload_n rfl rfl ?_
        refine V_aload_n rfl rfl rfl ?_
        refine V_getR (r := 189) rfl rfl ?_
        refine V_iload_n rfl rfl ?_
        refine V_al 36 rfl rfl (by first | with_reducible rfl | assumption | exact nI_sub (by omega) | exact nI_add _ _) (by first | omega | assumption) rfl ?_
        -- at 66: .iastore
        rw [sc]
        refine V_as 36 rfl rfl (by first | with_reducible rfl | assumption | exact nI_sub (by omega) | exact nI_add _ _) (by first | omega | assumption) rfl ?_
        refine V_aload_n rfl rfl rfl ?_
        refine V_getR (r := 189) rfl rfl ?_
        refine V_iload_n rfl rfl ?_
        refine V_ic (v := nI 0) rfl rfl ?_
        refine V_as 36 rfl rfl (by first | with_reducible rfl | assumption | exact nI_sub (by omega) | exact nI_add _ _) (by first | omega | assumption) rfl ?_
        refine V_iinc (L' := [_, _, _, _]) rfl rfl rfl ?_
        refine V_goto rfl ?_
        -- at 49: .iload_n 2
        rw [show Int32.ofInt 1 = nI 1 from rfl, nI_add]
        refine ih _ ((f2.tr (MF.w (by simp) (by decide))).tr (MF.w (by simp) (by decide))) (fun j hj => ?_) (fun j hj => ?_)
        · by_cases z : j = c
          · rw [z, wI_same, if_pos (by omega)]
          · rw [wI_ne (by omega), wI_oth (by decide), s2 j hj]
            by_cases y : j < c
            · rw [if_pos y, if_pos (by omega)]
            · rw [if_neg y, if_neg (by omega)]
        · rw [wI_oth (by decide)]
          by_cases z : j = c
          · rw [z, wI_same]
          · rw [wI_ne (by omega)]; exact v2 j (by omega)
  · have hc := of_decide_eq_false (bI_z.mp (Decidable.of_not_not hc))
    have ev : aTell st x = (-3, st) := by unfold aTell; rw [← ht, show ix (t + 1) x = none from by unfold ix; rw [if_neg (by omega)]]
    rw [ev]
    refine V_bi (v := -3) rfl rfl ?_
    -- at 21: .ireturn
    refine V_iret rfl rfl ?_
    exact mq0 hi0 fm0
