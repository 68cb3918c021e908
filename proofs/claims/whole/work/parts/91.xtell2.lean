/-! the class: the whole text -/
theorem c_read {S : mScr} {dep N : Nat} {T : Nat → Int32} {h : Hp} (hT : ∀ i, i < 600 → h.1 3 i = T i) (hN6 : N ≤ 600) : Cal S (dep + 11) 104 [.ref 147, .int (nI N)] h (fun r h' => r = none ∧ ((∃ k p, lnsP T N (N + 1) 0 s00 0 = .inl (k, p) ∧ BD h' N k p) ∨ (∃ s m q, lnsP T N (N + 1) 0 s00 0 = .inr ((s, m), q) ∧ RSl h' (fin s) ∧ RWf s ∧ h'.1 147 2 = nI 0 ∧ h'.1 147 3 = -1 ∧ h'.1 147 4 = nI m)) ∧ Fr rB h h') := by
  obtain ⟨X, hX⟩ : ∃ X, X = lnsP T N (N + 1) 0 s00 0 := ⟨_, rfl⟩
  rw [← hX]
  obtain ⟨Q, hQ⟩ : ∃ Q : Option Value → Hp → Prop, Q = (fun r h' => r = none ∧ ((∃ k p, X = .inl (k, p) ∧ BD h' N k p) ∨ (∃ s m q, X = .inr ((s, m), q) ∧ RSl h' (fin s) ∧ RWf s ∧ h'.1 147 2 = nI 0 ∧ h'.1 147 3 = -1 ∧ h'.1 147 4 = nI m)) ∧ Fr rB h h') := ⟨_, rfl⟩
  rw [← hQ]
  have toB : ∀ {h1 h2 : Hp}, Fr rA h1 h2 → Fr rB h1 h2 := fun f => f.mono (fun a ha => by unfold rB; simp [ha])
  show V S (dep + 11) 104 0 [.ref 147, .int (nI N), .null] [] h _
  refine V_aload_n rfl rfl rfl ?_
  refine V_iload_n rfl rfl ?_
  -- at 2: .invokevirtual 59
  refine V_callV rfl rfl rfl rfl rfl (c_begin hT hN6) ?_
  rintro _ h1 ⟨rfl, hR1, hl1, f1⟩
  show V S (dep + 11) 104 5 [.ref 147, .int (nI N), .null] [] h1 _
  refine V_ic (v := nI 0) rfl rfl ?_
  refine V_istore_n (L' := [_, _, _]) rfl rfl rfl ?_
  -- at 7: .iload_n 2
  have lp : ∀ f m s q h2, N < q + f → m ≤ q → RS h2 T N m q → RSl h2 s → RWf s → X = lnsP T N f m s q → Fr rB h h2 → V S (dep + 11) 104 7 [.ref 147, .int (nI N), .int (nI m)] [] h2 Q := by
    intro f
    induction f with
    | zero =>
      intro m s q h2 hf _ hR
      have := hR.2.2.2
      omega
    | succ f ih =>
      intro m s q h2 hf hm hR hl hw hX f2
      have hle := hR.le
      have hk := kd_le T N (sk T N q)
      refine V_iload_n rfl rfl ?_
      refine V_aload_n rfl rfl rfl ?_
      refine V_gi 8 rfl rfl rfl ?_
      -- at 12: .if_icmp .gt 70
      rw [hR.1.1]
      refine V_icmp_gt rfl (fun hc => ?_) (fun hc => ?_)
      · exact absurd hc (nI_nlt (by omega) (by omega))
      · refine V_aload_n rfl rfl rfl ?_
        refine V_gi 2 rfl rfl rfl ?_
        -- at 19: .ifCond .ne 63
        rw [hR.1.2.2.1]
        refine V_if_ne rfl (fun hd => ?_) (fun hd => ?_)
        · exact absurd rfl hd
        · refine V_aload_n rfl rfl rfl ?_
          refine V_gi 9 rfl rfl rfl ?_
          -- at 26: .ifCond .eq 56
          rw [hR.2.2.1]
          refine V_if_eq rfl (fun he => ?_) (fun he => ?_)
          · have he := kd_0.mp (nI_inj (b := 0) (by omega) (by omega) he)
            rw [lnsP, if_neg (by omega)] at hX
            refine V_aload_n rfl rfl rfl ?_
            refine V_gi 2 rfl rfl rfl ?_
            -- at 86: .ifCond .ne 7
            rw [hR.1.2.2.1]
            refine V_if_ne rfl (fun hg => ?_) (fun hg => ?_)
            · exact absurd rfl hg
            · refine V_aload_n rfl rfl rfl ?_
              -- at 90: .invokevirtual 80
              refine V_callV rfl rfl rfl rfl rfl (c_sdk hl hw) ?_
              rintro _ h3 ⟨rfl, hl3, e3, f3⟩
              show V S (dep + 11) 104 93 [.ref 147, .int (nI N), .int (nI m)] [] h3 _
              refine V_return rfl rfl ?_
              rw [hQ]
              exact ⟨rfl, Or.inr ⟨s, m, _, hX, hl3, hw, by rw [e3]; exact hR.1.2.2.1, by rw [e3]; exact hR.1.2.2.2.1, by rw [e3]; exact hR.1.2.2.2.2.1⟩, f2.tr f3⟩
          · have he : sk T N q < N := by
              rcases Nat.lt_or_ge (sk T N q) N with z | z
              · exact z
              · exact absurd (by rw [kd_0.mpr z]; rfl) he
            rw [lnsP, if_pos he] at hX
            have bad : ∀ k p h3, X = .inl (k, p) → BD h3 N k p → Fr rB h h3 → V S (dep + 11) 104 66 [.ref 147, .int (nI N), .int (nI m)] [] h3 Q := by
              intro k p h3 eX hB f3
              have h0 := hB.2.2.1
              have h4 := hB.2.2.2.1
              refine V_aload_n rfl rfl rfl ?_
              refine V_dup rfl rfl ?_
              refine V_gi 4 rfl rfl rfl ?_
              refine V_ic (v := nI 1) rfl rfl ?_
              refine V_iadd rfl ?_
              refine V_pi 4 rfl rfl rfl rfl ?_
              refine V_iinc (L' := [_, _, _]) rfl rfl rfl ?_
              refine V_goto rfl ?_
              -- at 7: .iload_n 2
              obtain ⟨h4, hh4⟩ : ∃ h4, h4 = wI h3 147 4 (h3.1 147 4 + nI 1) := ⟨_, rfl⟩
              rw [← hh4]
              have hB4 : BD h4 N k p := ⟨by rw [hh4, wI_ne (by omega)]; exact hB.1, by rw [hh4, wI_ne (by omega)]; exact hB.2.1, hB.2.2⟩
              have f4 : Fr rB h h4 := by rw [hh4]; exact f3.tr (Fr.w (by decide))
              have fin : ∀ w, V S (dep + 11) 104 82 [.ref 147, .int (nI N), w] [] h4 Q := by
                intro w
                refine V_aload_n rfl rfl rfl ?_
                refine V_gi 2 rfl rfl rfl ?_
                -- at 86: .ifCond .ne 7
                rw [hB4.1]
                refine V_if_ne rfl (fun hx => ?_) (fun hx => ?_)
                · refine V_return rfl rfl ?_
                  rw [hQ]
                  exact ⟨rfl, Or.inl ⟨k, p, eX, hB4⟩, f4⟩
                · exact absurd (nI_inj (b := 0) (by omega) (by omega) (Decidable.of_not_not hx)) (by omega)
              refine V_iload_n rfl rfl ?_
              refine V_aload_n rfl rfl rfl ?_
              refine V_gi 8 rfl rfl rfl ?_
              -- at 12: .if_icmp .gt 70
              refine V_icmp_gt rfl (fun hx => ?_) (fun hx => ?_)
              · exact fin _
              · refine V_aload_n rfl rfl rfl ?_
                refine V_gi 2 rfl rfl rfl ?_
                -- at 19: .ifCond .ne 63
                rw [hB4.1]
                refine V_if_ne rfl (fun hy => ?_) (fun hy => ?_)
                · exact fin _
                · exact absurd (nI_inj (b := 0) (by omega) (by omega) (Decidable.of_not_not hy)) (by omega)
            have good : ∀ s' q' h3, linP T N s q = .inr (s', q') → RS h3 T N m q' → RSl h3 s' → Fr rB h h3 → V S (dep + 11) 104 66 [.ref 147, .int (nI N), .int (nI m)] [] h3 Q := by
              intro s' q' h3 eL hR3 hl3 f3
              have hk := lin_ok hw hR.2.2.2 eL
              rw [eL] at hX
              dsimp only at hX
              refine V_aload_n rfl rfl rfl ?_
              refine V_dup rfl rfl ?_
              refine V_gi 4 rfl rfl rfl ?_
              refine V_ic (v := nI 1) rfl rfl ?_
              -- at 72: .iadd
              rw [hR3.1.2.2.2.2.1]
              refine V_iadd rfl ?_
              -- at 73: .putfield 30
              rw [nI_add]
              refine V_pi 4 rfl rfl rfl rfl ?_
              refine V_iinc (L' := [_, _, _]) rfl rfl rfl ?_
              refine V_goto rfl ?_
              -- at 7: .iload_n 2
              rw [show Int32.ofInt 1 = nI 1 from rfl, nI_add]
              have g : Fr [147] h3 (wI h3 147 4 (nI (m + 1))) := Fr.w (by simp)
              refine ih (m + 1) s' q' _ (by omega) (by omega) ?_ (hl3.fr g (by simp)) hk.1 hX (f3.tr (Fr.w (by decide)))
              obtain ⟨⟨a1, a2, a3, a4, a5, a6, a7⟩, b1, b2, b3⟩ := hR3
              exact ⟨⟨by rw [wI_ne (by omega)]; exact a1, by rw [wI_ne (by omega)]; exact a2, by rw [wI_ne (by omega)]; exact a3, by rw [wI_ne (by omega)]; exact a4, wI_same, fun i hi => by rw [wI_oth (by decide)]; exact a6 i hi, a7⟩, by rw [wI_ne (by omega)]; exact b1, by rw [wI_ne (by omega)]; exact b2, b3⟩
            refine V_aload_n rfl rfl rfl ?_
            refine V_ldc (v := .ref 1010) rfl rfl ?_
            -- at 32: .invokevirtual 65
            refine V_cV rfl rfl rfl rfl rfl (c_isw (t := 0) hR (by decide)) ?_
            refine V_if_eq rfl (fun hg => ?_) (fun hg => ?_)
            · have hg := bI_z.mp hg
              refine V_aload_n rfl rfl rfl ?_
              refine V_ldc (v := .ref 1011) rfl rfl ?_
              -- at 48: .invokevirtual 65
              refine V_cV rfl rfl rfl rfl rfl (c_isw (t := 1) hR (by decide)) ?_
              refine V_if_eq rfl (fun hj => ?_) (fun hj => ?_)
              · have hj := bI_z.mp hj
                refine V_aload_n rfl rfl rfl ?_
                refine V_ic (v := nI 1) rfl rfl ?_
                -- at 63: .invokevirtual 77
                refine V_callV rfl rfl rfl rfl rfl (c_refu (k := 1) hR (by decide) (by decide)) ?_
                rintro _ h3 ⟨rfl, hB, f3⟩
                show V S (dep + 11) 104 66 [.ref 147, .int (nI N), .int (nI m)] [] h3 _
                have eL : linP T N s q = .inl (1, sk T N q) := by unfold linP; rw [if_neg (by rw [hg]; decide), if_neg (by rw [hj]; decide)]
                rw [eL] at hX
                exact bad _ _ h3 hX hB (f2.tr (toB (f3.rA (by simp))))
              · have hj := bI_nz.mp hj
                refine V_aload_n rfl rfl rfl ?_
                -- at 55: .invokevirtual 74
                refine V_callV rfl rfl rfl rfl rfl (c_rdk hR hl) ?_
                rintro _ h3 ⟨rfl, hr, f3⟩
                show V S (dep + 11) 104 58 [.ref 147, .int (nI N), .int (nI m)] [] h3 _
                have eL : linP T N s q = decP T N s (en T N (sk T N q)) := by unfold linP; rw [if_neg (by rw [hg]; decide), if_pos hj]
                refine V_goto rfl ?_
                -- at 66: .aload_n 0
                rcases hr with ⟨k, p, e, hB⟩ | ⟨s', q', e, hR3, hl3⟩
                · rw [eL, e] at hX
                  exact bad _ _ h3 hX hB (f2.tr (toB f3))
                · exact good s' q' h3 (by rw [eL, e]) hR3 hl3 (f2.tr (toB f3))
            · have hg := bI_nz.mp hg
              refine V_aload_n rfl rfl rfl ?_
              -- at 39: .invokevirtual 69
              refine V_callV rfl rfl rfl rfl rfl (c_rnet hR hl) ?_
              rintro _ h3 ⟨rfl, hr, f3⟩
              show V S (dep + 11) 104 42 [.ref 147, .int (nI N), .int (nI m)] [] h3 _
              have eL : linP T N s q = netP T N s (en T N (sk T N q)) := by unfold linP; rw [if_pos hg]
              refine V_goto rfl ?_
              -- at 66: .aload_n 0
              rcases hr with ⟨k, p, e, hB⟩ | ⟨s', q', e, hR3, hl3⟩
              · rw [eL, e] at hX
                exact bad _ _ h3 hX hB (f2.tr (toB f3))
              · exact good s' q' h3 (by rw [eL, e]) hR3 hl3 (f2.tr (toB f3))
  have w00 : RWf s00 := ⟨fun i _ => ⟨Nat.zero_le _, Nat.two_pow_pos _⟩, fun d _ => Or.inl rfl⟩
  exact lp (N + 1) 0 s00 0 h1 (by omega) (Nat.le_refl _) hR1 hl1 w00 hX (toB f1)
theorem c_forg {S : mScr} {dep : Nat} {h : Hp} : Cal S dep 42 [.ref 4] h (fun r h' => r = none ∧ h' = wI h 4 2 (nI 0)) := by
  show V S dep 42 0 [.ref 4] [] h _
  refine V_aload_n rfl rfl rfl ?_
  refine V_ic (v := nI 0) rfl rfl ?_
  refine V_pi 2 rfl rfl rfl rfl ?_
  -- at 5: .return_
  refine V_return rfl rfl ?_
  exact ⟨rfl, rfl⟩
def rC : List Nat := [170, 171, 172, 173, 174, 175, 176, 177, 178, 179, 180, 181, 182, 183, 184, 185, 186, 187]
theorem rC_in {a : Nat} (h : 170 ≤ a ∧ a ≤ 187) : a ∈ rC := by
  unfold rC
  simp
  omega
theorem Fr.rC {A : List Nat} {h h' : Hp} (f : Fr A h h') (hA : ∀ a ∈ A, 170 ≤ a ∧ a ≤ 187) : Fr rC h h' := f.mono (fun a ha => rC_in (hA a ha))
theorem rC_of {a : Nat} (h : a ∈ rC) : 170 ≤ a ∧ a ≤ 187 := by
  have : ∀ a ∈ rC, 170 ≤ a ∧ a ≤ 187 := by decide
  exact this a h
theorem rB_of {a : Nat} (h : a ∈ rB) : (6 ≤ a ∧ a ≤ 9) ∨ a = 147 ∨ (150 ≤ a ∧ a ≤ 169) := by
  have : ∀ a ∈ rB, (6 ≤ a ∧ a ≤ 9) ∨ a = 147 ∨ (150 ≤ a ∧ a ≤ 169) := by decide
  exact this a h
theorem x_tell {S : mScr} {dep : Nat} {x : Int32} {st : St} {h : Hp} (hi : InvX h st) : Cal S (dep + 20) 121 [.ref 0, .int x] h (XR h (aTell st x)) := by
  obtain ⟨i1, i2, i3, i4, i5, i6, i7, i8, i9, i10⟩ := id hi
  obtain ⟨t, ht⟩ : ∃ t, t = st.2.2.2.1 := ⟨_, rfl⟩
  rw [← ht] at i5 i6
  have k0 : (nI 0).toInt = 0 := rfl
  have no : ix (t + 1) x = none → V S (dep + 20) 121 12 [.ref 0, .int x, .null] [] h (XR h (aTell st x)) := by
    intro e
    have ev : aTell st x = (-3, st) := by unfold aTell; rw [← ht, e]
    rw [ev]
    refine V_bi (v := -3) rfl rfl ?_
    -- at 14: .ireturn
    refine V_iret rfl rfl ?_
    exact xq0 hi
  show V S (dep + 20) 121 0 [.ref 0, .int x, .null] [] h _
  refine V_iload_n rfl rfl ?_
  -- at 1: .ifCond .lt 11
  refine V_if_lt rfl (fun hc => ?_) (fun hc => ?_)
  · have hc : x.toInt < 0 := Int32.lt_iff_toInt_lt.mp hc
    exact no (by unfold ix; rw [if_neg (by omega)])
  · have hc : ¬ x.toInt < 0 := fun z => hc (Int32.lt_iff_toInt_lt.mpr z)
    refine V_iload_n rfl rfl ?_
    refine V_aload_n rfl rfl rfl ?_
    refine V_gi 3 rfl rfl rfl ?_
    -- at 9: .if_icmp .le 6
    rw [i5]
    refine V_icmp_le rfl (fun hd => ?_) (fun hd => ?_)
    · have hd := Int32.le_iff_toInt_le.mp hd
      rw [nI_toNat (by omega)] at hd
      obtain ⟨N, hN⟩ : ∃ N, N = x.toInt.toNat := ⟨_, rfl⟩
      have hx : x = nI N := by
        apply Int32.toInt_inj.mp
        rw [nI_toNat (by omega)]
        omega
      have e : ix (t + 1) x = some N := by unfold ix; rw [if_pos (by omega), ← hN]
      have ev : aTell st x = match lnsP st.2.2.1 N (N + 1) 0 s00 0 with
          | .inl (k, p) => (Int32.ofInt (-30) - nI k, (st.1, st.2.1, st.2.2.1, 0, k, nI p))
          | .inr ((s, m), _) => (nI m, (fin s, [], st.2.2.1, 0, 0, -1)) := by unfold aTell; rw [← ht, e]; rfl
      rw [ev, hx]
      refine V_aload_n rfl rfl rfl ?_
      refine V_getR (r := 147) rfl rfl ?_
      refine V_iload_n rfl rfl ?_
      -- at 20: .invokevirtual 105
      refine V_callV rfl rfl rfl rfl rfl (c_read i4 (by omega)) ?_
      rintro _ h1 ⟨rfl, hr, f1⟩
      show V S (dep + 20) 121 23 [.ref 0, .int (nI N), .null] [] h1 _
      rcases hr with ⟨k, p, eX, hB⟩ | ⟨s, m, q, eX, hl1, hw1, e12, e13, e14⟩
      · rw [eX]
        dsimp only
        have h0 := hB.2.2.1
        have h4 := hB.2.2.2.1
        refine V_aload_n rfl rfl rfl ?_
        refine V_ic (v := nI 0) rfl rfl ?_
        refine V_pi 3 rfl rfl rfl rfl ?_
        refine V_aload_n rfl rfl rfl ?_
        refine V_aload_n rfl rfl rfl ?_
        refine V_getR (r := 147) rfl rfl ?_
        refine V_gi 2 rfl rfl rfl ?_
        -- at 36: .putfield 29
        rw [wI_oth (by decide), hB.1]
        refine V_pi 4 rfl rfl rfl rfl ?_
        refine V_aload_n rfl rfl rfl ?_
        refine V_aload_n rfl rfl rfl ?_
        refine V_getR (r := 147) rfl rfl ?_
        refine V_gi 3 rfl rfl rfl ?_
        -- at 47: .putfield 32
        rw [wI_oth (by decide), wI_oth (by decide), hB.2.1]
        refine V_pi 5 rfl rfl rfl rfl ?_
        refine V_aload_n rfl rfl rfl ?_
        refine V_gi 4 rfl rfl rfl ?_
        -- at 54: .ifCond .eq 11
        obtain ⟨h2, hh2⟩ : ∃ h2, h2 = wI (wI (wI h1 0 3 (nI 0)) 0 4 (nI k)) 0 5 (nI p) := ⟨_, rfl⟩
        rw [← hh2]
        have e24 : h2.1 0 4 = nI k := by rw [hh2, wI_ne (by omega), wI_same]
        have f2 : Fr [0] h1 h2 := by rw [hh2]; exact ((Fr.w (by simp)).tr (Fr.w (by simp))).tr (Fr.w (by simp))
        have f : Fr (0 :: rB) h h2 := (f1.mono (fun a ha => List.mem_cons_of_mem _ ha)).tr (f2.mono (by simp))
        have fA : ∀ a ∈ (0 :: rB), a = 0 ∨ (6 ≤ a ∧ a ≤ 9) ∨ a = 147 ∨ (150 ≤ a ∧ a ≤ 169) := fun a ha => by
          rcases List.mem_cons.mp ha with z | z
          · exact Or.inl z
          · exact Or.inr (rB_of z)
        rw [e24]
        refine V_if_eq rfl (fun he => ?_) (fun he => ?_)
        · exact absurd (nI_inj (b := 0) (by omega) (by omega) he) (by omega)
        · refine V_bi (v := -30) rfl rfl ?_
          refine V_aload_n rfl rfl rfl ?_
          refine V_gi 4 rfl rfl rfl ?_
          refine V_isub rfl ?_
          -- at 64: .ireturn
          rw [e24]
          refine V_iret rfl rfl ?_
          refine ⟨rfl, ⟨i1.fr f (fun a ha => by have := fA a ha; omega), i2, i3.fr f (by decide) (by decide), fun i hi => by rw [f.1 3 (by decide)]; exact i4 i hi, ?_, Nat.zero_le _, e24, h4, ?_, i10.fr f (by decide) (fun a ha => by have := fA a ha; omega)⟩, f.fx (fun a ha => by have := fA a ha; omega)⟩
          · rw [hh2, wI_ne (by omega), wI_ne (by omega), wI_same]
          · rw [hh2, wI_same]
      · rw [eX]
        dsimp only
        refine V_aload_n rfl rfl rfl ?_
        refine V_ic (v := nI 0) rfl rfl ?_
        refine V_pi 3 rfl rfl rfl rfl ?_
        refine V_aload_n rfl rfl rfl ?_
        refine V_aload_n rfl rfl rfl ?_
        refine V_getR (r := 147) rfl rfl ?_
        refine V_gi 2 rfl rfl rfl ?_
        -- at 36: .putfield 29
        rw [wI_oth (by decide), e12]
        refine V_pi 4 rfl rfl rfl rfl ?_
        refine V_aload_n rfl rfl rfl ?_
        refine V_aload_n rfl rfl rfl ?_
        refine V_getR (r := 147) rfl rfl ?_
        refine V_gi 3 rfl rfl rfl ?_
        -- at 47: .putfield 32
        rw [wI_oth (by decide), wI_oth (by decide), e13]
        refine V_pi 5 rfl rfl rfl rfl ?_
        refine V_aload_n rfl rfl rfl ?_
        refine V_gi 4 rfl rfl rfl ?_
        -- at 54: .ifCond .eq 11
        obtain ⟨h2, hh2⟩ : ∃ h2, h2 = wI (wI (wI h1 0 3 (nI 0)) 0 4 (nI 0)) 0 5 (-1) := ⟨_, rfl⟩
        rw [← hh2]
        have e23 : h2.1 0 3 = nI 0 := by rw [hh2, wI_ne (by omega), wI_ne (by omega), wI_same]
        have e24 : h2.1 0 4 = nI 0 := by rw [hh2, wI_ne (by omega), wI_same]
        have e25 : h2.1 0 5 = -1 := by rw [hh2, wI_same]
        have f2 : Fr [0] h1 h2 := by rw [hh2]; exact ((Fr.w (by simp)).tr (Fr.w (by simp))).tr (Fr.w (by simp))
        have hl2 := hl1.fr f2 (by simp)
        have f02 : Fr (0 :: rB) h h2 := (f1.mono (fun a ha => List.mem_cons_of_mem _ ha)).tr (f2.mono (by simp))
        obtain ⟨Q, hQ⟩ : ∃ Q, Q = XR h (nI m, (fin s, [], st.2.2.1, 0, 0, -1)) := ⟨_, rfl⟩
        rw [← hQ, e24]
        have no147 : 147 ∉ rC := by decide
        refine V_if_eq rfl (fun he => ?_) (fun he => ?_)
        · refine V_ic (v := nI 0) rfl rfl ?_
          refine V_istore_n (L' := [_, _, _]) rfl rfl rfl ?_
          -- at 67: .iload_n 2
          have lp := loopUp (P := fun i => ∀ h3, RSl h3 (fin s) → (∀ j, j < i → NC h3 (170 + 2 * j) ((fin s).1 j) ((fin s).2.1 j)) → Fr rC h2 h3 → V S (dep + 20) 121 67 [.ref 0, .int (nI N), .int (nI i)] [] h3 Q) 6 ?_ ?_ 0 (Nat.zero_le _)
          · exact lp h2 hl2 (fun j hj => by omega) Fr.rf
          · intro h3 l3 n3 f3
            refine V_iload_n rfl rfl ?_
            refine V_bi (v := nI 6) rfl rfl ?_
            -- at 70: .if_icmp .ge 27
            refine V_icmp_ge rfl (fun hg => ?_) (fun hg => ?_)
            · refine V_ic (v := nI 0) rfl rfl ?_
              refine V_istore_n (L' := [_, _, _]) rfl rfl rfl ?_
              -- at 99: .iload_n 2
              have lq := loopUp (P := fun i => ∀ h3, RSl h3 (fin s) → (∀ j, j < 6 → NC h3 (170 + 2 * j) ((fin s).1 j) ((fin s).2.1 j)) → (∀ j, j < i → DK h3 (182 + 2 * j) ((fin s).2.2 j)) → Fr rC h2 h3 → V S (dep + 20) 121 99 [.ref 0, .int (nI N), .int (nI i)] [] h3 Q) 3 ?_ ?_ 0 (Nat.zero_le _)
              · exact lq h3 l3 n3 (fun j hj => by omega) f3
              · intro h4 l4 n4 d4 f4
                refine V_iload_n rfl rfl ?_
                refine V_ic (v := nI 3) rfl rfl ?_
                -- at 101: .if_icmp .ge 27
                refine V_icmp_ge rfl (fun hj => ?_) (fun hj => ?_)
                · refine V_aload_n rfl rfl rfl ?_
                  refine V_getR (r := 4) rfl rfl ?_
                  -- at 132: .invokevirtual 121
                  refine V_callV rfl rfl rfl rfl rfl (c_forg) ?_
                  rintro _ h5 ⟨rfl, eh5⟩
                  show V S (dep + 20) 121 135 [.ref 0, .int (nI N), .int (nI 3)] [] h5 _
                  have f5 : Fr [4] h4 h5 := by rw [eh5]; exact Fr.w (by simp)
                  refine V_aload_n rfl rfl rfl ?_
                  refine V_getR (r := 147) rfl rfl ?_
                  refine V_gi 4 rfl rfl rfl ?_
                  -- at 142: .ireturn
                  rw [f5.1 147 (by simp), f4.1 147 no147, f2.1 147 (by simp), e14]
                  refine V_iret rfl rfl ?_
                  rw [hQ]
                  have f05 : Fr (4 :: 0 :: (rB ++ rC)) h h5 := ((f02.mono (fun a ha => List.mem_cons_of_mem _ (by rcases List.mem_cons.mp ha with z | z; exact z ▸ List.mem_cons_self; exact List.mem_cons_of_mem _ (List.mem_append_left _ z)))).tr (f4.mono (fun a ha => List.mem_cons_of_mem _ (List.mem_cons_of_mem _ (List.mem_append_right _ ha))))).tr (f5.mono (by simp))
                  have fA : ∀ a ∈ (4 :: 0 :: (rB ++ rC)), a = 4 ∨ a = 0 ∨ (6 ≤ a ∧ a ≤ 9) ∨ a = 147 ∨ (150 ≤ a ∧ a ≤ 187) := fun a ha => by
                    rcases List.mem_cons.mp ha with z | z
                    · exact Or.inl z
                    · rcases List.mem_cons.mp z with z | z
                      · exact Or.inr (Or.inl z)
                      · rcases List.mem_append.mp z with z | z
                        · have := rB_of z; omega
                        · have := rC_of z; omega
                  have o0 : h5.1 0 = h2.1 0 := by rw [f5.1 0 (by simp), f4.1 0 (by decide)]
                  obtain ⟨_, _, _, p, hp10, hp1, _⟩ := i3
                  refine ⟨rfl, ⟨⟨fun i hi => (n4 i hi).fr f5 (by simp; omega) (by simp; omega), fun d hd => (d4 d hd).fr f5 (by simp; omega) (by simp; omega)⟩, hw1.fin, ⟨by simp, by simp, by rw [eh5, wI_same]; rfl, p, hp10, ?_, trivial⟩, fun i hi => ?_, by rw [o0]; exact e23, Nat.zero_le _, by rw [o0]; exact e24, Nat.zero_le _, by rw [o0]; exact e25, i10.fr f05 (by decide) (fun a ha => by have := fA a ha; omega)⟩, f05.fx (fun a ha => by have := fA a ha; omega)⟩
                  · rw [eh5, wI_ne (by omega), f4.1 4 (by decide), f02.1 4 (by decide)]; exact hp1
                  · rw [f05.1 3 (by decide)]; exact i4 i hi
                · exact absurd (by decide) hj
              · intro i hi ih h4 l4 n4 d4 f4
                have hni := isD i hi
                have hnr := isRD i hi
                have hb1 := deck_b hni
                have hb2 := deck_b hnr
                refine V_iload_n rfl rfl ?_
                refine V_ic (v := nI 3) rfl rfl ?_
                -- at 101: .if_icmp .ge 27
                refine V_icmp_ge rfl (fun hj => ?_) (fun hj => ?_)
                · exact absurd (show nI 3 ≤ nI i from hj) (nI_ge hi (by omega))
                · refine V_aload_n rfl rfl rfl ?_
                  refine V_getR (r := 2) rfl rfl ?_
                  refine V_iload_n rfl rfl ?_
                  refine V_a2 rfl (by first | omega | assumption) ?_
                  refine V_aload_n rfl rfl rfl ?_
                  refine V_getR (r := 147) rfl rfl ?_
                  refine V_getR (r := 149) rfl rfl ?_
                  refine V_iload_n rfl rfl ?_
                  refine V_a149 rfl (by first | omega | assumption) ?_
                  -- at 119: .invokevirtual 118
                  refine V_callV rfl rfl (by first | assumption | rfl) rfl rfl (c_dcopy (l4.2 i hi) hni (by omega) (by omega) (by omega)) ?_
                  rintro _ h5 ⟨rfl, hD5, f5⟩
                  show V S (dep + 20) 121 122 [.ref 0, .int (nI N), .int (nI i)] [] h5 _
                  refine V_iinc (L' := [_, _, _]) rfl rfl rfl ?_
                  refine V_goto rfl ?_
                  -- at 99: .iload_n 2
                  rw [show Int32.ofInt 1 = nI 1 from rfl, nI_add]
                  refine ih h5 ⟨fun j hj => (l4.1 j hj).fr f5 (by simp; omega) (by simp; omega), fun d hd => (l4.2 d hd).fr f5 (by simp; omega) (by simp; omega)⟩ (fun j hj => (n4 j hj).fr f5 (by simp; omega) (by simp; omega)) (fun j hj => ?_) (f4.tr (f5.rC (by simp; omega)))
                  by_cases z : j = i
                  · rw [z]; exact hD5
                  · exact (d4 j (by omega)).fr f5 (by simp; omega) (by simp; omega)
            · exact absurd (by decide) hg
          · intro i hi ih h4 l4 n4 f4
            have hni := isS i hi
            have hnr := isR i hi
            have hb1 := net_b hni
            have hb2 := net_b hnr
            refine V_iload_n rfl rfl ?_
            refine V_bi (v := nI 6) rfl rfl ?_
            -- at 70: .if_icmp .ge 27
            refine V_icmp_ge rfl (fun hj => ?_) (fun hj => ?_)
            · exact absurd (show nI 6 ≤ nI i from hj) (nI_ge hi (by omega))
            · refine V_aload_n rfl rfl rfl ?_
              refine V_getR (r := 1) rfl rfl ?_
              refine V_iload_n rfl rfl ?_
              refine V_a1 rfl (by first | omega | assumption) ?_
              refine V_aload_n rfl rfl rfl ?_
              refine V_getR (r := 147) rfl rfl ?_
              refine V_getR (r := 148) rfl rfl ?_
              refine V_iload_n rfl rfl ?_
              refine V_a148 rfl (by first | omega | assumption) ?_
              -- at 88: .invokevirtual 113
              refine V_callV rfl rfl (by first | assumption | rfl) rfl rfl (c_copy (l4.1 i hi) hni (by omega) (by omega) (by omega)) ?_
              rintro _ h5 ⟨rfl, hN5, f5⟩
              show V S (dep + 20) 121 91 [.ref 0, .int (nI N), .int (nI i)] [] h5 _
              refine V_iinc (L' := [_, _, _]) rfl rfl rfl ?_
              refine V_goto rfl ?_
              -- at 67: .iload_n 2
              rw [show Int32.ofInt 1 = nI 1 from rfl, nI_add]
              refine ih h5 ⟨fun j hj => (l4.1 j hj).fr f5 (by simp; omega) (by simp; omega), fun d hd => (l4.2 d hd).fr f5 (by simp; omega) (by simp; omega)⟩ (fun j hj => ?_) (f4.tr (f5.rC (by simp; omega)))
              by_cases z : j = i
              · rw [z]; exact hN5
              · exact (n4 j (by omega)).fr f5 (by simp; omega) (by simp; omega)
        · exact absurd rfl he
    · have hd : ¬ x.toInt ≤ (t : Int) := fun z => hd (Int32.le_iff_toInt_le.mpr (by rw [nI_toNat (by omega)]; exact z))
      exact no (by unfold ix; rw [if_neg (by omega)])
