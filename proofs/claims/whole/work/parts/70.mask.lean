/-! the reference: questions on nets -/
theorem mq {fs A : List Nat} {h h0 h' : Hp} {st : St} {v : Int32} (hi : InvM h0 st) (fm : FM h h0) (f : MF fs A h0 h') (hf : ∀ i ∈ fs, okF i = true) (hA : ∀ a ∈ A, okM a = true) (h9 : 189 ∉ A) : MR h (v, st) (some (.int v)) h' := ⟨rfl, hi.mf f hf hA h9, fm.tr (f.fm (fun a ha => by
  have := hA a ha
  unfold okM at this
  simp only [Bool.or_eq_true, Bool.and_eq_true, Nat.ble_eq, beq_iff_eq] at this
  omega))⟩
theorem mq0 {h h0 : Hp} {st : St} {v : Int32} (hi : InvM h0 st) (fm : FM h h0) : MR h (v, st) (some (.int v)) h0 := ⟨rfl, hi, fm⟩
theorem m_orbs {S : mScr} {dep n C : Nat} {h : Hp} (hn : n ≤ 7) (hG : GS h (gall n C)) (ho : ∀ v, v < n → orb n C v < n) : Cal S dep 215 [.ref 188, .int (nI n)] h (Rt (nI (cnt (fun v => decide (orb n C v = v)) n)) h) := by
  obtain ⟨F, hF⟩ : ∃ F : Nat → Bool, F = fun v => decide (orb n C v = v) := ⟨_, rfl⟩
  rw [← hF]
  show V S dep 215 0 [.ref 188, .int (nI n), .null, .null] [] h _
  refine V_ic (v := nI 0) rfl rfl ?_
  refine V_istore_n (L' := [_, _, _, _]) rfl rfl rfl ?_
  refine V_ic (v := nI 0) rfl rfl ?_
  refine V_istore_n (L' := [_, _, _, _]) rfl rfl rfl ?_
  -- at 4: .iload_n 3
  have lp := loopUp (P := fun v => V S dep 215 4 [.ref 188, .int (nI n), .int (nI (cnt F v)), .int (nI v)] [] h (Rt (nI (cnt F n)) h)) n ?_ ?_ 0 (Nat.zero_le _)
  · exact lp
  · refine V_iload_n rfl rfl ?_
    refine V_iload_n rfl rfl ?_
    -- at 6: .if_icmp .ge 27
    refine V_icmp_ge rfl (fun hc => ?_) (fun hc => ?_)
    · refine V_iload_n rfl rfl ?_
      -- at 34: .ireturn
      refine V_iret rfl rfl ?_
      exact Rt.rf
    · exact absurd (nI_le (Nat.le_refl _) (by omega)) hc
  · intro v hv ih
    have hFv : F v = decide (orb n C v = v) := by rw [hF]
    have e : h.1 193 v = nI (orb n C v) := hG.2.2 v (by omega)
    have hov := ho v hv
    have up : ∀ d, d = (if F v = true then 1 else 0) → V S dep 215 25 [.ref 188, .int (nI n), .int (nI (cnt F v)), .int (nI v)] [.int (nI d), .int (nI (cnt F v))] h (Rt (nI (cnt F n)) h) := by
      intro d hd
      refine V_iadd rfl ?_
      -- at 26: .istore_n 2
      rw [nI_add, hd]
      refine V_istore_n (L' := [_, _, _, _]) rfl rfl rfl ?_
      refine V_iinc (L' := [_, _, _, _]) rfl rfl rfl ?_
      refine V_goto rfl ?_
      -- at 4: .iload_n 3
      rw [show Int32.ofInt 1 = nI 1 from rfl, nI_add]
      exact ih
    refine V_iload_n rfl rfl ?_
    refine V_iload_n rfl rfl ?_
    -- at 6: .if_icmp .ge 27
    refine V_icmp_ge rfl (fun hc => ?_) (fun hc => ?_)
    · exact absurd hc (nI_ge hv (by omega))
    · refine V_iload_n rfl rfl ?_
      refine V_aload_n rfl rfl rfl ?_
      refine V_getR (r := 193) rfl rfl ?_
      refine V_iload_n rfl rfl ?_
      refine V_al 7 rfl rfl (by first | with_reducible rfl | assumption | exact nI_sub (by omega) | exact nI_add _ _) (by first | omega | assumption) rfl ?_
      refine V_iload_n rfl rfl ?_
      -- at 17: .if_icmp .ne 7
      rw [e]
      refine V_icmp_ne rfl (fun hd => ?_) (fun hd => ?_)
      · refine V_ic (v := nI 0) rfl rfl ?_
        -- at 25: .iadd
        exact up 0 (by rw [hFv, decide_eq_false (fun q => hd (by rw [q]))]; rfl)
      · have hd := nI_inj (by omega) (by omega) (Decidable.of_not_not hd)
        refine V_ic (v := nI 1) rfl rfl ?_
        refine V_goto rfl ?_
        -- at 25: .iadd
        exact up 1 (by rw [hFv, decide_eq_true hd]; rfl)
noncomputable def twb (n C a b : Nat) : Bool := decide (a < b) && (decide (crd n C a = crd n C b) && !tak n C 0 a b)
theorem sumN_swap (f : Nat → Nat → Nat) (m : Nat) : ∀ n, sumN (fun a => sumN (fun b => f a b) m) n = sumN (fun b => sumN (fun a => f a b) n) m := by
  intro n
  induction n with
  | zero => exact (sumN_zero (f := fun b => sumN (fun a => f a b) 0) (fun i _ => rfl)).symm
  | succ n ih => rw [sumN, ih, ← sumN_add]; rfl
theorem cnt_low {p : Nat → Bool} {b : Nat} : ∀ {n : Nat}, b ≤ n → cnt (fun a => decide (a < b) && p a) n = cnt p b := by
  intro n
  induction n with
  | zero => intro h; obtain rfl : b = 0 := by omega
            rfl
  | succ n ih =>
    intro h
    rw [cnt]
    by_cases e : b = n + 1
    · subst e
      rw [cnt]
      have : cnt (fun a => decide (a < n + 1) && p a) n = cnt p n := cnt_ext (fun i hi => by rw [decide_eq_true (by omega), Bool.true_and])
      rw [this, decide_eq_true (show n < n + 1 by omega), Bool.true_and]
    · rw [ih (by omega), decide_eq_false (show ¬ n < b by omega), Bool.false_and, if_neg (by simp), Nat.add_zero]
theorem twn_swap (n C : Nat) : sumN (fun a => cnt (twb n C a) n) n = twn n C := by
  rw [sumN_ext (g := fun a => sumN (fun b => if twb n C a b = true then 1 else 0) n) (fun a _ => cnt_sumN _ _), sumN_swap]
  unfold twn
  refine sumN_ext (fun b hb => ?_)
  rw [← cnt_sumN]
  exact cnt_low (p := twa n C b) (by omega)
theorem m_twn {S : mScr} {dep i : Nat} {s : Sl} {h : Hp} (hs : MSt h s) (hw : WF s) (hi : i < 6) : Cal S (dep + 12) 216 [.ref 188, .int (nI i)] h (fun q h' => q = some (.int (nI (twn (s.1 i) (s.2.1 i)))) ∧ MF [6, 7] [192, 193, 196, 197] h h') := by
  have hwi := hw.1 i hi
  obtain ⟨n, hn⟩ : ∃ n, n = s.1 i := ⟨_, rfl⟩
  obtain ⟨C, hCe⟩ : ∃ C, C = s.2.1 i := ⟨_, rfl⟩
  have h7 : n ≤ 7 := by rw [hn]; exact hwi.1
  have hC : C < 2 ^ tri n := by rw [hn, hCe]; exact hwi.2
  rw [← hn, ← hCe]
  obtain ⟨Q, hQ⟩ : ∃ Q : Option Value → Hp → Prop, Q = fun q h' => q = some (.int (nI (twn n C))) ∧ MF [6, 7] [192, 193, 196, 197] h h' := ⟨_, rfl⟩
  rw [← hQ]
  show V S (dep + 12) 216 0 [.ref 188, .int (nI i), .null, .null, .null, .null] [] h _
  refine V_aload_n rfl rfl rfl ?_
  refine V_iload_n rfl rfl ?_
  -- at 2: .invokevirtual 201
  refine V_cV rfl rfl rfl rfl rfl (m_nodes hs hi) ?_
  rw [← hn]
  refine V_istore_n (L' := [_, _, _, _, _, _]) rfl rfl rfl ?_
  refine V_iload_n rfl rfl ?_
  refine V_ic (v := nI 2) rfl rfl ?_
  -- at 8: .if_icmp .ge 5
  refine V_icmp_ge rfl (fun hc => ?_) (fun hc => ?_)
  · have hc := (nI_leI (by omega) (by omega)).mp hc
    refine V_aload_n rfl rfl rfl ?_
    refine V_iload_n rfl rfl ?_
    refine V_aload_n rfl rfl rfl ?_
    refine V_iload_n rfl rfl ?_
    -- at 17: .invokevirtual 204
    refine V_cV rfl rfl rfl rfl rfl (m_code hs hi) ?_
    rw [← hCe]
    refine V_callV rfl rfl rfl rfl rfl (m_numbers h7 (c21 h7 hC)) ?_
    rintro _ h1 ⟨rfl, f1, g1⟩
    show V S (dep + 12) 216 23 [.ref 188, .int (nI i), .int (nI n), .null, .null, .null] [] h1 _
    have f1 : MF [6, 7] [192, 193, 196, 197] h h1 := f1.mf.mono (by simp) (by simp)
    refine V_ic (v := nI 0) rfl rfl ?_
    refine V_istore_n (L' := [_, _, _, _, _, _]) rfl rfl rfl ?_
    -- at 25: .iload_n 3
    have l1 := loopUp (P := fun v => ∀ h2, MF [6, 7] [192, 193, 196, 197] h h2 → (∀ u, u < 7 → h2.1 193 u = nI (orb n C u)) → (∀ u, u < v → h2.1 197 u = nI (orb n C u)) → V S (dep + 12) 216 25 [.ref 188, .int (nI i), .int (nI n), .int (nI v), .null, .null] [] h2 Q) n ?_ ?_ 0 (Nat.zero_le _)
    · exact l1 h1 f1 g1.2.2 (fun u hu => by omega)
    · intro h2 f2 o2 w2
      refine V_iload_n rfl rfl ?_
      refine V_iload_n rfl rfl ?_
      -- at 27: .if_icmp .ge 21
      refine V_icmp_ge rfl (fun hd => ?_) (fun hd => ?_)
      · refine V_ic (v := nI 0) rfl rfl ?_
        refine V_istore_n (L' := [_, _, _, _, _, _]) rfl rfl rfl ?_
        -- at 50: .iload_n 3
        have l2 := loopUp (P := fun v => ∀ h3, MF [6, 7] [192, 193, 196, 197] h h3 → (∀ u, u < n → h3.1 197 u = nI (orb n C u)) → (∀ u, u < v → h3.1 196 u = nI (crd n C u)) → V S (dep + 12) 216 50 [.ref 188, .int (nI i), .int (nI n), .int (nI v), .null, .null] [] h3 Q) n ?_ ?_ 0 (Nat.zero_le _)
        · exact l2 h2 f2 w2 (fun u hu => by omega)
        · intro h3 f3 o3 c3
          refine V_iload_n rfl rfl ?_
          refine V_iload_n rfl rfl ?_
          -- at 52: .if_icmp .ge 32
          refine V_icmp_ge rfl (fun he => ?_) (fun he => ?_)
          · refine V_ic (v := nI 0) rfl rfl ?_
            refine V_istore_n (L' := [_, _, _, _, _, _]) rfl rfl rfl ?_
            refine V_ic (v := nI 0) rfl rfl ?_
            refine V_istore (L' := [_, _, _, _, _, _]) rfl rfl rfl ?_
            -- at 89: .iload 4
            have l3 := loopUp (P := fun a => ∀ v5, V S (dep + 12) 216 89 [.ref 188, .int (nI i), .int (nI n), .int (nI (sumN (fun a => cnt (twb n C a) n) a)), .int (nI a), v5] [] h3 Q) n ?_ ?_ 0 (Nat.zero_le _)
            · exact l3 _
            · intro v5
              refine V_iload rfl rfl ?_
              refine V_iload_n rfl rfl ?_
              -- at 92: .if_icmp .ge 69
              refine V_icmp_ge rfl (fun hf => ?_) (fun hf => ?_)
              · refine V_iload_n rfl rfl ?_
                -- at 162: .ireturn
                refine V_iret rfl rfl ?_
                rw [hQ]
                exact ⟨by rw [twn_swap], f3⟩
              · exact absurd (nI_le (Nat.le_refl _) (by omega)) hf
            · intro a ha ih v5
              rw [sumN] at ih
              obtain ⟨sa, hsa⟩ : ∃ sa, sa = sumN (fun a => cnt (twb n C a) n) a := ⟨_, rfl⟩
              rw [← hsa] at ih ⊢
              refine V_iload rfl rfl ?_
              refine V_iload_n rfl rfl ?_
              -- at 92: .if_icmp .ge 69
              refine V_icmp_ge rfl (fun hf => ?_) (fun hf => ?_)
              · exact absurd hf (nI_ge ha (by omega))
              · refine V_iload rfl rfl ?_
                refine V_ic (v := nI 1) rfl rfl ?_
                refine V_iadd rfl ?_
                -- at 99: .istore 5
                rw [nI_add]
                refine V_istore (L' := [_, _, _, _, _, _]) rfl rfl rfl ?_
                -- at 101: .iload 5
                have l4 := loopUp (P := fun b => a + 1 ≤ b → V S (dep + 12) 216 101 [.ref 188, .int (nI i), .int (nI n), .int (nI (sa + cnt (twb n C a) b)), .int (nI a), .int (nI b)] [] h3 Q) n ?_ ?_ (a + 1) (by omega)
                · have := l4 (Nat.le_refl _)
                  rw [show cnt (twb n C a) (a + 1) = 0 from cnt_none (fun b hb => by unfold twb; rw [decide_eq_false (by omega)]; rfl), Nat.add_zero] at this
                  exact this
                · intro _
                  refine V_iload rfl rfl ?_
                  refine V_iload_n rfl rfl ?_
                  -- at 104: .if_icmp .ge 51
                  refine V_icmp_ge rfl (fun hg => ?_) (fun hg => ?_)
                  · refine V_iinc (L' := [_, _, _, _, _, _]) rfl rfl rfl ?_
                    refine V_goto rfl ?_
                    -- at 89: .iload 4
                    rw [show Int32.ofInt 1 = nI 1 from rfl, nI_add]
                    exact ih _
                  · exact absurd (nI_le (Nat.le_refl _) (by omega)) hg
                · intro b hb ih2 hab
                  have hcs : cnt (twb n C a) (b + 1) = cnt (twb n C a) b + if twb n C a b = true then 1 else 0 := by rw [cnt]
                  have htw : twb n C a b = (decide (crd n C a = crd n C b) && !tak n C 0 a b) := by unfold twb; rw [decide_eq_true (by omega), Bool.true_and]
                  have c1 := c21 (n := n - 1) (by omega) (crd_lt (C := C) (v := a) h7)
                  have c2 := c21 (n := n - 1) (by omega) (crd_lt (C := C) (v := b) h7)
                  have o1 := (orb_spec h7 hC ha).2.1
                  have o2 := (orb_spec h7 hC hb).2.1
                  have ho := orb_eq h7 hC ha hb
                  have up : ∀ d, d = (if twb n C a b = true then 1 else 0) → V S (dep + 12) 216 147 [.ref 188, .int (nI i), .int (nI n), .int (nI (sa + cnt (twb n C a) b)), .int (nI a), .int (nI b)] [.int (nI d), .int (nI (sa + cnt (twb n C a) b))] h3 Q := by
                    intro d hd
                    refine V_iadd rfl ?_
                    -- at 148: .istore_n 3
                    rw [nI_add, hd, Nat.add_assoc, ← hcs]
                    refine V_istore_n (L' := [_, _, _, _, _, _]) rfl rfl rfl ?_
                    refine V_iinc (L' := [_, _, _, _, _, _]) rfl rfl rfl ?_
                    refine V_goto rfl ?_
                    -- at 101: .iload 5
                    rw [show Int32.ofInt 1 = nI 1 from rfl, nI_add]
                    exact ih2 (by omega)
                  refine V_iload rfl rfl ?_
                  refine V_iload_n rfl rfl ?_
                  -- at 104: .if_icmp .ge 51
                  refine V_icmp_ge rfl (fun hg => ?_) (fun hg => ?_)
                  · exact absurd hg (nI_ge hb (by omega))
                  · refine V_iload_n rfl rfl ?_
                    refine V_aload_n rfl rfl rfl ?_
                    refine V_getR (r := 196) rfl rfl ?_
                    refine V_iload rfl rfl ?_
                    refine V_al 7 rfl rfl (by first | with_reducible rfl | assumption | exact nI_sub (by omega) | exact nI_add _ _) (by first | omega | assumption) rfl ?_
                    refine V_aload_n rfl rfl rfl ?_
                    refine V_getR (r := 196) rfl rfl ?_
                    refine V_iload rfl rfl ?_
                    refine V_al 7 rfl rfl (by first | with_reducible rfl | assumption | exact nI_sub (by omega) | exact nI_add _ _) (by first | omega | assumption) rfl ?_
                    -- at 122: .if_icmp .ne 24
                    rw [c3 a ha, c3 b hb]
                    refine V_icmp_ne rfl (fun hj => ?_) (fun hj => ?_)
                    · refine V_ic (v := nI 0) rfl rfl ?_
                      -- at 147: .iadd
                      exact up 0 (by rw [htw, decide_eq_false (fun q => hj (by rw [q]))]; rfl)
                    · have hj := nI_inj (by omega) (by omega) (Decidable.of_not_not hj)
                      refine V_aload_n rfl rfl rfl ?_
                      refine V_getR (r := 197) rfl rfl ?_
                      refine V_iload rfl rfl ?_
                      refine V_al 7 rfl rfl (by first | with_reducible rfl | assumption | exact nI_sub (by omega) | exact nI_add _ _) (by first | omega | assumption) rfl ?_
                      refine V_aload_n rfl rfl rfl ?_
                      refine V_getR (r := 197) rfl rfl ?_
                      refine V_iload rfl rfl ?_
                      refine V_al 7 rfl rfl (by first | with_reducible rfl | assumption | exact nI_sub (by omega) | exact nI_add _ _) (by first | omega | assumption) rfl ?_
                      -- at 139: .if_icmp .eq 7
                      rw [o3 a ha, o3 b hb]
                      refine V_icmp_eq rfl (fun hk => ?_) (fun hk => ?_)
                      · have hk := ho.mp (nI_inj (by omega) (by omega) hk)
                        refine V_ic (v := nI 0) rfl rfl ?_
                        -- at 147: .iadd
                        exact up 0 (by rw [htw, hk]; simp)
                      · have hk : tak n C 0 a b = false := bfalse (fun q => hk (by rw [ho.mpr q]))
                        refine V_ic (v := nI 1) rfl rfl ?_
                        refine V_goto rfl ?_
                        -- at 147: .iadd
                        exact up 1 (by rw [htw, hk, decide_eq_true hj]; rfl)
          · exact absurd (nI_le (Nat.le_refl _) (by omega)) he
        · intro v hv ih h3 f3 o3 c3
          have hs3 := hs.mf f3 (by simp)
          refine V_iload_n rfl rfl ?_
          refine V_iload_n rfl rfl ?_
          -- at 52: .if_icmp .ge 32
          refine V_icmp_ge rfl (fun he => ?_) (fun he => ?_)
          · exact absurd he (nI_ge hv (by omega))
          · refine V_aload_n rfl rfl rfl ?_
            refine V_getR (r := 196) rfl rfl ?_
            refine V_iload_n rfl rfl ?_
            refine V_aload_n rfl rfl rfl ?_
            refine V_iload_n rfl rfl ?_
            refine V_ic (v := nI 1) rfl rfl ?_
            refine V_isub rfl ?_
            refine V_iload_n rfl rfl ?_
            refine V_aload_n rfl rfl rfl ?_
            refine V_iload_n rfl rfl ?_
            -- at 67: .invokevirtual 204
            rw [nI_sub (by omega)]
            refine V_cV rfl rfl rfl rfl rfl (m_code hs3 hi) ?_
            rw [← hCe]
            refine V_iload_n rfl rfl ?_
            -- at 71: .invokestatic 219
            refine V_cS rfl rfl rfl rfl (m_wot h7 (c21 h7 hC) hv) ?_
            refine V_callV rfl rfl rfl rfl rfl (m_frm (by omega) (wot_lt hv)) ?_
            rintro _ h4 ⟨rfl, f4⟩
            show V S (dep + 12) 216 77 [.ref 188, .int (nI i), .int (nI n), .int (nI v), .null, .null] [.int (nI (crd n C v)), .int (nI v), .ref 196] h4 _
            have e196 : h4.1 196 = h3.1 196 := f4.2.1 196 (by decide) (by simp)
            have e197 : h4.1 197 = h3.1 197 := f4.2.1 197 (by decide) (by simp)
            refine V_as 7 rfl rfl (by first | with_reducible rfl | assumption | exact nI_sub (by omega) | exact nI_add _ _) (by first | omega | assumption) rfl ?_
            refine V_iinc (L' := [_, _, _, _, _, _]) rfl rfl rfl ?_
            refine V_goto rfl ?_
            -- at 50: .iload_n 3
            rw [show Int32.ofInt 1 = nI 1 from rfl, nI_add]
            refine ih _ ((f3.tr (f4.mono (by simp) (by simp))).tr (MF.w (by simp) (by decide))) (fun u hu => by rw [wI_oth (by decide), e197]; exact o3 u hu) (fun u hu => ?_)
            by_cases q : u = v
            · rw [q, wI_same]
            · rw [wI_ne (by omega), e196]; exact c3 u (by omega)
      · exact absurd (nI_le (Nat.le_refl _) (by omega)) hd
    · intro v hv ih h2 f2 o2 w2
      refine V_iload_n rfl rfl ?_
      refine V_iload_n rfl rfl ?_
      -- at 27: .if_icmp .ge 21
      refine V_icmp_ge rfl (fun hd => ?_) (fun hd => ?_)
      · exact absurd hd (nI_ge hv (by omega))
      · refine V_aload_n rfl rfl rfl ?_
        refine V_getR (r := 197) rfl rfl ?_
        refine V_iload_n rfl rfl ?_
        refine V_aload_n rfl rfl rfl ?_
        refine V_getR (r := 193) rfl rfl ?_
        refine V_iload_n rfl rfl ?_
        refine V_al 7 rfl rfl (by first | with_reducible rfl | assumption | exact nI_sub (by omega) | exact nI_add _ _) (by first | omega | assumption) rfl ?_
        -- at 41: .iastore
        rw [o2 v (by omega)]
        refine V_as 7 rfl rfl (by first | with_reducible rfl | assumption | exact nI_sub (by omega) | exact nI_add _ _) (by first | omega | assumption) rfl ?_
        refine V_iinc (L' := [_, _, _, _, _, _]) rfl rfl rfl ?_
        refine V_goto rfl ?_
        -- at 25: .iload_n 3
        rw [show Int32.ofInt 1 = nI 1 from rfl, nI_add]
        refine ih _ (f2.tr (MF.w (by simp) (by decide))) (fun u hu => by rw [wI_oth (by decide)]; exact o2 u hu) (fun u hu => ?_)
        by_cases q : u = v
        · rw [q, wI_same]
        · rw [wI_ne (by omega)]; exact w2 u (by omega)
  · have hc : ¬ 2 ≤ n := fun q => hc (nI_le q (by omega))
    refine V_ic (v := nI 0) rfl rfl ?_
    -- at 12: .ireturn
    refine V_iret rfl rfl ?_
    rw [hQ]
    refine ⟨?_, MF.rf⟩
    have : twn n C = 0 := by rcases (by omega : n = 0 ∨ n = 1) with q | q <;> rw [q] <;> rfl
    rw [this]
theorem y_net {S : mScr} {dep : Nat} {x w : Int32} {st : St} {h : Hp} (hi : InvM h st) : Cal S (dep + 20) 217 [.ref 188, .int x, .int w] h (MR h (aNet st x w, st)) := by
  obtain ⟨hi0, fm0⟩ := hi.thr
  obtain ⟨h0, hh0⟩ : ∃ h0, h0 = wI h 188 4 (nI 0) := ⟨_, rfl⟩
  rw [← hh0] at hi0 fm0
  obtain ⟨hs, hw, _⟩ := id hi0
  show V S (dep + 20) 217 0 [.ref 188, .int x, .int w, .null] [] h _
  have bad : aNet st x w = -2 → V S (dep + 20) 217 24 [.ref 188, .int x, .int w, .null] [] h0 (MR h (aNet st x w, st)) := by
    intro e
    rw [e]
    refine V_bi (v := -2) rfl rfl ?_
    -- at 26: .ireturn
    refine V_iret rfl rfl ?_
    exact mq0 hi0 fm0
  refine V_aload_n rfl rfl rfl ?_
  refine V_ic (v := nI 0) rfl rfl ?_
  refine V_pi 4 rfl rfl rfl rfl ?_
  refine V_iload_n rfl rfl ?_
  -- at 6: .invokestatic 222
  rw [← hh0]
  refine V_cS rfl rfl rfl rfl (m_isSlot) ?_
  refine V_if_eq rfl (fun hc => ?_) (fun hc => ?_)
  · have hc := bI_non hc
    exact bad (by unfold aNet; rw [hc])
  · obtain ⟨i, e1⟩ := bI_som hc
    obtain ⟨rfl, hi6⟩ := ix_some e1
    have hwi := hw.1 i hi6
    have hC21 := c21 hwi.1 hwi.2
    refine V_iload_n rfl rfl ?_
    refine V_i2l rfl ?_
    refine V_lc (v := 0) rfl rfl ?_
    refine V_l2 (v := 7) rfl rfl ?_
    -- at 18: .invokestatic 134
    refine V_cS rfl rfl rfl rfl (m_isIn) ?_
    rw [Int32.toInt_toInt64, show (0 : Int64).toInt = 0 from rfl, show (7 : Int64).toInt = 7 from rfl]
    rw [show decide (0 ≤ w.toInt ∧ w.toInt ≤ 7) = (ix 8 w).isSome by rw [ix_is]; exact decide_eq_decide.mpr (by omega)]
    refine V_if_ne rfl (fun hd => ?_) (fun hd => ?_)
    · obtain ⟨j, e2⟩ := bI_som hd
      obtain ⟨rfl, hj⟩ := ix_some e2
      have ev : aNet st (nI i) (nI j) = netA (st.1.1 i) (st.1.2.1 i) j := by unfold aNet; rw [e1, e2]
      rw [ev]
      refine V_aload_n rfl rfl rfl ?_
      refine V_iload_n rfl rfl ?_
      -- at 29: .invokevirtual 201
      refine V_cV rfl rfl rfl rfl rfl (m_nodes hs hi6) ?_
      refine V_istore_n (L' := [_, _, _, _]) rfl rfl rfl ?_
      refine V_iload_n rfl rfl ?_
      -- at 34: .tableswitch 79 0 7 #[46, 48, 57, 79, 79, 63, 79, 73]
      have rest : ∀ v : Int32, (∀ h1, GS h1 (gall (st.1.1 i) (st.1.2.1 i)) → GF 0 h0 h1 → V S (dep + 20) 217 123 [.ref 188, .int (nI i), .int (nI j), .int (nI (st.1.1 i))] [] h1 (MR h (v, st))) → V S (dep + 20) 217 113 [.ref 188, .int (nI i), .int (nI j), .int (nI (st.1.1 i))] [] h0 (MR h (v, st)) := by
        intro v hk
        refine V_aload_n rfl rfl rfl ?_
        refine V_iload_n rfl rfl ?_
        refine V_aload_n rfl rfl rfl ?_
        refine V_iload_n rfl rfl ?_
        -- at 117: .invokevirtual 204
        refine V_cV rfl rfl rfl rfl rfl (m_code hs hi6) ?_
        refine V_callV rfl rfl rfl rfl rfl (m_numbers hwi.1 hC21) ?_
        rintro _ h1 ⟨rfl, f1, g1⟩
        exact hk h1 g1 f1
      rcases (by omega : j = 0 ∨ j = 1 ∨ j = 2 ∨ j = 3 ∨ j = 4 ∨ j = 5 ∨ j = 6 ∨ j = 7) with rfl | rfl | rfl | rfl | rfl | rfl | rfl | rfl
      · refine V_tabI (t := 80) rfl 0 (by decide) (by decide) rfl ?_
        refine V_iload_n rfl rfl ?_
        -- at 81: .ireturn
        refine V_iret rfl rfl ?_
        exact mq0 hi0 fm0
      · refine V_tabI (t := 82) rfl 1 (by decide) (by decide) rfl ?_
        refine V_aload_n rfl rfl rfl ?_
        refine V_iload_n rfl rfl ?_
        -- at 84: .invokevirtual 204
        refine V_cV rfl rfl rfl rfl rfl (m_code hs hi6) ?_
        refine V_cS rfl rfl rfl rfl (m_lines (by omega)) ?_
        refine V_iret rfl rfl ?_
        exact mq0 hi0 fm0
      · refine V_tabI (t := 91) rfl 2 (by decide) (by decide) rfl ?_
        refine V_aload_n rfl rfl rfl ?_
        refine V_iload_n rfl rfl ?_
        -- at 93: .invokevirtual 204
        refine V_cV rfl rfl rfl rfl rfl (m_code hs hi6) ?_
        refine V_iret rfl rfl ?_
        exact mq0 hi0 fm0
      · refine V_tabI (t := 113) rfl 3 (by decide) (by decide) rfl ?_
        refine rest _ (fun h1 g1 f1 => ?_)
        refine V_iload_n rfl rfl ?_
        refine V_ic (v := nI 3) rfl rfl ?_
        -- at 125: .if_icmp .ne 10
        refine V_icmp_ne rfl (fun hz => ?_) (fun hz => ?_)
        · exact absurd rfl hz
        · refine V_aload_n rfl rfl rfl ?_
          refine V_gi 6 rfl rfl rfl ?_
          refine V_goto rfl ?_
          -- at 152: .ireturn
          rw [g1.1, gall_frm hwi.1 hwi.2]
          refine V_iret rfl rfl ?_
          exact mq hi0 fm0 f1.mf (by simp; decide) (by simp; decide) (by simp)
      · refine V_tabI (t := 113) rfl 4 (by decide) (by decide) rfl ?_
        refine rest _ (fun h1 g1 f1 => ?_)
        refine V_iload_n rfl rfl ?_
        refine V_ic (v := nI 3) rfl rfl ?_
        -- at 125: .if_icmp .ne 10
        refine V_icmp_ne rfl (fun hz => ?_) (fun hz => ?_)
        · refine V_iload_n rfl rfl ?_
          refine V_ic (v := nI 4) rfl rfl ?_
          -- at 137: .if_icmp .ne 10
          refine V_icmp_ne rfl (fun hz2 => ?_) (fun hz2 => ?_)
          · exact absurd rfl hz2
          · refine V_aload_n rfl rfl rfl ?_
            refine V_gi 7 rfl rfl rfl ?_
            refine V_goto rfl ?_
            -- at 152: .ireturn
            rw [g1.2.1, gall_same hwi.1 hwi.2]
            refine V_iret rfl rfl ?_
            exact mq hi0 fm0 f1.mf (by simp; decide) (by simp; decide) (by simp)
        · exact absurd (Decidable.of_not_not hz) (by decide)
      · refine V_tabI (t := 97) rfl 5 (by decide) (by decide) rfl ?_
        refine V_iload_n rfl rfl ?_
        refine V_aload_n rfl rfl rfl ?_
        refine V_iload_n rfl rfl ?_
        -- at 100: .invokevirtual 204
        refine V_cV rfl rfl rfl rfl rfl (m_code hs hi6) ?_
        refine V_cS rfl rfl rfl rfl (m_pieces hwi.1 hC21) ?_
        refine V_iret rfl rfl ?_
        exact mq0 hi0 fm0
      · refine V_tabI (t := 113) rfl 6 (by decide) (by decide) rfl ?_
        refine rest _ (fun h1 g1 f1 => ?_)
        refine V_iload_n rfl rfl ?_
        refine V_ic (v := nI 3) rfl rfl ?_
        -- at 125: .if_icmp .ne 10
        refine V_icmp_ne rfl (fun hz => ?_) (fun hz => ?_)
        · refine V_iload_n rfl rfl ?_
          refine V_ic (v := nI 4) rfl rfl ?_
          -- at 137: .if_icmp .ne 10
          refine V_icmp_ne rfl (fun hz2 => ?_) (fun hz2 => ?_)
          · refine V_aload_n rfl rfl rfl ?_
            refine V_iload_n rfl rfl ?_
            -- at 149: .invokevirtual 266
            refine V_cV rfl rfl rfl rfl rfl (m_orbs hwi.1 g1 (fun v hv => (orb_spec hwi.1 hwi.2 hv).2.1)) ?_
            refine V_iret rfl rfl ?_
            exact mq hi0 fm0 f1.mf (by simp; decide) (by simp; decide) (by simp)
          · exact absurd (Decidable.of_not_not hz2) (by decide)
        · exact absurd (Decidable.of_not_not hz) (by decide)
      · refine V_tabI (t := 107) rfl 7 (by decide) (by decide) rfl ?_
        refine V_aload_n rfl rfl rfl ?_
        refine V_iload_n rfl rfl ?_
        -- at 109: .invokevirtual 263
        refine V_callV rfl rfl rfl rfl rfl (m_twn hs hw hi6) ?_
        rintro _ h1 ⟨rfl, f1⟩
        refine V_iret rfl rfl ?_
        exact mq hi0 fm0 f1 (by simp; decide) (by simp; decide) (by simp)
    · have hd := bI_non (Decidable.of_not_not hd)
      exact bad (by unfold aNet; rw [e1, hd])
theorem y_node {S : mScr} {dep : Nat} {x y w : Int32} {st : St} {h : Hp} (hi : InvM h st) : Cal S (dep + 20) 218 [.ref 188, .int x, .int y, .int w] h (MR h (aNode st x y w, st)) := by
  obtain ⟨hi0, fm0⟩ := hi.thr
  obtain ⟨h0, hh0⟩ : ∃ h0, h0 = wI h 188 4 (nI 0) := ⟨_, rfl⟩
  rw [← hh0] at hi0 fm0
  obtain ⟨hs, hw, _⟩ := id hi0
  show V S (dep + 20) 218 0 [.ref 188, .int x, .int y, .int w, .null, .null] [] h _
  have bad : aNode st x y w = -2 → V S (dep + 20) 218 33 [.ref 188, .int x, .int y, .int w, .null, .null] [] h0 (MR h (aNode st x y w, st)) := by
    intro e
    rw [e]
    refine V_bi (v := -2) rfl rfl ?_
    -- at 35: .ireturn
    refine V_iret rfl rfl ?_
    exact mq0 hi0 fm0
  refine V_aload_n rfl rfl rfl ?_
  refine V_ic (v := nI 0) rfl rfl ?_
  refine V_pi 4 rfl rfl rfl rfl ?_
  refine V_iload_n rfl rfl ?_
  -- at 6: .invokestatic 222
  rw [← hh0]
  refine V_cS rfl rfl rfl rfl (m_isSlot) ?_
  refine V_if_eq rfl (fun hc => ?_) (fun hc => ?_)
  · have hc := bI_non hc
    exact bad (by unfold aNode; rw [hc])
  · obtain ⟨i, e1⟩ := bI_som hc
    obtain ⟨rfl, hi6⟩ := ix_some e1
    have hwi := hw.1 i hi6
    have hC21 := c21 hwi.1 hwi.2
    refine V_aload_n rfl rfl rfl ?_
    refine V_iload_n rfl rfl ?_
    refine V_iload_n rfl rfl ?_
    -- at 15: .invokevirtual 225
    refine V_cV rfl rfl rfl rfl rfl (m_isNode hs hw hi6) ?_
    refine V_if_eq rfl (fun hd => ?_) (fun hd => ?_)
    · have hd := bI_non hd
      exact bad (by unfold aNode; rw [e1]; dsimp only; rw [hd])
    · obtain ⟨v, e2⟩ := bI_som hd
      obtain ⟨rfl, hvi⟩ := ix_some e2
      refine V_iload_n rfl rfl ?_
      refine V_i2l rfl ?_
      refine V_lc (v := 0) rfl rfl ?_
      refine V_l2 (v := 3) rfl rfl ?_
      -- at 27: .invokestatic 134
      refine V_cS rfl rfl rfl rfl (m_isIn) ?_
      rw [Int32.toInt_toInt64, show (0 : Int64).toInt = 0 from rfl, show (3 : Int64).toInt = 3 from rfl]
      rw [show decide (0 ≤ w.toInt ∧ w.toInt ≤ 3) = (ix 4 w).isSome by rw [ix_is]; exact decide_eq_decide.mpr (by omega)]
      refine V_if_ne rfl (fun he => ?_) (fun he => ?_)
      · obtain ⟨j, e3⟩ := bI_som he
        obtain ⟨rfl, hj⟩ := ix_some e3
        have ev : aNode st (nI i) (nI v) (nI j) = nodA (st.1.1 i) (st.1.2.1 i) v j := by unfold aNode; rw [e1]; dsimp only; rw [e2, e3]
        rw [ev]
        have hrl : rowOf (st.1.1 i) (st.1.2.1 i) v < 128 := row128 hwi.1
        refine V_aload_n rfl rfl rfl ?_
        refine V_iload_n rfl rfl ?_
        -- at 38: .invokevirtual 201
        refine V_cV rfl rfl rfl rfl rfl (m_nodes hs hi6) ?_
        refine V_istore (L' := [_, _, _, _, _, _]) rfl rfl rfl ?_
        refine V_iload rfl rfl ?_
        refine V_aload_n rfl rfl rfl ?_
        refine V_iload_n rfl rfl ?_
        -- at 47: .invokevirtual 204
        refine V_cV rfl rfl rfl rfl rfl (m_code hs hi6) ?_
        refine V_iload_n rfl rfl ?_
        -- at 51: .invokestatic 112
        refine V_cS rfl rfl rfl rfl (m_near hwi.1 hC21 (by omega)) ?_
        rw [mnr_row hvi]
        refine V_istore (L' := [_, _, _, _, _, _]) rfl rfl rfl ?_
        refine V_iload_n rfl rfl ?_
        refine V_ic (v := nI 2) rfl rfl ?_
        -- at 58: .if_icmp .ge 19
        refine V_icmp_ge rfl (fun hf => ?_) (fun hf => ?_)
        · have hf := (nI_leI (by omega) (by omega)).mp hf
          refine V_iload_n rfl rfl ?_
          refine V_ic (v := nI 3) rfl rfl ?_
          -- at 79: .if_icmp .ne 33
          refine V_icmp_ne rfl (fun hg => ?_) (fun hg => ?_)
          · have hg : ¬ j = 3 := fun q => hg (by rw [q])
            obtain rfl : j = 2 := by omega
            refine V_aload_n rfl rfl rfl ?_
            refine V_iload rfl rfl ?_
            refine V_aload_n rfl rfl rfl ?_
            refine V_iload_n rfl rfl ?_
            -- at 117: .invokevirtual 204
            refine V_cV rfl rfl rfl rfl rfl (m_code hs hi6) ?_
            refine V_callV rfl rfl rfl rfl rfl (m_numbers hwi.1 hC21) ?_
            rintro _ h1 ⟨rfl, f1, g1⟩
            show V S (dep + 20) 218 123 [.ref 188, .int (nI i), .int (nI v), .int (nI 2), .int (nI (st.1.1 i)), .int (nI (rowOf (st.1.1 i) (st.1.2.1 i) v))] [] h1 _
            refine V_aload_n rfl rfl rfl ?_
            refine V_getR (r := 193) rfl rfl ?_
            refine V_iload_n rfl rfl ?_
            refine V_al 7 rfl rfl (by first | with_reducible rfl | assumption | exact nI_sub (by omega) | exact nI_add _ _) (by first | omega | assumption) rfl ?_
            -- at 129: .ireturn
            rw [g1.2.2 v (by omega)]
            refine V_iret rfl rfl ?_
            exact mq hi0 fm0 f1.mf (by simp; decide) (by simp; decide) (by simp)
          · obtain rfl : j = 3 := nI_inj (by omega) (by omega) (Decidable.of_not_not hg)
            refine V_iload rfl rfl ?_
            refine V_ic (v := nI 1) rfl rfl ?_
            -- at 85: .if_icmp .ne 7
            refine V_icmp_ne rfl (fun hk => ?_) (fun hk => ?_)
            · have hk : ¬ st.1.1 i = 1 := fun q => hk (by rw [q])
              have e : nodA (st.1.1 i) (st.1.2.1 i) v 3 = nI (crd (st.1.1 i) (st.1.2.1 i) v) := if_neg hk
              rw [e]
              refine V_aload_n rfl rfl rfl ?_
              refine V_iload rfl rfl ?_
              refine V_ic (v := nI 1) rfl rfl ?_
              refine V_isub rfl ?_
              refine V_iload rfl rfl ?_
              refine V_aload_n rfl rfl rfl ?_
              refine V_iload_n rfl rfl ?_
              -- at 101: .invokevirtual 204
              rw [nI_sub (by omega)]
              refine V_cV rfl rfl rfl rfl rfl (m_code hs hi6) ?_
              refine V_iload_n rfl rfl ?_
              -- at 105: .invokestatic 219
              refine V_cS rfl rfl rfl rfl (m_wot hwi.1 hC21 hvi) ?_
              refine V_callV rfl rfl rfl rfl rfl (m_frm (by omega) (wot_lt hvi)) ?_
              rintro _ h1 ⟨rfl, f1⟩
              refine V_iret rfl rfl ?_
              exact mq hi0 fm0 f1 (by simp; decide) (by simp; decide) (by simp)
            · have hk := nI_inj (by omega) (by omega) (Decidable.of_not_not hk)
              have e : nodA (st.1.1 i) (st.1.2.1 i) v 3 = -1 := if_pos hk
              rw [e]
              refine V_ic (v := -1) rfl rfl ?_
              refine V_goto rfl ?_
              -- at 111: .ireturn
              refine V_iret rfl rfl ?_
              exact mq0 hi0 fm0
        · have hf := nI_ngt (by omega) (by omega) hf
          refine V_iload_n rfl rfl ?_
          refine V_ic (v := nI 1) rfl rfl ?_
          -- at 63: .if_icmp .ne 8
          refine V_icmp_ne rfl (fun hg => ?_) (fun hg => ?_)
          · have hg : ¬ j = 1 := fun q => hg (by rw [q])
            obtain rfl : j = 0 := by omega
            refine V_iload rfl rfl ?_
            -- at 73: .invokestatic 83
            refine V_cS rfl rfl rfl rfl (c_bc (by omega)) ?_
            refine V_iret rfl rfl ?_
            exact mq0 hi0 fm0
          · obtain rfl : j = 1 := nI_inj (by omega) (by omega) (Decidable.of_not_not hg)
            refine V_iload rfl rfl ?_
            refine V_goto rfl ?_
            -- at 76: .ireturn
            refine V_iret rfl rfl ?_
            exact mq0 hi0 fm0
      · have he := bI_non (Decidable.of_not_not he)
        exact bad (by unfold aNode; rw [e1]; dsimp only; rw [e2, he])
