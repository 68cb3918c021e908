/-! the class: the number of trees -/
theorem tr_zero {n C k : Nat} (hn : n ≤ 7) (h1 : 0 < n) (hk : k < n - 1) (ht : ∀ l, l < k → tS l (lapR n C) 0 0 ≠ 0) (h0 : bV (lapR n C) k k k = 0) : trN n C = 0 := by
  have hes : ∀ e ∈ esF C 0 (tri n), e.1 ≤ n - 1 ∧ e.2 ≤ n - 1 := fun e he => by
    have := esF_in (C := C) hn (tri n) 0 (by omega) e he
    omega
  have hd := det_bord k 0 0 (lapR n C) ht
  have e1 : det (k + 1) (bord k (k + 0) (k + 0) (lapR n C)) = det (k + 1) (lapR n C) := by
    refine det_ext (fun i j hi hj => ?_)
    unfold bord
    have e : ∀ i, i < k + 1 → (if i < k then i else k + 0) = i := fun i hi => by
      by_cases q : i < k
      · rw [if_pos q]
      · rw [if_neg q]; omega
    rw [e i hi, e j hj]
  have e2 : det (k + 1) (lapR n C) = 0 := by
    rw [← e1, hd, ← h0]
    unfold bV
    rw [Nat.sub_self]
  have := det_lead (w := n - 1) (k := k + 1) (es := esF C 0 (tri n)) (by omega) hes e2
  rw [det_TC _ _ (LB_id _) hes] at this
  unfold trN
  have z : ((TC (n - 1) (fun v => v) (esF C 0 (tri n)) : Nat) : Rat) = ((0 : Nat) : Rat) := by rw [this]; rfl
  exact Rat.natCast_inj.mp z
theorem tr_full {n C : Nat} (hn : n ≤ 7) (h1 : 0 < n) (ht : ∀ l, l < n - 1 → tS l (lapR n C) 0 0 ≠ 0) : pS (n - 1) (lapR n C) = (trN n C : Rat) := by
  have hes : ∀ e ∈ esF C 0 (tri n), e.1 ≤ n - 1 ∧ e.2 ≤ n - 1 := fun e he => by
    have := esF_in (C := C) hn (tri n) 0 (by omega) e he
    omega
  rw [← det_full (n - 1) (lapR n C) ht]
  exact det_TC _ _ (LB_id _) hes
theorem c_trees {S : mScr} {dep a n C : Nat} {h : Hp} (hN : NC h a n C) : Cal S (dep + 4) 27 [.ref 13, .ref a] h (fun r h' => r = some (.int (if pcN n C = 1 then nI (trN n C) else 0)) ∧ JF [19] h h') := by
  have hn := hN.1.2.1
  have hnb := hN.1.1
  have hb1 := net_b hnb
  have hp7 : pcN n C ≤ 7 := by
    have := (pcs_lt (g := rowOf n C) (fun v => row128 hn) (n := n) n hn).2
    unfold pcN; omega
  have cp := c_pcs (S := S) (dep := dep + 1) hN.1
  rw [show (pcs (rowOf n C) n n).2 = pcN n C from rfl] at cp
  show V S (dep + 4) 27 0 [.ref 13, .ref a, .null, .null, .null, .null, .null, .null] [] h _
  refine V_aload_n rfl rfl (by first | assumption | rfl) ?_
  -- at 1: .invokevirtual 40
  refine V_cV rfl rfl (by first | assumption | rfl) rfl rfl (cp) ?_
  refine V_ic (v := nI 1) rfl rfl ?_
  -- at 5: .if_icmp .eq 5
  refine V_icmp_eq rfl (fun hc => ?_) (fun hc => ?_)
  · have hc := nI_inj (by omega) (by omega) hc
    rw [if_pos hc]
    have hn0 : 0 < n := by
      apply Nat.pos_of_ne_zero
      intro z
      rw [z] at hc
      unfold pcN at hc
      rw [pcs] at hc
      omega
    obtain ⟨w, hw⟩ : ∃ w, w = n - 1 := ⟨_, rfl⟩
    obtain ⟨A, hA⟩ : ∃ A, A = lapR n C := ⟨_, rfl⟩
    have hAZ : ∀ i j, i < w → j < w → isZ 7 (A i j) := fun i j hi hj => ⟨lapZ n C i j, by rw [hA]; exact lapR_Z hn (by omega) (by omega), lapZ_le hn⟩
    obtain ⟨Q, hQ⟩ : ∃ Q : Option Value → Hp → Prop, Q = fun r h' => r = some (.int (nI (trN n C))) ∧ JF [19] h h' := ⟨_, rfl⟩
    rw [← hQ]
    refine V_aload_n rfl rfl (by first | assumption | rfl) ?_
    refine V_gi 0 rfl (net_sz (by first | assumption | rfl)) rfl ?_
    -- at 14: .iconst 1
    rw [hN.1.2.2.1]
    refine V_ic (v := nI 1) rfl rfl ?_
    refine V_isub rfl ?_
    -- at 16: .istore_n 2
    rw [nI_sub hn0, ← hw]
    refine V_istore_n (L' := [_, _, _, _, _, _, _, _]) rfl rfl rfl ?_
    refine V_ic (v := nI 0) rfl rfl ?_
    refine V_istore_n (L' := [_, _, _, _, _, _, _, _]) rfl rfl rfl ?_
    -- at 19: .iload_n 3
    have main : ∀ h1, CZ h1 A w 0 0 0 → JF [19] h h1 → ∀ v3 v4, V S (dep + 4) 27 89 [.ref 13, .ref a, .int (nI w), v3, v4, .null, .null, .null] [] h1 Q := by
      intro h1 c1 f1 v3 v4
      refine V_lc (v := 1) rfl rfl ?_
      refine V_lstore_n (L' := [_, _, _, _, _, _, _, _]) rfl rfl rfl ?_
      refine V_ic (v := nI 0) rfl rfl ?_
      refine V_istore (L' := [_, _, _, _, _, _, _, _]) rfl rfl rfl ?_
      -- at 94: .iload 5
      rw [show (1 : Int64) = zJ 1 from rfl]
      have lp := loopUp (P := fun k => ∀ h2 (p : Int) v6 v7, (∀ l, l < k → tS l A 0 0 ≠ 0) → CZ h2 A w k 0 0 → pS k A = (p : Rat) → p.natAbs ≤ 100000000 → p ≠ 0 → JF [19] h h2 → V S (dep + 4) 27 94 [.ref 13, .ref a, .int (nI w), .long (zJ p), .null, .int (nI k), v6, v7] [] h2 Q) w ?_ ?_ 0 (Nat.zero_le _)
      · exact lp h1 1 _ _ (fun l hl => by omega) c1 rfl (by decide) (by decide) f1
      · intro h2 p v6 v7 ht c2 hp hpb hp0 f2
        refine V_iload rfl rfl ?_
        refine V_iload_n rfl rfl ?_
        -- at 97: .if_icmp .ge 50
        refine V_icmp_ge rfl (fun hd => ?_) (fun hd => ?_)
        · have e := tr_full hn hn0 (C := C) (by rw [← hw, ← hA]; exact ht)
          rw [← hw, ← hA, hp] at e
          have e : p = (trN n C : Int) := Rat.intCast_inj.mp (by rw [e]; rfl)
          refine V_lload_n rfl rfl ?_
          refine V_l2i rfl ?_
          -- at 149: .ireturn
          rw [zJ_l2i, e]
          refine V_iret rfl rfl ?_
          rw [hQ]
          exact ⟨rfl, f2⟩
        · exact absurd (nI_le (Nat.le_refl _) (by omega)) hd
      · intro k hk ih h2 p v6 v7 ht c2 hp hpb hp0 f2
        obtain ⟨z, ez, lz, vz⟩ := c2 k k (Nat.le_refl _) hk (Nat.le_refl _) hk
        rw [if_neg (by omega)] at vz
        refine V_iload rfl rfl ?_
        refine V_iload_n rfl rfl ?_
        -- at 97: .if_icmp .ge 50
        refine V_icmp_ge rfl (fun hd => ?_) (fun hd => ?_)
        · exact absurd hd (nI_ge hk (by omega))
        · refine V_aload_n rfl rfl rfl ?_
          refine V_getR (r := 19) rfl rfl ?_
          refine V_iload rfl rfl ?_
          refine V_bi (v := nI 7) rfl rfl ?_
          refine V_imul rfl ?_
          -- at 109: .iload 5
          rw [nI_mul]
          refine V_iload rfl rfl ?_
          refine V_iadd rfl ?_
          -- at 112: .laload
          rw [nI_add]
          refine V_ll 49 rfl rfl (by first | with_reducible rfl | assumption | exact nI_sub (by omega) | exact nI_add _ _) (by first | omega | assumption) rfl ?_
          -- at 113: .lstore 6
          rw [ez]
          refine V_lstore (L' := [_, _, _, _, _, _, _, _]) rfl rfl rfl ?_
          refine V_lload rfl rfl ?_
          refine V_lc (v := 0) rfl rfl ?_
          refine V_lcmp rfl ?_
          -- at 119: .ifCond .eq 9
          have zero : z = 0 → V S (dep + 4) 27 128 [.ref 13, .ref a, .int (nI w), .long (zJ p), .null, .int (nI k), .long (zJ z), .null] [] h2 Q := by
            intro hz
            have := tr_zero hn hn0 (C := C) (k := k) (by omega) (by rw [← hA]; exact ht) (by rw [← hA, ← vz, hz]; rfl)
            refine V_ic (v := nI 0) rfl rfl ?_
            -- at 129: .ireturn
            refine V_iret rfl rfl ?_
            rw [hQ, this]
            exact ⟨rfl, f2⟩
          refine V_if_eq rfl (fun he => ?_) (fun he => ?_)
          · exact zero ((zJ_z (by omega)).mp (lg_eq.mp he))
          · have he : z ≠ 0 := fun q => he (lg_eq.mpr ((zJ_z (by omega)).mpr q))
            refine V_lload_n rfl rfl ?_
            refine V_lc (v := 0) rfl rfl ?_
            refine V_lcmp rfl ?_
            -- at 125: .ifCond .ne 5
            refine V_if_ne rfl (fun hf => ?_) (fun hf => ?_)
            · have tk : tS k A 0 0 ≠ 0 := by
                intro q
                apply he
                have : (z : Rat) = ((0 : Int) : Rat) := by
                  rw [vz]
                  unfold bV
                  rw [Nat.sub_self, q]
                  show pS k A * 0 = 0
                  grind
                exact Rat.intCast_inj.mp this
              have ht1 : ∀ l, l < k + 1 → tS l A 0 0 ≠ 0 := fun l hl => by
                by_cases q : l = k
                · rw [q]; exact tk
                · exact ht l (by omega)
              refine V_aload_n rfl rfl rfl ?_
              refine V_iload rfl rfl ?_
              refine V_iload_n rfl rfl ?_
              refine V_lload_n rfl rfl ?_
              -- at 135: .invokevirtual 91
              refine V_callV rfl rfl rfl rfl rfl (c_clr (w := w) (k := k) (A := A) (p := p) (by omega) hk c2 (fun i j h1 h2 h3 h4 => (bV_Z hAZ ht1 (by omega) (by omega) h2 h4).mono (bd_7 _ (by omega))) hp hpb hp0 tk) ?_
              rintro _ h3 ⟨rfl, c3, f3⟩
              show V S (dep + 4) 27 138 [.ref 13, .ref a, .int (nI w), .long (zJ p), .null, .int (nI k), .long (zJ z), .null] [] h3 _
              refine V_lload rfl rfl ?_
              refine V_lstore_n (L' := [_, _, _, _, _, _, _, _]) rfl rfl rfl ?_
              refine V_iinc (L' := [_, _, _, _, _, _, _, _]) rfl rfl rfl ?_
              refine V_goto rfl ?_
              -- at 94: .iload 5
              rw [show Int32.ofInt 1 = nI 1 from rfl, nI_add]
              exact ih h3 z _ _ ht1 c3 (by rw [pS_piv]; exact vz.symm) lz he (f2.tr f3)
            · exact absurd ((zJ_z (by omega)).mp (lg_eq.mp (Decidable.of_not_not hf))) hp0
    have lp := loopUp (P := fun i => ∀ h1 v4, (∀ x y, x < i → y < w → h1.2 19 (x * 7 + y) = zJ (lapZ n C x y)) → JF [19] h h1 → V S (dep + 4) 27 19 [.ref 13, .ref a, .int (nI w), .int (nI i), v4, .null, .null, .null] [] h1 Q) w ?_ ?_ 0 (Nat.zero_le _)
    · exact lp h _ (fun x y hx => by omega) JF.rf
    · intro h1 v4 z1 f1
      refine V_iload_n rfl rfl ?_
      refine V_iload_n rfl rfl ?_
      -- at 21: .if_icmp .ge 68
      refine V_icmp_ge rfl (fun hd => ?_) (fun hd => ?_)
      · refine main h1 (fun i j _ hi _ hj => ⟨lapZ n C i j, z1 i j hi hj, Nat.le_trans (lapZ_le hn) (by decide), ?_⟩) f1 _ _
        rw [if_neg (by omega)]
        unfold bV
        rw [Nat.sub_zero, Nat.sub_zero, pS, tS, hA, lapR_Z hn (by omega) (by omega)]
        grind
      · exact absurd (nI_le (Nat.le_refl _) (by omega)) hd
    · intro i hi ih h1 v4 z1 f1
      refine V_iload_n rfl rfl ?_
      refine V_iload_n rfl rfl ?_
      -- at 21: .if_icmp .ge 68
      refine V_icmp_ge rfl (fun hd => ?_) (fun hd => ?_)
      · exact absurd hd (nI_ge hi (by omega))
      · refine V_ic (v := nI 0) rfl rfl ?_
        refine V_istore (L' := [_, _, _, _, _, _, _, _]) rfl rfl rfl ?_
        -- at 27: .iload 4
        have lq := loopUp (P := fun j => ∀ h2, (∀ x y, x < i → y < w → h2.2 19 (x * 7 + y) = zJ (lapZ n C x y)) → (∀ y, y < j → h2.2 19 (i * 7 + y) = zJ (lapZ n C i y)) → JF [19] h h2 → V S (dep + 4) 27 27 [.ref 13, .ref a, .int (nI w), .int (nI i), .int (nI j), .null, .null, .null] [] h2 Q) w ?_ ?_ 0 (Nat.zero_le _)
        · exact lq h1 z1 (fun y hy => by omega) f1
        · intro h2 z2 y2 f2
          refine V_iload rfl rfl ?_
          refine V_iload_n rfl rfl ?_
          -- at 30: .if_icmp .ge 53
          refine V_icmp_ge rfl (fun he => ?_) (fun he => ?_)
          · refine V_iinc (L' := [_, _, _, _, _, _, _, _]) rfl rfl rfl ?_
            refine V_goto rfl ?_
            -- at 19: .iload_n 3
            rw [show Int32.ofInt 1 = nI 1 from rfl, nI_add]
            refine ih h2 _ (fun x y hx hy => ?_) f2
            by_cases q : x = i
            · rw [q]; exact y2 y hy
            · exact z2 x y (by omega) hy
          · exact absurd (nI_le (Nat.le_refl _) (by omega)) he
        · intro j hj ihj h2 z2 y2 f2
          have hN2 : NC h2 a n C := by
            obtain ⟨⟨x1, x2, x3, x4, x5⟩, x6⟩ := hN
            exact ⟨⟨x1, x2, by rw [f2.1]; exact x3, fun v hv => by rw [f2.1]; exact x4 v hv, x5⟩, x6⟩
          have put : ∀ v, v = zJ (lapZ n C i j) → V S (dep + 4) 27 76 [.ref 13, .ref a, .int (nI w), .int (nI i), .int (nI j), .null, .null, .null] [.long v, .int (nI (i * 7 + j)), .ref 19] h2 Q := by
            intro v hv
            refine V_ls 49 rfl rfl (by first | with_reducible rfl | assumption | exact nI_sub (by omega) | exact nI_add _ _) (by first | omega | assumption) rfl ?_
            refine V_iinc (L' := [_, _, _, _, _, _, _, _]) rfl rfl rfl ?_
            refine V_goto rfl ?_
            -- at 27: .iload 4
            rw [show Int32.ofInt 1 = nI 1 from rfl, nI_add, hv]
            refine ihj _ (fun x y hx hy => ?_) (fun y hy => ?_) (f2.tr (JF.w (by simp)))
            · rw [wJ_ne (by omega)]; exact z2 x y hx hy
            · by_cases q : y = j
              · rw [q, wJ_same]
              · rw [wJ_ne (by omega)]; exact y2 y (by omega)
          refine V_iload rfl rfl ?_
          refine V_iload_n rfl rfl ?_
          -- at 30: .if_icmp .ge 53
          refine V_icmp_ge rfl (fun he => ?_) (fun he => ?_)
          · exact absurd he (nI_ge hj (by omega))
          · refine V_aload_n rfl rfl rfl ?_
            refine V_getR (r := 19) rfl rfl ?_
            refine V_iload_n rfl rfl ?_
            refine V_bi (v := nI 7) rfl rfl ?_
            refine V_imul rfl ?_
            -- at 41: .iload 4
            rw [nI_mul]
            refine V_iload rfl rfl ?_
            refine V_iadd rfl ?_
            -- at 44: .iload_n 3
            rw [nI_add]
            refine V_iload_n rfl rfl ?_
            refine V_iload rfl rfl ?_
            -- at 47: .if_icmp .ne 12
            refine V_icmp_ne rfl (fun hf => ?_) (fun hf => ?_)
            · have hf : i ≠ j := fun q => hf (by rw [q])
              refine V_aload_n rfl rfl (by first | assumption | rfl) ?_
              refine V_iload_n rfl rfl ?_
              refine V_iload rfl rfl ?_
              -- at 63: .invokevirtual 85
              refine V_cV rfl rfl (by first | assumption | rfl) rfl rfl (c_ajC hN2 (by omega) (by omega)) ?_
              refine V_if_eq rfl (fun hg => ?_) (fun hg => ?_)
              · have hg := bI_z.mp hg
                refine V_lc (v := 0) rfl rfl ?_
                -- at 76: .lastore
                exact put _ (by unfold lapZ; rw [if_neg hf, hg]; rfl)
              · have hg := bI_nz.mp hg
                refine V_l2 (v := -1) rfl rfl ?_
                refine V_goto rfl ?_
                -- at 76: .lastore
                exact put _ (by unfold lapZ; rw [if_neg hf, hg]; rfl)
            · have hf := nI_inj (by omega) (by omega) (Decidable.of_not_not hf)
              refine V_aload_n rfl rfl (by first | assumption | rfl) ?_
              refine V_iload_n rfl rfl ?_
              -- at 52: .invokevirtual 67
              refine V_cV rfl rfl (by first | assumption | rfl) rfl rfl (c_degC hN2 (by omega)) ?_
              refine V_i2l rfl ?_
              refine V_goto rfl ?_
              -- at 76: .lastore
              have hpop : pop (rowOf n C i) ≤ 24 := by rw [pop_eq (rowOf_lt' n C i) (by omega)]; have := cnt_le6 (rowOf n C i).testBit n; omega
              exact put _ (by unfold lapZ; rw [if_pos hf, zJ_i2l (by omega)])
  · have hc : ¬ pcN n C = 1 := fun q => hc (by rw [q])
    rw [if_neg hc]
    refine V_ic (v := nI 0) rfl rfl ?_
    -- at 9: .ireturn
    refine V_iret rfl rfl ?_
    exact ⟨rfl, JF.rf⟩
theorem InvX.jf {h h' : Hp} {st : St} (hi : InvX h st) (f : JF [19] h h') : InvX h' st ∧ FX h h' := by
  obtain ⟨a1, a2, a3, a4, a5, a6, a7, a8, a9, a10⟩ := hi
  have e := f.1
  have dk : ∀ {a cs}, DK h a cs → DK h' a cs := fun hD => ⟨hD.1, hD.2.1, by rw [e]; exact hD.2.2.1, fun i hi => by rw [e]; exact hD.2.2.2.1 i hi, hD.2.2.2.2⟩
  refine ⟨⟨⟨fun i hi => ?_, fun d hd => dk (a1.2 d hd)⟩, a2, ?_, fun i hi => by rw [e]; exact a4 i hi, by rw [e]; exact a5, a6, by rw [e]; exact a7, a8, by rw [e]; exact a9, ?_⟩, fun b hb => ⟨by rw [e], f.2 b (by simp; omega)⟩⟩
  · obtain ⟨⟨x1, x2, x3, x4, x5⟩, x6⟩ := a1.1 i hi
    exact ⟨⟨x1, x2, by rw [e]; exact x3, fun v hv => by rw [e]; exact x4 v hv, x5⟩, x6⟩
  · obtain ⟨b1, b2, b3, p, b4, b5, b6⟩ := a3
    exact ⟨b1, b2, by rw [e]; exact b3, p, b4, by rw [e]; exact b5, b6.fr st.2.1 p st.1 b4 (fun q _ _ j _ => by rw [e]) b1 b2⟩
  · rcases a10 with z | ⟨z1, z2⟩
    · exact Or.inl (by rw [e]; exact z)
    · exact Or.inr ⟨by rw [e]; exact z1, fun i h1 h2 => dk (z2 i h1 h2)⟩
theorem x_tree {S : mScr} {dep : Nat} {x : Int32} {st : St} {h : Hp} (hi : InvX h st) : Cal S (dep + 20) 140 [.ref 0, .int x] h (XR h (aTree st x, st)) := by
  obtain ⟨hs, hw, hx, _⟩ := id hi
  show V S (dep + 20) 140 0 [.ref 0, .int x] [] h _
  refine V_iload_n rfl rfl ?_
  -- at 1: .invokestatic 143
  refine V_cS rfl rfl rfl rfl (c_noS) ?_
  refine V_if_eq rfl (fun hc => ?_) (fun hc => ?_)
  · obtain ⟨i, e1, rfl, hi6⟩ := ix_yes hc
    have hn := isS i hi6
    have hb1 := net_b hn
    have hN := hs.1 i hi6
    have ev : aTree st (nI i) = if pcN (st.1.1 i) (st.1.2.1 i) = 1 then nI (trN (st.1.1 i) (st.1.2.1 i)) else 0 := by unfold aTree; rw [e1]
    rw [ev]
    refine V_aload_n rfl rfl rfl ?_
    refine V_getR (r := 13) rfl rfl ?_
    refine V_aload_n rfl rfl rfl ?_
    refine V_getR (r := 1) rfl rfl ?_
    refine V_iload_n rfl rfl ?_
    refine V_a1 rfl (by first | omega | assumption) ?_
    -- at 20: .invokevirtual 282
    refine V_callV rfl rfl rfl rfl rfl (c_trees hN) ?_
    rintro _ h1 ⟨rfl, f1⟩
    refine V_iret rfl rfl ?_
    have := hi.jf f1
    exact ⟨rfl, this.1, this.2⟩
  · have hc := ix_no hc
    have ev : aTree st x = -2 := by unfold aTree; rw [hc]
    rw [ev]
    refine V_bi (v := -2) rfl rfl ?_
    -- at 9: .ireturn
    refine V_iret rfl rfl ?_
    exact xq0 hi
