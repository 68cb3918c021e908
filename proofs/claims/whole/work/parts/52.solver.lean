/-! the class: all nets that have a deck -/
theorem c_take {S : mScr} {dep x m : Nat} {L : List Nat} {h : Hp} (hA : AL h 30 L) (hm : L.length = m + 1) (h7 : m + 1 ≤ 7) (hb : ∀ y ∈ L, y < 2 ^ 21) (hx : x < 2 ^ 21) : Cal S dep 93 [.ref 25, .int (nI x), .int (nI (m + 1))] h (fun q h' => Fr [30] h h' ∧ ((q = some (.int (bI true)) ∧ ∃ L', AL h' 30 L' ∧ L'.length = m ∧ List.Perm (x :: L') L) ∨ (q = some (.int (bI false)) ∧ x ∉ L))) := by
  have hgd : ∀ i, L.getD i 0 < 2 ^ 21 := fun i => getD_lt hb (by decide)
  show V S dep 93 0 [.ref 25, .int (nI x), .int (nI (m + 1)), .null] [] h _
  refine V_ic (v := nI 0) rfl rfl ?_
  refine V_istore_n (L' := [_, _, _, _]) rfl rfl rfl ?_
  -- at 2: .iload_n 3
  have lp := loopUp (P := fun i => (∀ k, k < i → L.getD k 0 ≠ x) → V S dep 93 2 [.ref 25, .int (nI x), .int (nI (m + 1)), .int (nI i)] [] h (fun q h' => Fr [30] h h' ∧ ((q = some (.int (bI true)) ∧ ∃ L', AL h' 30 L' ∧ L'.length = m ∧ List.Perm (x :: L') L) ∨ (q = some (.int (bI false)) ∧ x ∉ L)))) (m + 1) ?_ ?_ 0 (Nat.zero_le _)
  · exact lp (fun k hk => by omega)
  · intro hall
    refine V_iload_n rfl rfl ?_
    refine V_iload_n rfl rfl ?_
    -- at 4: .if_icmp .ge 41
    refine V_icmp_ge rfl (fun hc => ?_) (fun hc => ?_)
    · refine V_ic (v := nI 0) rfl rfl ?_
      -- at 46: .ireturn
      refine V_zret rfl rfl (by first | exact Or.inl rfl | exact Or.inr rfl | assumption) ?_
      refine ⟨Fr.rf, Or.inr ⟨rfl, fun q => ?_⟩⟩
      obtain ⟨i, hi, e⟩ := List.mem_iff_getElem.mp q
      refine hall i (by omega) ?_
      rw [List.getD_eq_getElem?_getD, List.getElem?_eq_getElem hi]
      exact e
    · exact absurd (nI_le (Nat.le_refl _) (by omega)) hc
  · intro i hi ih hall
    have h1 := hgd i
    refine V_iload_n rfl rfl ?_
    refine V_iload_n rfl rfl ?_
    -- at 4: .if_icmp .ge 41
    refine V_icmp_ge rfl (fun hc => ?_) (fun hc => ?_)
    · exact absurd hc (nI_ge hi (by omega))
    · refine V_iload_n rfl rfl ?_
      refine V_bi (v := nI 7) rfl rfl ?_
      -- at 10: .if_icmp .ge 35
      refine V_icmp_ge rfl (fun hd => ?_) (fun hd => ?_)
      · exact absurd hd (nI_ge (show i < 7 by omega) (by omega))
      · refine V_aload_n rfl rfl rfl ?_
        refine V_getR (r := 30) rfl rfl ?_
        refine V_iload_n rfl rfl ?_
        refine V_al 7 rfl rfl (by first | with_reducible rfl | assumption | exact nI_sub (by omega) | exact nI_add _ _) (by first | omega | assumption) rfl ?_
        refine V_iload_n rfl rfl ?_
        -- at 20: .if_icmp .ne 19
        rw [hA i (by omega)]
        refine V_icmp_ne rfl (fun he => ?_) (fun he => ?_)
        · have he : L.getD i 0 ≠ x := fun q => he (by rw [q])
          refine V_iinc (L' := [_, _, _, _]) rfl rfl rfl ?_
          refine V_goto rfl ?_
          -- at 2: .iload_n 3
          rw [show Int32.ofInt 1 = nI 1 from rfl, nI_add]
          exact ih (fun k hk => if e : k = i then e ▸ he else hall k (by omega))
        · have he := nI_inj (by omega) (by omega) (Decidable.of_not_not he)
          refine V_aload_n rfl rfl rfl ?_
          refine V_getR (r := 30) rfl rfl ?_
          refine V_iload_n rfl rfl ?_
          refine V_aload_n rfl rfl rfl ?_
          refine V_getR (r := 30) rfl rfl ?_
          refine V_iload_n rfl rfl ?_
          refine V_ic (v := nI 1) rfl rfl ?_
          refine V_isub rfl ?_
          refine V_al 7 rfl rfl (by first | with_reducible rfl | assumption | exact nI_sub (by omega) | exact nI_add _ _) (by first | omega | assumption) rfl ?_
          -- at 36: .iastore
          rw [show m + 1 - 1 = m by omega, hA m (by omega)]
          refine V_as 7 rfl rfl (by first | with_reducible rfl | assumption | exact nI_sub (by omega) | exact nI_add _ _) (by first | omega | assumption) rfl ?_
          refine V_ic (v := nI 1) rfl rfl ?_
          -- at 38: .ireturn
          refine V_zret rfl rfl (by first | exact Or.inl rfl | exact Or.inr rfl | assumption) ?_
          have tp := take_perm hm hi
          rw [he] at tp
          generalize L.getD m 0 = y at tp ⊢
          refine ⟨Fr.w (by simp), Or.inl ⟨rfl, (L.set i y).take m, fun k hk => ?_, ?_, tp⟩⟩
          · rw [List.length_take, List.length_set] at hk
            rw [List.getD_eq_getElem?_getD, List.getElem?_take_of_lt (by omega), List.getElem?_set]
            by_cases q : i = k
            · subst q
              rw [if_pos rfl, if_pos (by omega), wI_same]; rfl
            · rw [if_neg q, wI_ne (by omega), ← List.getD_eq_getElem?_getD]
              exact hA k (by omega)
          · rw [List.length_take, List.length_set]; omega
theorem c_hasD {S : mScr} {dep b n C : Nat} {cs : List Nat} {h : Hp} (hN : NC h 28 n C) (hD : DK h b cs) (hl : cs.length = n) (hs : Srtd cs) : Cal S (dep + 11) 92 [.ref 25, .ref 28, .ref b] h (fun q h' => q = some (.int (bI (decide (dck n C = cs)))) ∧ Fr [6, 7, 8, 9, 21, 22, 30] h h') := by
  obtain ⟨⟨ha, hn, h0, hg, hb⟩, hC⟩ := id hN
  obtain ⟨hd, hd7, hd0, hdA, hdb⟩ := id hD
  have hb1 := deck_b hd
  have hb2 := deck_b1 hd
  have hfd := deck_free hd
  have hd30 : b ≠ 30 := fun q => by subst q; exact Bool.noConfusion hd
  have hd29 : b + 1 ≠ 30 := fun q => by
    have : b = 29 := by omega
    subst this; exact Bool.noConfusion hd
  have hsb : b ∉ [6, 7, 8, 9, 21, 22, 30] ∧ b + 1 ∉ [6, 7, 8, 9, 21, 22, 30] := by simp at hfd ⊢; omega
  show V S (dep + 11) 92 0 [.ref 25, .ref 28, .ref b, .null] [] h _
  refine V_aload_n rfl rfl hb1 ?_
  refine V_getR rfl (deck_cd hd) ?_
  refine V_ic (v := nI 0) rfl rfl ?_
  refine V_aload_n rfl rfl rfl ?_
  refine V_getR (r := 30) rfl rfl ?_
  refine V_ic (v := nI 0) rfl rfl ?_
  refine V_bi (v := nI 7) rfl rfl ?_
  -- at 12: .invokestatic 122
  refine V_copy (a := b + 1) (b := 30) (n0 := 7) (n1 := 7) rfl (deck_ar hd) rfl (by decide) (by decide) (by decide) (by decide) (by decide) rfl rfl ?_
  refine V_ic (v := nI 0) rfl rfl ?_
  refine V_istore_n (L' := [_, _, _, _]) rfl rfl rfl ?_
  -- at 17: .iload_n 3
  have lp := loopUp (P := fun v => ∀ h1 L, Fr [6, 7, 8, 9, 21, 22, 30] h h1 → AL h1 30 L → L.length = n - v → List.Perm ((crds n C).take v ++ L) cs → V S (dep + 11) 92 17 [.ref 25, .ref 28, .ref b, .int (nI v)] [] h1 (fun q h' => q = some (.int (bI (decide (dck n C = cs)))) ∧ Fr [6, 7, 8, 9, 21, 22, 30] h h')) n ?_ ?_ 0 (Nat.zero_le _)
  · refine lp _ cs (Fr.wr (by simp)) (fun i hi => ?_) (by omega) (by rw [List.take_zero]; exact List.Perm.refl _)
    rw [wA_row]
    have e1 : (nI 0).toNatClampNeg = 0 := rfl
    have e2 : (nI 7).toNatClampNeg = 7 := rfl
    unfold va_cpy
    rw [e1, e2, if_pos (by omega), show 0 + (i - 0) = i by omega]
    exact hdA i hi
  · intro h1 L f1 hA hL hp
    have hN1 := hN.fr f1 (by decide) (by decide)
    have h01 := hN1.1.2.2.1
    refine V_iload_n rfl rfl ?_
    refine V_aload_n rfl rfl (by first | assumption | rfl) ?_
    refine V_gi 0 rfl (net_sz (by first | assumption | rfl)) rfl ?_
    -- at 22: .if_icmp .ge 33
    rw [h01]
    refine V_icmp_ge rfl (fun hc => ?_) (fun hc => ?_)
    · refine V_ic (v := nI 1) rfl rfl ?_
      -- at 56: .ireturn
      refine V_zret rfl rfl (by first | exact Or.inl rfl | exact Or.inr rfl | assumption) ?_
      refine ⟨?_, f1⟩
      have e : L = [] := List.length_eq_zero_iff.mp (by omega)
      rw [e, List.append_nil, show n = (crds n C).length from (crds_len n C).symm] at hp
      have hp2 : List.Perm (crds n C) cs := by
        have : (crds n C).take (crds n C).length = crds n C := List.take_length
        rw [crds_len] at hp this
        rw [this] at hp
        exact hp
      have hq : dck n C = cs := (srt_eq hs).mpr hp2
      rw [decide_eq_true hq]; rfl
    · exact absurd (nI_le (Nat.le_refl _) (by omega)) hc
  · intro v hv ih h1 L f1 hA hL hp
    have hN1 := hN.fr f1 (by decide) (by decide)
    have h01 := hN1.1.2.2.1
    have hD1 := hD.fr f1 hsb.1 hsb.2
    have hcl : crd n C v < 2 ^ 21 := Nat.lt_of_lt_of_le (crd_lt hn) (Nat.pow_le_pow_right (by decide) (tri_le (by omega)))
    have hLb : ∀ y ∈ L, y < 2 ^ 21 := fun y hy => hdb y (hp.mem_iff.mp (List.mem_append_right _ hy))
    refine V_iload_n rfl rfl ?_
    refine V_aload_n rfl rfl (by first | assumption | rfl) ?_
    refine V_gi 0 rfl (net_sz (by first | assumption | rfl)) rfl ?_
    -- at 22: .if_icmp .ge 33
    rw [h01]
    refine V_icmp_ge rfl (fun hc => ?_) (fun hc => ?_)
    · exact absurd hc (nI_ge hv (by omega))
    · refine V_aload_n rfl rfl rfl ?_
      refine V_aload_n rfl rfl rfl ?_
      refine V_getR (r := 20) rfl rfl ?_
      refine V_aload_n rfl rfl (by first | assumption | rfl) ?_
      refine V_iload_n rfl rfl ?_
      -- at 32: .invokevirtual 128
      refine V_callV rfl rfl rfl rfl rfl (c_card hN1 (by decide) hv) ?_
      rintro _ h2 ⟨rfl, f2⟩
      show V S (dep + 11) 92 35 [.ref 25, .ref 28, .ref b, .int (nI v)] [.int (nI (crd n C v)), .ref 25] h2 _
      have hA2 := hA.fr f2 (by decide)
      have f2 : Fr [6, 7, 8, 9, 21, 22, 30] h h2 := f1.tr (f2.mono (by simp))
      have hD2 := hD.fr f2 hsb.1 hsb.2
      obtain ⟨m, hm⟩ : ∃ m, n - v = m + 1 := ⟨n - v - 1, by omega⟩
      have htk : (crds n C).take (v + 1) = (crds n C).take v ++ [crd n C v] := by
        rw [take_getD _ v (by rw [crds_len]; exact hv), crds_at hv]
      refine V_aload_n rfl rfl (by first | assumption | rfl) ?_
      refine V_gi 0 rfl (deck_sz (by first | assumption | rfl)) rfl ?_
      refine V_iload_n rfl rfl ?_
      refine V_isub rfl ?_
      -- at 41: .invokevirtual 131
      rw [hD2.2.2.1, hl, nI_sub (by omega), hm]
      refine V_callV rfl rfl rfl rfl rfl (c_take hA2 (by omega) (by omega) hLb hcl) ?_
      rintro _ h3 ⟨f3, hq⟩
      have f3 : Fr [6, 7, 8, 9, 21, 22, 30] h h3 := f2.tr (f3.mono (by simp))
      rcases hq with ⟨rfl, L', hA3, hL3, hp3⟩ | ⟨rfl, hno⟩
      · show V S (dep + 11) 92 44 [.ref 25, .ref 28, .ref b, .int (nI v)] [.int (bI true)] h3 _
        refine V_if_ne rfl (fun hd => ?_) (fun hd => ?_)
        · refine V_iinc (L' := [_, _, _, _]) rfl rfl rfl ?_
          refine V_goto rfl ?_
          -- at 17: .iload_n 3
          rw [show Int32.ofInt 1 = nI 1 from rfl, nI_add]
          refine ih h3 L' f3 hA3 (by omega) ?_
          rw [htk, List.append_assoc]
          refine List.Perm.trans ?_ hp
          exact List.Perm.append_left _ hp3
        · exact absurd (by decide) hd
      · show V S (dep + 11) 92 44 [.ref 25, .ref 28, .ref b, .int (nI v)] [.int (bI false)] h3 _
        refine V_if_ne rfl (fun hd => ?_) (fun hd => ?_)
        · exact absurd hd (by decide)
        · refine V_ic (v := nI 0) rfl rfl ?_
          -- at 48: .ireturn
          refine V_zret rfl rfl (by first | exact Or.inl rfl | exact Or.inr rfl | assumption) ?_
          refine ⟨?_, f3⟩
          rw [decide_eq_false ?_]; rfl
          intro q
          have hp4 := (srt_eq hs).mp q
          have hp5 : List.Perm (crds n C) ((crds n C).take v ++ L) := hp4.trans hp.symm
          have e5 : crds n C = (crds n C).take v ++ (crds n C).drop v := (List.take_append_drop v _).symm
          have hp6 : List.Perm ((crds n C).take v ++ (crds n C).drop v) ((crds n C).take v ++ L) := e5 ▸ hp5
          have hp7 := (List.perm_append_left_iff _).mp hp6
          refine hno (hp7.mem_iff.mp ?_)
          rw [← crds_at hv]
          have e8 : (crds n C).drop v = (crds n C).getD v 0 :: (crds n C).drop (v + 1) := by
            rw [List.drop_eq_getElem_cons (by rw [crds_len]; exact hv), List.getD_eq_getElem?_getD, List.getElem?_eq_getElem (by rw [crds_len]; exact hv)]
            rfl
          rw [e8]; simp
def FL (h : Hp) (l : List Nat) : Prop := h.1 25 7 = nI l.length ∧ l.length ≤ 64 ∧ AL h 32 l ∧ ∀ x ∈ l, x < 2 ^ 21
theorem c_addF {S : mScr} {dep x : Nat} {l : List Nat} {h : Hp} (hF : FL h l) (hx : x < 2 ^ 21) (hl : l.length < 64) : Cal S dep 94 [.ref 25, .int (nI x)] h (fun q h' => q = none ∧ FL h' (insU x l) ∧ Fr [25, 32] h h') := by
  obtain ⟨h0, _, hA, hb⟩ := id hF
  have hgd : ∀ i, l.getD i 0 < 2 ^ 21 := fun i => getD_lt hb (by decide)
  show V S dep 94 0 [.ref 25, .int (nI x), .null, .null] [] h _
  have fin : ∀ t, t ≤ l.length → (∀ i, i < t → l.getD i 0 < x) → (t < l.length → x ≤ l.getD t 0) → V S dep 94 26 [.ref 25, .int (nI x), .int (nI t), .null] [] h (fun q h' => q = none ∧ FL h' (insU x l) ∧ Fr [25, 32] h h') := by
    intro t ht h1 h2
    have e := insU_at l t ht h1 h2
    have add : ¬ (t < l.length ∧ l.getD t 0 = x) → V S dep 94 54 [.ref 25, .int (nI x), .int (nI t), .null] [] h (fun q h' => q = none ∧ FL h' (insU x l) ∧ Fr [25, 32] h h') := by
      intro hn
      rw [if_neg hn] at e
      refine V_aload_n rfl rfl rfl ?_
      refine V_gi 7 rfl rfl rfl ?_
      refine V_istore_n (L' := [_, _, _, _]) rfl rfl rfl ?_
      -- at 59: .iload_n 3
      rw [h0]
      have lq : ∀ m, ∀ h1, Fr [32] h h1 → (∀ j, j < t + m → h1.1 32 j = nI (l.getD j 0)) → (∀ j, t + m < j → j ≤ l.length → h1.1 32 j = nI (l.getD (j - 1) 0)) → t + m ≤ l.length → V S dep 94 59 [.ref 25, .int (nI x), .int (nI t), .int (nI (t + m))] [] h1 (fun q h' => q = none ∧ FL h' (insU x l) ∧ Fr [25, 32] h h') := by
        intro m
        induction m with
        | zero =>
          intro h1 f1 e1 e2 hm
          refine V_iload_n rfl rfl ?_
          refine V_iload_n rfl rfl ?_
          -- at 61: .if_icmp .le 23
          refine V_icmp_le rfl (fun hc => ?_) (fun hc => ?_)
          · refine V_aload_n rfl rfl rfl ?_
            refine V_getR (r := 32) rfl rfl ?_
            refine V_iload_n rfl rfl ?_
            refine V_iload_n rfl rfl ?_
            refine V_as 64 rfl rfl (by first | with_reducible rfl | assumption | exact nI_sub (by omega) | exact nI_add _ _) (by first | omega | assumption) rfl ?_
            refine V_aload_n rfl rfl rfl ?_
            refine V_dup rfl rfl ?_
            refine V_gi 7 rfl rfl rfl ?_
            refine V_ic (v := nI 1) rfl rfl ?_
            refine V_iadd rfl ?_
            -- at 98: .putfield 31
            rw [wI_oth (by omega), f1.1 25 (by simp), h0, nI_add]
            refine V_pi 7 rfl rfl rfl rfl ?_
            -- at 101: .return_
            refine V_return rfl rfl ?_
            have hle : (insU x l).length = l.length + 1 := by
              rw [e, List.length_append, List.length_take, List.length_cons, List.length_drop]; omega
            refine ⟨rfl, ⟨?_, by omega, fun j hj => ?_, fun y hy => ?_⟩, ?_⟩
            · rw [wI_same, hle]
            · rw [hle] at hj
              rw [wI_oth (by omega), e, List.getD_eq_getElem?_getD]
              by_cases q1 : j < t
              · rw [wI_ne (by omega), List.getElem?_append_left (by rw [List.length_take]; omega), List.getElem?_take_of_lt q1, ← List.getD_eq_getElem?_getD]
                exact e1 j (by omega)
              · rw [List.getElem?_append_right (by rw [List.length_take]; omega), List.length_take, show min t l.length = t by omega]
                by_cases q2 : j = t
                · rw [q2, wI_same, Nat.sub_self]; rfl
                · rw [wI_ne (by omega), show j - t = (j - t - 1) + 1 by omega, List.getElem?_cons_succ, List.getElem?_drop, show t + (j - t - 1) = j - 1 by omega, ← List.getD_eq_getElem?_getD]
                  exact e2 j (by omega) (by omega)
            · rcases insU_mem.mp hy with q | q
              · rw [q]; exact hx
              · exact hb y q
            · exact ((f1.mono (by simp)).tr (Fr.w (by simp))).tr (Fr.w (by simp))
          · exact absurd (nI_le (Nat.le_refl _) (by omega)) hc
        | succ m ihm =>
          intro h1 f1 e1 e2 hm
          refine V_iload_n rfl rfl ?_
          refine V_iload_n rfl rfl ?_
          -- at 61: .if_icmp .le 23
          refine V_icmp_le rfl (fun hc => ?_) (fun hc => ?_)
          · exact absurd hc (nI_ge (by omega) (by omega))
          · refine V_aload_n rfl rfl rfl ?_
            refine V_getR (r := 32) rfl rfl ?_
            refine V_iload_n rfl rfl ?_
            refine V_aload_n rfl rfl rfl ?_
            refine V_getR (r := 32) rfl rfl ?_
            refine V_iload_n rfl rfl ?_
            refine V_ic (v := nI 1) rfl rfl ?_
            refine V_isub rfl ?_
            refine V_al 64 rfl rfl (by first | with_reducible rfl | assumption | exact nI_sub (by omega) | exact nI_add _ _) (by first | omega | assumption) rfl ?_
            -- at 77: .iastore
            rw [e1 _ (by omega)]
            refine V_as 64 rfl rfl (by first | with_reducible rfl | assumption | exact nI_sub (by omega) | exact nI_add _ _) (by first | omega | assumption) rfl ?_
            refine V_iinc (L' := [_, _, _, _]) rfl rfl rfl ?_
            refine V_goto rfl ?_
            -- at 59: .iload_n 3
            rw [show Int32.ofInt (-1) = -1 from rfl, show nI (t + (m + 1)) + -1 = nI (t + m) by rw [show t + (m + 1) = (t + m) + 1 from rfl, nI_succ]; apply nI_ext; show (nI (t + m)).toBitVec + 1 + (-1) = (nI (t + m)).toBitVec; rw [BitVec.add_assoc]; simp]
            refine ihm _ (f1.tr (Fr.w (by simp))) (fun j hj => ?_) (fun j hj hj2 => ?_) (by omega)
            · rw [wI_ne (by omega)]; exact e1 j (by omega)
            · by_cases q : j = t + (m + 1)
              · rw [q, wI_same]
              · rw [wI_ne (by omega)]; exact e2 j (by omega) hj2
      have := lq (l.length - t) h Fr.rf (fun j hj => hA j (by omega)) (fun j hj hj2 => by omega) (by omega)
      rw [show t + (l.length - t) = l.length by omega] at this
      exact this
    refine V_aload_n rfl rfl rfl ?_
    refine V_gi 7 rfl rfl rfl ?_
    refine V_bi (v := nI 64) rfl rfl ?_
    -- at 32: .if_icmp .ge 21
    rw [h0]
    refine V_icmp_ge rfl (fun hc => ?_) (fun hc => ?_)
    · exact absurd hc (nI_ge hl (by omega))
    · refine V_iload_n rfl rfl ?_
      refine V_aload_n rfl rfl rfl ?_
      refine V_gi 7 rfl rfl rfl ?_
      -- at 40: .if_icmp .ge 14
      rw [h0]
      refine V_icmp_ge rfl (fun hd => ?_) (fun hd => ?_)
      · have hd := (nI_leI (by omega) (by omega)).mp hd
        exact add (fun q => by omega)
      · have hd := nI_ngt (by omega) (by omega) hd
        refine V_aload_n rfl rfl rfl ?_
        refine V_getR (r := 32) rfl rfl ?_
        refine V_iload_n rfl rfl ?_
        refine V_al 64 rfl rfl (by first | with_reducible rfl | assumption | exact nI_sub (by omega) | exact nI_add _ _) (by first | omega | assumption) rfl ?_
        refine V_iload_n rfl rfl ?_
        -- at 50: .if_icmp .ne 4
        rw [hA t hd]
        have hgt := hgd t
        refine V_icmp_ne rfl (fun he => ?_) (fun he => ?_)
        · exact add (fun q => he (by rw [q.2]))
        · have he := nI_inj (by omega) (by omega) (Decidable.of_not_not he)
          refine V_return rfl rfl ?_
          rw [if_pos ⟨hd, he⟩] at e
          rw [e]
          exact ⟨rfl, hF, Fr.rf⟩
  refine V_ic (v := nI 0) rfl rfl ?_
  refine V_istore_n (L' := [_, _, _, _]) rfl rfl rfl ?_
  -- at 2: .iload_n 2
  have lp := loopUp (P := fun t => (∀ i, i < t → l.getD i 0 < x) → V S dep 94 2 [.ref 25, .int (nI x), .int (nI t), .null] [] h (fun q h' => q = none ∧ FL h' (insU x l) ∧ Fr [25, 32] h h')) l.length ?_ ?_ 0 (Nat.zero_le _)
  · exact lp (fun i hi => by omega)
  · intro hall
    refine V_iload_n rfl rfl ?_
    refine V_aload_n rfl rfl rfl ?_
    refine V_gi 7 rfl rfl rfl ?_
    -- at 7: .if_icmp .ge 19
    rw [h0]
    refine V_icmp_ge rfl (fun hc => ?_) (fun hc => ?_)
    · exact fin _ (Nat.le_refl _) hall (fun q => by omega)
    · exact absurd (nI_le (Nat.le_refl _) (by omega)) hc
  · intro t ht ih hall
    have hgt := hgd t
    refine V_iload_n rfl rfl ?_
    refine V_aload_n rfl rfl rfl ?_
    refine V_gi 7 rfl rfl rfl ?_
    -- at 7: .if_icmp .ge 19
    rw [h0]
    refine V_icmp_ge rfl (fun hc => ?_) (fun hc => ?_)
    · exact absurd hc (nI_ge ht (by omega))
    · refine V_aload_n rfl rfl rfl ?_
      refine V_getR (r := 32) rfl rfl ?_
      refine V_iload_n rfl rfl ?_
      refine V_al 64 rfl rfl (by first | with_reducible rfl | assumption | exact nI_sub (by omega) | exact nI_add _ _) (by first | omega | assumption) rfl ?_
      refine V_iload_n rfl rfl ?_
      -- at 17: .if_icmp .ge 9
      rw [hA t ht]
      refine V_icmp_ge rfl (fun hd => ?_) (fun hd => ?_)
      · have hd := (nI_leI (by omega) (by omega)).mp hd
        exact fin t (by omega) hall (fun _ => hd)
      · have hd := nI_ngt (by omega) (by omega) hd
        refine V_iinc (L' := [_, _, _, _]) rfl rfl rfl ?_
        refine V_goto rfl ?_
        -- at 2: .iload_n 2
        rw [show Int32.ofInt 1 = nI 1 from rfl, nI_add]
        exact ih (fun i hi => if e : i = t then e ▸ hd else hall i (by omega))
