/-! the reference: all nets of few nodes -/
def fmK (n k : Nat) : List Nat := (List.range k).filter (fun C => decide (frm n C = C))
theorem fmK_succ (n k : Nat) : fmK n (k + 1) = if frm n k = k then fmK n k ++ [k] else fmK n k := by
  unfold fmK
  rw [List.range_succ, List.filter_append]
  by_cases e : frm n k = k
  · rw [if_pos e]; simp [e]
  · rw [if_neg e]; simp [e]
theorem fmK_mono {n : Nat} : ∀ {k m : Nat}, k ≤ m → (fmK n k).length ≤ (fmK n m).length := by
  intro k m
  induction m with
  | zero => intro h; rw [show k = 0 by omega]; exact Nat.le_refl _
  | succ m ih =>
    intro h
    by_cases e : k = m + 1
    · rw [e]; exact Nat.le_refl _
    · have := ih (by omega)
      rw [fmK_succ]
      split
      · rw [List.length_append]; omega
      · exact this
theorem fms_len : ∀ n, n < 6 → (fms n).length ≤ 34 := by
  intro n hn
  have h1 := (fms_T n hn).1
  have h2 : ∀ n, n < 6 → fr (n + 1) - fr n ≤ 34 := by decide
  have := h2 n hn
  omega
def MLay (h : Hp) (n : Nat) : Prop := h.1 188 24 = nI n ∧ h.1 188 23 = nI (fms n).length ∧ AL h 198 (fms n) ∧ (1 < n → ∀ k v, k < (fms n).length → v < n → h.1 199 (5 * k + v) = nI ((dck n ((fms n).getD k 0)).getD v 0))
theorem m_lall {S : mScr} {dep n : Nat} {h : Hp} (hn : n < 6) (hm : MAll h) : Cal S (dep + 13) 221 [.ref 188, .int (nI n)] h (fun q h' => q = none ∧ MLay h' n ∧ MF [6, 7, 23, 24] [192, 193, 195, 198, 199] h h') := by
  have htl : tri n ≤ 10 := by
    have : ∀ n, n < 6 → tri n ≤ 10 := by decide
    exact this n hn
  have hL : (2 : Nat) ^ tri n ≤ 2 ^ 10 := Nat.pow_le_pow_right (by decide) htl
  have h2p := Nat.two_pow_pos (tri n)
  have hfl := fms_len n hn
  obtain ⟨Q, hQ⟩ : ∃ Q : Option Value → Hp → Prop, Q = fun q h' => q = none ∧ MLay h' n ∧ MF [6, 7, 23, 24] [192, 193, 195, 198, 199] h h' := ⟨_, rfl⟩
  rw [← hQ]
  show V S (dep + 13) 221 0 [.ref 188, .int (nI n), .null, .null] [] h _
  refine V_aload_n rfl rfl rfl ?_
  refine V_gi 24 rfl rfl rfl ?_
  refine V_iload_n rfl rfl ?_
  -- at 5: .if_icmp .ne 4
  refine V_icmp_ne rfl (fun hc => ?_) (fun hc => ?_)
  · refine V_aload_n rfl rfl rfl ?_
    refine V_iload_n rfl rfl ?_
    refine V_pi 24 rfl rfl rfl rfl ?_
    refine V_aload_n rfl rfl rfl ?_
    refine V_ic (v := nI 0) rfl rfl ?_
    refine V_pi 23 rfl rfl rfl rfl ?_
    refine V_ic (v := nI 0) rfl rfl ?_
    refine V_istore_n (L' := [_, _, _, _]) rfl rfl rfl ?_
    -- at 21: .iload_n 2
    obtain ⟨h1, hh1⟩ : ∃ h1, h1 = wI (wI h 188 24 (nI n)) 188 23 (nI 0) := ⟨_, rfl⟩
    rw [← hh1]
    have f1 : MF [6, 7, 23, 24] [192, 193, 195, 198, 199] h h1 := by rw [hh1]; exact (MF.f (by simp)).tr (MF.f (by simp))
    have e24 : h1.1 188 24 = nI n := by rw [hh1, wI_ne (by decide), wI_same]
    have e23 : h1.1 188 23 = nI 0 := by rw [hh1, wI_same]
    have lp := loopUp (P := fun k => ∀ h2, MF [6, 7, 23, 24] [192, 193, 195, 198, 199] h h2 → h2.1 188 24 = nI n → h2.1 188 23 = nI (fmK n k).length → AL h2 198 (fmK n k) → V S (dep + 13) 221 21 [.ref 188, .int (nI n), .int (nI k), .null] [] h2 Q) (2 ^ tri n) ?_ ?_ 0 (Nat.zero_le _)
    · exact lp h1 f1 e24 e23 (fun i hi => by simp [fmK] at hi)
    · intro h2 f2 a1 a2 a3
      have a2 : h2.1 188 23 = nI (fms n).length := a2
      have a3 : AL h2 198 (fms n) := a3
      refine V_iload_n rfl rfl ?_
      refine V_iload_n rfl rfl ?_
      -- at 23: .invokestatic 235
      refine V_cS rfl rfl rfl rfl (m_whole (by omega)) ?_
      refine V_icmp_gt rfl (fun hd => ?_) (fun hd => ?_)
      · refine V_ic (v := nI 0) rfl rfl ?_
        refine V_istore_n (L' := [_, _, _, _]) rfl rfl rfl ?_
        -- at 70: .iload_n 2
        have lq := loopUp (P := fun k => ∀ h3 v3, MF [6, 7, 23, 24] [192, 193, 195, 198, 199] h h3 → h3.1 188 24 = nI n → h3.1 188 23 = nI (fms n).length → AL h3 198 (fms n) → (1 < n → ∀ j v, j < k → v < n → h3.1 199 (5 * j + v) = nI ((dck n ((fms n).getD j 0)).getD v 0)) → V S (dep + 13) 221 70 [.ref 188, .int (nI n), .int (nI k), v3] [] h3 Q) (fms n).length ?_ ?_ 0 (Nat.zero_le _)
        · exact lq h2 _ f2 a1 a2 a3 (fun _ j v hj => by omega)
        · intro h3 v3 f3 b1 b2 b3 b4
          refine V_iload_n rfl rfl ?_
          refine V_aload_n rfl rfl rfl ?_
          refine V_gi 23 rfl rfl rfl ?_
          -- at 75: .if_icmp .ge 58
          rw [b2]
          refine V_icmp_ge rfl (fun he => ?_) (fun he => ?_)
          · refine V_return rfl rfl ?_
            rw [hQ]
            exact ⟨rfl, ⟨b1, b2, b3, b4⟩, f3⟩
          · exact absurd (nI_le (Nat.le_refl _) (by omega)) he
        · intro k hk ih h3 v3 f3 b1 b2 b3 b4
          refine V_iload_n rfl rfl ?_
          refine V_aload_n rfl rfl rfl ?_
          refine V_gi 23 rfl rfl rfl ?_
          -- at 75: .if_icmp .ge 58
          rw [b2]
          refine V_icmp_ge rfl (fun he => ?_) (fun he => ?_)
          · exact absurd he (nI_ge hk (by omega))
          · refine V_iload_n rfl rfl ?_
            refine V_ic (v := nI 1) rfl rfl ?_
            -- at 80: .if_icmp .le 53
            refine V_icmp_le rfl (fun hg => ?_) (fun hg => ?_)
            · have hg := (nI_leI (by omega) (by omega)).mp hg
              refine V_return rfl rfl ?_
              rw [hQ]
              exact ⟨rfl, ⟨b1, b2, b3, fun q => by omega⟩, f3⟩
            · have hg := nI_ngt (by omega) (by omega) hg
              have hCk : (fms n).getD k 0 < 2 ^ tri n := (fms_mem.mp (getD_mem hk)).1
              refine V_aload_n rfl rfl rfl ?_
              refine V_iload_n rfl rfl ?_
              refine V_aload_n rfl rfl rfl ?_
              refine V_getR (r := 198) rfl rfl ?_
              refine V_iload_n rfl rfl ?_
              refine V_al 34 rfl rfl (by first | with_reducible rfl | assumption | exact nI_sub (by omega) | exact nI_add _ _) (by first | omega | assumption) rfl ?_
              refine V_aload_n rfl rfl rfl ?_
              refine V_getR (r := 195) rfl rfl ?_
              -- at 95: .invokevirtual 241
              rw [b3 k hk]
              refine V_callV rfl rfl rfl rfl rfl (m_deals (r := 195) (by omega) (by omega) hCk rfl rfl (by decide) (by decide) (by decide)) ?_
              rintro _ h4 ⟨rfl, hA4, f4⟩
              show V S (dep + 13) 221 98 [.ref 188, .int (nI n), .int (nI k), v3] [] h4 _
              have e199 : h4.1 199 = h3.1 199 := f4.2.1 199 (by decide) (by simp)
              have c1 : h4.1 188 24 = nI n := by rw [f4.2.2 24 (by simp)]; exact b1
              have c2 : h4.1 188 23 = nI (fms n).length := by rw [f4.2.2 23 (by simp)]; exact b2
              have c3 := b3.mf f4 (by simp) (by decide)
              have f4 : MF [6, 7, 23, 24] [192, 193, 195, 198, 199] h h4 := f3.tr (f4.mono (by simp) (by simp))
              have hdl := dck_len n ((fms n).getD k 0)
              refine V_ic (v := nI 0) rfl rfl ?_
              refine V_istore_n (L' := [_, _, _, _]) rfl rfl rfl ?_
              -- at 100: .iload_n 3
              have lr := loopUp (P := fun v => ∀ h5, MF [6, 7, 23, 24] [192, 193, 195, 198, 199] h h5 → h5.1 188 24 = nI n → h5.1 188 23 = nI (fms n).length → AL h5 198 (fms n) → AL h5 195 (dck n ((fms n).getD k 0)) → (∀ j v, j < k → v < n → h5.1 199 (5 * j + v) = nI ((dck n ((fms n).getD j 0)).getD v 0)) → (∀ u, u < v → h5.1 199 (5 * k + u) = nI ((dck n ((fms n).getD k 0)).getD u 0)) → V S (dep + 13) 221 100 [.ref 188, .int (nI n), .int (nI k), .int (nI v)] [] h5 Q) n ?_ ?_ 0 (Nat.zero_le _)
              · exact lr h4 f4 c1 c2 c3 hA4 (fun j v hj hv => by rw [e199]; exact b4 hg j v hj hv) (fun u hu => by omega)
              · intro h5 f5 d1 d2 d3 d4 d5 d6
                refine V_iload_n rfl rfl ?_
                refine V_iload_n rfl rfl ?_
                -- at 102: .if_icmp .ge 25
                refine V_icmp_ge rfl (fun hz => ?_) (fun hz => ?_)
                · refine V_iinc (L' := [_, _, _, _]) rfl rfl rfl ?_
                  refine V_goto rfl ?_
                  -- at 70: .iload_n 2
                  rw [show Int32.ofInt 1 = nI 1 from rfl, nI_add]
                  refine ih h5 _ f5 d1 d2 d3 (fun _ j v hj hv => ?_)
                  by_cases q : j = k
                  · rw [q]; exact d6 v hv
                  · exact d5 j v (by omega) hv
                · exact absurd (nI_le (Nat.le_refl _) (by omega)) hz
              · intro v hv ih2 h5 f5 d1 d2 d3 d4 d5 d6
                refine V_iload_n rfl rfl ?_
                refine V_iload_n rfl rfl ?_
                -- at 102: .if_icmp .ge 25
                refine V_icmp_ge rfl (fun hz => ?_) (fun hz => ?_)
                · exact absurd hz (nI_ge hv (by omega))
                · refine V_aload_n rfl rfl rfl ?_
                  refine V_getR (r := 199) rfl rfl ?_
                  refine V_ic (v := nI 5) rfl rfl ?_
                  refine V_iload_n rfl rfl ?_
                  refine V_imul rfl ?_
                  refine V_iload_n rfl rfl ?_
                  refine V_iadd rfl ?_
                  -- at 114: .aload_n 0
                  rw [nI_mul, nI_add]
                  refine V_aload_n rfl rfl rfl ?_
                  refine V_getR (r := 195) rfl rfl ?_
                  refine V_iload_n rfl rfl ?_
                  refine V_al 7 rfl rfl (by first | with_reducible rfl | assumption | exact nI_sub (by omega) | exact nI_add _ _) (by first | omega | assumption) rfl ?_
                  -- at 120: .iastore
                  rw [d4 v (by omega)]
                  refine V_as 170 rfl rfl (by first | with_reducible rfl | assumption | exact nI_sub (by omega) | exact nI_add _ _) (by first | omega | assumption) rfl ?_
                  refine V_iinc (L' := [_, _, _, _]) rfl rfl rfl ?_
                  refine V_goto rfl ?_
                  -- at 100: .iload_n 3
                  rw [show Int32.ofInt 1 = nI 1 from rfl, nI_add]
                  refine ih2 _ (f5.tr (MF.w (by simp) (by decide))) (by rw [wI_oth (by decide)]; exact d1) (by rw [wI_oth (by decide)]; exact d2) (fun i hi => by rw [wI_oth (by decide)]; exact d3 i hi) (fun i hi => by rw [wI_oth (by decide)]; exact d4 i hi) (fun j w hj hw => by rw [wI_ne (by omega)]; exact d5 j w hj hw) (fun u hu => ?_)
                  by_cases q : u = v
                  · rw [q, wI_same]
                  · rw [wI_ne (by omega)]; exact d6 u (by omega)
      · exact absurd (nI_lt (by omega) (by omega)) hd
    · intro k hk ih h2 f2 a1 a2 a3
      rw [fmK_succ] at ih
      have hml : (fmK n k).length ≤ 34 := Nat.le_trans (fmK_mono (show k ≤ 2 ^ tri n by omega)) hfl
      refine V_iload_n rfl rfl ?_
      refine V_iload_n rfl rfl ?_
      -- at 23: .invokestatic 235
      refine V_cS rfl rfl rfl rfl (m_whole (by omega)) ?_
      refine V_icmp_gt rfl (fun hd => ?_) (fun hd => ?_)
      · exact absurd hd (nI_nlt (by omega) (by omega))
      · refine V_aload_n rfl rfl rfl ?_
        refine V_iload_n rfl rfl ?_
        refine V_iload_n rfl rfl ?_
        -- at 32: .invokevirtual 115
        refine V_callV rfl rfl rfl rfl rfl (m_frm (by omega) hk) ?_
        rintro _ h3 ⟨rfl, f3⟩
        show V S (dep + 13) 221 35 [.ref 188, .int (nI n), .int (nI k), .null] [.int (nI (frm n k))] h3 _
        have b1 : h3.1 188 24 = nI n := by rw [f3.2.2 24 (by simp)]; exact a1
        have b2 : h3.1 188 23 = nI (fmK n k).length := by rw [f3.2.2 23 (by simp)]; exact a2
        have b3 := a3.mf f3 (by simp) (by decide)
        have f3 : MF [6, 7, 23, 24] [192, 193, 195, 198, 199] h h3 := f2.tr (f3.mono (by simp) (by simp))
        have hfk := frm21 (n := n) (C := k) (by omega)
        refine V_iload_n rfl rfl ?_
        -- at 36: .if_icmp .eq 6
        refine V_icmp_eq rfl (fun he => ?_) (fun he => ?_)
        · have he := nI_inj (by omega) (by omega) he
          rw [if_pos he] at ih
          have hm2 : (fmK n (k + 1)).length ≤ 34 := Nat.le_trans (fmK_mono (show k + 1 ≤ 2 ^ tri n by omega)) hfl
          rw [fmK_succ, if_pos he, List.length_append] at hm2
          have hm2 : (fmK n k).length + 1 ≤ 34 := hm2
          refine V_aload_n rfl rfl rfl ?_
          refine V_getR (r := 198) rfl rfl ?_
          refine V_aload_n rfl rfl rfl ?_
          refine V_gi 23 rfl rfl rfl ?_
          -- at 50: .iload_n 2
          rw [b2]
          refine V_iload_n rfl rfl ?_
          refine V_as 34 rfl rfl (by first | with_reducible rfl | assumption | exact nI_sub (by omega) | exact nI_add _ _) (by first | omega | assumption) rfl ?_
          refine V_aload_n rfl rfl rfl ?_
          refine V_dup rfl rfl ?_
          refine V_gi 23 rfl rfl rfl ?_
          refine V_ic (v := nI 1) rfl rfl ?_
          -- at 58: .iadd
          rw [wI_oth (by decide), b2]
          refine V_iadd rfl ?_
          -- at 59: .putfield 275
          rw [nI_add]
          refine V_pi 23 rfl rfl rfl rfl ?_
          refine V_iinc (L' := [_, _, _, _]) rfl rfl rfl ?_
          refine V_goto rfl ?_
          -- at 21: .iload_n 2
          rw [show Int32.ofInt 1 = nI 1 from rfl, nI_add]
          have ih2 := ih (wI (wI h3 198 (fmK n k).length (nI k)) 188 23 (nI ((fmK n k).length + 1))) ((f3.tr (MF.w (by simp) (by decide))).tr (MF.f (by simp))) (by rw [wI_ne (by decide), wI_oth (by decide)]; exact b1) (by rw [wI_same, List.length_append]; rfl) (fun i hi => by
            rw [List.length_append] at hi
            have hi : i < (fmK n k).length + 1 := hi
            rw [wI_oth (by decide)]
            by_cases q : i = (fmK n k).length
            · rw [q, wI_same, List.getD_eq_getElem?_getD, List.getElem?_append_right (Nat.le_refl _)]; simp
            · rw [wI_ne (by omega), List.getD_eq_getElem?_getD, List.getElem?_append_left (by omega), ← List.getD_eq_getElem?_getD]
              exact b3 i (by omega))
          exact ih2
        · rw [if_neg (fun q => he (by rw [q]))] at ih
          refine V_goto rfl ?_
          refine V_iinc (L' := [_, _, _, _]) rfl rfl rfl ?_
          refine V_goto rfl ?_
          -- at 21: .iload_n 2
          rw [show Int32.ofInt 1 = nI 1 from rfl, nI_add]
          exact ih h3 f3 b1 b2 b3
  · have hc := Decidable.of_not_not hc
    refine V_return rfl rfl ?_
    rw [hQ]
    refine ⟨rfl, ?_, MF.rf⟩
    rcases hm with e | ⟨m, a1, a2, a3, a4, a5⟩
    · rw [e] at hc
      have := congrArg Int32.toInt hc
      rw [nI_toInt (by omega)] at this
      have e1 : (-1 : Int32).toInt = -1 := rfl
      omega
    · rw [a2] at hc
      have := nI_inj (by omega) (by omega) hc
      subst this
      exact ⟨a2, a3, a4, a5⟩
theorem InvM.lay {h h' : Hp} {st : St} {n : Nat} (hi : InvM h st) (hn : n < 6) (f : MF [6, 7, 23, 24] [192, 193, 195, 198, 199] h h') (hl : MLay h' n) : InvM h' st := by
  obtain ⟨a0, b0, a1, a2, a3, a4, a5, a6, a7, a8⟩ := hi
  exact ⟨a0.mf f (by simp), b0, a1.eq (f.2.2 3 (by simp)) (f.2.1 191 (by decide) (by simp)), fun i hi => by rw [f.2.1 194 (by decide) (by simp)]; exact a2 i hi, by rw [f.2.2 10 (by simp)]; exact a3, a4, by rw [f.2.2 13 (by simp)]; exact a5, a6, by rw [f.2.2 14 (by simp)]; exact a7, Or.inr ⟨n, by omega, hl.1, hl.2.1, hl.2.2.1, hl.2.2.2⟩⟩
def hal (ds xs : List Nat) : Nat → Nat
  | 0 => 0
  | v + 1 => if hal ds xs v < xs.length ∧ ds.getD v 0 = xs.getD (hal ds xs v) 0 then hal ds xs v + 1 else hal ds xs v
theorem hal_le (ds xs : List Nat) : ∀ v, hal ds xs v ≤ xs.length := by
  intro v
  induction v with
  | zero => exact Nat.zero_le _
  | succ v ih => rw [hal]; split <;> omega
theorem hal_full {ds xs : List Nat} : ∀ {v m : Nat}, v ≤ m → hal ds xs v = xs.length → hal ds xs m = xs.length := by
  intro v m
  induction m with
  | zero => intro h1 h2; rw [show v = 0 by omega] at h2; exact h2
  | succ m ih =>
    intro h1 h2
    by_cases e : v = m + 1
    · rw [← e]; exact h2
    · have := ih (by omega) h2
      rw [hal, this, if_neg (by omega)]
theorem m_hal {S : mScr} {dep n k : Nat} {ds xs : List Nat} {h : Hp} (hn : n ≤ 5) (hk : k < 34) (hd : ∀ v, v < n → h.1 199 (5 * k + v) = nI (ds.getD v 0)) (hx : AL h 202 xs) (hxl : xs.length ≤ 7) (hb1 : ∀ x ∈ ds, x < 2 ^ 21) (hb2 : ∀ x ∈ xs, x < 2 ^ 21) : Cal S dep 222 [.ref 188, .int (nI k), .int (nI n), .int (nI xs.length)] h (Rt (bI (decide (hal ds xs n = xs.length))) h) := by
  have g1 : ∀ i, ds.getD i 0 < 2 ^ 21 := fun i => getD_lt hb1 (by decide)
  have g2 : ∀ i, xs.getD i 0 < 2 ^ 21 := fun i => getD_lt hb2 (by decide)
  show V S dep 222 0 [.ref 188, .int (nI k), .int (nI n), .int (nI xs.length), .null, .null] [] h _
  have fin : ∀ v, v ≤ n → (hal ds xs v = xs.length ∨ v = n) → V S dep 222 48 [.ref 188, .int (nI k), .int (nI n), .int (nI xs.length), .int (nI (hal ds xs v)), .int (nI v)] [] h (Rt (bI (decide (hal ds xs n = xs.length))) h) := by
    intro v hv e
    have hl := hal_le ds xs v
    refine V_iload rfl rfl ?_
    refine V_iload_n rfl rfl ?_
    -- at 51: .if_icmp .ne 7
    refine V_icmp_ne rfl (fun hz => ?_) (fun hz => ?_)
    · have hz : ¬ hal ds xs v = xs.length := fun q => hz (by rw [q])
      refine V_ic (v := nI 0) rfl rfl ?_
      -- at 59: .ireturn
      refine V_zret rfl rfl (by first | exact Or.inl rfl | exact Or.inr rfl | assumption) ?_
      obtain rfl : v = n := e.resolve_left hz
      exact Rt.of (by rw [decide_eq_false hz]; rfl)
    · have hz := nI_inj (by omega) (by omega) (Decidable.of_not_not hz)
      refine V_ic (v := nI 1) rfl rfl ?_
      refine V_goto rfl ?_
      -- at 59: .ireturn
      refine V_zret rfl rfl (by first | exact Or.inl rfl | exact Or.inr rfl | assumption) ?_
      exact Rt.of (by rw [decide_eq_true (hal_full hv hz)]; rfl)
  refine V_ic (v := nI 0) rfl rfl ?_
  refine V_istore (L' := [_, _, _, _, _, _]) rfl rfl rfl ?_
  refine V_ic (v := nI 0) rfl rfl ?_
  refine V_istore (L' := [_, _, _, _, _, _]) rfl rfl rfl ?_
  -- at 6: .iload 5
  have lp := loopUp (P := fun v => V S dep 222 6 [.ref 188, .int (nI k), .int (nI n), .int (nI xs.length), .int (nI (hal ds xs v)), .int (nI v)] [] h (Rt (bI (decide (hal ds xs n = xs.length))) h)) n ?_ ?_ 0 (Nat.zero_le _)
  · exact lp
  · refine V_iload rfl rfl ?_
    refine V_iload_n rfl rfl ?_
    -- at 9: .if_icmp .ge 39
    refine V_icmp_ge rfl (fun hc => ?_) (fun hc => ?_)
    · exact fin n (Nat.le_refl _) (Or.inr rfl)
    · exact absurd (nI_le (Nat.le_refl _) (by omega)) hc
  · intro v hv ih
    have hl := hal_le ds xs v
    have q1 := g1 v
    have q2 := g2 (hal ds xs v)
    refine V_iload rfl rfl ?_
    refine V_iload_n rfl rfl ?_
    -- at 9: .if_icmp .ge 39
    refine V_icmp_ge rfl (fun hc => ?_) (fun hc => ?_)
    · exact absurd hc (nI_ge hv (by omega))
    · refine V_iload rfl rfl ?_
      refine V_iload_n rfl rfl ?_
      -- at 15: .if_icmp .ge 33
      refine V_icmp_ge rfl (fun he => ?_) (fun he => ?_)
      · have he := (nI_leI (by omega) (by omega)).mp he
        exact fin v (by omega) (Or.inl (by omega))
      · have he := nI_ngt (by omega) (by omega) he
        rw [hal] at ih
        refine V_aload_n rfl rfl rfl ?_
        refine V_getR (r := 199) rfl rfl ?_
        refine V_ic (v := nI 5) rfl rfl ?_
        refine V_iload_n rfl rfl ?_
        refine V_imul rfl ?_
        refine V_iload rfl rfl ?_
        refine V_iadd rfl ?_
        -- at 28: .iaload
        rw [nI_mul, nI_add]
        refine V_al 170 rfl rfl (by first | with_reducible rfl | assumption | exact nI_sub (by omega) | exact nI_add _ _) (by first | omega | assumption) rfl ?_
        -- at 29: .aload_n 0
        rw [hd v hv]
        refine V_aload_n rfl rfl rfl ?_
        refine V_getR (r := 202) rfl rfl ?_
        refine V_iload rfl rfl ?_
        refine V_al 7 rfl rfl (by first | with_reducible rfl | assumption | exact nI_sub (by omega) | exact nI_add _ _) (by first | omega | assumption) rfl ?_
        -- at 36: .if_icmp .ne 6
        rw [hx _ he]
        refine V_icmp_ne rfl (fun hg => ?_) (fun hg => ?_)
        · rw [if_neg (fun q => hg (by rw [q.2]))] at ih
          refine V_iinc (L' := [_, _, _, _, _, _]) rfl rfl rfl ?_
          refine V_goto rfl ?_
          -- at 6: .iload 5
          rw [show Int32.ofInt 1 = nI 1 from rfl, nI_add]
          exact ih
        · have hg := nI_inj (by omega) (by omega) (Decidable.of_not_not hg)
          rw [if_pos ⟨he, hg⟩] at ih
          refine V_iinc (L' := [_, _, _, _, _, _]) rfl rfl rfl ?_
          refine V_iinc (L' := [_, _, _, _, _, _]) rfl rfl rfl ?_
          refine V_goto rfl ?_
          -- at 6: .iload 5
          rw [show Int32.ofInt 1 = nI 1 from rfl, nI_add, nI_add]
          exact ih
def selL (as : List Nat) (s : Nat) : Nat → List Nat
  | 0 => []
  | v + 1 => if s.testBit v = true then selL as s v ++ [as.getD v 0] else selL as s v
theorem selL_len (as : List Nat) (s : Nat) : ∀ v, (selL as s v).length ≤ v := by
  intro v
  induction v with
  | zero => exact Nat.le_refl _
  | succ v ih =>
    rw [selL]
    split
    · rw [List.length_append]; exact Nat.succ_le_succ ih
    · omega
theorem selL_b {as : List Nat} (hb : ∀ x ∈ as, x < 2 ^ 21) (s : Nat) : ∀ v, ∀ x ∈ selL as s v, x < 2 ^ 21 := by
  intro v
  induction v with
  | zero => intro x hx; simp [selL] at hx
  | succ v ih =>
    intro x hx
    rw [selL] at hx
    split at hx
    · rw [List.mem_append] at hx
      rcases hx with q | q
      · exact ih x q
      · simp at q; rw [q]; exact getD_lt hb (by decide)
    · exact ih x hx
def dM (n k : Nat) : List Nat := dck n ((fms n).getD k 0)
def tlP (n own s k : Nat) : Bool := decide (k = own) || !decide (hal (dM n k) (selL (dM n own) s n) n = (selL (dM n own) s n).length)
def tlB (n own s : Nat) : Bool := allB (tlP n own s) (fms n).length
theorem m_tells {S : mScr} {dep n own s : Nat} {h : Hp} (hn : n < 6) (h3 : 3 ≤ n) (ho : own < (fms n).length) (hl : MLay h n) (hs : s < 128) : Cal S (dep + 1) 223 [.ref 188, .int (nI n), .int (nI own), .int (nI s)] h (fun q h' => q = some (.int (bI (tlB n own s))) ∧ MF [] [202] h h') := by
  have hfl := fms_len n hn
  have hdb : ∀ k, ∀ x ∈ dM n k, x < 2 ^ 21 := fun k x hx => crds21 (by omega) (srt_mem.mp hx)
  show V S (dep + 1) 223 0 [.ref 188, .int (nI n), .int (nI own), .int (nI s), .null, .null] [] h _
  refine V_ic (v := nI 0) rfl rfl ?_
  refine V_istore (L' := [_, _, _, _, _, _]) rfl rfl rfl ?_
  refine V_ic (v := nI 0) rfl rfl ?_
  refine V_istore (L' := [_, _, _, _, _, _]) rfl rfl rfl ?_
  -- at 6: .iload 5
  have lp := loopUp (P := fun v => ∀ h1, MF [] [202] h h1 → AL h1 202 (selL (dM n own) s v) → V S (dep + 1) 223 6 [.ref 188, .int (nI n), .int (nI own), .int (nI s), .int (nI (selL (dM n own) s v).length), .int (nI v)] [] h1 (fun q h' => q = some (.int (bI (tlB n own s))) ∧ MF [] [202] h h')) n ?_ ?_ 0 (Nat.zero_le _)
  · exact lp h MF.rf (fun i hi => by simp [selL] at hi)
  · intro h1 f1 hA1
    have hsl := selL_len (dM n own) s n
    have e23 : h1.1 188 23 = nI (fms n).length := by rw [f1.2.2 23 (by simp)]; exact hl.2.1
    have e199 : h1.1 199 = h.1 199 := f1.2.1 199 (by decide) (by simp)
    refine V_iload rfl rfl ?_
    refine V_iload_n rfl rfl ?_
    -- at 9: .if_icmp .ge 42
    refine V_icmp_ge rfl (fun hc => ?_) (fun hc => ?_)
    · refine V_ic (v := nI 0) rfl rfl ?_
      refine V_istore (L' := [_, _, _, _, _, _]) rfl rfl rfl ?_
      -- at 54: .iload 5
      have lq := loopUp (P := fun k => (∀ j, j < k → tlP n own s j = true) → V S (dep + 1) 223 54 [.ref 188, .int (nI n), .int (nI own), .int (nI s), .int (nI (selL (dM n own) s n).length), .int (nI k)] [] h1 (fun q h' => q = some (.int (bI (tlB n own s))) ∧ MF [] [202] h h')) (fms n).length ?_ ?_ 0 (Nat.zero_le _)
      · exact lq (fun j hj => by omega)
      · intro hall
        refine V_iload rfl rfl ?_
        refine V_aload_n rfl rfl rfl ?_
        refine V_gi 23 rfl rfl rfl ?_
        -- at 60: .if_icmp .ge 29
        rw [e23]
        refine V_icmp_ge rfl (fun hd => ?_) (fun hd => ?_)
        · refine V_ic (v := nI 1) rfl rfl ?_
          -- at 90: .ireturn
          refine V_zret rfl rfl (by first | exact Or.inl rfl | exact Or.inr rfl | assumption) ?_
          exact ⟨by rw [show tlB n own s = true from allB_iff.mpr hall]; rfl, f1⟩
        · exact absurd (nI_le (Nat.le_refl _) (by omega)) hd
      · intro k hk ih hall
        have next : tlP n own s k = true → V S (dep + 1) 223 83 [.ref 188, .int (nI n), .int (nI own), .int (nI s), .int (nI (selL (dM n own) s n).length), .int (nI k)] [] h1 (fun q h' => q = some (.int (bI (tlB n own s))) ∧ MF [] [202] h h') := by
          intro e
          refine V_iinc (L' := [_, _, _, _, _, _]) rfl rfl rfl ?_
          refine V_goto rfl ?_
          -- at 54: .iload 5
          rw [show Int32.ofInt 1 = nI 1 from rfl, nI_add]
          exact ih (fun j hj => if q : j = k then q ▸ e else hall j (by omega))
        refine V_iload rfl rfl ?_
        refine V_aload_n rfl rfl rfl ?_
        refine V_gi 23 rfl rfl rfl ?_
        -- at 60: .if_icmp .ge 29
        rw [e23]
        refine V_icmp_ge rfl (fun hd => ?_) (fun hd => ?_)
        · exact absurd hd (nI_ge hk (by omega))
        · refine V_iload rfl rfl ?_
          refine V_iload_n rfl rfl ?_
          -- at 66: .if_icmp .eq 17
          refine V_icmp_eq rfl (fun he => ?_) (fun he => ?_)
          · have he := nI_inj (by omega) (by omega) he
            exact next (by unfold tlP; rw [decide_eq_true he]; rfl)
          · have he : ¬ k = own := fun q => he (by rw [q])
            refine V_aload_n rfl rfl rfl ?_
            refine V_iload rfl rfl ?_
            refine V_iload_n rfl rfl ?_
            refine V_iload rfl rfl ?_
            -- at 75: .invokevirtual 278
            refine V_cV rfl rfl rfl rfl rfl (m_hal (ds := dM n k) (by omega) (by omega) (fun v hv => by rw [e199]; exact hl.2.2.2 (by omega) k v hk hv) hA1 (by omega) (hdb k) (selL_b (hdb own) s n)) ?_
            have eP : tlP n own s k = !decide (hal (dM n k) (selL (dM n own) s n) n = (selL (dM n own) s n).length) := by unfold tlP; rw [decide_eq_false he]; rfl
            refine V_if_eq rfl (fun hg => ?_) (fun hg => ?_)
            · exact next (by rw [eP, bI_z.mp hg]; rfl)
            · refine V_ic (v := nI 0) rfl rfl ?_
              -- at 82: .ireturn
              refine V_zret rfl rfl (by first | exact Or.inl rfl | exact Or.inr rfl | assumption) ?_
              exact ⟨by rw [show tlB n own s = false from allB_no hk (by rw [eP, bI_nz.mp hg]; rfl)]; rfl, f1⟩
    · exact absurd (nI_le (Nat.le_refl _) (by omega)) hc
  · intro v hv ih h1 f1 hA1
    have hsl := selL_len (dM n own) s v
    have e199 : h1.1 199 = h.1 199 := f1.2.1 199 (by decide) (by simp)
    rw [selL] at ih
    refine V_iload rfl rfl ?_
    refine V_iload_n rfl rfl ?_
    -- at 9: .if_icmp .ge 42
    refine V_icmp_ge rfl (fun hc => ?_) (fun hc => ?_)
    · exact absurd hc (nI_ge hv (by omega))
    · refine V_iload_n rfl rfl ?_
      refine V_iload rfl rfl ?_
      refine V_ishr rfl ?_
      refine V_ic (v := nI 1) rfl rfl ?_
      refine V_iand rfl ?_
      -- at 18: .ifCond .ne 6
      refine V_if_ne rfl (fun hd => ?_) (fun hd => ?_)
      · have hd := (tb_nz (by omega) (by omega)).mp hd
        rw [if_pos hd] at ih
        refine V_aload_n rfl rfl rfl ?_
        refine V_getR (r := 202) rfl rfl ?_
        refine V_iload rfl rfl ?_
        refine V_aload_n rfl rfl rfl ?_
        refine V_getR (r := 199) rfl rfl ?_
        refine V_ic (v := nI 5) rfl rfl ?_
        refine V_iload_n rfl rfl ?_
        refine V_imul rfl ?_
        refine V_iload rfl rfl ?_
        refine V_iadd rfl ?_
        -- at 40: .iaload
        rw [nI_mul, nI_add]
        refine V_al 170 rfl rfl (by first | with_reducible rfl | assumption | exact nI_sub (by omega) | exact nI_add _ _) (by first | omega | assumption) rfl ?_
        -- at 41: .iastore
        rw [e199, hl.2.2.2 (by omega) own v ho hv]
        obtain ⟨y, hy⟩ : ∃ y, y = (dM n own).getD v 0 := ⟨_, rfl⟩
        have hy2 : y = (dck n ((fms n).getD own 0)).getD v 0 := hy
        rw [← hy] at ih
        rw [← hy2]
        refine V_as 7 rfl rfl (by first | with_reducible rfl | assumption | exact nI_sub (by omega) | exact nI_add _ _) (by first | omega | assumption) rfl ?_
        refine V_iinc (L' := [_, _, _, _, _, _]) rfl rfl rfl ?_
        refine V_iinc (L' := [_, _, _, _, _, _]) rfl rfl rfl ?_
        refine V_goto rfl ?_
        -- at 6: .iload 5
        rw [show Int32.ofInt 1 = nI 1 from rfl, nI_add, nI_add]
        have ih2 := ih (wI h1 202 (selL (dM n own) s v).length (nI y)) (f1.tr (MF.w (by simp) (by decide))) (fun i hi => by
          rw [List.length_append] at hi
          have hi : i < (selL (dM n own) s v).length + 1 := hi
          by_cases q : i = (selL (dM n own) s v).length
          · rw [q, wI_same, List.getD_eq_getElem?_getD, List.getElem?_append_right (Nat.le_refl _)]; simp
          · rw [wI_ne (by omega), List.getD_eq_getElem?_getD, List.getElem?_append_left (by omega), ← List.getD_eq_getElem?_getD]
            exact hA1 i (by omega))
        rw [List.length_append] at ih2
        exact ih2
      · have hd : s.testBit v = false := (tb_z (by omega) (by omega)).mp (Decidable.of_not_not hd)
        rw [hd, if_neg (by simp)] at ih
        refine V_goto rfl ?_
        refine V_iinc (L' := [_, _, _, _, _, _]) rfl rfl rfl ?_
        refine V_goto rfl ?_
        -- at 6: .iload 5
        rw [show Int32.ofInt 1 = nI 1 from rfl, nI_add]
        exact ih h1 f1 hA1
