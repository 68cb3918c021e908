/-! the reference: terms -/
theorem wJ_same {h : Hp} {a i : Nat} {v : Int64} : (wJ h a i v).2 a i = v := by simp [wJ]
theorem wJ_ne {h : Hp} {a i b j : Nat} {v : Int64} (hn : ¬(b = a ∧ j = i)) : (wJ h a i v).2 b j = h.2 b j := by simp only [wJ]; rw [if_neg hn]
def JF (A : List Nat) (h h' : Hp) : Prop := h'.1 = h.1 ∧ ∀ b, b ∉ A → h'.2 b = h.2 b
theorem JF.rf {A : List Nat} {h : Hp} : JF A h h := ⟨rfl, fun _ _ => rfl⟩
theorem JF.tr {A : List Nat} {h h1 h2 : Hp} (a : JF A h h1) (b : JF A h1 h2) : JF A h h2 := ⟨b.1.trans a.1, fun c hc => (b.2 c hc).trans (a.2 c hc)⟩
theorem JF.w {A : List Nat} {h : Hp} {a i : Nat} {v : Int64} (ha : a ∈ A) : JF A h (wJ h a i v) := ⟨rfl, fun b hb => by
  funext j
  exact wJ_ne (fun q => hb (q.1 ▸ ha))⟩
def zJ (x : Int) : Int64 := Int64.ofInt x
theorem zJ_add (x y : Int) : zJ x + zJ y = zJ (x + y) := (Int64.ofInt_add x y).symm
theorem zJ_neg (x : Int) : -zJ x = zJ (-x) := (Int64.ofInt_neg x).symm
theorem zJ_i2l {x : Nat} (h : x < 2 ^ 31) : (nI x).toInt64 = zJ (x : Int) := by
  have h1 : Int32.minValue.toInt = -2147483648 := rfl
  have h2 : Int32.maxValue.toInt = 2147483647 := rfl
  exact Int32.toInt64_ofInt (n := (x : Int)) (by omega) (by omega)
theorem zJ_div {x : Int} {k : Nat} (h : x.natAbs < 2 ^ 63) (hk : k < 2 ^ 63) : zJ x / zJ (k : Int) = zJ (x.tdiv (k : Int)) := by
  have h1 : Int64.minValue.toInt = -9223372036854775808 := rfl
  have h2 : Int64.maxValue.toInt = 9223372036854775807 := rfl
  exact (Int64.ofInt_tdiv (by omega) (by omega) (by omega) (by omega)).symm
theorem zJ_l2i (x : Int) : (zJ x).toInt32 = zI x := Int64.toInt32_ofInt
theorem zJ_toInt {x : Int} (h : x.natAbs < 2 ^ 63) : (zJ x).toInt = x := Int64.toInt_ofInt_of_le (by omega) (by omega)
theorem zJ_ne0 {k : Nat} (h : 0 < k) (hk : k < 2 ^ 63) : ¬ zJ (k : Int) = 0 := by
  intro q
  have := congrArg Int64.toInt q
  rw [zJ_toInt (by omega)] at this
  have e : (0 : Int64).toInt = 0 := rfl
  rw [e] at this
  omega
set_option maxHeartbeats 2000000 in
theorem m_terms {S : mScr} {dep n C : Nat} {h : Hp} (hn : n ≤ 7) (hC : C < 2 ^ tri n) : Cal S (dep + 2) 238 [.ref 188, .int (nI n), .int (nI C)] h (fun q h' => q = none ∧ JF [203, 204, 205] h h' ∧ ∀ k, k ≤ n → h'.2 203 k = zJ (cfZ n C k)) := by
  have hC21 := c21 hn hC
  obtain ⟨Q, hQ⟩ : ∃ Q : Option Value → Hp → Prop, Q = fun q h' => q = none ∧ JF [203, 204, 205] h h' ∧ ∀ k, k ≤ n → h'.2 203 k = zJ (cfZ n C k) := ⟨_, rfl⟩
  rw [← hQ]
  show V S (dep + 2) 238 0 [.ref 188, .int (nI n), .int (nI C), .null, .null, .null, .null, .null, .null, .null, .null] [] h _
  refine V_ic (v := nI 0) rfl rfl ?_
  refine V_istore_n (L' := [_, _, _, _, _, _, _, _, _, _, _]) rfl rfl rfl ?_
  -- at 2: .iload_n 3
  have lp := loopUp (P := fun x => ∀ h1, JF [203, 204, 205] h h1 → (∀ i, i < x → h1.2 204 i = zJ 0) → V S (dep + 2) 238 2 [.ref 188, .int (nI n), .int (nI C), .int (nI x), .null, .null, .null, .null, .null, .null, .null] [] h1 Q) 49 ?_ ?_ 0 (Nat.zero_le _)
  · exact lp h JF.rf (fun i hi => by omega)
  · intro h1 f1 z1
    refine V_iload_n rfl rfl ?_
    refine V_bi (v := nI 49) rfl rfl ?_
    -- at 5: .if_icmp .ge 16
    refine V_icmp_ge rfl (fun hc => ?_) (fun hc => ?_)
    · refine V_aload_n rfl rfl rfl ?_
      refine V_getR (r := 203) rfl rfl ?_
      refine V_ic (v := nI 0) rfl rfl ?_
      refine V_lc (v := 1) rfl rfl ?_
      refine V_ls 8 rfl rfl (by first | with_reducible rfl | assumption | exact nI_sub (by omega) | exact nI_add _ _) (by first | omega | assumption) rfl ?_
      refine V_ic (v := nI 1) rfl rfl ?_
      refine V_istore_n (L' := [_, _, _, _, _, _, _, _, _, _, _]) rfl rfl rfl ?_
      -- at 30: .iload_n 3
      have lk : ∀ m s, s + m = n → ∀ h2 v4 v6 v7 v8 v10, JF [203, 204, 205] h h2 → (∀ i j, i < n → j < n → h2.2 204 (7 * i + j) = zJ ((tz n C s).1 i j)) → (∀ k, k ≤ s → h2.2 203 k = zJ (cfZ n C k)) → V S (dep + 2) 238 30 [.ref 188, .int (nI n), .int (nI C), .int (nI (s + 1)), v4, .null, v6, v7, v8, .null, v10] [] h2 Q := by
        intro m
        induction m with
        | zero =>
          intro s hs h2 v4 v6 v7 v8 v10 f2 e2 t2
          obtain rfl : s = n := by omega
          refine V_iload_n rfl rfl ?_
          refine V_iload_n rfl rfl ?_
          -- at 32: .if_icmp .gt 207
          refine V_icmp_gt rfl (fun hd => ?_) (fun hd => ?_)
          · refine V_return rfl rfl ?_
            rw [hQ]
            exact ⟨rfl, f2, t2⟩
          · exact absurd (nI_lt (by omega) (by omega)) hd
        | succ m ihm =>
          intro s hs h2 v4 v6 v7 v8 v10 f2 e2 t2
          have hbd := (tz_bd (C := C) hn (s + 1) (by omega)).2.2
          have hpb := pB_le (s + 1)
          refine V_iload_n rfl rfl ?_
          refine V_iload_n rfl rfl ?_
          -- at 32: .if_icmp .gt 207
          refine V_icmp_gt rfl (fun hd => ?_) (fun hd => ?_)
          · exact absurd hd (nI_nlt (by omega) (by omega))
          · refine V_ic (v := nI 0) rfl rfl ?_
            refine V_istore (L' := [_, _, _, _, _, _, _, _, _, _, _]) rfl rfl rfl ?_
            -- at 38: .iload 4
            have l1 := loopUp (P := fun x => ∀ h3, JF [203, 204, 205] h h3 → (∀ k, k ≤ s → h3.2 203 k = zJ (cfZ n C k)) → (∀ i j, i < n → j < n → h3.2 204 (7 * i + j) = if i < x then zJ (dgZ (tz n C s).1 (tz n C s).2 i j) else zJ ((tz n C s).1 i j)) → V S (dep + 2) 238 38 [.ref 188, .int (nI n), .int (nI C), .int (nI (s + 1)), .int (nI x), .null, v6, v7, v8, .null, v10] [] h3 Q) n ?_ ?_ 0 (Nat.zero_le _)
            · exact l1 h2 f2 t2 (fun i j hi hj => by rw [if_neg (by omega)]; exact e2 i j hi hj)
            · intro h3 f3 t3 e3
              have e3 : ∀ i j, i < n → j < n → h3.2 204 (7 * i + j) = zJ (dgZ (tz n C s).1 (tz n C s).2 i j) := fun i j hi hj => by rw [e3 i j hi hj, if_pos hi]
              obtain ⟨M, hM⟩ : ∃ M, M = dgZ (tz n C s).1 (tz n C s).2 := ⟨_, rfl⟩
              rw [← hM] at e3
              have hml : (tz n C (s + 1)).1 = mlZ n C M := by rw [hM]; rfl
              have hcf : cfZ n C (s + 1) = (-(trZ (mlZ n C M) n)).tdiv ((s + 1 : Nat) : Int) := by rw [hM]; rfl
              rw [hml] at hbd
              refine V_iload rfl rfl ?_
              refine V_iload_n rfl rfl ?_
              -- at 41: .if_icmp .ge 33
              refine V_icmp_ge rfl (fun he => ?_) (fun he => ?_)
              · refine V_lc (v := 0) rfl rfl ?_
                refine V_lstore (L' := [_, _, _, _, _, _, _, _, _, _, _]) rfl rfl rfl ?_
                refine V_ic (v := nI 0) rfl rfl ?_
                refine V_istore (L' := [_, _, _, _, _, _, _, _, _, _, _]) rfl rfl rfl ?_
                -- at 80: .iload 6
                have l2 := loopUp (P := fun x => ∀ h4 v7 v8 v10, JF [203, 204, 205] h h4 → (∀ k, k ≤ s → h4.2 203 k = zJ (cfZ n C k)) → (∀ i j, i < n → j < n → h4.2 204 (7 * i + j) = zJ (M i j)) → (∀ i j, i < x → j < n → h4.2 205 (7 * i + j) = zJ (mlZ n C M i j)) → V S (dep + 2) 238 80 [.ref 188, .int (nI n), .int (nI C), .int (nI (s + 1)), .long (zJ (sumZ (fun i => mlZ n C M i i) x)), .null, .int (nI x), v7, v8, .null, v10] [] h4 Q) n ?_ ?_ 0 (Nat.zero_le _)
                · exact l2 h3 _ _ _ f3 t3 e3 (fun i j hi => by omega)
                · intro h4 v7 v8 v10 f4 t4 e4 g4
                  refine V_iload rfl rfl ?_
                  refine V_iload_n rfl rfl ?_
                  -- at 83: .if_icmp .ge 108
                  refine V_icmp_ge rfl (fun hf => ?_) (fun hf => ?_)
                  · refine V_ic (v := nI 0) rfl rfl ?_
                    refine V_istore (L' := [_, _, _, _, _, _, _, _, _, _, _]) rfl rfl rfl ?_
                    -- at 194: .iload 6
                    have l4 := loopUp (P := fun x => ∀ h5, JF [203, 204, 205] h h5 → (∀ k, k ≤ s → h5.2 203 k = zJ (cfZ n C k)) → (∀ i, i < x → h5.2 204 i = h5.2 205 i) → (∀ i j, i < n → j < n → h5.2 205 (7 * i + j) = zJ (mlZ n C M i j)) → V S (dep + 2) 238 194 [.ref 188, .int (nI n), .int (nI C), .int (nI (s + 1)), .long (zJ (sumZ (fun i => mlZ n C M i i) n)), .null, .int (nI x), v7, v8, .null, v10] [] h5 Q) 49 ?_ ?_ 0 (Nat.zero_le _)
                    · exact l4 h4 f4 t4 (fun i hi => by omega) g4
                    · intro h5 f5 t5 e5 g5
                      refine V_iload rfl rfl ?_
                      refine V_bi (v := nI 49) rfl rfl ?_
                      -- at 198: .if_icmp .ge 23
                      refine V_icmp_ge rfl (fun hj => ?_) (fun hj => ?_)
                      · have hz := zJ_ne0 (k := s + 1) (by omega) (by omega)
                        have hx : (-(sumZ (fun i => mlZ n C M i i) n)).natAbs < 2 ^ 63 := by
                          have : (sumZ (fun i => mlZ n C M i i) n).natAbs ≤ 7 * pB (s + 1) := hbd
                          rw [Int.natAbs_neg]; omega
                        refine V_aload_n rfl rfl rfl ?_
                        refine V_getR (r := 203) rfl rfl ?_
                        refine V_iload_n rfl rfl ?_
                        refine V_lload rfl rfl ?_
                        refine V_lneg rfl ?_
                        refine V_iload_n rfl rfl ?_
                        refine V_i2l rfl ?_
                        -- at 231: .ldiv
                        rw [zJ_neg, zJ_i2l (by omega)]
                        refine V_ldiv rfl hz ?_
                        rw [zJ_div hx (by omega)]
                        refine V_ls 8 rfl rfl (by first | with_reducible rfl | assumption | exact nI_sub (by omega) | exact nI_add _ _) (by first | omega | assumption) rfl ?_
                        refine V_iinc (L' := [_, _, _, _, _, _, _, _, _, _, _]) rfl rfl rfl ?_
                        refine V_goto rfl ?_
                        -- at 30: .iload_n 3
                        rw [show Int32.ofInt 1 = nI 1 from rfl, nI_add]
                        refine ihm (s + 1) (by omega) _ _ _ _ _ _ (f5.tr (JF.w (by simp))) (fun i j hi hj => ?_) (fun k hk => ?_)
                        · rw [wJ_ne (by omega), e5 _ (by omega), g5 i j hi hj, hml]
                        · by_cases q : k = s + 1
                          · rw [q, wJ_same, hcf]; rfl
                          · rw [wJ_ne (by omega)]; exact t5 k (by omega)
                      · exact absurd (by decide) hj
                    · intro x hx ih h5 f5 t5 e5 g5
                      refine V_iload rfl rfl ?_
                      refine V_bi (v := nI 49) rfl rfl ?_
                      -- at 198: .if_icmp .ge 23
                      refine V_icmp_ge rfl (fun hj => ?_) (fun hj => ?_)
                      · exact absurd hj (nI_ge hx (by decide))
                      · refine V_aload_n rfl rfl rfl ?_
                        refine V_getR (r := 204) rfl rfl ?_
                        refine V_iload rfl rfl ?_
                        refine V_aload_n rfl rfl rfl ?_
                        refine V_getR (r := 205) rfl rfl ?_
                        refine V_iload rfl rfl ?_
                        refine V_ll 49 rfl rfl (by first | with_reducible rfl | assumption | exact nI_sub (by omega) | exact nI_add _ _) (by first | omega | assumption) rfl ?_
                        refine V_ls 49 rfl rfl (by first | with_reducible rfl | assumption | exact nI_sub (by omega) | exact nI_add _ _) (by first | omega | assumption) rfl ?_
                        refine V_iinc (L' := [_, _, _, _, _, _, _, _, _, _, _]) rfl rfl rfl ?_
                        refine V_goto rfl ?_
                        -- at 194: .iload 6
                        rw [show Int32.ofInt 1 = nI 1 from rfl, nI_add]
                        refine ih _ (f5.tr (JF.w (by simp))) (fun k hk => by rw [wJ_ne (by omega)]; exact t5 k hk) (fun i hi => ?_) (fun i j hi hj => by rw [wJ_ne (by omega)]; exact g5 i j hi hj)
                        by_cases q : i = x
                        · rw [q, wJ_same, wJ_ne (by omega)]
                        · rw [wJ_ne (by omega), wJ_ne (by omega)]; exact e5 i (by omega)
                  · exact absurd (nI_le (Nat.le_refl _) (by omega)) hf
                · intro x hx ih h4 v7 v8 v10 f4 t4 e4 g4
                  rw [sumZ] at ih
                  refine V_iload rfl rfl ?_
                  refine V_iload_n rfl rfl ?_
                  -- at 83: .if_icmp .ge 108
                  refine V_icmp_ge rfl (fun hf => ?_) (fun hf => ?_)
                  · exact absurd hf (nI_ge hx (by omega))
                  · refine V_ic (v := nI 0) rfl rfl ?_
                    refine V_istore (L' := [_, _, _, _, _, _, _, _, _, _, _]) rfl rfl rfl ?_
                    -- at 89: .iload 7
                    have l3 := loopUp (P := fun y => ∀ h5 v8 v10, JF [203, 204, 205] h h5 → (∀ k, k ≤ s → h5.2 203 k = zJ (cfZ n C k)) → (∀ i j, i < n → j < n → h5.2 204 (7 * i + j) = zJ (M i j)) → (∀ i j, i < x → j < n → h5.2 205 (7 * i + j) = zJ (mlZ n C M i j)) → (∀ j, j < y → h5.2 205 (7 * x + j) = zJ (mlZ n C M x j)) → V S (dep + 2) 238 89 [.ref 188, .int (nI n), .int (nI C), .int (nI (s + 1)), .long (zJ (sumZ (fun i => mlZ n C M i i) x + if x < y then mlZ n C M x x else 0)), .null, .int (nI x), .int (nI y), v8, .null, v10] [] h5 Q) n ?_ ?_ 0 (Nat.zero_le _)
                    · have := l3 h4 v8 v10 f4 t4 e4 g4 (fun j hj => by omega)
                      rw [if_neg (by omega), Int.add_zero] at this
                      exact this
                    · intro h5 v8 v10 f5 t5 e5 g5 k5
                      refine V_iload rfl rfl ?_
                      refine V_iload_n rfl rfl ?_
                      -- at 92: .if_icmp .ge 93
                      refine V_icmp_ge rfl (fun hj => ?_) (fun hj => ?_)
                      · rw [if_pos hx]
                        refine V_iinc (L' := [_, _, _, _, _, _, _, _, _, _, _]) rfl rfl rfl ?_
                        refine V_goto rfl ?_
                        -- at 80: .iload 6
                        rw [show Int32.ofInt 1 = nI 1 from rfl, nI_add]
                        refine ih h5 _ _ _ f5 t5 e5 (fun i j hi hj => ?_)
                        by_cases q : i = x
                        · rw [q]; exact k5 j hj
                        · exact g5 i j (by omega) hj
                      · exact absurd (nI_le (Nat.le_refl _) (by omega)) hj
                    · intro y hy ih3 h5 v8 v10 f5 t5 e5 g5 k5
                      obtain ⟨F, hF⟩ : ∃ F : Nat → Int, F = fun v => if adj C x v = true then M v y else 0 := ⟨_, rfl⟩
                      obtain ⟨su, hsu⟩ : ∃ su, su = sumZ (fun i => mlZ n C M i i) x + if x < y then mlZ n C M x x else 0 := ⟨_, rfl⟩
                      rw [← hsu]
                      refine V_iload rfl rfl ?_
                      refine V_iload_n rfl rfl ?_
                      -- at 92: .if_icmp .ge 93
                      refine V_icmp_ge rfl (fun hj => ?_) (fun hj => ?_)
                      · exact absurd hj (nI_ge hy (by omega))
                      · refine V_lc (v := 0) rfl rfl ?_
                        refine V_lstore (L' := [_, _, _, _, _, _, _, _, _, _, _]) rfl rfl rfl ?_
                        refine V_ic (v := nI 0) rfl rfl ?_
                        refine V_istore (L' := [_, _, _, _, _, _, _, _, _, _, _]) rfl rfl rfl ?_
                        -- at 101: .iload 10
                        have l5 := loopUp (P := fun v => V S (dep + 2) 238 101 [.ref 188, .int (nI n), .int (nI C), .int (nI (s + 1)), .long (zJ su), .null, .int (nI x), .int (nI y), .long (zJ (sumZ F v)), .null, .int (nI v)] [] h5 Q) n ?_ ?_ 0 (Nat.zero_le _)
                        · exact l5
                        · have eF : sumZ F n = mlZ n C M x y := by rw [hF]; rfl
                          rw [eF]
                          have fin : ∀ d : Int, d = (if x = y then mlZ n C M x y else 0) → V S (dep + 2) 238 176 [.ref 188, .int (nI n), .int (nI C), .int (nI (s + 1)), .long (zJ su), .null, .int (nI x), .int (nI y), .long (zJ (mlZ n C M x y)), .null, .int (nI n)] [.long (zJ d), .long (zJ su)] (wJ h5 205 (7 * x + y) (zJ (mlZ n C M x y))) Q := by
                            intro d hd
                            have ih4 := ih3 (wJ h5 205 (7 * x + y) (zJ (mlZ n C M x y))) (.long (zJ (mlZ n C M x y))) (.int (nI n)) (f5.tr (JF.w (by simp))) (fun k hk => by rw [wJ_ne (by omega)]; exact t5 k hk) (fun i j hi hj => by rw [wJ_ne (by omega)]; exact e5 i j hi hj) (fun i j hi hj => by rw [wJ_ne (by omega)]; exact g5 i j hi hj) (fun j hj => by
                              by_cases q : j = y
                              · rw [q, wJ_same]
                              · rw [wJ_ne (by omega)]; exact k5 j (by omega))
                            have es : (sumZ (fun i => mlZ n C M i i) x + if x < y + 1 then mlZ n C M x x else 0) = su + d := by
                              rw [hsu, hd]
                              by_cases q : x = y
                              · subst q; rw [if_pos (by omega), if_neg (by omega), if_pos rfl, Int.add_zero]
                              · rw [if_neg q, Int.add_zero]
                                by_cases q2 : x < y
                                · rw [if_pos q2, if_pos (by omega)]
                                · rw [if_neg q2, if_neg (by omega)]
                            rw [es] at ih4
                            refine V_ladd rfl ?_
                            -- at 177: .lstore 4
                            rw [zJ_add]
                            refine V_lstore (L' := [_, _, _, _, _, _, _, _, _, _, _]) rfl rfl rfl ?_
                            refine V_iinc (L' := [_, _, _, _, _, _, _, _, _, _, _]) rfl rfl rfl ?_
                            refine V_goto rfl ?_
                            -- at 89: .iload 7
                            rw [show Int32.ofInt 1 = nI 1 from rfl, nI_add]
                            exact ih4
                          refine V_iload rfl rfl ?_
                          refine V_iload_n rfl rfl ?_
                          -- at 104: .if_icmp .ge 42
                          refine V_icmp_ge rfl (fun hl => ?_) (fun hl => ?_)
                          · refine V_aload_n rfl rfl rfl ?_
                            refine V_getR (r := 205) rfl rfl ?_
                            refine V_bi (v := nI 7) rfl rfl ?_
                            refine V_iload rfl rfl ?_
                            refine V_imul rfl ?_
                            refine V_iload rfl rfl ?_
                            refine V_iadd rfl ?_
                            -- at 158: .lload 8
                            rw [nI_mul, nI_add]
                            refine V_lload rfl rfl ?_
                            refine V_ls 49 rfl rfl (by first | with_reducible rfl | assumption | exact nI_sub (by omega) | exact nI_add _ _) (by first | omega | assumption) rfl ?_
                            refine V_lload rfl rfl ?_
                            refine V_iload rfl rfl ?_
                            refine V_iload rfl rfl ?_
                            -- at 167: .if_icmp .ne 8
                            refine V_icmp_ne rfl (fun hp => ?_) (fun hp => ?_)
                            · have hp : x ≠ y := fun q => hp (by rw [q])
                              refine V_lc (v := 0) rfl rfl ?_
                              -- at 176: .ladd
                              exact fin 0 (by rw [if_neg hp])
                            · have hp := nI_inj (by omega) (by omega) (Decidable.of_not_not hp)
                              refine V_lload rfl rfl ?_
                              refine V_goto rfl ?_
                              -- at 176: .ladd
                              exact fin _ (by rw [if_pos hp])
                          · exact absurd (nI_le (Nat.le_refl _) (by omega)) hl
                        · intro v hv ih5
                          have hFv : F v = if adj C x v = true then M v y else 0 := by rw [hF]
                          rw [sumZ] at ih5
                          refine V_iload rfl rfl ?_
                          refine V_iload_n rfl rfl ?_
                          -- at 104: .if_icmp .ge 42
                          refine V_icmp_ge rfl (fun hl => ?_) (fun hl => ?_)
                          · exact absurd hl (nI_ge hv (by omega))
                          · refine V_lload rfl rfl ?_
                            refine V_iload_n rfl rfl ?_
                            refine V_iload rfl rfl ?_
                            refine V_iload rfl rfl ?_
                            -- at 114: .invokestatic 95
                            refine V_cS rfl rfl rfl rfl (m_aj (by omega) (by omega) (by omega)) ?_
                            refine V_if_eq rfl (fun hp => ?_) (fun hp => ?_)
                            · have hp := bI_z.mp hp
                              rw [hFv, hp, if_neg (by simp)] at ih5
                              refine V_lc (v := 0) rfl rfl ?_
                              refine V_ladd rfl ?_
                              -- at 138: .lstore 8
                              rw [show (0 : Int64) = zJ 0 from rfl, zJ_add]
                              refine V_lstore (L' := [_, _, _, _, _, _, _, _, _, _, _]) rfl rfl rfl ?_
                              refine V_iinc (L' := [_, _, _, _, _, _, _, _, _, _, _]) rfl rfl rfl ?_
                              refine V_goto rfl ?_
                              -- at 101: .iload 10
                              rw [show Int32.ofInt 1 = nI 1 from rfl, nI_add]
                              exact ih5
                            · have hp := bI_nz.mp hp
                              rw [hFv, hp, if_pos rfl] at ih5
                              refine V_aload_n rfl rfl rfl ?_
                              refine V_getR (r := 204) rfl rfl ?_
                              refine V_bi (v := nI 7) rfl rfl ?_
                              refine V_iload rfl rfl ?_
                              refine V_imul rfl ?_
                              refine V_iload rfl rfl ?_
                              refine V_iadd rfl ?_
                              -- at 132: .laload
                              rw [nI_mul, nI_add]
                              refine V_ll 49 rfl rfl (by first | with_reducible rfl | assumption | exact nI_sub (by omega) | exact nI_add _ _) (by first | omega | assumption) rfl ?_
                              refine V_goto rfl ?_
                              -- at 137: .ladd
                              rw [e5 v y hv hy]
                              refine V_ladd rfl ?_
                              -- at 138: .lstore 8
                              rw [zJ_add]
                              refine V_lstore (L' := [_, _, _, _, _, _, _, _, _, _, _]) rfl rfl rfl ?_
                              refine V_iinc (L' := [_, _, _, _, _, _, _, _, _, _, _]) rfl rfl rfl ?_
                              refine V_goto rfl ?_
                              -- at 101: .iload 10
                              rw [show Int32.ofInt 1 = nI 1 from rfl, nI_add]
                              exact ih5
              · exact absurd (nI_le (Nat.le_refl _) (by omega)) he
            · intro x hx ih h3 f3 t3 e3
              refine V_iload rfl rfl ?_
              refine V_iload_n rfl rfl ?_
              -- at 41: .if_icmp .ge 33
              refine V_icmp_ge rfl (fun he => ?_) (fun he => ?_)
              · exact absurd he (nI_ge hx (by omega))
              · refine V_aload_n rfl rfl rfl ?_
                refine V_getR (r := 204) rfl rfl ?_
                refine V_bi (v := nI 7) rfl rfl ?_
                refine V_iload rfl rfl ?_
                refine V_imul rfl ?_
                refine V_iload rfl rfl ?_
                refine V_iadd rfl ?_
                -- at 56: .dup2
                rw [nI_mul, nI_add]
                refine V_dup2 rfl rfl ?_
                refine V_ll 49 rfl rfl (by first | with_reducible rfl | assumption | exact nI_sub (by omega) | exact nI_add _ _) (by first | omega | assumption) rfl ?_
                -- at 58: .aload_n 0
                rw [e3 x x hx hx, if_neg (by omega)]
                refine V_aload_n rfl rfl rfl ?_
                refine V_getR (r := 203) rfl rfl ?_
                refine V_iload_n rfl rfl ?_
                refine V_ic (v := nI 1) rfl rfl ?_
                refine V_isub rfl ?_
                -- at 65: .laload
                rw [nI_sub (by omega), show s + 1 - 1 = s by omega]
                refine V_ll 8 rfl rfl (by first | with_reducible rfl | assumption | exact nI_sub (by omega) | exact nI_add _ _) (by first | omega | assumption) rfl ?_
                -- at 66: .ladd
                rw [t3 s (Nat.le_refl _)]
                refine V_ladd rfl ?_
                -- at 67: .lastore
                rw [zJ_add]
                refine V_ls 49 rfl rfl (by first | with_reducible rfl | assumption | exact nI_sub (by omega) | exact nI_add _ _) (by first | omega | assumption) rfl ?_
                refine V_iinc (L' := [_, _, _, _, _, _, _, _, _, _, _]) rfl rfl rfl ?_
                refine V_goto rfl ?_
                -- at 38: .iload 4
                rw [show Int32.ofInt 1 = nI 1 from rfl, nI_add]
                refine ih _ (f3.tr (JF.w (by simp))) (fun k hk => by rw [wJ_ne (by omega)]; exact t3 k hk) (fun i j hi hj => ?_)
                by_cases q : i = x
                · rw [if_pos (by omega)]
                  by_cases q2 : j = x
                  · rw [q, q2, wJ_same]; unfold dgZ; rw [if_pos rfl]; rfl
                  · rw [wJ_ne (by omega), e3 i j hi hj, if_neg (by omega)]; unfold dgZ; rw [if_neg (by omega), Int.add_zero]
                · rw [wJ_ne (by omega), e3 i j hi hj]
                  by_cases q2 : i < x
                  · rw [if_pos q2, if_pos (by omega)]
                  · rw [if_neg q2, if_neg (by omega)]
      refine lk n 0 (by omega) _ _ _ _ _ _ (f1.tr (JF.w (by simp))) (fun i j hi hj => ?_) (fun k hk => ?_)
      · rw [wJ_ne (by omega)]; exact z1 _ (by omega)
      · obtain rfl : k = 0 := by omega
        rw [wJ_same]; rfl
    · exact absurd (by decide) hc
  · intro x hx ih h1 f1 z1
    refine V_iload_n rfl rfl ?_
    refine V_bi (v := nI 49) rfl rfl ?_
    -- at 5: .if_icmp .ge 16
    refine V_icmp_ge rfl (fun hc => ?_) (fun hc => ?_)
    · exact absurd hc (nI_ge hx (by decide))
    · refine V_aload_n rfl rfl rfl ?_
      refine V_getR (r := 204) rfl rfl ?_
      refine V_iload_n rfl rfl ?_
      refine V_lc (v := 0) rfl rfl ?_
      refine V_ls 49 rfl rfl (by first | with_reducible rfl | assumption | exact nI_sub (by omega) | exact nI_add _ _) (by first | omega | assumption) rfl ?_
      refine V_iinc (L' := [_, _, _, _, _, _, _, _, _, _, _]) rfl rfl rfl ?_
      refine V_goto rfl ?_
      -- at 2: .iload_n 3
      rw [show Int32.ofInt 1 = nI 1 from rfl, nI_add]
      refine ih _ (f1.tr (JF.w (by simp))) (fun i hi => ?_)
      by_cases q : i = x
      · rw [q, wJ_same]; rfl
      · rw [wJ_ne (by omega)]; exact z1 i (by omega)
