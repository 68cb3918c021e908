/-! the class: trees -/
def trm (e : Nat × Nat) (i j : Nat) : Rat := (dlt e.1 i - dlt e.2 i) * (dlt e.1 j - dlt e.2 j)
theorem trm_g : ∀ l, l < 21 → ∀ i, i < 7 → ∀ j, j < 7 → (decide (i = j) || (if l = bt i j then decide (trm (prL l) i j = -1) else decide (trm (prL l) i j = 0))) = true := by decide +kernel
theorem trm_f (l : Nat) (hl : l < 21) (i : Nat) (hi : i < 7) (j : Nat) (hj : j < 7) (hij : i ≠ j) : (l ≠ bt i j → trm (prL l) i j = 0) ∧ (l = bt i j → trm (prL l) i j = -1) := by
  have := trm_g l hl i hi j hj
  rw [decide_eq_false hij, Bool.false_or] at this
  constructor
  · intro h
    rw [if_neg h] at this
    exact of_decide_eq_true this
  · intro h
    rw [if_pos h] at this
    exact of_decide_eq_true this
theorem sumR_shift (f : Nat → Rat) : ∀ k, sumR f (k + 1) = f 0 + sumR (fun i => f (i + 1)) k := by
  intro k
  induction k with
  | zero => rw [sumR, sumR, sumR]; grind
  | succ k ih => rw [sumR, ih, sumR]; grind
theorem rowS_esF {C i j : Nat} : ∀ k l, rowS (fun v => v) (esF C l k) i j = sumR (fun t => if C.testBit (l + t) = true then trm (prL (l + t)) i j else 0) k := by
  intro k
  induction k with
  | zero => intro l; rfl
  | succ k ih =>
    intro l
    rw [sumR_shift, esF]
    have e : sumR (fun t => if C.testBit (l + (t + 1)) = true then trm (prL (l + (t + 1))) i j else 0) k = rowS (fun v => v) (esF C (l + 1) k) i j := by
      rw [ih (l + 1)]
      refine sumR_ext (fun t _ => ?_)
      rw [show l + (t + 1) = l + 1 + t by omega]
    rw [e]
    simp only [Nat.add_zero]
    by_cases q : C.testBit l = true
    · rw [if_pos q, if_pos q, rowS]
      unfold trm
      grind
    · rw [if_neg q, if_neg q]
      grind
theorem sumR_single {f : Nat → Rat} {l : Nat} : ∀ {n}, l < n → (∀ i, i < n → i ≠ l → f i = 0) → sumR f n = f l := by
  intro n
  induction n with
  | zero => intro h; omega
  | succ n ih =>
    intro hl h
    rw [sumR]
    by_cases e : n = l
    · subst e
      rw [sumR_zero (fun i hi => h i (by omega) (by omega))]; grind
    · rw [ih (by omega) (fun i hi => h i (by omega)), h n (by omega) e]; grind
theorem rowS_off {n C i j : Nat} (hn : n ≤ 7) (hi : i < n) (hj : j < n) (hij : i ≠ j) : rowS (fun v => v) (esF C 0 (tri n)) i j = if adj C i j = true then -1 else 0 := by
  have hb := bt_lt' hn hij hi hj
  have ht := tri_le hn
  rw [rowS_esF, sumR_single hb]
  · rw [Nat.zero_add, (trm_f (bt i j) (by omega) i (by omega) j (by omega) hij).2 rfl]
    unfold adj
    rw [decide_eq_true hij, Bool.true_and]
  · intro l hl hne
    rw [Nat.zero_add, (trm_f l (by omega) i (by omega) j (by omega) hij).1 hne]
    split <;> rfl
theorem sumR_dlt {a n : Nat} (h : a < n) : sumR (fun j => dlt a j) n = 1 := by
  rw [sumR_single h (fun i _ hi => dlt_n (Ne.symm hi)), dlt_y]
theorem rowS_sum {n i : Nat} : ∀ es : List (Nat × Nat), (∀ e ∈ es, e.1 < n ∧ e.2 < n) → sumR (fun j => rowS (fun v => v) es i j) n = 0 := by
  intro es
  induction es with
  | nil => intro _; exact sumR_zero (fun _ _ => rfl)
  | cons e es ih =>
    intro he
    have h1 := he e (by simp)
    have ih := ih (fun e h => he e (by simp [h]))
    have l1 := sumR_lin (f := fun j => dlt e.1 j) (g := fun j => dlt e.2 j) (k := fun j => dlt e.1 j - dlt e.2 j) (t := -1) (n := n) (fun j _ => by grind)
    have l2 := sumR_lin (f := fun j => rowS (fun v => v) es i j) (g := fun j => dlt e.1 j - dlt e.2 j) (k := fun j => rowS (fun v => v) (e :: es) i j) (t := dlt e.1 i - dlt e.2 i) (n := n) (fun j _ => by rw [rowS])
    rw [l2, ih, l1, sumR_dlt h1.1, sumR_dlt h1.2]
    grind
theorem sumR_cnt {p : Nat → Bool} {i : Nat} {f : Nat → Rat} : ∀ n, (∀ j, j < n → j ≠ i → f j = if p j = true then -1 else 0) → p i = false → sumR f n = (if i < n then f i else 0) - (cnt p n : Rat) := by
  intro n
  induction n with
  | zero => intro _ _; rw [sumR, if_neg (by omega)]; show (0 : Rat) = 0 - ((0 : Nat) : Rat); grind
  | succ n ih =>
    intro h hp
    rw [sumR, ih (fun j hj => h j (by omega)) hp, cnt]
    by_cases e : n = i
    · subst e
      rw [hp, if_neg (by omega), if_pos (by omega)]
      simp only [Bool.false_eq_true, if_false, Nat.add_zero]
      grind
    · rw [h n (by omega) e]
      by_cases q : p n = true
      · rw [if_pos q, if_pos q, Rat.natCast_add]
        by_cases z : i < n
        · rw [if_pos z, if_pos (by omega)]; show _ = _ - (_ + ((1 : Nat) : Rat)); grind
        · rw [if_neg z, if_neg (by omega)]; show _ = _ - (_ + ((1 : Nat) : Rat)); grind
      · rw [if_neg q, if_neg q, Nat.add_zero]
        by_cases z : i < n
        · rw [if_pos z, if_pos (by omega)]; grind
        · rw [if_neg z, if_neg (by omega)]; grind
theorem rowS_diag {n C i : Nat} (hn : n ≤ 7) (hi : i < n) : rowS (fun v => v) (esF C 0 (tri n)) i i = (pop (rowOf n C i) : Rat) := by
  have hs := rowS_sum (n := n) (i := i) (esF C 0 (tri n)) (fun e he => by have := esF_in (C := C) hn (tri n) 0 (by omega) e he; omega)
  have hc := sumR_cnt (p := fun j => adj C i j) (i := i) (f := fun j => rowS (fun v => v) (esF C 0 (tri n)) i j) n (fun j hj hji => rowS_off hn hi hj (Ne.symm hji)) (adj_self C i)
  rw [hs, if_pos hi] at hc
  have e : pop (rowOf n C i) = cnt (fun j => adj C i j) n := by
    rw [pop_eq (rowOf_lt' n C i) (by omega)]
    exact cnt_ext (fun j hj => by rw [rowOf_tb, decide_eq_true hi, decide_eq_true hj, adj_comm]; rfl)
  rw [e]
  grind
def lapZ (n C i j : Nat) : Int := if i = j then (pop (rowOf n C i) : Int) else if adj C i j = true then -1 else 0
def lapR (n C : Nat) : Nat → Nat → Rat := NR (fun v => v) (esF C 0 (tri n))
theorem lapR_Z {n C i j : Nat} (hn : n ≤ 7) (hi : i < n) (hj : j < n) : lapR n C i j = (lapZ n C i j : Rat) := by
  unfold lapR NR lapZ
  rw [if_pos rfl]
  by_cases e : i = j
  · subst e
    rw [if_pos rfl, rowS_diag hn hi]; rfl
  · rw [if_neg e, rowS_off hn hi hj e]
    split <;> rfl
theorem lapZ_le {n C i j : Nat} (hn : n ≤ 7) : (lapZ n C i j).natAbs ≤ 7 := by
  unfold lapZ
  split
  · have : pop (rowOf n C i) ≤ n := by rw [pop_eq (rowOf_lt' n C i) (by omega)]; exact cnt_le6 _ _
    omega
  · split <;> decide
theorem bd_7 : ∀ k, k < 7 → bdN 7 k ≤ 100000000 := by decide
theorem zJ_mulI (x y : Int) : zJ x * zJ y = zJ (x * y) := (Int64.ofInt_mul x y).symm
theorem zJ_subI (x y : Int) : zJ x - zJ y = zJ (x - y) := (Int64.ofInt_sub x y).symm
theorem zJ_div2 {x y : Int} (h : x.natAbs < 2 ^ 63) (hk : y.natAbs < 2 ^ 63) : zJ x / zJ y = zJ (x.tdiv y) := by
  have h1 : Int64.minValue.toInt = -9223372036854775808 := rfl
  have h2 : Int64.maxValue.toInt = 9223372036854775807 := rfl
  exact (Int64.ofInt_tdiv (by omega) (by omega) (by omega) (by omega)).symm
theorem zJ_z {x : Int} (h : x.natAbs < 2 ^ 63) : zJ x = 0 ↔ x = 0 := by
  constructor
  · intro q
    have := congrArg Int64.toInt q
    rw [zJ_toInt h] at this
    exact this
  · intro q; rw [q]; rfl
theorem lg_eq {x y : Int64} : lg_cmp x y = 0 ↔ x = y := by
  constructor
  · intro q
    apply Int64.toInt_inj.mp
    have h1 : ¬ x.toInt < y.toInt := fun z => by have := lg_lt.mpr z; rw [q] at this; exact absurd this (by decide)
    have h2 : ¬ y.toInt < x.toInt := fun z => by have := lg_gt.mpr z; rw [q] at this; exact absurd this (by decide)
    omega
  · intro q
    rw [q]
    have h1 : ¬ lg_cmp y y < 0 := fun z => by have := lg_lt.mp z; omega
    have h2 : ¬ 0 < lg_cmp y y := fun z => by have := lg_gt.mp z; omega
    apply Int32.toInt_inj.mp
    have a : ¬ (lg_cmp y y).toInt < 0 := fun z => h1 (Int32.lt_iff_toInt_lt.mpr z)
    have b : ¬ 0 < (lg_cmp y y).toInt := fun z => h2 (Int32.lt_iff_toInt_lt.mpr z)
    have : (0 : Int32).toInt = 0 := rfl
    omega
/-- the cells in the midst of round k -/
def CZ (h : Hp) (A : Nat → Nat → Rat) (w k i0 j0 : Nat) : Prop := ∀ i j, k ≤ i → i < w → k ≤ j → j < w → ∃ z : Int, h.2 19 (i * 7 + j) = zJ z ∧ z.natAbs ≤ 100000000 ∧ (z : Rat) = if k < i ∧ k < j ∧ (i < i0 ∨ (i = i0 ∧ j < j0)) then bV A (k + 1) i j else bV A k i j
theorem c_clr {S : mScr} {dep w k : Nat} {A : Nat → Nat → Rat} {p : Int} {h : Hp} (hw : w ≤ 6) (hk : k < w) (hZ : CZ h A w k 0 0) (hb : ∀ i j, k < i → i < w → k < j → j < w → isZ 100000000 (bV A (k + 1) i j)) (hp : pS k A = (p : Rat)) (hpb : p.natAbs ≤ 100000000) (hp0 : p ≠ 0) (ht : tS k A 0 0 ≠ 0) : Cal S (dep + 1) 28 [.ref 13, .int (nI k), .int (nI w), .long (zJ p)] h (fun r h' => r = none ∧ CZ h' A w (k + 1) 0 0 ∧ JF [19] h h') := by
  have nz : ¬ zJ p = 0 := fun q => hp0 ((zJ_z (by omega)).mp q)
  obtain ⟨Q, hQ⟩ : ∃ Q : Option Value → Hp → Prop, Q = fun r h' => r = none ∧ CZ h' A w (k + 1) 0 0 ∧ JF [19] h h' := ⟨_, rfl⟩
  rw [← hQ]
  obtain ⟨zk, ek, lk, vk⟩ := hZ k k (Nat.le_refl _) hk (Nat.le_refl _) hk
  rw [if_neg (by omega)] at vk
  show V S (dep + 1) 28 0 [.ref 13, .int (nI k), .int (nI w), .long (zJ p), .null, .null, .null, .null, .null, .null, .null, .null] [] h _
  refine V_lload_n rfl rfl ?_
  refine V_lc (v := 0) rfl rfl ?_
  refine V_lcmp rfl ?_
  -- at 3: .ifCond .ne 4
  refine V_if_ne rfl (fun hc => ?_) (fun hc => ?_)
  · refine V_aload_n rfl rfl rfl ?_
    refine V_getR (r := 19) rfl rfl ?_
    refine V_iload_n rfl rfl ?_
    refine V_bi (v := nI 7) rfl rfl ?_
    refine V_imul rfl ?_
    refine V_iload_n rfl rfl ?_
    -- at 16: .iadd
    rw [nI_mul]
    refine V_iadd rfl ?_
    -- at 17: .laload
    rw [nI_add]
    refine V_ll 49 rfl rfl (by first | with_reducible rfl | assumption | exact nI_sub (by omega) | exact nI_add _ _) (by first | omega | assumption) rfl ?_
    -- at 18: .lstore 5
    rw [ek]
    refine V_lstore (L' := [_, _, _, _, _, _, _, _, _, _, _, _]) rfl rfl rfl ?_
    refine V_iload_n rfl rfl ?_
    refine V_ic (v := nI 1) rfl rfl ?_
    refine V_iadd rfl ?_
    -- at 23: .istore 7
    rw [nI_add]
    refine V_istore (L' := [_, _, _, _, _, _, _, _, _, _, _, _]) rfl rfl rfl ?_
    -- at 25: .iload 7
    have lp := loopUp (P := fun i => k < i → ∀ h1 v8 v9 v10 v11, CZ h1 A w k i 0 → JF [19] h h1 → V S (dep + 1) 28 25 [.ref 13, .int (nI k), .int (nI w), .long (zJ p), .null, .long (zJ zk), .null, .int (nI i), v8, v9, v10, v11] [] h1 Q) w ?_ ?_ (k + 1) hk
    · refine lp (by omega) h _ _ _ _ (fun i j h1 h2 h3 h4 => ?_) JF.rf
      obtain ⟨z, e1, e2, e3⟩ := hZ i j h1 h2 h3 h4
      refine ⟨z, e1, e2, ?_⟩
      rw [e3, if_neg (by omega), if_neg (by omega)]
    · intro _ h1 v8 v9 v10 v11 c1 f1
      refine V_iload rfl rfl ?_
      refine V_iload_n rfl rfl ?_
      -- at 28: .if_icmp .ge 85
      refine V_icmp_ge rfl (fun hd => ?_) (fun hd => ?_)
      · refine V_return rfl rfl ?_
        rw [hQ]
        refine ⟨rfl, fun i j h1 h2 h3 h4 => ?_, f1⟩
        obtain ⟨z, e1, e2, e3⟩ := c1 i j (by omega) h2 (by omega) h4
        refine ⟨z, e1, e2, ?_⟩
        rw [e3, if_pos (by omega), if_neg (by omega)]
      · exact absurd (nI_le (Nat.le_refl _) (by omega)) hd
    · intro i hi ih hki h1 v8 v9 v10 v11 c1 f1
      obtain ⟨zi, ei, li, vi⟩ := c1 i k (by omega) hi (Nat.le_refl _) hk
      rw [if_neg (by omega)] at vi
      refine V_iload rfl rfl ?_
      refine V_iload_n rfl rfl ?_
      -- at 28: .if_icmp .ge 85
      refine V_icmp_ge rfl (fun hd => ?_) (fun hd => ?_)
      · exact absurd hd (nI_ge hi (by omega))
      · refine V_aload_n rfl rfl rfl ?_
        refine V_getR (r := 19) rfl rfl ?_
        refine V_iload rfl rfl ?_
        refine V_bi (v := nI 7) rfl rfl ?_
        refine V_imul rfl ?_
        -- at 40: .iload_n 1
        rw [nI_mul]
        refine V_iload_n rfl rfl ?_
        refine V_iadd rfl ?_
        -- at 42: .laload
        rw [nI_add]
        refine V_ll 49 rfl rfl (by first | with_reducible rfl | assumption | exact nI_sub (by omega) | exact nI_add _ _) (by first | omega | assumption) rfl ?_
        -- at 43: .lstore 8
        rw [ei]
        refine V_lstore (L' := [_, _, _, _, _, _, _, _, _, _, _, _]) rfl rfl rfl ?_
        refine V_iload_n rfl rfl ?_
        refine V_ic (v := nI 1) rfl rfl ?_
        refine V_iadd rfl ?_
        -- at 48: .istore 10
        rw [nI_add]
        refine V_istore (L' := [_, _, _, _, _, _, _, _, _, _, _, _]) rfl rfl rfl ?_
        -- at 50: .iload 10
        have lq := loopUp (P := fun j => k < j → ∀ h2 v11, CZ h2 A w k i j → JF [19] h h2 → V S (dep + 1) 28 50 [.ref 13, .int (nI k), .int (nI w), .long (zJ p), .null, .long (zJ zk), .null, .int (nI i), .long (zJ zi), .null, .int (nI j), v11] [] h2 Q) w ?_ ?_ (k + 1) hk
        · refine lq (by omega) h1 _ (fun a b h1 h2 h3 h4 => ?_) f1
          obtain ⟨z, e1, e2, e3⟩ := c1 a b h1 h2 h3 h4
          refine ⟨z, e1, e2, ?_⟩
          rw [e3]
          by_cases q : k < a ∧ k < b ∧ (a < i ∨ (a = i ∧ b < 0))
          · rw [if_pos q, if_pos (by omega)]
          · rw [if_neg q, if_neg (by omega)]
        · intro _ h2 v11 c2 f2
          refine V_iload rfl rfl ?_
          refine V_iload_n rfl rfl ?_
          -- at 53: .if_icmp .ge 54
          refine V_icmp_ge rfl (fun he => ?_) (fun he => ?_)
          · refine V_iinc (L' := [_, _, _, _, _, _, _, _, _, _, _, _]) rfl rfl rfl ?_
            refine V_goto rfl ?_
            -- at 25: .iload 7
            rw [show Int32.ofInt 1 = nI 1 from rfl, nI_add]
            refine ih (by omega) h2 _ _ _ _ (fun a b h1 h2 h3 h4 => ?_) f2
            obtain ⟨z, e1, e2, e3⟩ := c2 a b h1 h2 h3 h4
            refine ⟨z, e1, e2, ?_⟩
            rw [e3]
            by_cases q : k < a ∧ k < b ∧ (a < i + 1 ∨ (a = i + 1 ∧ b < 0))
            · rw [if_pos q, if_pos (by omega)]
            · rw [if_neg q, if_neg (by omega)]
          · exact absurd (nI_le (Nat.le_refl _) (by omega)) he
        · intro j hj ihj hkj h2 v11 c2 f2
          obtain ⟨zij, eij, lij, vij⟩ := c2 i j (by omega) hi (by omega) hj
          rw [if_neg (by omega)] at vij
          obtain ⟨zkj, ekj, lkj, vkj⟩ := c2 k j (Nat.le_refl _) hk (by omega) hj
          rw [if_neg (by omega)] at vkj
          obtain ⟨z, ez, lz⟩ := hb i j hki hi hkj hj
          have step := bV_step ht hki hkj
          rw [← vij, ← vk, ← vi, ← vkj, hp, ez, ← Rat.intCast_mul, ← Rat.intCast_mul, ← Rat.intCast_mul, ← Rat.intCast_sub] at step
          have step := Rat.intCast_inj.mp step
          have m1 : (zij * zk).natAbs ≤ 100000000 * 100000000 := by rw [Int.natAbs_mul]; exact Nat.mul_le_mul lij lk
          have m2 : (zi * zkj).natAbs ≤ 100000000 * 100000000 := by rw [Int.natAbs_mul]; exact Nat.mul_le_mul li lkj
          refine V_iload rfl rfl ?_
          refine V_iload_n rfl rfl ?_
          -- at 53: .if_icmp .ge 54
          refine V_icmp_ge rfl (fun he => ?_) (fun he => ?_)
          · exact absurd he (nI_ge hj (by omega))
          · refine V_iload rfl rfl ?_
            refine V_bi (v := nI 7) rfl rfl ?_
            refine V_imul rfl ?_
            -- at 61: .iload 10
            rw [nI_mul]
            refine V_iload rfl rfl ?_
            refine V_iadd rfl ?_
            -- at 64: .istore 11
            rw [nI_add]
            refine V_istore (L' := [_, _, _, _, _, _, _, _, _, _, _, _]) rfl rfl rfl ?_
            refine V_aload_n rfl rfl rfl ?_
            refine V_getR (r := 19) rfl rfl ?_
            refine V_iload rfl rfl ?_
            refine V_aload_n rfl rfl rfl ?_
            refine V_getR (r := 19) rfl rfl ?_
            refine V_iload rfl rfl ?_
            refine V_ll 49 rfl rfl (by first | with_reducible rfl | assumption | exact nI_sub (by omega) | exact nI_add _ _) (by first | omega | assumption) rfl ?_
            -- at 79: .lload 5
            rw [eij]
            refine V_lload rfl rfl ?_
            refine V_lmul rfl ?_
            refine V_lload rfl rfl ?_
            refine V_aload_n rfl rfl rfl ?_
            refine V_getR (r := 19) rfl rfl ?_
            refine V_iload_n rfl rfl ?_
            refine V_bi (v := nI 7) rfl rfl ?_
            refine V_imul rfl ?_
            -- at 92: .iload 10
            rw [zJ_mulI, nI_mul]
            refine V_iload rfl rfl ?_
            refine V_iadd rfl ?_
            -- at 95: .laload
            rw [nI_add]
            refine V_ll 49 rfl rfl (by first | with_reducible rfl | assumption | exact nI_sub (by omega) | exact nI_add _ _) (by first | omega | assumption) rfl ?_
            -- at 96: .lmul
            rw [ekj]
            refine V_lmul rfl ?_
            refine V_lsub rfl ?_
            -- at 98: .lload_n 3
            rw [zJ_mulI, zJ_subI]
            refine V_lload_n rfl rfl ?_
            refine V_ldiv rfl (by first | assumption | decide | omega) ?_
            -- at 100: .lastore
            rw [zJ_div2 (by omega) (by omega), step, Int.mul_tdiv_cancel_left _ hp0]
            refine V_ls 49 rfl rfl (by first | with_reducible rfl | assumption | exact nI_sub (by omega) | exact nI_add _ _) (by first | omega | assumption) rfl ?_
            refine V_iinc (L' := [_, _, _, _, _, _, _, _, _, _, _, _]) rfl rfl rfl ?_
            refine V_goto rfl ?_
            -- at 50: .iload 10
            rw [show Int32.ofInt 1 = nI 1 from rfl, nI_add]
            refine ihj (by omega) _ _ (fun a b h1 h2 h3 h4 => ?_) (f2.tr (JF.w (by simp)))
            by_cases q : a = i ∧ b = j
            · refine ⟨z, by rw [q.1, q.2, wJ_same], lz, ?_⟩
              rw [q.1, q.2, if_pos (by omega)]
              exact ez.symm
            · obtain ⟨z', e1, e2, e3⟩ := c2 a b h1 h2 h3 h4
              refine ⟨z', by rw [wJ_ne (by omega)]; exact e1, e2, ?_⟩
              rw [e3]
              by_cases r : k < a ∧ k < b ∧ (a < i ∨ (a = i ∧ b < j))
              · rw [if_pos r, if_pos (by omega)]
              · rw [if_neg r, if_neg (by omega)]
  · exact absurd (lg_eq.mp (Decidable.of_not_not hc)) nz
