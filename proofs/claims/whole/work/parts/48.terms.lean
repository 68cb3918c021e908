/-! terms of determinants -/
def sumZ (f : Nat → Int) : Nat → Int
  | 0 => 0
  | n + 1 => sumZ f n + f n
theorem sumZ_ext {f g : Nat → Int} : ∀ {n : Nat}, (∀ i, i < n → f i = g i) → sumZ f n = sumZ g n := by
  intro n
  induction n with
  | zero => intro _; rfl
  | succ n ih => intro h; rw [sumZ, sumZ, ih (fun i hi => h i (by omega)), h n (by omega)]
theorem sumZ_abs {f : Nat → Int} {B : Nat} : ∀ {n : Nat}, (∀ i, i < n → (f i).natAbs ≤ B) → (sumZ f n).natAbs ≤ n * B := by
  intro n
  induction n with
  | zero => intro _; simp [sumZ]
  | succ n ih =>
    intro h
    have h1 := ih (fun i hi => h i (by omega))
    have h2 := h n (by omega)
    have h3 := Int.natAbs_add_le (sumZ f n) (f n)
    rw [sumZ, Nat.succ_mul]; omega
/-- one of the summands is nothing -/
theorem sumZ_abs1 {f : Nat → Int} {B x : Nat} : ∀ {n : Nat}, x < n → (∀ i, i < n → (f i).natAbs ≤ B) → f x = 0 → (sumZ f n).natAbs ≤ (n - 1) * B := by
  intro n
  induction n with
  | zero => intro h; omega
  | succ n ih =>
    intro hx h h0
    have h2 := h n (by omega)
    have h3 := Int.natAbs_add_le (sumZ f n) (f n)
    rw [sumZ]
    by_cases e : x = n
    · subst e
      have h1 := sumZ_abs (n := x) (fun i hi => h i (by omega))
      rw [h0] at h3 ⊢
      simp at h3 ⊢; exact h1
    · have h1 := ih (by omega) (fun i hi => h i (by omega)) h0
      rw [show n + 1 - 1 = (n - 1) + 1 by omega, Nat.succ_mul]; omega
def dgZ (P : Nat → Nat → Int) (c : Int) (v j : Nat) : Int := P v j + if v = j then c else 0
def mlZ (n C : Nat) (M : Nat → Nat → Int) (i j : Nat) : Int := sumZ (fun v => if adj C i v = true then M v j else 0) n
def trZ (P : Nat → Nat → Int) (n : Nat) : Int := sumZ (fun i => P i i) n
def tz (n C : Nat) : Nat → (Nat → Nat → Int) × Int
  | 0 => (fun _ _ => 0, 1)
  | k + 1 => (mlZ n C (dgZ (tz n C k).1 (tz n C k).2), (-(trZ (mlZ n C (dgZ (tz n C k).1 (tz n C k).2)) n)).tdiv ((k + 1 : Nat) : Int))
def cfZ (n C k : Nat) : Int := (tz n C k).2
def pB : Nat → Nat
  | 0 => 0
  | 1 => 1
  | 2 => 6
  | 3 => 162
  | 4 => 3240
  | 5 => 53460
  | 6 => 769824
  | _ => 10007712
def cB : Nat → Nat
  | 0 => 1
  | 1 => 0
  | 2 => 21
  | 3 => 378
  | 4 => 5670
  | 5 => 74844
  | 6 => 898128
  | _ => 10007712
theorem pcB : ∀ k, k < 7 → 1 ≤ k → 6 * (pB k + cB k) ≤ pB (k + 1) ∧ 7 * pB (k + 1) / (k + 1) ≤ cB (k + 1) := by decide
theorem ml_diag {n C : Nat} {c : Int} (i j : Nat) (hj : j < n) : mlZ n C (dgZ (fun _ _ => 0) c) i j = if adj C i j = true then c else 0 := by
  unfold mlZ
  have : ∀ m, sumZ (fun v => if adj C i v = true then dgZ (fun _ _ => 0) c v j else 0) m = if j < m ∧ adj C i j = true then c else 0 := by
    intro m
    induction m with
    | zero => simp [sumZ]
    | succ m ih =>
      rw [sumZ, ih]
      unfold dgZ
      by_cases e : m = j
      · subst e; simp
      · have : (j < m + 1) ↔ (j < m) := by omega
        simp [e, this]
  rw [this n]
  simp [hj]
theorem tz_bd {n C : Nat} (hn : n ≤ 7) : ∀ k, k ≤ 7 → (∀ i j, i < n → j < n → ((tz n C k).1 i j).natAbs ≤ pB k) ∧ ((tz n C k).2).natAbs ≤ cB k ∧ (trZ (tz n C k).1 n).natAbs ≤ 7 * pB k := by
  intro k
  induction k with
  | zero =>
    intro _
    refine ⟨fun i j _ _ => by simp [tz, pB], by simp [tz, cB], ?_⟩
    have : trZ (tz n C 0).1 n = 0 := by
      unfold trZ tz
      have : ∀ m, sumZ (fun _ => 0) m = 0 := by
        intro m
        induction m with
        | zero => rfl
        | succ m ih => rw [sumZ, ih]; rfl
      exact this n
    rw [this]; simp
  | succ k ih =>
    intro hk
    obtain ⟨h1, h2, h3⟩ := ih (by omega)
    by_cases hk0 : k = 0
    · subst hk0
      have hP : ∀ i j, i < n → j < n → (tz n C 1).1 i j = if adj C i j = true then 1 else 0 := fun i j _ hj => ml_diag i j hj
      have hT : trZ (tz n C 1).1 n = 0 := by
        unfold trZ
        rw [sumZ_ext (g := fun _ => 0) (fun i hi => by rw [hP i i hi hi, adj_self]; rfl)]
        have : ∀ m, sumZ (fun _ => 0) m = 0 := by
          intro m
          induction m with
          | zero => rfl
          | succ m ih => rw [sumZ, ih]; rfl
        exact this n
      refine ⟨fun i j hi hj => ?_, ?_, by rw [hT]; simp⟩
      · rw [hP i j hi hj]; split <;> simp [pB]
      · have : (tz n C 1).2 = 0 := by
          show (-(trZ (tz n C 1).1 n)).tdiv 1 = 0
          rw [hT]; rfl
        rw [this]; simp
    · obtain ⟨b1, b2⟩ := pcB k (by omega) (by omega)
      have hP : ∀ i j, i < n → j < n → ((tz n C (k + 1)).1 i j).natAbs ≤ pB (k + 1) := by
        intro i j hi hj
        show (mlZ n C (dgZ (tz n C k).1 (tz n C k).2) i j).natAbs ≤ _
        unfold mlZ
        have := sumZ_abs1 (f := fun v => if adj C i v = true then dgZ (tz n C k).1 (tz n C k).2 v j else 0) (B := pB k + cB k) hi (fun v hv => by
          split
          · unfold dgZ
            have e1 := h1 v j hv hj
            have e2 := Int.natAbs_add_le ((tz n C k).1 v j) (if v = j then (tz n C k).2 else 0)
            have e3 : (if v = j then (tz n C k).2 else (0 : Int)).natAbs ≤ cB k := by
              split
              · exact h2
              · exact Nat.zero_le _
            omega
          · simp) (by rw [adj_self]; rfl)
        have h6 : (n - 1) * (pB k + cB k) ≤ 6 * (pB k + cB k) := Nat.mul_le_mul_right _ (by omega)
        omega
      have hT : (trZ (tz n C (k + 1)).1 n).natAbs ≤ 7 * pB (k + 1) := by
        unfold trZ
        have := sumZ_abs (f := fun i => (tz n C (k + 1)).1 i i) (n := n) (fun i hi => hP i i hi hi)
        have h6 : n * pB (k + 1) ≤ 7 * pB (k + 1) := Nat.mul_le_mul_right _ hn
        omega
      refine ⟨hP, ?_, hT⟩
      show ((-(trZ (tz n C (k + 1)).1 n)).tdiv ((k + 1 : Nat) : Int)).natAbs ≤ _
      rw [Int.natAbs_tdiv, Int.natAbs_neg, Int.natAbs_natCast]
      exact Nat.le_trans (Nat.div_le_div_right hT) b2
theorem pB_le : ∀ k, pB k ≤ 10007712 := by
  intro k
  unfold pB
  split <;> decide
def zI (x : Int) : Int32 := Int32.ofInt x
theorem zI_add (x y : Int) : zI x + zI y = zI (x + y) := (Int32.ofInt_add x y).symm
theorem zI_neg (x : Int) : -zI x = zI (-x) := (Int32.ofInt_neg x).symm
theorem zI_nat (x : Nat) : nI x = zI (x : Int) := rfl
theorem zI_div {x : Int} {k : Nat} (h : x.natAbs < 2 ^ 31) (hk : k < 2 ^ 31) : zI x / nI k = zI (x.tdiv (k : Int)) := by
  rw [zI_nat]
  have h1 : Int32.minValue.toInt = -2147483648 := rfl
  have h2 : Int32.maxValue.toInt = 2147483647 := rfl
  exact (Int32.ofInt_tdiv (by omega) (by omega) (by omega) (by omega)).symm
theorem c_diag {S : mScr} {dep n : Nat} {c : Int} {P : Nat → Nat → Int} {h : Hp} (hn : n ≤ 7) (hP : ∀ i j, i < n → j < n → h.1 18 (i * 7 + j) = zI (P i j)) : Cal S (dep + 1) 30 [.ref 13, .int (nI n), .int (zI c)] h (fun q h' => q = none ∧ Fr [17] h h' ∧ ∀ i j, i < n → j < n → h'.1 17 (i * 7 + j) = zI (dgZ P c i j)) := by
  show V S (dep + 1) 30 0 [.ref 13, .int (nI n), .int (zI c), .null] [] h _
  refine V_aload_n rfl rfl rfl ?_
  refine V_getR (r := 18) rfl rfl ?_
  refine V_ic (v := nI 0) rfl rfl ?_
  refine V_aload_n rfl rfl rfl ?_
  refine V_getR (r := 17) rfl rfl ?_
  refine V_ic (v := nI 0) rfl rfl ?_
  refine V_bi (v := nI 49) rfl rfl ?_
  -- at 12: .invokestatic 105
  refine V_copy (a := 18) (b := 17) (n0 := 49) (n1 := 49) rfl rfl rfl (by decide) (by decide) (by decide) (by decide) (by decide) rfl rfl ?_
  refine V_ic (v := nI 0) rfl rfl ?_
  refine V_istore_n (L' := [_, _, _, _]) rfl rfl rfl ?_
  -- at 17: .iload_n 3
  have lp := loopUp (P := fun x => ∀ h1, Fr [17] h h1 → (∀ i j, i < n → j < n → h1.1 17 (i * 7 + j) = if i < x then zI (dgZ P c i j) else zI (P i j)) → V S (dep + 1) 30 17 [.ref 13, .int (nI n), .int (zI c), .int (nI x)] [] h1 (fun q h' => q = none ∧ Fr [17] h h' ∧ ∀ i j, i < n → j < n → h'.1 17 (i * 7 + j) = zI (dgZ P c i j))) n ?_ ?_ 0 (Nat.zero_le _)
  · refine lp _ (Fr.wr (by simp)) (fun i j hi hj => ?_)
    rw [if_neg (by omega), ← hP i j hi hj]
    show (wA h 17 _).1 17 (i * 7 + j) = _
    rw [wA_row]
    have e1 : (nI 0).toNatClampNeg = 0 := rfl
    have e2 : (nI 49).toNatClampNeg = 49 := rfl
    unfold va_cpy
    rw [e1, e2, if_pos (by omega), show 0 + (i * 7 + j - 0) = i * 7 + j by omega]
  · intro h1 f1 e1
    refine V_iload_n rfl rfl ?_
    refine V_iload_n rfl rfl ?_
    -- at 19: .if_icmp .ge 24
    refine V_icmp_ge rfl (fun hc => ?_) (fun hc => ?_)
    · refine V_return rfl rfl ?_
      exact ⟨rfl, f1, fun i j hi hj => by rw [e1 i j hi hj, if_pos hi]⟩
    · exact absurd (nI_le (Nat.le_refl _) (by omega)) hc
  · intro x hx ih h1 f1 e1
    refine V_iload_n rfl rfl ?_
    refine V_iload_n rfl rfl ?_
    -- at 19: .if_icmp .ge 24
    refine V_icmp_ge rfl (fun hc => ?_) (fun hc => ?_)
    · exact absurd hc (nI_ge hx (by omega))
    · refine V_aload_n rfl rfl rfl ?_
      refine V_getR (r := 17) rfl rfl ?_
      refine V_iload_n rfl rfl ?_
      refine V_bi (v := nI 7) rfl rfl ?_
      refine V_imul rfl ?_
      refine V_iload_n rfl rfl ?_
      refine V_iadd rfl ?_
      -- at 32: .dup2
      rw [nI_mul, nI_add]
      refine V_dup2 rfl rfl ?_
      refine V_al 49 rfl rfl (by first | with_reducible rfl | assumption | exact nI_sub (by omega) | exact nI_add _ _) (by first | omega | assumption) rfl ?_
      -- at 34: .iload_n 2
      rw [e1 x x hx hx, if_neg (by omega)]
      refine V_iload_n rfl rfl ?_
      refine V_iadd rfl ?_
      -- at 36: .iastore
      rw [zI_add]
      refine V_as 49 rfl rfl (by first | with_reducible rfl | assumption | exact nI_sub (by omega) | exact nI_add _ _) (by first | omega | assumption) rfl ?_
      refine V_iinc (L' := [_, _, _, _]) rfl rfl rfl ?_
      refine V_goto rfl ?_
      -- at 17: .iload_n 3
      rw [show Int32.ofInt 1 = nI 1 from rfl, nI_add]
      refine ih _ (f1.tr (Fr.w (by simp))) (fun i j hi hj => ?_)
      by_cases q : i = x
      · rw [if_pos (by omega)]
        by_cases q2 : j = x
        · rw [q, q2, wI_same]; unfold dgZ; rw [if_pos rfl]
        · rw [wI_ne (by omega), e1 i j hi hj, if_neg (by omega)]; unfold dgZ; rw [if_neg (by omega), Int.add_zero]
      · rw [wI_ne (by omega), e1 i j hi hj]
        by_cases q2 : i < x
        · rw [if_pos q2, if_pos (by omega)]
        · rw [if_neg q2, if_neg (by omega)]
theorem net17 : ∀ a, a < 208 → isNet a = true → a ≠ 17 ∧ a + 1 ≠ 17 ∧ a ≠ 18 ∧ a + 1 ≠ 18 := by decide +kernel
theorem c_mul {S : mScr} {dep a n C : Nat} {M : Nat → Nat → Int} {h : Hp} (hN : NC h a n C) (hM : ∀ i j, i < n → j < n → h.1 17 (i * 7 + j) = zI (M i j)) : Cal S dep 31 [.ref 13, .ref a] h (fun q h' => q = none ∧ Fr [18] h h' ∧ ∀ i j, i < n → j < n → h'.1 18 (i * 7 + j) = zI (mlZ n C M i j)) := by
  obtain ⟨⟨ha, hn, h0, hg, hb⟩, hC⟩ := id hN
  have hb1 := net_b ha
  have hb2 := net_b1 ha
  have hne := net17 a (shC_lt ha) ha
  show V S dep 31 0 [.ref 13, .ref a, .null, .null, .null, .null] [] h _
  refine V_ic (v := nI 0) rfl rfl ?_
  refine V_istore_n (L' := [_, _, _, _, _, _]) rfl rfl rfl ?_
  -- at 2: .iload_n 2
  have lp := loopUp (P := fun x => ∀ h1 v3 v4 v5, Fr [18] h h1 → (∀ i j, i < x → j < n → h1.1 18 (i * 7 + j) = zI (mlZ n C M i j)) → V S dep 31 2 [.ref 13, .ref a, .int (nI x), v3, v4, v5] [] h1 (fun q h' => q = none ∧ Fr [18] h h' ∧ ∀ i j, i < n → j < n → h'.1 18 (i * 7 + j) = zI (mlZ n C M i j))) n ?_ ?_ 0 (Nat.zero_le _)
  · exact lp h _ _ _ Fr.rf (fun i j hi => by omega)
  · intro h1 v3 v4 v5 f1 e1
    have h01 := (hN.fr f1 (by simp; omega) (by simp; omega)).1.2.2.1
    refine V_iload_n rfl rfl ?_
    refine V_aload_n rfl rfl (by first | assumption | rfl) ?_
    refine V_gi 0 rfl (net_sz (by first | assumption | rfl)) rfl ?_
    -- at 7: .if_icmp .ge 94
    rw [h01]
    refine V_icmp_ge rfl (fun hc => ?_) (fun hc => ?_)
    · refine V_return rfl rfl ?_
      exact ⟨rfl, f1, e1⟩
    · exact absurd (nI_le (Nat.le_refl _) (by omega)) hc
  · intro x hx ih h1 v3 v4 v5 f1 e1
    have h01 := (hN.fr f1 (by simp; omega) (by simp; omega)).1.2.2.1
    refine V_iload_n rfl rfl ?_
    refine V_aload_n rfl rfl (by first | assumption | rfl) ?_
    refine V_gi 0 rfl (net_sz (by first | assumption | rfl)) rfl ?_
    -- at 7: .if_icmp .ge 94
    rw [h01]
    refine V_icmp_ge rfl (fun hc => ?_) (fun hc => ?_)
    · exact absurd hc (nI_ge hx (by omega))
    · refine V_ic (v := nI 0) rfl rfl ?_
      refine V_istore_n (L' := [_, _, _, _, _, _]) rfl rfl rfl ?_
      -- at 12: .iload_n 3
      have lq := loopUp (P := fun y => ∀ h2 v4 v5, Fr [18] h h2 → (∀ i j, i < x → j < n → h2.1 18 (i * 7 + j) = zI (mlZ n C M i j)) → (∀ j, j < y → h2.1 18 (x * 7 + j) = zI (mlZ n C M x j)) → V S dep 31 12 [.ref 13, .ref a, .int (nI x), .int (nI y), v4, v5] [] h2 (fun q h' => q = none ∧ Fr [18] h h' ∧ ∀ i j, i < n → j < n → h'.1 18 (i * 7 + j) = zI (mlZ n C M i j))) n ?_ ?_ 0 (Nat.zero_le _)
      · exact lq h1 _ _ f1 e1 (fun j hj => by omega)
      · intro h2 v4 v5 f2 e2 e3
        have h02 := (hN.fr f2 (by simp; omega) (by simp; omega)).1.2.2.1
        refine V_iload_n rfl rfl ?_
        refine V_aload_n rfl rfl (by first | assumption | rfl) ?_
        refine V_gi 0 rfl (net_sz (by first | assumption | rfl)) rfl ?_
        -- at 17: .if_icmp .ge 78
        rw [h02]
        refine V_icmp_ge rfl (fun hd => ?_) (fun hd => ?_)
        · refine V_iinc (L' := [_, _, _, _, _, _]) rfl rfl rfl ?_
          refine V_goto rfl ?_
          -- at 2: .iload_n 2
          rw [show Int32.ofInt 1 = nI 1 from rfl, nI_add]
          refine ih h2 _ _ _ f2 (fun i j hi hj => ?_)
          by_cases q : i = x
          · rw [q]; exact e3 j hj
          · exact e2 i j (by omega) hj
        · exact absurd (nI_le (Nat.le_refl _) (by omega)) hd
      · intro y hy ih2 h2 v4 v5 f2 e2 e3
        have hN2 := hN.fr f2 (by simp; omega) (by simp; omega)
        have h02 := hN2.1.2.2.1
        have hg2 := hN2.1.2.2.2.1
        refine V_iload_n rfl rfl ?_
        refine V_aload_n rfl rfl (by first | assumption | rfl) ?_
        refine V_gi 0 rfl (net_sz (by first | assumption | rfl)) rfl ?_
        -- at 17: .if_icmp .ge 78
        rw [h02]
        refine V_icmp_ge rfl (fun hd => ?_) (fun hd => ?_)
        · exact absurd hd (nI_ge hy (by omega))
        · refine V_ic (v := nI 0) rfl rfl ?_
          refine V_istore (L' := [_, _, _, _, _, _]) rfl rfl rfl ?_
          refine V_ic (v := nI 0) rfl rfl ?_
          refine V_istore (L' := [_, _, _, _, _, _]) rfl rfl rfl ?_
          -- at 26: .iload 5
          obtain ⟨F, hF⟩ : ∃ F : Nat → Int, F = fun v => if adj C x v = true then M v y else 0 := ⟨_, rfl⟩
          have lr := loopUp (P := fun v => V S dep 31 26 [.ref 13, .ref a, .int (nI x), .int (nI y), .int (zI (sumZ F v)), .int (nI v)] [] h2 (fun q h' => q = none ∧ Fr [18] h h' ∧ ∀ i j, i < n → j < n → h'.1 18 (i * 7 + j) = zI (mlZ n C M i j))) n ?_ ?_ 0 (Nat.zero_le _)
          · exact lr
          · refine V_iload rfl rfl ?_
            refine V_aload_n rfl rfl (by first | assumption | rfl) ?_
            refine V_gi 0 rfl (net_sz (by first | assumption | rfl)) rfl ?_
            -- at 32: .if_icmp .ge 44
            rw [h02]
            refine V_icmp_ge rfl (fun he => ?_) (fun he => ?_)
            · refine V_aload_n rfl rfl rfl ?_
              refine V_getR (r := 18) rfl rfl ?_
              refine V_iload_n rfl rfl ?_
              refine V_bi (v := nI 7) rfl rfl ?_
              refine V_imul rfl ?_
              refine V_iload_n rfl rfl ?_
              refine V_iadd rfl ?_
              -- at 86: .iload 4
              rw [nI_mul, nI_add]
              refine V_iload rfl rfl ?_
              refine V_as 49 rfl rfl (by first | with_reducible rfl | assumption | exact nI_sub (by omega) | exact nI_add _ _) (by first | omega | assumption) rfl ?_
              refine V_iinc (L' := [_, _, _, _, _, _]) rfl rfl rfl ?_
              refine V_goto rfl ?_
              -- at 12: .iload_n 3
              rw [show Int32.ofInt 1 = nI 1 from rfl, nI_add]
              have eF : sumZ F n = mlZ n C M x y := by rw [hF]; rfl
              refine ih2 _ _ _ (f2.tr (Fr.w (by simp))) (fun i j hi hj => ?_) (fun j hj => ?_)
              · rw [wI_ne (by omega)]; exact e2 i j hi hj
              · by_cases q : j = y
                · rw [q, wI_same, eF]
                · rw [wI_ne (by omega)]; exact e3 j (by omega)
            · exact absurd (nI_le (Nat.le_refl _) (by omega)) he
          · intro v hv ih3
            have hM2 : h2.1 17 (v * 7 + y) = zI (M v y) := by rw [f2.1 17 (by simp)]; exact hM v y hv hy
            have hrb := hb x
            have hFv : F v = if adj C x v = true then M v y else 0 := by rw [hF]
            have had : (rowOf n C x).testBit v = adj C x v := by rw [rowOf_tb, decide_eq_true hx, decide_eq_true hv, adj_comm]; rfl
            rw [sumZ] at ih3
            refine V_iload rfl rfl ?_
            refine V_aload_n rfl rfl (by first | assumption | rfl) ?_
            refine V_gi 0 rfl (net_sz (by first | assumption | rfl)) rfl ?_
            -- at 32: .if_icmp .ge 44
            rw [h02]
            refine V_icmp_ge rfl (fun he => ?_) (fun he => ?_)
            · exact absurd he (nI_ge hv (by omega))
            · refine V_iload rfl rfl ?_
              refine V_aload_n rfl rfl (by first | assumption | rfl) ?_
              refine V_getR rfl (net_nr (by first | assumption | rfl)) ?_
              refine V_iload_n rfl rfl ?_
              refine V_al 7 rfl (net_ar (by first | assumption | rfl)) (by first | with_reducible rfl | assumption | exact nI_sub (by omega) | exact nI_add _ _) (by first | omega | assumption) rfl ?_
              -- at 43: .iload 5
              rw [hg2 x (by omega)]
              refine V_iload rfl rfl ?_
              refine V_ishr rfl ?_
              refine V_ic (v := nI 1) rfl rfl ?_
              refine V_iand rfl ?_
              -- at 48: .ifCond .eq 18
              refine V_if_eq rfl (fun hf => ?_) (fun hf => ?_)
              · have hf := (tb_z (by omega) (by omega)).mp hf
                rw [had] at hf
                rw [hFv, hf, if_neg (by simp)] at ih3
                refine V_ic (v := nI 0) rfl rfl ?_
                refine V_iadd rfl ?_
                -- at 68: .istore 4
                rw [show nI 0 = zI 0 from rfl, zI_add]
                refine V_istore (L' := [_, _, _, _, _, _]) rfl rfl rfl ?_
                refine V_iinc (L' := [_, _, _, _, _, _]) rfl rfl rfl ?_
                refine V_goto rfl ?_
                -- at 26: .iload 5
                rw [show Int32.ofInt 1 = nI 1 from rfl, nI_add]
                exact ih3
              · have hf := (tb_nz (by omega) (by omega)).mp hf
                rw [had] at hf
                rw [hFv, hf, if_pos rfl] at ih3
                refine V_aload_n rfl rfl rfl ?_
                refine V_getR (r := 17) rfl rfl ?_
                refine V_iload rfl rfl ?_
                refine V_bi (v := nI 7) rfl rfl ?_
                refine V_imul rfl ?_
                refine V_iload_n rfl rfl ?_
                refine V_iadd rfl ?_
                -- at 62: .iaload
                rw [nI_mul, nI_add]
                refine V_al 49 rfl rfl (by first | with_reducible rfl | assumption | exact nI_sub (by omega) | exact nI_add _ _) (by first | omega | assumption) rfl ?_
                refine V_goto rfl ?_
                -- at 67: .iadd
                rw [hM2]
                refine V_iadd rfl ?_
                -- at 68: .istore 4
                rw [zI_add]
                refine V_istore (L' := [_, _, _, _, _, _]) rfl rfl rfl ?_
                refine V_iinc (L' := [_, _, _, _, _, _]) rfl rfl rfl ?_
                refine V_goto rfl ?_
                -- at 26: .iload 5
                rw [show Int32.ofInt 1 = nI 1 from rfl, nI_add]
                exact ih3
theorem c_tr {S : mScr} {dep n : Nat} {P : Nat → Nat → Int} {h : Hp} (hn : n ≤ 7) (hP : ∀ i j, i < n → j < n → h.1 18 (i * 7 + j) = zI (P i j)) : Cal S dep 32 [.ref 13, .int (nI n)] h (Rt (zI (trZ P n)) h) := by
  show V S dep 32 0 [.ref 13, .int (nI n), .null, .null] [] h _
  refine V_ic (v := nI 0) rfl rfl ?_
  refine V_istore_n (L' := [_, _, _, _]) rfl rfl rfl ?_
  refine V_ic (v := nI 0) rfl rfl ?_
  refine V_istore_n (L' := [_, _, _, _]) rfl rfl rfl ?_
  -- at 4: .iload_n 3
  have lp := loopUp (P := fun x => V S dep 32 4 [.ref 13, .int (nI n), .int (zI (sumZ (fun i => P i i) x)), .int (nI x)] [] h (Rt (zI (trZ P n)) h)) n ?_ ?_ 0 (Nat.zero_le _)
  · exact lp
  · refine V_iload_n rfl rfl ?_
    refine V_iload_n rfl rfl ?_
    -- at 6: .if_icmp .ge 23
    refine V_icmp_ge rfl (fun hc => ?_) (fun hc => ?_)
    · refine V_iload_n rfl rfl ?_
      -- at 30: .ireturn
      refine V_iret rfl rfl ?_
      exact Rt.rf
    · exact absurd (nI_le (Nat.le_refl _) (by omega)) hc
  · intro x hx ih
    rw [sumZ] at ih
    refine V_iload_n rfl rfl ?_
    refine V_iload_n rfl rfl ?_
    -- at 6: .if_icmp .ge 23
    refine V_icmp_ge rfl (fun hc => ?_) (fun hc => ?_)
    · exact absurd hc (nI_ge hx (by omega))
    · refine V_iload_n rfl rfl ?_
      refine V_aload_n rfl rfl rfl ?_
      refine V_getR (r := 18) rfl rfl ?_
      refine V_iload_n rfl rfl ?_
      refine V_bi (v := nI 7) rfl rfl ?_
      refine V_imul rfl ?_
      refine V_iload_n rfl rfl ?_
      refine V_iadd rfl ?_
      -- at 20: .iaload
      rw [nI_mul, nI_add]
      refine V_al 49 rfl rfl (by first | with_reducible rfl | assumption | exact nI_sub (by omega) | exact nI_add _ _) (by first | omega | assumption) rfl ?_
      -- at 21: .iadd
      rw [hP x x hx hx]
      refine V_iadd rfl ?_
      -- at 22: .istore_n 2
      rw [zI_add]
      refine V_istore_n (L' := [_, _, _, _]) rfl rfl rfl ?_
      refine V_iinc (L' := [_, _, _, _]) rfl rfl rfl ?_
      refine V_goto rfl ?_
      -- at 4: .iload_n 3
      rw [show Int32.ofInt 1 = nI 1 from rfl, nI_add]
      exact ih
theorem c_coef {S : mScr} {dep a n C k : Nat} {h : Hp} (hN : NC h a n C) (hk : k ≤ n) : Cal S (dep + 2) 29 [.ref 13, .ref a, .int (nI k)] h (fun q h' => q = some (.int (zI (cfZ n C k))) ∧ Fr [17, 18] h h') := by
  obtain ⟨⟨ha, hn, h0, hg, hb⟩, hC⟩ := id hN
  have hb1 := net_b ha
  have hb2 := net_b1 ha
  have hne := net17 a (shC_lt ha) ha
  have hsa : a ∉ [17, 18] ∧ a + 1 ∉ [17, 18] := by simp; omega
  show V S (dep + 2) 29 0 [.ref 13, .ref a, .int (nI k), .null, .null] [] h _
  refine V_ic (v := nI 1) rfl rfl ?_
  refine V_istore_n (L' := [_, _, _, _, _]) rfl rfl rfl ?_
  refine V_ic (v := nI 0) rfl rfl ?_
  refine V_istore (L' := [_, _, _, _, _]) rfl rfl rfl ?_
  -- at 5: .iload 4
  have lp := loopUp (P := fun x => ∀ h1, Fr [17, 18] h h1 → (∀ i, i < x → h1.1 18 i = nI 0) → V S (dep + 2) 29 5 [.ref 13, .ref a, .int (nI k), .int (nI 1), .int (nI x)] [] h1 (fun q h' => q = some (.int (zI (cfZ n C k))) ∧ Fr [17, 18] h h')) 49 ?_ ?_ 0 (Nat.zero_le _)
  · exact lp h Fr.rf (fun i hi => by omega)
  · intro h1 f1 z1
    refine V_iload rfl rfl ?_
    refine V_bi (v := nI 49) rfl rfl ?_
    -- at 9: .if_icmp .ge 17
    refine V_icmp_ge rfl (fun hc => ?_) (fun hc => ?_)
    · refine V_ic (v := nI 1) rfl rfl ?_
      refine V_istore (L' := [_, _, _, _, _]) rfl rfl rfl ?_
      -- at 29: .iload 4
      have lq : ∀ m s, s + m = k → ∀ h2, Fr [17, 18] h h2 → (∀ i j, i < n → j < n → h2.1 18 (i * 7 + j) = zI ((tz n C s).1 i j)) → V S (dep + 2) 29 29 [.ref 13, .ref a, .int (nI k), .int (zI (tz n C s).2), .int (nI (s + 1))] [] h2 (fun q h' => q = some (.int (zI (cfZ n C k))) ∧ Fr [17, 18] h h') := by
        intro m
        induction m with
        | zero =>
          intro s hs h2 f2 e2
          obtain rfl : s = k := by omega
          refine V_iload rfl rfl ?_
          refine V_iload_n rfl rfl ?_
          -- at 32: .if_icmp .gt 36
          refine V_icmp_gt rfl (fun hd => ?_) (fun hd => ?_)
          · refine V_iload_n rfl rfl ?_
            -- at 69: .ireturn
            refine V_iret rfl rfl ?_
            exact ⟨rfl, f2⟩
          · exact absurd (nI_lt (by omega) (by omega)) hd
        | succ m ihm =>
          intro s hs h2 f2 e2
          have hN2 := hN.fr f2 hsa.1 hsa.2
          have h02 := hN2.1.2.2.1
          refine V_iload rfl rfl ?_
          refine V_iload_n rfl rfl ?_
          -- at 32: .if_icmp .gt 36
          refine V_icmp_gt rfl (fun hd => ?_) (fun hd => ?_)
          · exact absurd hd (nI_nlt (by omega) (by omega))
          · refine V_aload_n rfl rfl rfl ?_
            refine V_aload_n rfl rfl (by first | assumption | rfl) ?_
            refine V_gi 0 rfl (net_sz (by first | assumption | rfl)) rfl ?_
            refine V_iload_n rfl rfl ?_
            -- at 41: .invokevirtual 95
            rw [h02]
            refine V_callV rfl rfl rfl rfl rfl (c_diag hn e2) ?_
            rintro _ h3 ⟨rfl, f3, e3⟩
            show V S (dep + 2) 29 44 [.ref 13, .ref a, .int (nI k), .int (zI (tz n C s).2), .int (nI (s + 1))] [] h3 _
            have f3 : Fr [17, 18] h h3 := f2.tr (f3.mono (by simp))
            have hN3 := hN.fr f3 hsa.1 hsa.2
            refine V_aload_n rfl rfl rfl ?_
            refine V_aload_n rfl rfl (by first | assumption | rfl) ?_
            -- at 46: .invokevirtual 99
            refine V_callV rfl rfl rfl rfl rfl (c_mul hN3 e3) ?_
            rintro _ h4 ⟨rfl, f4, e4⟩
            show V S (dep + 2) 29 49 [.ref 13, .ref a, .int (nI k), .int (zI (tz n C s).2), .int (nI (s + 1))] [] h4 _
            have f4 : Fr [17, 18] h h4 := f3.tr (f4.mono (by simp))
            have h04 := (hN.fr f4 hsa.1 hsa.2).1.2.2.1
            refine V_aload_n rfl rfl rfl ?_
            refine V_aload_n rfl rfl (by first | assumption | rfl) ?_
            refine V_gi 0 rfl (net_sz (by first | assumption | rfl)) rfl ?_
            -- at 54: .invokevirtual 102
            rw [h04]
            refine V_cV rfl rfl rfl rfl rfl (c_tr hn e4) ?_
            refine V_ineg rfl ?_
            refine V_iload rfl rfl ?_
            -- at 60: .idiv
            rw [zI_neg]
            have hbd := (tz_bd (C := C) hn (s + 1) (by omega)).2.2
            have hpb := pB_le (s + 1)
            have hz : ¬ nI (s + 1) = 0 := nI_ne0 (by omega) (by omega)
            refine V_idiv rfl (by first | assumption | decide | omega) ?_
            -- at 61: .istore_n 3
            rw [zI_div (x := -(trZ (mlZ n C (dgZ (tz n C s).1 (tz n C s).2)) n)) (by
              rw [Int.natAbs_neg]
              have : (trZ (mlZ n C (dgZ (tz n C s).1 (tz n C s).2)) n).natAbs ≤ 7 * pB (s + 1) := hbd
              omega) (by omega)]
            refine V_istore_n (L' := [_, _, _, _, _]) rfl rfl rfl ?_
            refine V_iinc (L' := [_, _, _, _, _]) rfl rfl rfl ?_
            refine V_goto rfl ?_
            -- at 29: .iload 4
            rw [show Int32.ofInt 1 = nI 1 from rfl, nI_add]
            exact ihm (s + 1) (by omega) h4 f4 e4
      exact lq k 0 (by omega) h1 f1 (fun i j hi hj => z1 _ (by omega))
    · exact absurd (by decide) hc
  · intro x hx ih h1 f1 z1
    refine V_iload rfl rfl ?_
    refine V_bi (v := nI 49) rfl rfl ?_
    -- at 9: .if_icmp .ge 17
    refine V_icmp_ge rfl (fun hc => ?_) (fun hc => ?_)
    · exact absurd hc (nI_ge hx (by decide))
    · refine V_aload_n rfl rfl rfl ?_
      refine V_getR (r := 18) rfl rfl ?_
      refine V_iload rfl rfl ?_
      refine V_ic (v := nI 0) rfl rfl ?_
      refine V_as 49 rfl rfl (by first | with_reducible rfl | assumption | exact nI_sub (by omega) | exact nI_add _ _) (by first | omega | assumption) rfl ?_
      refine V_iinc (L' := [_, _, _, _, _]) rfl rfl rfl ?_
      refine V_goto rfl ?_
      -- at 5: .iload 4
      rw [show Int32.ofInt 1 = nI 1 from rfl, nI_add]
      refine ih _ (f1.tr (Fr.w (by simp))) (fun i hi => ?_)
      by_cases q : i = x
      · rw [q, wI_same]
      · rw [wI_ne (by omega)]; exact z1 i (by omega)
