/-! sums of bits, counts, codes of nets -/
/-- the number whose bits below n are p -/
def bsum (p : Nat → Bool) : Nat → Nat
  | 0 => 0
  | n + 1 => if p n = true then bsum p n ||| 2 ^ n else bsum p n
theorem tb2 (n i : Nat) : (2 ^ n).testBit i = decide (n = i) := by
  by_cases h : n = i
  · subst h; simp [Nat.testBit_two_pow_self]
  · simp [Nat.testBit_two_pow_of_ne h, h]
theorem bsum_tb (p : Nat → Bool) (n i : Nat) : (bsum p n).testBit i = (decide (i < n) && p i) := by
  induction n with
  | zero => simp [bsum]
  | succ n ih =>
    rw [bsum]
    by_cases hp : p n = true
    · rw [if_pos hp, Nat.testBit_or, ih, tb2]
      by_cases hi : n = i
      · subst hi; simp [hp]
      · have : (decide (i < n + 1)) = decide (i < n) := by
          by_cases h2 : i < n
          · simp [h2, Nat.lt_succ_of_lt h2]
          · have : ¬ i < n + 1 := by omega
            simp [h2, this]
        simp [hi, this]
    · rw [if_neg hp, ih]
      by_cases hi : n = i
      · subst hi; simp [hp]
      · have : (decide (i < n + 1)) = decide (i < n) := by
          by_cases h2 : i < n
          · simp [h2, Nat.lt_succ_of_lt h2]
          · have : ¬ i < n + 1 := by omega
            simp [h2, this]
        rw [this]
theorem bsum_lt (p : Nat → Bool) (n : Nat) : bsum p n < 2 ^ n := by
  apply Nat.lt_pow_two_of_testBit
  intro i hi
  rw [bsum_tb]
  simp [show ¬ i < n by omega]
theorem bsum_ext {p q : Nat → Bool} {n : Nat} (h : ∀ i, i < n → p i = q i) : bsum p n = bsum q n := by
  apply Nat.eq_of_testBit_eq
  intro i
  rw [bsum_tb, bsum_tb]
  by_cases hi : i < n
  · rw [h i hi]
  · simp [hi]
theorem bsum_self {x n : Nat} (h : x < 2 ^ n) : bsum x.testBit n = x := by
  apply Nat.eq_of_testBit_eq
  intro i
  rw [bsum_tb]
  by_cases hi : i < n
  · simp [hi]
  · rw [Nat.testBit_lt_two_pow (Nat.lt_of_lt_of_le h (Nat.pow_le_pow_right (by decide) (by omega)))]
    simp
/-- how many below n -/
def cnt (p : Nat → Bool) : Nat → Nat
  | 0 => 0
  | n + 1 => cnt p n + (if p n = true then 1 else 0)
theorem cnt_ext {p q : Nat → Bool} {n : Nat} (h : ∀ i, i < n → p i = q i) : cnt p n = cnt q n := by
  induction n with
  | zero => rfl
  | succ n ih => rw [cnt, cnt, ih (fun i hi => h i (by omega)), h n (by omega)]
theorem cnt_le (p : Nat → Bool) (n : Nat) : cnt p n ≤ n := by
  induction n with
  | zero => simp [cnt]
  | succ n ih => rw [cnt]; split <;> omega
theorem cnt_add (p : Nat → Bool) (n m : Nat) : cnt p (n + m) = cnt p n + cnt (fun i => p (n + i)) m := by
  induction m with
  | zero => simp [cnt]
  | succ m ih => rw [← Nat.add_assoc, cnt, ih, cnt]; omega
theorem cnt_none {p : Nat → Bool} {n : Nat} (h : ∀ i, i < n → p i = false) : cnt p n = 0 := by
  induction n with
  | zero => rfl
  | succ n ih => rw [cnt, ih (fun i hi => h i (by omega)), h n (by omega)]; simp
/-- bits of a number below 2 ^ 24 -/
def pop (x : Nat) : Nat := cnt x.testBit 24
theorem pop_eq {x n : Nat} (hx : x < 2 ^ n) (hn : n ≤ 24) : pop x = cnt x.testBit n := by
  unfold pop
  obtain ⟨m, hm⟩ : ∃ m, 24 = n + m := ⟨24 - n, by omega⟩
  rw [hm, cnt_add, cnt_none (n := m), Nat.add_zero]
  intro i _
  exact Nat.testBit_lt_two_pow (Nat.lt_of_lt_of_le hx (Nat.pow_le_pow_right (by decide) (by omega)))
theorem pop_bsum {p : Nat → Bool} {n : Nat} (hn : n ≤ 24) : pop (bsum p n) = cnt p n := by
  rw [pop_eq (bsum_lt p n) hn]
  exact cnt_ext fun i hi => by rw [bsum_tb]; simp [hi]
theorem pop_le {x n : Nat} (hx : x < 2 ^ n) (hn : n ≤ 24) : pop x ≤ n := by
  rw [pop_eq hx hn]; exact cnt_le _ _
/-! codes -/
def bt (a b : Nat) : Nat := if a < b then b * (b - 1) / 2 + a else a * (a - 1) / 2 + b
def tri (n : Nat) : Nat := n * (n - 1) / 2
def adj (C a b : Nat) : Bool := decide (a ≠ b) && C.testBit (bt a b)
def loT : List Nat := [0, 0, 1, 0, 1, 2, 0, 1, 2, 3, 0, 1, 2, 3, 4, 0, 1, 2, 3, 4, 5]
def hiT : List Nat := [1, 2, 2, 3, 3, 3, 4, 4, 4, 4, 5, 5, 5, 5, 5, 6, 6, 6, 6, 6, 6]
def lo (i : Nat) : Nat := loT.getD i 0
def hi (i : Nat) : Nat := hiT.getD i 0
theorem bt_comm (a b : Nat) : bt a b = bt b a := by
  unfold bt
  by_cases h : a < b
  · rw [if_pos h, if_neg (by omega)]
  · rw [if_neg h]
    by_cases h2 : b < a
    · rw [if_pos h2]
    · rw [if_neg h2, show a = b by omega]
theorem adj_comm (C a b : Nat) : adj C a b = adj C b a := by
  unfold adj
  rw [bt_comm]
  by_cases h : a = b
  · subst h; rfl
  · simp [h, show ¬ b = a from fun q => h q.symm]
theorem adj_self (C a : Nat) : adj C a a = false := by simp [adj]
theorem tri_le {n : Nat} (h : n ≤ 7) : tri n ≤ 21 := by
  have : ∀ n, n < 8 → tri n ≤ 21 := by decide
  exact this n (by omega)
theorem bt_lt {a b n : Nat} (hn : n ≤ 7) (ha : a < b) (hb : b < n) : bt a b < tri n := by
  have : ∀ n, n < 8 → ∀ b, b < n → ∀ a, a < b → bt a b < tri n := by decide
  exact this n (by omega) b hb a ha
theorem bt_lt' {a b n : Nat} (hn : n ≤ 7) (hab : a ≠ b) (ha : a < n) (hb : b < n) : bt a b < tri n := by
  rcases Nat.lt_or_ge a b with h | h
  · exact bt_lt hn h hb
  · rw [bt_comm]; exact bt_lt hn (by omega) ha
theorem lo_bt {a b : Nat} (ha : a < b) (hb : b < 7) : lo (bt a b) = a ∧ hi (bt a b) = b := by
  have : ∀ b, b < 7 → ∀ a, a < b → lo (bt a b) = a ∧ hi (bt a b) = b := by decide
  exact this b hb a ha
theorem bt_lo {i n : Nat} (hn : n ≤ 7) (hi0 : i < tri n) : lo i < hi i ∧ hi i < n ∧ bt (lo i) (hi i) = i := by
  have : ∀ n, n < 8 → ∀ i, i < tri n → lo i < hi i ∧ hi i < n ∧ bt (lo i) (hi i) = i := by decide
  exact this n (by omega) i hi0
theorem bt_inj {a b c d : Nat} (ha : a < b) (hb : b < 7) (hc : c < d) (hd : d < 7) (h : bt a b = bt c d) : a = c ∧ b = d := by
  have h1 := lo_bt ha hb
  have h2 := lo_bt hc hd
  rw [h] at h1
  exact ⟨h1.1.symm.trans h2.1, h1.2.symm.trans h2.2⟩
/-- the code of a relation -/
def codeOf (n : Nat) (e : Nat → Nat → Bool) : Nat := bsum (fun i => e (lo i) (hi i)) (tri n)
theorem codeOf_lt (n : Nat) (e : Nat → Nat → Bool) : codeOf n e < 2 ^ tri n := bsum_lt _ _
theorem adj_codeOf {n a b : Nat} {e : Nat → Nat → Bool} (hn : n ≤ 7) (ha : a < n) (hb : b < n) (hab : a ≠ b) (hs : ∀ x y, e x y = e y x) : adj (codeOf n e) a b = e a b := by
  have main : ∀ a b, a < b → b < n → adj (codeOf n e) a b = e a b := by
    intro a b hab hb
    unfold adj codeOf
    rw [bsum_tb]
    obtain ⟨h1, h2⟩ := lo_bt hab (by omega)
    rw [h1, h2]
    simp [bt_lt hn hab hb, show a ≠ b by omega]
  rcases Nat.lt_or_ge a b with h | h
  · exact main a b h hb
  · rw [adj_comm, hs]; exact main b a (by omega) ha
theorem code_ext {n C D : Nat} (hn : n ≤ 7) (hC : C < 2 ^ tri n) (hD : D < 2 ^ tri n) (h : ∀ a b, a < b → b < n → adj C a b = adj D a b) : C = D := by
  apply Nat.eq_of_testBit_eq
  intro i
  by_cases hi0 : i < tri n
  · obtain ⟨h1, h2, h3⟩ := bt_lo hn hi0
    have h4 := h _ _ h1 h2
    unfold adj at h4
    rw [h3] at h4
    simpa [show lo i ≠ hi i by omega] using h4
  · rw [Nat.testBit_lt_two_pow (Nat.lt_of_lt_of_le hC (Nat.pow_le_pow_right (by decide) (by omega))), Nat.testBit_lt_two_pow (Nat.lt_of_lt_of_le hD (Nat.pow_le_pow_right (by decide) (by omega)))]
theorem codeOf_adj {n C : Nat} (hn : n ≤ 7) (hC : C < 2 ^ tri n) : codeOf n (adj C) = C :=
  code_ext hn (codeOf_lt _ _) hC fun a b hab hb => adj_codeOf hn (by omega) hb (by omega) (adj_comm C)
theorem codeOf_ext {n : Nat} {e f : Nat → Nat → Bool} (hn : n ≤ 7) (h : ∀ a b, a < b → b < n → e a b = f a b) : codeOf n e = codeOf n f := by
  unfold codeOf
  apply bsum_ext
  intro i hi0
  obtain ⟨h1, h2, -⟩ := bt_lo hn hi0
  exact h _ _ h1 h2
theorem adj_out {n C a b : Nat} (hn : n ≤ 7) (hC : C < 2 ^ tri n) (hab : a < b) (hb : n ≤ b) : adj C a b = false := by
  unfold adj
  rw [Nat.testBit_lt_two_pow, Bool.and_false]
  refine Nat.lt_of_lt_of_le hC (Nat.pow_le_pow_right (by decide) ?_)
  unfold bt tri
  rw [if_pos hab]
  have h1 : n * (n - 1) ≤ b * (b - 1) := Nat.mul_le_mul hb (by omega)
  have h2 := Nat.div_le_div_right (c := 2) h1
  omega
/-- the row of a node -/
def rowOf (n C v : Nat) : Nat := if v < n then bsum (fun u => adj C u v) n else 0
theorem rowOf_tb {n C v u : Nat} : (rowOf n C v).testBit u = (decide (v < n) && decide (u < n) && adj C u v) := by
  unfold rowOf
  by_cases hv : v < n
  · rw [if_pos hv, bsum_tb]; simp [hv]
  · rw [if_neg hv]; simp [hv]
theorem rowOf_lt {n C v : Nat} (hn : n ≤ 7) : rowOf n C v < 128 := by
  unfold rowOf
  split
  · exact Nat.lt_of_lt_of_le (bsum_lt _ _) (show 2 ^ n ≤ 2 ^ 7 from Nat.pow_le_pow_right (by decide) hn)
  · decide
