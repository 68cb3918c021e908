/-! parts of three nodes -/
theorem sumN_split (f : Nat → Nat) (a : Nat) : ∀ b, sumN f (a + b) = sumN f a + sumN (fun i => f (a + i)) b := by
  intro b
  induction b with
  | zero => rfl
  | succ b ih => rw [show a + (b + 1) = (a + b) + 1 from rfl, sumN, ih, sumN]; omega
def fS (k m : Nat) (g : Nat → Nat) : Nat := sumN (fun s => if pop s = k then g s else 0) (2 ^ m)
theorem pop_up {s m : Nat} (hs : s < 2 ^ m) (hm : m < 24) : pop (2 ^ m + s) = pop s + 1 := by
  have h1 : 2 ^ m + s = s ||| 2 ^ m := by
    rw [show s ||| 2 ^ m = s ||| 1 <<< m by rw [Nat.shiftLeft_eq, Nat.one_mul], or_add hs, Nat.one_mul, Nat.add_comm]
  rw [h1, pop_or1 (Nat.testBit_lt_two_pow hs) hm]
theorem fS_succ {k m : Nat} (hm : m < 24) (g : Nat → Nat) : fS (k + 1) (m + 1) g = fS (k + 1) m g + fS k m (fun s => g (2 ^ m + s)) := by
  unfold fS
  rw [Nat.pow_succ, Nat.mul_two, sumN_split]
  congr 1
  refine sumN_ext (fun s hs => ?_)
  rw [pop_up hs hm]
  by_cases e : pop s = k
  · rw [if_pos e, if_pos (by omega)]
  · rw [if_neg e, if_neg (by omega)]
theorem fS_0 (g : Nat → Nat) : ∀ m, m ≤ 24 → fS 0 m g = g 0 := by
  intro m
  induction m with
  | zero => intro _; unfold fS; rw [Nat.pow_zero, sumN, sumN, if_pos (by decide), Nat.zero_add]
  | succ m ih =>
    intro hm
    have ih := ih (by omega)
    unfold fS at ih ⊢
    rw [Nat.pow_succ, Nat.mul_two, sumN_split, ih, sumN_zero (fun s hs => by rw [pop_up hs (by omega), if_neg (by omega)])]
    rfl
theorem fS_z {k : Nat} (hk : 0 < k) (g : Nat → Nat) : fS k 0 g = 0 := by
  unfold fS
  rw [Nat.pow_zero, sumN, sumN, if_neg (by rw [show pop 0 = 0 by decide]; omega)]
theorem fS_1 (g : Nat → Nat) : ∀ m, m ≤ 24 → fS 1 m g = sumN (fun a => g (2 ^ a)) m := by
  intro m
  induction m with
  | zero => intro _; rw [fS_z (by omega)]; rfl
  | succ m ih => intro hm; rw [fS_succ (by omega), ih (by omega), fS_0 _ m (by omega), sumN, Nat.add_zero]
theorem fS_2 : ∀ m (g : Nat → Nat), m ≤ 24 → fS 2 m g = sumN (fun b => sumN (fun a => g (2 ^ b + 2 ^ a)) b) m := by
  intro m
  induction m with
  | zero => intro g _; rw [fS_z (by omega)]; rfl
  | succ m ih => intro g hm; rw [fS_succ (by omega), ih g (by omega), fS_1 _ m (by omega), sumN]
theorem fS_3 : ∀ m (g : Nat → Nat), m ≤ 24 → fS 3 m g = sumN (fun c => sumN (fun b => sumN (fun a => g (2 ^ c + (2 ^ b + 2 ^ a))) b) c) m := by
  intro m
  induction m with
  | zero => intro g _; rw [fS_z (by omega)]; rfl
  | succ m ih => intro g hm; rw [fS_succ (by omega), ih g (by omega), fS_2 m _ (by omega), sumN]
/-- how many parts of three nodes have l lines -/
def t1 (n C l c b : Nat) (a : Nat) : Nat := sumN (fun x => if pop (wth n C (2 ^ c + (2 ^ b + 2 ^ x))) = l then 1 else 0) a
def t2 (n C l c : Nat) (b : Nat) : Nat := sumN (fun y => t1 n C l c y y) b
def t3 (n C l : Nat) (c : Nat) : Nat := sumN (fun z => t2 n C l z z) c
theorem frm3 : ∀ D, D < 8 → ∀ p, p < 8 → frm 3 p = p → (frm 3 D = p ↔ pop D = pop p) := by decide +kernel
theorem prt_t3 {n C p : Nat} (hn : n ≤ 7) (hp : p < 8) (hf : frm 3 p = p) : prt 3 p n C = t3 n C (pop p) n := by
  unfold prt
  rw [cnt_sumN]
  have : sumN (fun s => if (decide (pop s = 3) && decide (frm 3 (wth n C s) = p)) = true then 1 else 0) (2 ^ n) = fS 3 n (fun s => if pop (wth n C s) = pop p then 1 else 0) := by
    unfold fS
    refine sumN_ext (fun s hs => ?_)
    by_cases e : pop s = 3
    · have hw : wth n C s < 8 := by
        have := wth_lt n C s
        rw [rk_pop hs hn, e] at this
        exact this
      have h3 := frm3 _ hw p hp hf
      rw [if_pos e, decide_eq_true e, Bool.true_and]
      show _ = if pop (wth n C s) = pop p then 1 else 0
      by_cases q : frm 3 (wth n C s) = p
      · rw [if_pos (h3.mp q), if_pos (decide_eq_true q)]
      · rw [if_neg (fun z => q (h3.mpr z)), if_neg (by simp [q])]
    · simp [e]
  rw [this, fS_3 n _ (by omega)]
  rfl
theorem sumN_pt {f : Nat → Nat} {v : Nat} : ∀ {n : Nat}, v < n → sumN (fun u => if u = v then f u else 0) n = f v := by
  intro n
  induction n with
  | zero => intro h; omega
  | succ n ih =>
    intro h
    rw [sumN]
    by_cases e : v = n
    · subst e; rw [if_pos rfl, sumN_zero (fun i hi => by rw [if_neg (by omega)]), Nat.zero_add]
    · rw [if_neg (by omega), ih (by omega), Nat.add_zero]
theorem tri_bits {a b c : Nat} (h1 : a < b) (h2 : b < c) : 2 ^ a ||| 2 ^ b ||| 2 ^ c = 2 ^ c + (2 ^ b + 2 ^ a) ∧ ∀ u, (2 ^ c + (2 ^ b + 2 ^ a)).testBit u = (decide (u = a) || decide (u = b) || decide (u = c)) := by
  have e1 : 2 ^ a ||| 2 ^ b = 2 ^ b + 2 ^ a := by
    rw [show 2 ^ a ||| 2 ^ b = 2 ^ a ||| 1 <<< b by rw [Nat.shiftLeft_eq, Nat.one_mul], or_add (Nat.pow_lt_pow_right (by decide) h1), Nat.one_mul, Nat.add_comm]
  have e2 : 2 ^ a ||| 2 ^ b ||| 2 ^ c = 2 ^ c + (2 ^ b + 2 ^ a) := by
    have hl : 2 ^ a ||| 2 ^ b < 2 ^ c := Nat.or_lt_two_pow (Nat.pow_lt_pow_right (by decide) (by omega)) (Nat.pow_lt_pow_right (by decide) h2)
    rw [show (2 ^ a ||| 2 ^ b) ||| 2 ^ c = (2 ^ a ||| 2 ^ b) ||| 1 <<< c by rw [Nat.shiftLeft_eq, Nat.one_mul], or_add hl, Nat.one_mul, e1, Nat.add_comm]
  refine ⟨e2, fun u => ?_⟩
  rw [← e2, Nat.testBit_or, Nat.testBit_or, tb2, tb2, tb2]
  have s : ∀ x : Nat, decide (x = u) = decide (u = x) := fun x => decide_eq_decide.mpr ⟨Eq.symm, Eq.symm⟩
  rw [s, s, s]
theorem ends3 {n C a b c : Nat} (hn : n ≤ 7) (h1 : a < b) (h2 : b < c) (hc : c < n) : pop (rowOf n C a &&& (2 ^ c + (2 ^ b + 2 ^ a))) + pop (rowOf n C b &&& (2 ^ c + (2 ^ b + 2 ^ a))) + pop (rowOf n C c &&& (2 ^ c + (2 ^ b + 2 ^ a))) = 2 * pop (wth n C (2 ^ c + (2 ^ b + 2 ^ a))) := by
  obtain ⟨e1, e2⟩ := tri_bits h1 h2
  have ht : 2 ^ c + (2 ^ b + 2 ^ a) < 128 := by
    rw [← e1]
    exact Nat.or_lt_two_pow (n := 7) (Nat.or_lt_two_pow (Nat.pow_lt_pow_right (by decide) (by omega)) (Nat.pow_lt_pow_right (by decide) (by omega))) (Nat.pow_lt_pow_right (by decide) (by omega))
  generalize hT : 2 ^ c + (2 ^ b + 2 ^ a) = T at e1 e2 ht
  rw [pop_wth hn ht]
  have hX : ∀ u, u < n → cnt (fun w => T.testBit w && adj C w u) n = pop (rowOf n C u &&& T) := by
    intro u hu
    have hlt : rowOf n C u &&& T < 2 ^ n := Nat.lt_of_le_of_lt Nat.and_le_left (rowOf_lt' n C u)
    rw [pop_eq hlt (by omega)]
    refine cnt_ext (fun w hw => ?_)
    rw [Nat.testBit_and, rowOf_tb, decide_eq_true hu, decide_eq_true hw, Bool.true_and, Bool.true_and, Bool.and_comm]
  have e3 : sumN (fun u => if T.testBit u = true then cnt (fun w => T.testBit w && adj C w u) n else 0) n = sumN (fun u => (if u = a then pop (rowOf n C u &&& T) else 0) + ((if u = b then pop (rowOf n C u &&& T) else 0) + (if u = c then pop (rowOf n C u &&& T) else 0))) n := by
    refine sumN_ext (fun u hu => ?_)
    rw [e2 u, hX u hu]
    by_cases q1 : u = a
    · subst q1
      have n1 : ¬ u = b := by omega
      have n2 : ¬ u = c := by omega
      simp [n1, n2]
    · by_cases q2 : u = b
      · subst q2
        have n2 : ¬ u = c := by omega
        simp [q1, n2]
      · by_cases q3 : u = c
        · subst q3; simp [q1, q2]
        · simp [q1, q2, q3]
  rw [e3, sumN_add, sumN_add, sumN_pt (f := fun u => pop (rowOf n C u &&& T)) (by omega), sumN_pt (f := fun u => pop (rowOf n C u &&& T)) (by omega), sumN_pt (f := fun u => pop (rowOf n C u &&& T)) hc]
  omega
