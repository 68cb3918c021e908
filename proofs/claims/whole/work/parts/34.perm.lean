/-! numberings, forms -/
def PM (n : Nat) (q : Nat → Nat) : Prop := (∀ i, i < n → q i < n) ∧ ∀ i j, i < n → j < n → q i = q j → i = j
theorem cnt_true (n : Nat) : cnt (fun _ => true) n = n := by
  induction n with
  | zero => rfl
  | succ n ih => rw [cnt, ih]; rfl
/-- who is injective on the first n numbers misses none -/
theorem PM.onto {n : Nat} {q : Nat → Nat} (h : PM n q) {y : Nat} (hy : y < n) : ∃ x, x < n ∧ q x = y := by
  apply Classical.byContradiction
  intro hne
  have h1 := cnt_inj (q := q) (N := n) (m := n) (P := fun _ => true) (A := fun w => true && decide (w ≠ y)) (fun j hj _ => ⟨h.1 j hj, by
    have : q j ≠ y := fun e => hne ⟨j, hj, e⟩
    simp [this]⟩) h.2
  have h2 := cnt_del (A := fun _ => true) hy rfl
  rw [cnt_true] at h1 h2
  omega
def minv (n : Nat) (q : Nat → Nat) (y : Nat) : Nat := ((List.range n).find? (fun x => q x == y)).getD y
theorem minv_spec {n : Nat} {q : Nat → Nat} (h : PM n q) {y : Nat} (hy : y < n) : minv n q y < n ∧ q (minv n q y) = y := by
  obtain ⟨x, hx, hxy⟩ := h.onto hy
  unfold minv
  cases hf : (List.range n).find? (fun x => q x == y) with
  | none =>
    have := List.find?_eq_none.mp hf x (List.mem_range.mpr hx)
    simp [hxy] at this
  | some z =>
    have h1 := List.find?_some hf
    have h2 := List.mem_range.mp (List.mem_of_find?_eq_some hf)
    exact ⟨h2, by simpa using h1⟩
theorem minv_left {n : Nat} {q : Nat → Nat} (h : PM n q) {x : Nat} (hx : x < n) : minv n q (q x) = x := h.2 _ _ (minv_spec h (h.1 x hx)).1 hx (minv_spec h (h.1 x hx)).2
theorem PM.inv {n : Nat} {q : Nat → Nat} (h : PM n q) : PM n (minv n q) := ⟨fun i hi => (minv_spec h hi).1, fun i j hi hj e => by
  rw [← (minv_spec h hi).2, ← (minv_spec h hj).2, e]⟩
theorem PM.comp {n : Nat} {q r : Nat → Nat} (h : PM n q) (h2 : PM n r) : PM n (fun i => q (r i)) := ⟨fun i hi => h.1 _ (h2.1 i hi), fun i j hi hj e => h2.2 i j hi hj (h.2 _ _ (h2.1 i hi) (h2.1 j hj) e)⟩
theorem PM.one (n : Nat) : PM n (fun i => i) := ⟨fun _ h => h, fun _ _ _ _ e => e⟩
/-- the code of a net with node q i at place i -/
def pcd (C n : Nat) (q : Nat → Nat) : Nat := codeOf n (fun a b => adj C (q a) (q b))
theorem pcd_lt (C n : Nat) (q : Nat → Nat) : pcd C n q < 2 ^ tri n := codeOf_lt _ _
theorem pcd_adj {C n a b : Nat} {q : Nat → Nat} (hn : n ≤ 7) (ha : a < n) (hb : b < n) (hq : PM n q) : adj (pcd C n q) a b = adj C (q a) (q b) := by
  by_cases hab : a = b
  · subst hab; rw [adj_self, adj_self]
  · exact adj_codeOf hn ha hb hab (fun x y => adj_comm _ _ _)
theorem pcd_pcd {C n : Nat} {q r : Nat → Nat} (hn : n ≤ 7) (hq : PM n q) (hr : PM n r) : pcd (pcd C n q) n r = pcd C n (fun i => q (r i)) :=
  codeOf_ext hn fun a b hab hb => pcd_adj hn (hr.1 a (by omega)) (hr.1 b hb) hq
theorem pcd_one {C n : Nat} (hn : n ≤ 7) (hC : C < 2 ^ tri n) : pcd C n (fun i => i) = C := codeOf_adj hn hC
theorem pcd_ext {C n : Nat} {q r : Nat → Nat} (hn : n ≤ 7) (h : ∀ i, i < n → q i = r i) : pcd C n q = pcd C n r :=
  codeOf_ext hn fun a b hab hb => by rw [h a (by omega), h b hb]
theorem pcd_inv {C n : Nat} {q : Nat → Nat} (hn : n ≤ 7) (hC : C < 2 ^ tri n) (hq : PM n q) : pcd (pcd C n q) n (minv n q) = C := by
  rw [pcd_pcd hn hq hq.inv, pcd_ext hn (r := fun i => i) (fun i hi => (minv_spec hq hi).2), pcd_one hn hC]
theorem rowOf_NG (n C : Nat) : NG n (rowOf n C) := ⟨fun v => by rw [rowOf_tb, adj_self]; simp, fun u v => by
  rw [rowOf_tb, rowOf_tb, adj_comm]
  cases decide (u < n) <;> cases decide (v < n) <;> simp⟩
theorem lo_tri {m i : Nat} (hm : m < 7) (hi0 : i < m) : lo (tri m + i) = i ∧ hi (tri m + i) = m := by
  have : bt i m = tri m + i := by unfold bt tri; rw [if_pos hi0]
  rw [← this]; exact lo_bt hi0 hm
theorem codeOf_succ {m : Nat} (hm : m < 7) (e : Nat → Nat → Bool) : codeOf (m + 1) e = codeOf m e + bsum (fun i => e i m) m * 2 ^ tri m := by
  unfold codeOf
  rw [tri_succ, bsum_add, Nat.mul_comm]
  congr 1
  congr 1
  exact bsum_ext fun i hi0 => by rw [(lo_tri hm hi0).1, (lo_tri hm hi0).2]
theorem lcd_code {n C : Nat} {q : Nat → Nat} : ∀ m, m ≤ 7 → (∀ i, i < m → q i < n) → lcd (rowOf n C) q m = codeOf m (fun a b => adj C (q a) (q b)) := by
  intro m
  induction m with
  | zero => intro _ _; rfl
  | succ m ih =>
    intro hm hq
    rw [lcd, codeOf_succ (by omega), ih (by omega) (fun i hi => hq i (by omega))]
    congr 2
    exact bsum_ext fun i hi0 => by rw [rowOf_tb]; simp [hq m (by omega), hq i (by omega)]
theorem Arr_full {n : Nat} {q : Nat → Nat} (hn : n ≤ 7) (h2 : 2 ≤ n) : Arr n (n - 1) [2 ^ n - 1] q ↔ PM n q := by
  constructor
  · rintro ⟨h1, h2, _⟩
    exact ⟨fun i hi => h1 i (by omega), fun i j hi hj => h2 i j (by omega) (by omega)⟩
  · rintro ⟨h1, h2⟩
    refine ⟨fun i hi => h1 i (by omega), fun i j hi hj => h2 i j (by omega) (by omega), ?_⟩
    rw [Adm_one, pop_full hn]
    intro j hj
    rw [Nat.zero_add, Nat.testBit_two_pow_sub_one, decide_eq_true (h1 j hj)]
theorem CLI_full {n : Nat} (hn : n ≤ 7) (h2 : 2 ≤ n) : CLI n (n - 1) [2 ^ n - 1] := by
  have hp : popS [2 ^ n - 1] = n := by unfold popS; simp; exact pop_full hn
  have h2n0 : 2 ^ 1 ≤ 2 ^ n := Nat.pow_le_pow_right (by decide) (by omega)
  refine ⟨by omega, fun w => by unfold cv; exact List.countP_le_length, fun x hx => ?_⟩
  rw [List.mem_singleton.mp hx]; omega
/-- the form of a net -/
def frm (n C : Nat) : Nat := frmG (rowOf n C) n
theorem frm_spec {n C : Nat} (hn : n ≤ 7) : (∃ q, PM n q ∧ frm n C = pcd C n q) ∧ ∀ q, PM n q → frm n C ≤ pcd C n q := by
  unfold frm frmG
  split
  · rename_i h
    have hz : ∀ q, pcd C n q = 0 := by
      intro q
      have := pcd_lt C n q
      have h0 : tri n = 0 := by
        have : n = 0 ∨ n = 1 := by omega
        rcases this with e | e <;> (rw [e]; rfl)
      rw [h0] at this
      omega
    exact ⟨⟨_, PM.one n, (hz _).symm⟩, fun q _ => Nat.zero_le _⟩
  · rename_i h
    have hk := fil_ok hn (rowOf_NG n C) (n - 1) [2 ^ n - 1] 0 2147483647 (CLI_full hn (by omega)) (by omega) ⟨0, by simp⟩
    rw [show n - 1 + 1 = n by omega] at hk
    obtain ⟨k1, k2, k3⟩ := hk
    have h21 : 2 ^ tri n ≤ 2 ^ 21 := Nat.pow_le_pow_right (by decide) (tri_le hn)
    constructor
    · rcases k1 with e | ⟨q, hq, e⟩
      · omega
      · have hq := (Arr_full hn (by omega)).mp hq
        refine ⟨q, hq, ?_⟩
        rw [e, lcd_code n hn hq.1, Nat.zero_add]; rfl
    · intro q hq
      have := k2 q ((Arr_full hn (by omega)).mpr hq)
      rw [lcd_code n hn hq.1, Nat.zero_add] at this
      exact this
theorem frm_lt {n C : Nat} (hn : n ≤ 7) : frm n C < 2 ^ tri n := by
  obtain ⟨⟨q, _, e⟩, _⟩ := frm_spec (C := C) hn
  rw [e]; exact pcd_lt _ _ _
theorem frm_le {n C : Nat} (hn : n ≤ 7) (hC : C < 2 ^ tri n) : frm n C ≤ C := by
  have := (frm_spec (C := C) hn).2 _ (PM.one n)
  rwa [pcd_one hn hC] at this
theorem frm_uniq {n C x : Nat} (hn : n ≤ 7) (h1 : ∃ q, PM n q ∧ x = pcd C n q) (h2 : ∀ q, PM n q → x ≤ pcd C n q) : x = frm n C := by
  obtain ⟨⟨q, hq, e⟩, k2⟩ := frm_spec (C := C) hn
  obtain ⟨r, hr, e2⟩ := h1
  have := k2 r hr
  have := h2 q hq
  omega
theorem frm_pcd {n C : Nat} {q : Nat → Nat} (hn : n ≤ 7) (hC : C < 2 ^ tri n) (hq : PM n q) : frm n (pcd C n q) = frm n C := by
  obtain ⟨⟨r, hr, e⟩, k2⟩ := frm_spec (C := C) hn
  refine (frm_uniq hn ⟨fun i => minv n q (r i), hq.inv.comp hr, ?_⟩ (fun t ht => ?_)).symm
  · rw [pcd_pcd hn hq (hq.inv.comp hr), e]
    exact pcd_ext hn fun i hi => ((minv_spec hq (hr.1 i hi)).2).symm
  · rw [pcd_pcd hn hq ht]
    exact k2 _ (hq.comp ht)
theorem frm_frm {n C : Nat} (hn : n ≤ 7) (hC : C < 2 ^ tri n) : frm n (frm n C) = frm n C := by
  obtain ⟨⟨q, hq, e⟩, _⟩ := frm_spec (C := C) hn
  have := frm_pcd hn hC hq
  rw [← e] at this
  exact this
/-- nets of one form are nets that a numbering takes to each other -/
theorem frm_eq {n C D : Nat} (hn : n ≤ 7) (hC : C < 2 ^ tri n) (hD : D < 2 ^ tri n) : frm n C = frm n D ↔ ∃ q, PM n q ∧ D = pcd C n q := by
  constructor
  · intro h
    obtain ⟨⟨q, hq, e⟩, _⟩ := frm_spec (C := C) hn
    obtain ⟨⟨r, hr, e2⟩, _⟩ := frm_spec (C := D) hn
    refine ⟨fun i => q (minv n r i), hq.comp hr.inv, ?_⟩
    rw [← pcd_pcd hn hq hr.inv, ← e, h, e2, pcd_inv hn hD hr]
  · rintro ⟨q, hq, rfl⟩
    exact (frm_pcd hn hC hq).symm
/-- a numbering keeps the lines -/
theorem pop_pcd_le {n C : Nat} {q : Nat → Nat} (hn : n ≤ 7) (hC : C < 2 ^ tri n) (hq : PM n q) : pop (pcd C n q) ≤ pop C := by
  have ht := tri_le hn
  rw [pop_eq (pcd_lt C n q) (by omega), pop_eq hC (by omega)]
  refine cnt_inj (q := fun i => bt (q (lo i)) (q (hi i))) (fun j hj hp => ?_) (fun i j hi0 hj he => ?_)
  · obtain ⟨h1, h2, h3⟩ := bt_lo hn hj
    have hne : q (lo j) ≠ q (hi j) := fun e => by have := hq.2 _ _ (by omega) h2 e; omega
    refine ⟨bt_lt' hn hne (hq.1 _ (by omega)) (hq.1 _ h2), ?_⟩
    have : adj (pcd C n q) (lo j) (hi j) = true := by unfold adj; rw [h3, hp]; simp; omega
    rw [pcd_adj hn (by omega) h2 hq] at this
    unfold adj at this
    rw [Bool.and_eq_true] at this
    exact this.2
  · obtain ⟨h1, h2, h3⟩ := bt_lo hn hi0
    obtain ⟨h4, h5, h6⟩ := bt_lo hn hj
    have hne : q (lo i) ≠ q (hi i) := fun e => by have := hq.2 _ _ (by omega) h2 e; omega
    have hne2 : q (lo j) ≠ q (hi j) := fun e => by have := hq.2 _ _ (by omega) h5 e; omega
    have b1 := hq.1 (lo i) (by omega)
    have b2 := hq.1 (hi i) h2
    have b3 := hq.1 (lo j) (by omega)
    have b4 := hq.1 (hi j) h5
    have hpair : (q (lo i) = q (lo j) ∧ q (hi i) = q (hi j)) ∨ (q (lo i) = q (hi j) ∧ q (hi i) = q (lo j)) := by
      rcases Nat.lt_or_ge (q (lo i)) (q (hi i)) with z | z <;> rcases Nat.lt_or_ge (q (lo j)) (q (hi j)) with y | y
      · exact Or.inl (bt_inj z (by omega) y (by omega) he)
      · rw [bt_comm (q (lo j))] at he
        exact Or.inr (bt_inj z (by omega) (by omega) (by omega) he)
      · rw [bt_comm (q (lo i))] at he
        exact Or.inr (bt_inj (by omega) (by omega) y (by omega) he).symm
      · rw [bt_comm (q (lo i)), bt_comm (q (lo j))] at he
        exact Or.inl (bt_inj (by omega) (by omega) (by omega) (by omega) he).symm
    rcases hpair with ⟨e1, e2⟩ | ⟨e1, e2⟩
    · rw [← h3, ← h6, hq.2 _ _ (by omega) (by omega) e1, hq.2 _ _ (by omega) (by omega) e2]
    · have f1 := hq.2 _ _ (by omega) (by omega) e1
      have f2 := hq.2 _ _ (by omega) (by omega) e2
      omega
theorem pop_pcd {n C : Nat} {q : Nat → Nat} (hn : n ≤ 7) (hC : C < 2 ^ tri n) (hq : PM n q) : pop (pcd C n q) = pop C := by
  have h1 := pop_pcd_le hn hC hq
  have h2 := pop_pcd_le hn (pcd_lt C n q) hq.inv
  rw [pcd_inv hn hC hq] at h2
  omega
theorem pop_frm {n C : Nat} (hn : n ≤ 7) (hC : C < 2 ^ tri n) : pop (frm n C) = pop C := by
  obtain ⟨⟨q, hq, e⟩, _⟩ := frm_spec (C := C) hn
  rw [e]; exact pop_pcd hn hC hq
/-! lines by degrees -/
def dsum (e : Nat → Nat → Bool) (n : Nat) : Nat → Nat
  | 0 => 0
  | v + 1 => dsum e n v + cnt (fun u => e u v) n
theorem dsum_succ (e : Nat → Nat → Bool) (n m : Nat) : dsum e (n + 1) m = dsum e n m + cnt (fun v => e n v) m := by
  induction m with
  | zero => rfl
  | succ m ih => rw [dsum, dsum, ih, cnt, cnt]; omega
theorem dsum_pop {C : Nat} : ∀ n, n ≤ 7 → dsum (adj C) n n = 2 * cnt C.testBit (tri n) := by
  intro n
  induction n with
  | zero => intro _; rfl
  | succ n ih =>
    intro hn
    rw [dsum, dsum_succ, ih (by omega), tri_succ, cnt_add C.testBit, cnt, adj_self]
    have h1 : cnt (fun v => adj C n v) n = cnt (fun i => C.testBit (tri n + i)) n := cnt_ext fun i hi0 => by
      unfold adj
      rw [bt_comm]
      have : bt i n = tri n + i := by unfold bt tri; rw [if_pos hi0]
      rw [this]; simp; omega
    have h2 : cnt (fun u => adj C u n) n = cnt (fun v => adj C n v) n := cnt_ext fun i _ => adj_comm _ _ _
    rw [h2, h1]
    simp; omega
theorem lsum_row {n C : Nat} (hn : n ≤ 7) (hC : C < 2 ^ tri n) : lsum (rowOf n C) n = 2 * pop C := by
  have ht := tri_le hn
  rw [pop_eq hC (by omega), ← dsum_pop n hn]
  have : ∀ m, m ≤ n → lsum (rowOf n C) m = dsum (adj C) n m := by
    intro m
    induction m with
    | zero => intro _; rfl
    | succ m ih =>
      intro hm
      rw [lsum, dsum, ih (by omega)]
      unfold rowOf
      rw [if_pos (by omega), pop_bsum (by omega)]
  exact this n (Nat.le_refl _)
theorem alk_frm {n n' C C' : Nat} (hn : n ≤ 7) (hn' : n' ≤ 7) (hC : C < 2 ^ tri n) (hC' : C' < 2 ^ tri n') : alk (rowOf n C) (rowOf n' C') n n' = (decide (n = n') && decide (frm n C = frm n' C')) := by
  unfold alk
  rw [lsum_row hn hC, lsum_row hn' hC', Nat.mul_div_cancel_left _ (by decide), Nat.mul_div_cancel_left _ (by decide)]
  show _ = (decide (n = n') && decide (frmG (rowOf n C) n = frmG (rowOf n' C') n'))
  by_cases h1 : n = n'
  · subst h1
    by_cases h2 : frmG (rowOf n C) n = frmG (rowOf n C') n
    · have h3 : pop C = pop C' := by
        rw [← pop_frm hn hC, ← pop_frm hn hC']
        exact congrArg pop h2
      simp [h2, h3]
    · simp [h2]
  · simp [h1]
