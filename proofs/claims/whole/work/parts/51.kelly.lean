/-! the lines of the cards -/
theorem sumN_add (f g : Nat → Nat) : ∀ n, sumN (fun i => f i + g i) n = sumN f n + sumN g n := by
  intro n
  induction n with
  | zero => rfl
  | succ n ih => rw [sumN, sumN, sumN, ih]; omega
theorem sumN_if {f : Nat → Nat} {v : Nat} : ∀ {n : Nat}, v < n → sumN (fun u => if u ≠ v then f u else 0) n + f v = sumN f n := by
  intro n
  induction n with
  | zero => intro h; omega
  | succ n ih =>
    intro h
    rw [sumN, sumN]
    by_cases e : v = n
    · subst e
      rw [if_neg (by omega), sumN_ext (g := f) (fun i hi => by rw [if_pos (by omega)])]
      rfl
    · rw [if_pos (by omega)]
      have := ih (by omega)
      omega
theorem cnt_sumN (p : Nat → Bool) (n : Nat) : cnt p n = sumN (fun i => if p i = true then 1 else 0) n := by
  rw [sumN_cnt, Nat.mul_one]
theorem cnt_pt {p : Nat → Bool} {v n : Nat} (hv : v < n) : cnt p n = cnt (fun w => decide (w ≠ v) && p w) n + if p v = true then 1 else 0 := by
  cases q : p v with
  | true =>
    rw [if_pos rfl, cnt_del hv q]
    congr 1
    exact cnt_ext (fun i _ => Bool.and_comm _ _)
  | false =>
    rw [if_neg (by simp), Nat.add_zero]
    refine cnt_ext (fun i _ => ?_)
    by_cases e : i = v
    · rw [e, q]; simp
    · simp [e]
theorem sel_sum {s : Nat} (hs : s < 128) (f : Nat → Nat) : ∀ n, n ≤ 7 → sumN (fun i => f (sel s i)) (rk s n) = sumN (fun u => if s.testBit u = true then f u else 0) n := by
  intro n
  induction n with
  | zero => intro _; rfl
  | succ n ih =>
    intro hn
    rw [rk_succ, sumN, ← ih (by omega)]
    cases q : s.testBit n with
    | true => rw [if_pos rfl, if_pos rfl, sumN, sel_rk hs (by omega) q]
    | false => rw [if_neg (by simp), if_neg (by simp)]; rfl
theorem lsum_sumN (g : Nat → Nat) : ∀ n, lsum g n = sumN (fun i => pop (g i)) n := by
  intro n
  induction n with
  | zero => rfl
  | succ n ih => rw [lsum, sumN, ih]
theorem pop_wth {n C s : Nat} (hn : n ≤ 7) (hs : s < 128) : 2 * pop (wth n C s) = sumN (fun u => if s.testBit u = true then cnt (fun w => s.testBit w && adj C w u) n else 0) n := by
  have hm := Nat.le_trans (rk_le s n) hn
  rw [← lsum_row hm (wth_lt n C s), lsum_sumN, ← sel_sum hs _ n hn]
  refine sumN_ext (fun i hi => ?_)
  rw [wth_row hn hs hi]
  obtain ⟨h1, h2, h3⟩ := rk_sel hs hn hi
  have hlt : clu (rowOf n C (sel s i)) s n < 2 ^ rk s n := lt_of_tb (fun j hj => by
    rw [clu_tb hs n hn, Bool.and_eq_true, decide_eq_true_eq] at hj
    exact hj.1)
  rw [pop_eq hlt (by omega), cnt_sumN]
  rw [sumN_ext (g := fun j => (fun w => if adj C w (sel s i) = true then 1 else 0) (sel s j)) (fun j hj => by
    have hj2 := rk_sel hs hn hj
    rw [clu_tb hs n hn, decide_eq_true hj, Bool.true_and, rowOf_tb, decide_eq_true h1, decide_eq_true hj2.1]
    rfl)]
  rw [sel_sum hs (fun w => if adj C w (sel s i) = true then 1 else 0) n hn, cnt_sumN]
  refine sumN_ext (fun w hw => ?_)
  cases s.testBit w <;> simp
theorem pop_wot {n C v : Nat} (hn : n ≤ 7) (hC : C < 2 ^ tri n) (hv : v < n) : pop (wot n C v) + pop (rowOf n C v) = pop C := by
  have h1 := pop_wth (C := C) hn (cset_lt (v := v) hn)
  have h2 := lsum_row hn hC
  rw [lsum_sumN] at h2
  have e1 : sumN (fun u => if (cset n v).testBit u = true then cnt (fun w => (cset n v).testBit w && adj C w u) n else 0) n = sumN (fun u => if u ≠ v then cnt (fun w => decide (w ≠ v) && adj C w u) n else 0) n := by
    refine sumN_ext (fun u hu => ?_)
    have e2 : cnt (fun w => (cset n v).testBit w && adj C w u) n = cnt (fun w => decide (w ≠ v) && adj C w u) n := cnt_ext (fun w hw => by rw [cset_tb, decide_eq_true hw, Bool.true_and])
    rw [e2, cset_tb, decide_eq_true hu, Bool.true_and]
    by_cases q : u = v
    · simp [q]
    · simp [q]
  rw [e1] at h1
  have h3 := sumN_if (f := fun u => cnt (fun w => decide (w ≠ v) && adj C w u) n) hv
  have h4 : sumN (fun i => pop (rowOf n C i)) n = sumN (fun u => cnt (fun w => decide (w ≠ v) && adj C w u) n) n + sumN (fun u => if adj C v u = true then 1 else 0) n := by
    rw [← sumN_add]
    refine sumN_ext (fun u hu => ?_)
    rw [pop_row hn hu]
    exact cnt_pt hv
  have h5 : sumN (fun u => if adj C v u = true then 1 else 0) n = pop (rowOf n C v) := by
    rw [← cnt_sumN, pop_row hn hv]
    exact cnt_ext (fun i _ => adj_comm C v i)
  have h6 : cnt (fun w => decide (w ≠ v) && adj C w v) n = pop (rowOf n C v) := by
    rw [pop_row hn hv, cnt_pt (p := fun w => adj C w v) hv, adj_self, if_neg (by simp), Nat.add_zero]
  have e7 : pop (wth n C (cset n v)) = pop (wot n C v) := rfl
  omega
theorem pop_crd {n C v : Nat} (hn : n ≤ 7) (hC : C < 2 ^ tri n) (hv : v < n) : pop (crd n C v) + pop (rowOf n C v) = pop C := by
  unfold crd
  rw [pop_frm (by omega) (wot_lt hv)]
  exact pop_wot hn hC hv
theorem sumN_const (c : Nat) : ∀ n, sumN (fun _ => c) n = n * c := by
  intro n
  induction n with
  | zero => rw [sumN, Nat.zero_mul]
  | succ n ih => rw [sumN, ih, Nat.succ_mul]
theorem kelly {n C : Nat} (hn : n ≤ 7) (hC : C < 2 ^ tri n) : sumN (fun v => pop (crd n C v)) n + 2 * pop C = n * pop C := by
  have h2 := lsum_row hn hC
  rw [lsum_sumN] at h2
  rw [← h2, ← sumN_add, sumN_ext (g := fun _ => pop C) (fun v hv => pop_crd hn hC hv), sumN_const]
theorem sumL_map (cs : List Nat) : ∀ k, k ≤ cs.length → sumL cs k = ((cs.take k).map pop).sum := by
  intro k
  induction k with
  | zero => intro _; rfl
  | succ k ih =>
    intro hk
    rw [sumL, ih (by omega), take_getD cs k (by omega), List.map_append, List.sum_append]
    simp
theorem sumL_all (cs : List Nat) : sumL cs cs.length = (cs.map pop).sum := by
  have := sumL_map cs cs.length (Nat.le_refl _)
  rw [List.take_length] at this
  exact this
theorem sumL_perm {cs ds : List Nat} (h : List.Perm cs ds) : sumL cs cs.length = sumL ds ds.length := by
  rw [sumL_all, sumL_all]
  exact (h.map pop).sum_nat
theorem range_sum (f : Nat → Nat) : ∀ n, ((List.range n).map f).sum = sumN f n := by
  intro n
  induction n with
  | zero => rfl
  | succ n ih => rw [List.range_succ, List.map_append, List.sum_append, ih, sumN]; simp
theorem sumL_dck {n C : Nat} (hn : n ≤ 7) (hC : C < 2 ^ tri n) : sumL (dck n C) n + 2 * pop C = n * pop C := by
  have h1 := sumL_perm (srt_perm (crds n C))
  rw [sumL_all (crds n C), srt_len, crds_len] at h1
  have h2 : ((crds n C).map pop).sum = sumN (fun v => pop (crd n C v)) n := by
    unfold crds
    rw [List.map_map]
    exact range_sum _ n
  have e : sumL (dck n C) n = sumL (srt (crds n C)) n := rfl
  rw [e, h1, h2]
  exact kelly hn hC
theorem tldL_dck {n C : Nat} (hn : n ≤ 7) (h3 : 3 ≤ n) (hC : C < 2 ^ tri n) : tldL (dck n C) = some (pop C) := by
  have h1 := sumL_dck hn hC
  have hl : (dck n C).length = n := by unfold dck; rw [srt_len, crds_len]
  unfold tldL
  rw [hl, if_neg (by omega)]
  have e : sumL (dck n C) n = (n - 2) * pop C := by
    rw [Nat.sub_mul]; omega
  rw [e, Nat.mul_mod_right, if_pos rfl, Nat.mul_div_cancel_left _ (by omega)]
