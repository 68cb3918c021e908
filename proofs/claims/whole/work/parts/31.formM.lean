/-! the search finds the least code of all arrangements: bits, counts, blocks -/
theorem or_add {x y n : Nat} (h : x < 2 ^ n) : x ||| y <<< n = x + y * 2 ^ n := by
  rw [Nat.or_comm, ← Nat.shiftLeft_add_eq_or_of_lt h, Nat.shiftLeft_eq, Nat.add_comm]
theorem bsum_succ (p : Nat → Bool) (n : Nat) : bsum p (n + 1) = bsum p n + if p n = true then 2 ^ n else 0 := by
  rw [bsum]
  split
  · have := or_add (y := 1) (bsum_lt p n)
    rw [Nat.shiftLeft_eq, Nat.one_mul] at this
    exact this
  · rfl
theorem bsum_add (p : Nat → Bool) (a b : Nat) : bsum p (a + b) = bsum p a + 2 ^ a * bsum (fun i => p (a + i)) b := by
  induction b with
  | zero => simp [bsum]
  | succ b ih =>
    rw [← Nat.add_assoc, bsum_succ, ih, bsum_succ, Nat.mul_add]
    split
    · rw [Nat.pow_add]; omega
    · omega
theorem bsum_ge (p : Nat → Bool) (m : Nat) : 2 ^ cnt p m ≤ bsum p m + 1 ∧ (2 ^ cnt p m = bsum p m + 1 → ∀ j, j < m → p j = decide (j < cnt p m)) := by
  induction m with
  | zero => exact ⟨by simp [cnt, bsum], fun _ j hj => by omega⟩
  | succ m ih =>
    have hc := cnt_le p m
    have h2 : 2 ^ cnt p m ≤ 2 ^ m := Nat.pow_le_pow_right (by decide) hc
    rw [bsum_succ, cnt]
    by_cases hp : p m = true
    · rw [if_pos hp, if_pos hp, Nat.pow_succ]
      refine ⟨by omega, fun he j hj => ?_⟩
      have h3 : cnt p m = m := by
        rcases Nat.lt_or_ge (cnt p m) m with q | q
        · have := Nat.pow_lt_pow_right (a := 2) (by decide) q; omega
        · omega
      rcases Nat.lt_or_ge j m with q | q
      · rw [ih.2 (by omega) j q, h3]; simp [q]; omega
      · rw [show j = m by omega, hp, h3]; simp
    · rw [if_neg hp, if_neg hp, Nat.add_zero, Nat.add_zero]
      refine ⟨ih.1, fun he j hj => ?_⟩
      rcases Nat.lt_or_ge j m with q | q
      · exact ih.2 he j q
      · rw [show j = m by omega, Bool.eq_false_iff.mpr hp]; simp; omega
theorem bsum_first {p : Nat → Bool} {m t : Nat} (ht : t ≤ m) (h : ∀ j, j < m → p j = decide (j < t)) : bsum p m = 2 ^ t - 1 := by
  rw [← bsum_self (x := 2 ^ t - 1) (n := m)]
  · exact bsum_ext fun i hi => by rw [h i hi, Nat.testBit_two_pow_sub_one]
  · have := Nat.pow_le_pow_right (n := 2) (by decide) ht
    have := Nat.two_pow_pos t
    omega
theorem cnt_del {A : Nat → Bool} {a N : Nat} (ha : a < N) (hA : A a = true) : cnt A N = cnt (fun w => A w && decide (w ≠ a)) N + 1 := by
  induction N with
  | zero => omega
  | succ N ih =>
    rw [cnt, cnt]
    by_cases e : a = N
    · subst e
      have : cnt (fun w => A w && decide (w ≠ a)) a = cnt A a := cnt_ext fun i hi => by simp [show i ≠ a by omega]
      rw [this]; simp [hA]
    · rw [ih (by omega)]
      have : (N ≠ a) := fun q => e q.symm
      simp [this]; omega
theorem cnt_inj {q : Nat → Nat} {N : Nat} : ∀ {m : Nat} {P A : Nat → Bool}, (∀ j, j < m → P j = true → q j < N ∧ A (q j) = true) → (∀ i j, i < m → j < m → q i = q j → i = j) → cnt P m ≤ cnt A N := by
  intro m
  induction m with
  | zero => intro P A _ _; exact Nat.zero_le _
  | succ m ih =>
    intro P A h hi
    rw [cnt]
    by_cases hp : P m = true
    · rw [if_pos hp]
      obtain ⟨h1, h2⟩ := h m (by omega) hp
      rw [cnt_del h1 h2]
      have := ih (P := P) (A := fun w => A w && decide (w ≠ q m)) (fun j hj hpj => ?_) (fun i j hi' hj' => hi i j (by omega) (by omega))
      · omega
      · refine ⟨(h j (by omega) hpj).1, ?_⟩
        have : q j ≠ q m := fun e => by have := hi j m (by omega) (by omega) e; omega
        simp [(h j (by omega) hpj).2, this]
    · rw [if_neg hp]
      exact ih (fun j hj => h j (by omega)) (fun i j hi' hj' => hi i j (by omega) (by omega))
theorem cnt_not (P : Nat → Bool) (m : Nat) : cnt P m + cnt (fun j => !P j) m = m := by
  induction m with
  | zero => rfl
  | succ m ih => rw [cnt, cnt]; by_cases h : P m = true <;> simp [h] <;> omega
/-- a block that holds just a cell -/
theorem cnt_blk {q : Nat → Nat} {c x m : Nat} (hm : pop c = m) (hq : ∀ j, j < m → q j < 24 ∧ c.testBit (q j) = true) (hi : ∀ i j, i < m → j < m → q i = q j → i = j) : cnt (fun j => x.testBit (q j)) m = pop (c &&& x) := by
  have h1 : cnt (fun j => x.testBit (q j)) m ≤ pop (c &&& x) := cnt_inj (q := q) (fun j hj hp => ⟨(hq j hj).1, by rw [Nat.testBit_and, (hq j hj).2, hp]; rfl⟩) hi
  have h2 : cnt (fun j => !x.testBit (q j)) m ≤ pop (c ^^^ (c &&& x)) := cnt_inj (q := q) (fun j hj hp => ⟨(hq j hj).1, by
    rw [Nat.testBit_xor, Nat.testBit_and, (hq j hj).2]
    have : x.testBit (q j) = false := by simpa using hp
    rw [this]; rfl⟩) hi
  have h3 := cnt_not (fun j => x.testBit (q j)) m
  have h4 := pop_split c x
  omega
/-- an arrangement keeps to the cells: the first cell's nodes have the first places -/
def Adm (q : Nat → Nat) : Nat → List Nat → Prop
  | _, [] => True
  | s, c :: cl => (∀ j, j < pop c → c.testBit (q (s + j)) = true) ∧ Adm q (s + pop c) cl
theorem popS_cons (c : Nat) (cl : List Nat) : popS (c :: cl) = pop c + popS cl := by simp [popS]
theorem Adm_app {q : Nat → Nat} {a b : List Nat} : ∀ {s : Nat}, Adm q s (a ++ b) ↔ Adm q s a ∧ Adm q (s + popS a) b := by
  induction a with
  | nil => intro s; simp [Adm, popS]
  | cons c a ih =>
    intro s
    rw [List.cons_append, Adm, Adm, ih, popS_cons, ← Nat.add_assoc, and_assoc]
theorem Adm_nz {q : Nat → Nat} {s x : Nat} : Adm q s (nz x) ↔ ∀ j, j < pop x → x.testBit (q (s + j)) = true := by
  unfold nz
  split
  · rename_i h
    rw [h, show pop 0 = 0 from rfl]
    exact ⟨fun _ j hj => by omega, fun _ => trivial⟩
  · simp [Adm]
theorem Adm_one {q : Nat → Nat} {s x : Nat} : Adm q s [x] ↔ ∀ j, j < pop x → x.testBit (q (s + j)) = true := by simp [Adm]
theorem Adm_ext {q q' : Nat → Nat} {cl : List Nat} : ∀ {s : Nat}, (∀ j, j < s + popS cl → q j = q' j) → Adm q s cl → Adm q' s cl := by
  induction cl with
  | nil => intro s _ _; trivial
  | cons c cl ih =>
    intro s h1 h2
    rw [popS_cons] at h1
    exact ⟨fun j hj => by rw [← h1 (s + j) (by omega)]; exact h2.1 j hj, ih (fun j hj => h1 j (by omega)) h2.2⟩
theorem Adm_in {q : Nat → Nat} {cl : List Nat} : ∀ {s i : Nat}, Adm q s cl → s ≤ i → i < s + popS cl → ∃ c ∈ cl, c.testBit (q i) = true := by
  induction cl with
  | nil => intro s i _ h1 h2; simp [popS] at h2; omega
  | cons c cl ih =>
    intro s i h h1 h2
    rw [popS_cons] at h2
    rcases Nat.lt_or_ge i (s + pop c) with e | e
    · refine ⟨c, List.mem_cons_self, ?_⟩
      have := h.1 (i - s) (by omega)
      rwa [show s + (i - s) = i by omega] at this
    · obtain ⟨d, hd, hb⟩ := ih h.2 e (by omega)
      exact ⟨d, List.mem_cons_of_mem _ hd, hb⟩
/-- in each of the first i blocks the neighbours stand first -/
def BEq (x : Nat) (q : Nat → Nat) (cl : List Nat) (i : Nat) : Prop := ∀ k, k < i → ∀ j, j < pop (cl.getD k 0) → x.testBit (q (popS (cl.take k) + j)) = decide (j < pop (cl.getD k 0 &&& x))
theorem lrw_ge {x : Nat} {q : Nat → Nat} {cl : List Nat} (hA : Adm q 0 cl) (hq : ∀ j, j < popS cl → q j < 24) (hi : ∀ i j, i < popS cl → j < popS cl → q i = q j → i = j) (hs : popS cl ≤ 7) : ∀ i, i ≤ cl.length → (lrw x cl i).1 ≤ bsum (fun j => x.testBit (q j)) (popS (cl.take i)) ∧ ((lrw x cl i).1 = bsum (fun j => x.testBit (q j)) (popS (cl.take i)) ↔ BEq x q cl i) := by
  intro i
  induction i with
  | zero => intro _; exact ⟨Nat.zero_le _, ⟨fun _ k hk => by omega, fun _ => rfl⟩⟩
  | succ i ih =>
    intro hil
    obtain ⟨i1, i2⟩ := ih (by omega)
    have hpt := popS_take1 cl i (by omega)
    have hpl := popS_le cl (i + 1)
    have hlow := lrw_low x cl i (by omega)
    have hA1 : Adm q 0 (cl.take (i + 1)) := (Adm_app.mp (by rw [List.take_append_drop]; exact hA)).1
    rw [take_getD cl i (by omega), Adm_app, Adm_one, Nat.zero_add] at hA1
    have hcnt := cnt_blk (q := fun j => q (popS (cl.take i) + j)) (x := x) (c := cl.getD i 0) rfl (fun j hj => ⟨hq _ (by omega), hA1.2 j hj⟩) (fun a b ha hb e => by have := hi _ _ (by omega) (by omega) e; omega)
    have hge := bsum_ge (fun j => x.testBit (q (popS (cl.take i) + j))) (pop (cl.getD i 0))
    rw [hcnt] at hge
    have hpos := Nat.two_pow_pos (pop (cl.getD i 0 &&& x))
    have hlt := lrw_lt (x := x) hs i (by omega)
    rw [lrw, or_add hlt, hlow, hpt, bsum_add]
    dsimp only
    have hple : pop (cl.getD i 0 &&& x) ≤ pop (cl.getD i 0) := pop_and_le
    have hb1 : 2 ^ pop (cl.getD i 0 &&& x) - 1 ≤ bsum (fun j => x.testBit (q (popS (cl.take i) + j))) (pop (cl.getD i 0)) := by omega
    have hm : (2 ^ pop (cl.getD i 0 &&& x) - 1) * 2 ^ popS (cl.take i) ≤ 2 ^ popS (cl.take i) * bsum (fun j => x.testBit (q (popS (cl.take i) + j))) (pop (cl.getD i 0)) := by
      rw [Nat.mul_comm]; exact Nat.mul_le_mul_left _ hb1
    refine ⟨by omega, ⟨fun he => ?_, fun hB => ?_⟩⟩
    · have e1 : (lrw x cl i).1 = bsum (fun j => x.testBit (q j)) (popS (cl.take i)) := by omega
      have e2 : 2 ^ popS (cl.take i) * (2 ^ pop (cl.getD i 0 &&& x) - 1) = 2 ^ popS (cl.take i) * bsum (fun j => x.testBit (q (popS (cl.take i) + j))) (pop (cl.getD i 0)) := by
        rw [Nat.mul_comm]; omega
      have e3 := Nat.eq_of_mul_eq_mul_left (Nat.two_pow_pos _) e2
      intro k hk j hj
      rcases Nat.lt_or_ge k i with h | h
      · exact i2.mp e1 k h j hj
      · rw [show k = i by omega] at hj ⊢
        exact hge.2 (by omega) j hj
    · have e1 := i2.mpr (fun k hk => hB k (by omega))
      rw [e1, bsum_first hple (fun j hj => hB i (by omega) j hj), Nat.mul_comm]
/-- a block split into neighbours and others -/
theorem blk_iff {q : Nat → Nat} {c x s : Nat} : ((∀ j, j < pop (c &&& x) → (c &&& x).testBit (q (s + j)) = true) ∧ ∀ j, j < pop (c ^^^ (c &&& x)) → (c ^^^ (c &&& x)).testBit (q (s + pop (c &&& x) + j)) = true) ↔ (∀ j, j < pop c → c.testBit (q (s + j)) = true) ∧ ∀ j, j < pop c → x.testBit (q (s + j)) = decide (j < pop (c &&& x)) := by
  have h := pop_split c x
  constructor
  · rintro ⟨h1, h2⟩
    have key : ∀ j, j < pop c → c.testBit (q (s + j)) = true ∧ x.testBit (q (s + j)) = decide (j < pop (c &&& x)) := by
      intro j hj
      rcases Nat.lt_or_ge j (pop (c &&& x)) with e | e
      · have := h1 j e
        rw [Nat.testBit_and, Bool.and_eq_true] at this
        exact ⟨this.1, by rw [this.2, decide_eq_true e]⟩
      · have := h2 (j - pop (c &&& x)) (by omega)
        rw [show s + pop (c &&& x) + (j - pop (c &&& x)) = s + j by omega, Nat.testBit_xor, Nat.testBit_and] at this
        have hne : ¬ j < pop (c &&& x) := by omega
        rw [decide_eq_false hne]
        revert this
        cases c.testBit (q (s + j)) <;> cases x.testBit (q (s + j)) <;> simp
    exact ⟨fun j hj => (key j hj).1, fun j hj => (key j hj).2⟩
  · rintro ⟨h1, h2⟩
    refine ⟨fun j hj => ?_, fun j hj => ?_⟩
    · rw [Nat.testBit_and, h1 j (by omega), h2 j (by omega), decide_eq_true hj]; rfl
    · rw [Nat.testBit_xor, Nat.testBit_and, Nat.add_assoc, h1 _ (by omega), h2 _ (by omega), decide_eq_false (by omega)]; rfl
theorem not_in {c v : Nat} (h : c.testBit v = false) : c ^^^ (c &&& 2 ^ v) = c := by
  apply Nat.eq_of_testBit_eq
  intro i
  rw [tb_sub]
  by_cases e : i = v
  · rw [e, h]; rfl
  · simp [e]
theorem cv_zero {w : Nat} {cl : List Nat} (h : cv w cl = 0) : ∀ c ∈ cl, c.testBit w = false := by
  intro c hc
  cases q : c.testBit w with
  | false => rfl
  | true => have := cv_one hc q; omega
theorem Adm_spl_pre {g : Nat → Nat} {q : Nat → Nat} {cl : List Nat} {v : Nat} (hv : v < 24) : ∀ i, i ≤ cl.length → cv v (cl.take i) = 0 → (Adm q 0 (spl g cl v i) ↔ Adm q 0 (cl.take i) ∧ BEq (g v) q cl i) := by
  intro i
  induction i with
  | zero => intro _ _; exact ⟨fun _ => ⟨trivial, fun k hk => by omega⟩, fun _ => trivial⟩
  | succ i ih =>
    intro hil hc
    have hps := spl_popS (g := g) (cl := cl) hv i (by omega)
    rw [take_getD cl i (by omega), cv_app] at hc
    have hci : (cl.getD i 0).testBit v = false := cv_zero (show cv v [cl.getD i 0] = 0 by omega) _ List.mem_cons_self
    rw [spl, not_in hci, Adm_app, Adm_app, Adm_nz, Adm_nz, ih (by omega) (by omega), popS_app, popS_nz, take_getD cl i (by omega), Adm_app, Adm_one, show popS (spl g cl v i) = popS (cl.take i) by omega]
    simp only [Nat.zero_add]
    have hb := blk_iff (q := q) (c := cl.getD i 0) (x := g v) (s := popS (cl.take i))
    constructor
    · rintro ⟨⟨⟨a1, a2⟩, a3⟩, a4⟩
      have hb := hb.mp ⟨a3, a4⟩
      refine ⟨⟨a1, hb.1⟩, fun k hk j hj => ?_⟩
      rcases Nat.lt_or_ge k i with h | h
      · exact a2 k h j hj
      · rw [show k = i by omega] at hj ⊢
        exact hb.2 j hj
    · rintro ⟨⟨a1, a2⟩, a3⟩
      have hb := hb.mpr ⟨a2, a3 i (by omega)⟩
      exact ⟨⟨⟨a1, fun k hk => a3 k (by omega)⟩, hb.1⟩, hb.2⟩
theorem cv_idx {w : Nat} : ∀ {cl : List Nat} {i j : Nat}, cv w cl ≤ 1 → i < cl.length → j < cl.length → (cl.getD i 0).testBit w = true → (cl.getD j 0).testBit w = true → i = j := by
  intro cl
  induction cl with
  | nil => intro i j _ h; simp at h
  | cons c cl ih =>
    intro i j h hi hj hbi hbj
    have hcc : cv w (c :: cl) = cv w cl + if c.testBit w = true then 1 else 0 := by unfold cv; rw [List.countP_cons]
    cases i with
    | zero =>
      cases j with
      | zero => rfl
      | succ j =>
        exfalso
        have h0 : c.testBit w = true := hbi
        have h1 : (cl.getD j 0).testBit w = true := hbj
        rw [if_pos h0] at hcc
        have hj' : j < cl.length := by simpa using hj
        have hm : cl.getD j 0 ∈ cl := by rw [List.getD_eq_getElem?_getD, List.getElem?_eq_getElem hj']; exact List.getElem_mem _
        have := cv_one hm h1
        omega
    | succ i =>
      cases j with
      | zero =>
        exfalso
        have h0 : c.testBit w = true := hbj
        have h1 : (cl.getD i 0).testBit w = true := hbi
        rw [if_pos h0] at hcc
        have hj' : i < cl.length := by simpa using hi
        have hm : cl.getD i 0 ∈ cl := by rw [List.getD_eq_getElem?_getD, List.getElem?_eq_getElem hj']; exact List.getElem_mem _
        have := cv_one hm h1
        omega
      | succ j =>
        have := ih (i := i) (j := j) (by omega) (by simpa using hi) (by simpa using hj) hbi hbj
        omega
/-- the arrangements of the cells split by the last node are those of the cells whose least row it has -/
theorem Adm_spl {g : Nat → Nat} {q : Nat → Nat} {cl : List Nat} {n p : Nat} (hn : n ≤ 7) (hI : CLI n p cl) (hi : ∀ i j, i ≤ p → j ≤ p → q i = q j → i = j) (hv : q p < n) (hl : (lastC cl).testBit (q p) = true) (hr : (g (q p)).testBit (q p) = false) : Adm q 0 (spl g cl (q p) cl.length) ↔ Adm q 0 cl ∧ BEq (g (q p)) q cl cl.length := by
  obtain ⟨k, hk⟩ : ∃ k, cl.length = k + 1 := ⟨cl.length - 1, by have := hI.ne; omega⟩
  have hlast : lastC cl = cl.getD k 0 := by unfold lastC; rw [hk]; rfl
  have hfull : cl.take (k + 1) = cl := by rw [← hk, List.take_length]
  have htk := take_getD cl k (by omega)
  rw [hfull] at htk
  have hcv : cv (q p) (cl.take k) = 0 := by
    have h1 := hI.2.1 (q p)
    rw [htk, cv_app] at h1
    have h2 : 0 < cv (q p) [cl.getD k 0] := cv_one (x := cl.getD k 0) List.mem_cons_self (by rw [← hlast]; exact hl)
    omega
  have hps := spl_popS (g := g) (cl := cl) (v := q p) (by omega) k (by omega)
  have hpp := hI.1
  have hp1 : popS cl = popS (cl.take k) + pop (cl.getD k 0) := by
    have := popS_take1 cl k (by omega)
    rwa [hfull] at this
  have hout := pop_out (c := cl.getD k 0) (v := q p) (by omega)
  rw [← hlast] at hout
  rw [hl] at hout
  rw [hlast] at hout hl
  simp only [if_true] at hout
  have hdx : (cl.getD k 0 ^^^ (cl.getD k 0 &&& 2 ^ q p)) &&& g (q p) = cl.getD k 0 &&& g (q p) := by
    apply Nat.eq_of_testBit_eq
    intro i
    rw [Nat.testBit_and, tb_sub, Nat.testBit_and]
    by_cases e : i = q p
    · rw [e, hr]; simp
    · simp [e]
  have hb := blk_iff (q := q) (c := cl.getD k 0 ^^^ (cl.getD k 0 &&& 2 ^ q p)) (x := g (q p)) (s := popS (cl.take k))
  have hpre := Adm_spl_pre (g := g) (q := q) (cl := cl) (v := q p) (by omega) k (by omega) hcv
  have hcl2 : Adm q 0 cl ↔ Adm q 0 (cl.take k) ∧ ∀ j, j < pop (cl.getD k 0) → (cl.getD k 0).testBit (q (popS (cl.take k) + j)) = true := by
    conv => lhs; rw [htk]
    rw [Adm_app, Adm_one]
    simp only [Nat.zero_add]
  have hle : pop (cl.getD k 0 &&& g (q p)) ≤ pop (cl.getD k 0 ^^^ (cl.getD k 0 &&& 2 ^ q p)) := by rw [← hdx]; exact pop_and_le
  rw [hk, spl, Adm_app, Adm_app, Adm_nz, Adm_nz, hpre, popS_app, popS_nz, hcl2, show popS (spl g cl (q p) k) = popS (cl.take k) by omega]
  simp only [Nat.zero_add]
  constructor
  · rintro ⟨⟨⟨a1, a2⟩, a3⟩, a4⟩
    have hb := hb.mp ⟨a3, a4⟩
    refine ⟨⟨a1, fun j hj => ?_⟩, fun kk hkk j hj => ?_⟩
    · rcases Nat.lt_or_ge j (pop (cl.getD k 0 ^^^ (cl.getD k 0 &&& 2 ^ q p))) with e | e
      · have := hb.1 j e
        rw [tb_sub, Bool.and_eq_true] at this
        exact this.1
      · rw [show popS (cl.take k) + j = p by omega]; exact hl
    · rcases Nat.lt_or_ge kk k with h | h
      · exact a2 kk h j hj
      · rw [show kk = k by omega] at hj ⊢
        rcases Nat.lt_or_ge j (pop (cl.getD k 0 ^^^ (cl.getD k 0 &&& 2 ^ q p))) with e | e
        · have := hb.2 j e
          rwa [hdx] at this
        · rw [show popS (cl.take k) + j = p by omega, hr, decide_eq_false (by omega)]
  · rintro ⟨⟨a1, a2⟩, a3⟩
    have hb := hb.mpr ⟨fun j hj => ?_, fun j hj => ?_⟩
    · exact ⟨⟨⟨a1, fun kk hkk => a3 kk (by omega)⟩, hb.1⟩, hb.2⟩
    · rw [tb_sub, a2 j (by omega)]
      have : q (popS (cl.take k) + j) ≠ q p := fun e => by have := hi _ _ (by omega) (by omega) e; omega
      simp [this]
    · rw [hdx]; exact a3 k (by omega) j (by omega)
