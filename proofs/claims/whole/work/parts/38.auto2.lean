/-! the number of symmetries, orbits -/
def na (n C : Nat) : Nat → Nat → (Nat → Nat) → Nat → Nat
  | 0, _, t, _ => if mkc C t n = C then 1 else 0
  | r + 1, node, t, given => sumN (fun v => if given.testBit v = true then 0 else na n C r (node + 1) (updN t node v) (given ||| 2 ^ v)) n
theorem mkc_upd {C node v : Nat} {t : Nat → Nat} : mkc C (updN t node v) (node + 1) = mor C node t v (mkc C t node) node := by
  rw [mkc, mkc_ext (t' := t) node (fun b hb => by unfold updN; rw [if_neg (by omega)]), show updN t node v node = v by unfold updN; rw [if_pos rfl]]
  exact mor_ext node (fun b hb => by unfold updN; rw [if_neg (by omega)])
theorem gos_na {n C : Nat} : ∀ r node t given st, node + r = n → (gos n C r node t given (mkc C t node) st).2.1 = st.2.1 + na n C r node t given := by
  intro r
  induction r with
  | zero =>
    intro node t given st h
    obtain rfl : node = n := by omega
    rw [gos, na]
    unfold gleaf
    dsimp only
    split <;> rfl
  | succ r ih =>
    intro node t given st h
    rw [gos, na]
    have key : ∀ v, (gosV (gos n C r (node + 1)) C node t given (mkc C t node) st v).2.1 = st.2.1 + sumN (fun v => if given.testBit v = true then 0 else na n C r (node + 1) (updN t node v) (given ||| 2 ^ v)) v := by
      intro v
      induction v with
      | zero => rfl
      | succ v ihv =>
        rw [gosV, sumN]
        by_cases hg : given.testBit v = true
        · rw [if_pos hg, if_pos hg, ihv]; rfl
        · rw [if_neg hg, if_neg hg, ← mkc_upd, ih (node + 1) _ _ _ (by omega), ihv, Nat.add_assoc]
    exact key n
theorem na_ext {n C : Nat} : ∀ r node t t' given given', node + r = n → TI n node t given → TI n node t' given' → (∀ a, a < node → t a = t' a) → na n C r node t given = na n C r node t' given' := by
  intro r
  induction r with
  | zero =>
    intro node t t' given given' h _ _ e
    obtain rfl : node = n := by omega
    rw [na, na, mkc_ext node e]
  | succ r ih =>
    intro node t t' given given' h h1 h2 e
    rw [na, na]
    refine sumN_ext (fun v hv => ?_)
    have hb : given.testBit v = given'.testBit v := by
      rw [Bool.eq_iff_iff, h1.2.2 v hv, h2.2.2 v hv]
      exact ⟨fun ⟨a, ha, q⟩ => ⟨a, ha, by rw [← e a ha]; exact q⟩, fun ⟨a, ha, q⟩ => ⟨a, ha, by rw [e a ha]; exact q⟩⟩
    rw [← hb]
    cases hg : given.testBit v with
    | true => rfl
    | false =>
      rw [if_neg (by simp), if_neg (by simp)]
      refine ih (node + 1) _ _ _ _ (by omega) (h1.step hv hg) (h2.step hv (by rw [← hb]; exact hg)) (fun a ha => ?_)
      unfold updN
      by_cases q : a = node
      · rw [if_pos q, if_pos q]
      · rw [if_neg q, if_neg q]; exact e a (by omega)
theorem na_sym {n C : Nat} {u : Nat → Nat} (hn : n ≤ 7) (hC : C < 2 ^ tri n) (hu : Aut n C u) : ∀ r node t given given', node + r = n → TI n node t given → TI n node (fun i => u (t i)) given' → na n C r node (fun i => u (t i)) given' = na n C r node t given := by
  intro r
  induction r with
  | zero =>
    intro node t given given' h h1 h2
    obtain rfl : node = n := by omega
    have e : (mkc C (fun i => u (t i)) node = C) ↔ (mkc C t node = C) := by
      rw [mkc_aut hn hC h1.pm, mkc_aut hn hC h2.pm]
      refine ⟨fun q => ?_, fun q => hu.comp q⟩
      exact (hu.inv.comp q).ext (fun i hi => minv_left hu.1 (h1.1 i hi))
    rw [na, na]
    by_cases q : mkc C t node = C
    · rw [if_pos q, if_pos (e.mpr q)]
    · rw [if_neg q, if_neg (fun z => q (e.mp z))]
  | succ r ih =>
    intro node t given given' h h1 h2
    rw [na, na, ← sumN_perm hu.1]
    refine sumN_ext (fun v hv => ?_)
    have hb : given'.testBit (u v) = given.testBit v := by
      rw [Bool.eq_iff_iff, h1.2.2 v hv, h2.2.2 _ (hu.1.1 v hv)]
      exact ⟨fun ⟨a, ha, q⟩ => ⟨a, ha, hu.1.2 _ _ (h1.1 a ha) hv q⟩, fun ⟨a, ha, q⟩ => ⟨a, ha, by show u (t a) = u v; rw [q]⟩⟩
    rw [hb]
    cases hg : given.testBit v with
    | true => rfl
    | false =>
      rw [if_neg (by simp), if_neg (by simp)]
      have e : updN (fun i => u (t i)) node (u v) = fun i => u (updN t node v i) := by
        funext i
        unfold updN
        by_cases q : i = node
        · rw [if_pos q, if_pos q]
        · rw [if_neg q, if_neg q]
      have hs := h2.step (hu.1.1 v hv) (by rw [hb]; exact hg)
      rw [e] at hs ⊢
      exact ih (node + 1) (updN t node v) _ _ (by omega) (h1.step hv hg) hs
theorem na_none {n C : Nat} (hn : n ≤ 7) (hC : C < 2 ^ tri n) : ∀ r node t given, node + r = n → TI n node t given → (∀ u, Ex n node t u → ¬ Aut n C u) → na n C r node t given = 0 := by
  intro r
  induction r with
  | zero =>
    intro node t given h h1 h2
    obtain rfl : node = n := by omega
    rw [na, if_neg]
    intro q
    exact h2 t ⟨h1.pm, fun _ _ => rfl⟩ ((mkc_aut hn hC h1.pm).mp q)
  | succ r ih =>
    intro node t given h h1 h2
    rw [na]
    refine sumN_zero (fun v hv => ?_)
    cases hg : given.testBit v with
    | true => rfl
    | false =>
      rw [if_neg (by simp)]
      refine ih (node + 1) _ _ (by omega) (h1.step hv hg) (fun u hu => h2 u ⟨hu.1, fun a ha => ?_⟩)
      rw [hu.2 a (by omega)]
      unfold updN
      rw [if_neg (by omega)]
/-- some symmetry leaves the nodes below f where they are and takes a to b -/
noncomputable def tak (n C f a b : Nat) : Bool := @decide (∃ u, Aut n C u ∧ (∀ i, i < f → u i = i) ∧ u a = b) (Classical.propDecidable _)
theorem tak_iff {n C f a b : Nat} : tak n C f a b = true ↔ ∃ u, Aut n C u ∧ (∀ i, i < f → u i = i) ∧ u a = b := by
  unfold tak
  exact @decide_eq_true_iff _ (Classical.propDecidable _)
noncomputable def plc (n C v : Nat) : Nat := cnt (fun b => decide (v ≤ b) && tak n C v v b) n
noncomputable def hmP (n C : Nat) : Nat → Nat
  | 0 => 1
  | v + 1 => hmP n C v * plc n C v
theorem TIid {n k : Nat} (hk : k ≤ n) : TI n k (fun i => i) (2 ^ k - 1) := ⟨fun a ha => by show a < n; omega, fun a b _ _ e => e, fun v hv => by
  rw [Nat.testBit_two_pow_sub_one, decide_eq_true_eq]
  exact ⟨fun h => ⟨v, h, rfl⟩, fun ⟨a, ha, e⟩ => by have e : a = v := e; omega⟩⟩
def nst (n C k : Nat) : Nat := na n C (n - k) k (fun i => i) (2 ^ k - 1)
theorem sumN_cnt {p : Nat → Bool} {m : Nat} : ∀ n, sumN (fun v => if p v = true then m else 0) n = cnt p n * m := by
  intro n
  induction n with
  | zero => rw [sumN, cnt, Nat.zero_mul]
  | succ n ih =>
    rw [sumN, cnt, ih]
    cases p n with
    | true => simp [Nat.add_mul]
    | false => simp
theorem nst_step {n C k : Nat} (hn : n ≤ 7) (hC : C < 2 ^ tri n) (hk : k < n) : nst n C k = plc n C k * nst n C (k + 1) := by
  unfold nst plc
  rw [← sumN_cnt]
  obtain ⟨r, hr⟩ : ∃ r, n - k = r + 1 := ⟨n - k - 1, by omega⟩
  rw [hr, show n - (k + 1) = r by omega, na]
  refine sumN_ext (fun v hv => ?_)
  have h0 := TIid (n := n) (k := k) (by omega)
  rw [Nat.testBit_two_pow_sub_one]
  by_cases hv2 : v < k
  · rw [decide_eq_true hv2, if_pos rfl, decide_eq_false (by omega)]; simp
  · have hb : (2 ^ k - 1).testBit v = false := by rw [Nat.testBit_two_pow_sub_one]; exact decide_eq_false hv2
    rw [decide_eq_false hv2, if_neg (by simp), decide_eq_true (show k ≤ v by omega), Bool.true_and]
    have hs := h0.step hv hb
    cases ht : tak n C k k v with
    | true =>
      rw [if_pos rfl]
      obtain ⟨u, hu, h1, h2⟩ := tak_iff.mp ht
      have hid := TIid (n := n) (k := k + 1) (by omega)
      have hs2 : TI n (k + 1) (fun i => u ((fun j => j) i)) ((2 ^ k - 1) ||| 2 ^ v) := by
        refine ⟨fun a ha => hu.1.1 a (by omega), fun a b ha hb e => hu.1.2 a b (by omega) (by omega) e, fun w hw => ?_⟩
        rw [hs.2.2 w hw]
        have : ∀ a, a < k + 1 → updN (fun i => i) k v a = u a := by
          intro a ha
          unfold updN
          by_cases q : a = k
          · rw [if_pos q, q, h2]
          · rw [if_neg q, h1 a (by omega)]
        exact ⟨fun ⟨a, ha, e⟩ => ⟨a, ha, by show u a = w; rw [← this a ha]; exact e⟩, fun ⟨a, ha, e⟩ => ⟨a, ha, by rw [this a ha]; exact e⟩⟩
      rw [← na_sym hn hC hu r (k + 1) (fun j => j) (2 ^ (k + 1) - 1) _ (by omega) hid hs2]
      refine na_ext r (k + 1) _ _ _ _ (by omega) hs hs2 (fun a ha => ?_)
      unfold updN
      by_cases q : a = k
      · rw [if_pos q, q, h2]
      · rw [if_neg q, h1 a (by omega)]
    | false =>
      rw [if_neg (by simp)]
      refine na_none hn hC r (k + 1) _ _ (by omega) hs (fun u hu hA => ?_)
      have : tak n C k k v = true := tak_iff.mpr ⟨u, hA, fun i hi => by rw [hu.2 i (by omega)]; unfold updN; rw [if_neg (by omega)], by rw [hu.2 k (by omega)]; unfold updN; rw [if_pos rfl]⟩
      rw [ht] at this
      exact Bool.noConfusion this
theorem gall_same {n C : Nat} (hn : n ≤ 7) (hC : C < 2 ^ tri n) : (gall n C).2.1 = hmP n C n := by
  have h1 : (gall n C).2.1 = nst n C 0 := by
    have := gos_na (n := n) (C := C) n 0 (fun _ => 0) 0 (2147483647, 0, fun v => v) (by omega)
    rw [show mkc C (fun _ => 0) 0 = 0 from rfl] at this
    unfold gall nst
    rw [this]
    show 0 + _ = _
    rw [Nat.zero_add, Nat.sub_zero]
    exact na_ext n 0 _ _ _ _ (by omega) (TI0 _ _) (TI0 _ _) (fun a ha => by omega)
  have h2 : ∀ k, k ≤ n → nst n C 0 = hmP n C k * nst n C k := by
    intro k
    induction k with
    | zero => intro _; rw [hmP, Nat.one_mul]
    | succ k ih => intro hk; rw [ih (by omega), nst_step hn hC (by omega), hmP, Nat.mul_assoc]
  rw [h1, h2 n (Nat.le_refl _)]
  have : nst n C n = 1 := by
    unfold nst
    rw [Nat.sub_self, na, if_pos]
    exact (mkc_aut hn hC (PM.one n)).mpr (Aut.one n C)
  rw [this, Nat.mul_one]
theorem plc_le (n C v : Nat) : plc n C v ≤ n := cnt_le _ _
theorem hmP_le {n C : Nat} (hn : n ≤ 7) : ∀ v, hmP n C v ≤ 7 ^ v := by
  intro v
  induction v with
  | zero => exact Nat.le_refl _
  | succ v ih => rw [hmP, Nat.pow_succ]; exact Nat.mul_le_mul ih (Nat.le_trans (plc_le _ _ _) hn)
/-- the least node of an orbit, as the class looks for it -/
noncomputable def lof (n C a : Nat) : Nat → Nat → Nat
  | 0, b => b
  | r + 1, b => if tak n C 0 a b = true then b else lof n C a r (b + 1)
theorem lof_spec {n C a : Nat} : ∀ r b, b + r = a → (∀ c, c < b → tak n C 0 a c = false) → (lof n C a r b = a ∨ tak n C 0 a (lof n C a r b) = true) ∧ lof n C a r b ≤ a ∧ ∀ c, c < lof n C a r b → tak n C 0 a c = false := by
  intro r
  induction r with
  | zero => intro b h h1; rw [lof]; exact ⟨Or.inl (by omega), by omega, h1⟩
  | succ r ih =>
    intro b h h1
    rw [lof]
    cases q : tak n C 0 a b with
    | true => rw [if_pos rfl]; exact ⟨Or.inr q, by omega, h1⟩
    | false =>
      rw [if_neg (by simp)]
      refine ih (b + 1) (by omega) (fun c hc => ?_)
      by_cases e : c = b
      · rw [e]; exact q
      · exact h1 c (by omega)
def orb (n C a : Nat) : Nat := (gall n C).2.2 a
theorem tak_self {n C a : Nat} : tak n C 0 a a = true := tak_iff.mpr ⟨_, Aut.one n C, fun i hi => rfl, rfl⟩
theorem tak_comm {n C a b : Nat} (ha : a < n) (h : tak n C 0 a b = true) : tak n C 0 b a = true := by
  obtain ⟨u, hu, _, e⟩ := tak_iff.mp h
  exact tak_iff.mpr ⟨minv n u, hu.inv, fun i hi => by omega, by rw [← e]; exact minv_left hu.1 ha⟩
theorem tak_tr {n C a b c : Nat} (h : tak n C 0 a b = true) (h2 : tak n C 0 b c = true) : tak n C 0 a c = true := by
  obtain ⟨u, hu, _, e⟩ := tak_iff.mp h
  obtain ⟨w, hw, _, e2⟩ := tak_iff.mp h2
  exact tak_iff.mpr ⟨_, hw.comp hu, fun i hi => by omega, by rw [e, e2]⟩
theorem orb_spec {n C a : Nat} (hn : n ≤ 7) (hC : C < 2 ^ tri n) (ha : a < n) : tak n C 0 a (orb n C a) = true ∧ orb n C a < n ∧ ∀ b, tak n C 0 a b = true → orb n C a ≤ b := by
  obtain ⟨h1, h2, h3⟩ := (gall_GR hn hC).2 a ha
  have h1 : orb n C a ≤ a := h1
  refine ⟨?_, by omega, fun b hb => ?_⟩
  · rcases h3 with e | ⟨u, _, hu, e⟩
    · have e : orb n C a = a := e
      rw [e]; exact tak_self
    · exact tak_iff.mpr ⟨u, hu, fun i hi => by omega, e.symm⟩
  · obtain ⟨u, hu, _, e⟩ := tak_iff.mp hb
    rw [← e]; exact h2 u hu.1 hu
theorem lof_orb {n C a : Nat} (hn : n ≤ 7) (hC : C < 2 ^ tri n) (ha : a < n) : lof n C a a 0 = orb n C a := by
  obtain ⟨h1, h2, h3⟩ := lof_spec (n := n) (C := C) (a := a) a 0 (by omega) (fun c hc => by omega)
  obtain ⟨k1, k2, k3⟩ := orb_spec hn hC ha
  have h4 : tak n C 0 a (lof n C a a 0) = true := by
    rcases h1 with e | e
    · rw [e]; exact tak_self
    · exact e
  have := k3 _ h4
  by_cases q : orb n C a < lof n C a a 0
  · rw [h3 _ q] at k1; exact Bool.noConfusion k1
  · omega
theorem orb_eq {n C a b : Nat} (hn : n ≤ 7) (hC : C < 2 ^ tri n) (ha : a < n) (hb : b < n) : orb n C a = orb n C b ↔ tak n C 0 a b = true := by
  obtain ⟨h1, h2, h3⟩ := orb_spec hn hC ha
  obtain ⟨k1, k2, k3⟩ := orb_spec hn hC hb
  constructor
  · intro e
    refine tak_tr h1 ?_
    rw [e]; exact tak_comm hb k1
  · intro h
    have e1 := h3 _ (tak_tr h k1)
    have e2 := k3 _ (tak_tr (tak_comm ha h) h1)
    omega
