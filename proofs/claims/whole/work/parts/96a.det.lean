/-! determinants -/
def sumR (f : Nat → Rat) : Nat → Rat
  | 0 => 0
  | n + 1 => sumR f n + f n
theorem sumR_ext {f g : Nat → Rat} : ∀ {n}, (∀ i, i < n → f i = g i) → sumR f n = sumR g n := by
  intro n
  induction n with
  | zero => intro _; rfl
  | succ n ih => intro h; rw [sumR, sumR, ih (fun i hi => h i (by omega)), h n (by omega)]
theorem sumR_lin {f g k : Nat → Rat} {t : Rat} : ∀ {n}, (∀ i, i < n → k i = f i + t * g i) → sumR k n = sumR f n + t * sumR g n := by
  intro n
  induction n with
  | zero => intro _; rw [sumR, sumR, sumR]; grind
  | succ n ih => intro h; rw [sumR, sumR, sumR, ih (fun i hi => h i (by omega)), h n (by omega)]; grind
theorem sumR_zero {f : Nat → Rat} : ∀ {n}, (∀ i, i < n → f i = 0) → sumR f n = 0 := by
  intro n
  induction n with
  | zero => intro _; rfl
  | succ n ih => intro h; rw [sumR, ih (fun i hi => h i (by omega)), h n (by omega)]; grind
theorem sumR_two {f : Nat → Rat} {r : Nat} : ∀ {n}, r + 1 < n → (∀ i, i < n → i ≠ r → i ≠ r + 1 → f i = 0) → f r + f (r + 1) = 0 → sumR f n = 0 := by
  intro n
  induction n with
  | zero => intro h; omega
  | succ n ih =>
    intro hr h0 h2
    rw [sumR]
    by_cases e : n = r + 1
    · subst e
      rw [sumR, sumR_zero (fun i hi => h0 i (by omega) (by omega) (by omega))]
      grind
    · rw [ih (by omega) (fun i hi => h0 i (by omega)) h2, h0 n (by omega) (by omega) e]
      grind
theorem sumR_first {f : Nat → Rat} : ∀ {n}, (∀ i, 0 < i → i < n + 1 → f i = 0) → sumR f (n + 1) = f 0 := by
  intro n
  induction n with
  | zero => intro _; rw [sumR, sumR]; grind
  | succ n ih => intro h; rw [sumR, ih (fun i h1 h2 => h i h1 (by omega)), h (n + 1) (by omega) (by omega)]; grind
def sgn (p : Nat) : Rat := if p % 2 = 0 then 1 else -1
theorem sgn_s (p : Nat) : sgn (p + 1) = - sgn p := by
  unfold sgn
  by_cases h : p % 2 = 0
  · rw [if_pos h, if_neg (by omega)]
  · rw [if_neg h, if_pos (by omega)]; grind
def skp (p i : Nat) : Nat := if i < p then i else i + 1
def mnr1 (p : Nat) (A : Nat → Nat → Rat) : Nat → Nat → Rat := fun i j => A (skp p i) (j + 1)
def det : Nat → (Nat → Nat → Rat) → Rat
  | 0, _ => 1
  | m + 1, A => sumR (fun p => sgn p * A p 0 * det m (mnr1 p A)) (m + 1)
theorem det_ext : ∀ {m : Nat} {A B : Nat → Nat → Rat}, (∀ i j, i < m → j < m → A i j = B i j) → det m A = det m B := by
  intro m
  induction m with
  | zero => intro A B _; rfl
  | succ m ih =>
    intro A B h
    rw [det, det]
    refine sumR_ext (fun p hp => ?_)
    rw [h p 0 hp (by omega)]
    congr 1
    refine ih (fun i j hi hj => h _ _ ?_ (by omega))
    unfold skp; split <;> omega
def upR (A : Nat → Nat → Rat) (r : Nat) (x : Nat → Rat) : Nat → Nat → Rat := fun i => if i = r then x else A i
theorem upR_at (A : Nat → Nat → Rat) (r : Nat) (x : Nat → Rat) : upR A r x r = x := by unfold upR; rw [if_pos rfl]
theorem upR_ne {A : Nat → Nat → Rat} {r i : Nat} {x : Nat → Rat} (h : i ≠ r) : upR A r x i = A i := by unfold upR; rw [if_neg h]
theorem upR_id (A : Nat → Nat → Rat) (r : Nat) : upR A r (A r) = A := by
  funext i
  by_cases h : i = r
  · rw [h, upR_at]
  · rw [upR_ne h]
theorem upR_up (A : Nat → Nat → Rat) (r : Nat) (x y : Nat → Rat) : upR (upR A r x) r y = upR A r y := by
  funext i
  by_cases h : i = r
  · rw [h, upR_at, upR_at]
  · rw [upR_ne h, upR_ne h, upR_ne h]
theorem upR_comm {A : Nat → Nat → Rat} {r s : Nat} {x y : Nat → Rat} (h : r ≠ s) : upR (upR A r x) s y = upR (upR A s y) r x := by
  funext i
  by_cases h1 : i = r
  · rw [h1, upR_at, upR_ne h, upR_at]
  · by_cases h2 : i = s
    · rw [h2, upR_at, upR_ne (Ne.symm h), upR_at]
    · rw [upR_ne h2, upR_ne h1, upR_ne h1, upR_ne h2]
theorem mnr_up_at (A : Nat → Nat → Rat) (r : Nat) (x : Nat → Rat) : mnr1 r (upR A r x) = mnr1 r A := by
  funext i j
  unfold mnr1
  rw [upR_ne (by unfold skp; split <;> omega)]
theorem mnr_up_ne {A : Nat → Nat → Rat} {p r : Nat} {x : Nat → Rat} (h : p ≠ r) : mnr1 p (upR A r x) = upR (mnr1 p A) (if r < p then r else r - 1) (fun j => x (j + 1)) := by
  funext i j
  unfold mnr1
  by_cases e : i = (if r < p then r else r - 1)
  · rw [e, upR_at, show skp p (if r < p then r else r - 1) = r from by unfold skp; by_cases z : r < p; rw [if_pos z, if_pos z]; rw [if_neg z, if_neg (by omega)]; omega, upR_at]
  · rw [upR_ne e, upR_ne (by unfold skp; split at e <;> split <;> omega)]
theorem det_lin : ∀ {m : Nat} {A : Nat → Nat → Rat} {r : Nat} {x y : Nat → Rat} {t : Rat}, r < m → det m (upR A r (fun j => x j + t * y j)) = det m (upR A r x) + t * det m (upR A r y) := by
  intro m
  induction m with
  | zero => intro A r x y t h; omega
  | succ m ih =>
    intro A r x y t hr
    rw [det, det, det]
    refine sumR_lin (fun p hp => ?_)
    by_cases e : p = r
    · subst e
      rw [upR_at, upR_at, upR_at, mnr_up_at, mnr_up_at, mnr_up_at]
      grind
    · rw [upR_ne e, upR_ne e, upR_ne e, mnr_up_ne e, mnr_up_ne e, mnr_up_ne e]
      have := ih (A := mnr1 p A) (r := if r < p then r else r - 1) (x := fun j => x (j + 1)) (y := fun j => y (j + 1)) (t := t) (by split <;> omega)
      rw [this]
      grind
theorem det_adj : ∀ {m : Nat} {A : Nat → Nat → Rat} {r : Nat}, r + 1 < m → (∀ j, j < m → A r j = A (r + 1) j) → det m A = 0 := by
  intro m
  induction m with
  | zero => intro A r h; omega
  | succ m ih =>
    intro A r hr h
    rw [det]
    refine sumR_two hr (fun p hp h1 h2 => ?_) ?_
    · have : det m (mnr1 p A) = 0 := by
        rcases Nat.lt_or_ge p r with q | q
        · refine ih (r := r - 1) (by omega) (fun j hj => ?_)
          unfold mnr1 skp
          rw [if_neg (by omega), if_neg (by omega), show r - 1 + 1 = r by omega]
          exact h (j + 1) (by omega)
        · refine ih (r := r) (by omega) (fun j hj => ?_)
          unfold mnr1 skp
          rw [if_pos (by omega), if_pos (by omega)]
          exact h (j + 1) (by omega)
      rw [this]
      grind
    · have e : det m (mnr1 r A) = det m (mnr1 (r + 1) A) := by
        refine det_ext (fun i j hi hj => ?_)
        unfold mnr1 skp
        by_cases q : i < r
        · rw [if_pos q, if_pos (by omega)]
        · rw [if_neg q]
          by_cases z : i = r
          · subst z
            rw [if_pos (by omega)]
            exact (h (j + 1) (by omega)).symm
          · rw [if_neg (by omega)]
      rw [e, h 0 (by omega), sgn_s]
      grind
/-- two rows apart by d + 1 -/
theorem det_swap1 {m : Nat} {A : Nat → Nat → Rat} {s : Nat} {x y : Nat → Rat} (hs : s + 1 < m) : det m (upR (upR A s x) (s + 1) y) = - det m (upR (upR A s y) (s + 1) x) := by
  have z : ∀ x, det m (upR (upR A s x) (s + 1) x) = 0 := fun x => det_adj hs (fun j _ => by rw [upR_at, upR_ne (by omega), upR_at])
  have a := z (fun j => x j + 1 * y j)
  rw [det_lin hs] at a
  rw [upR_comm (by omega), upR_comm (r := s) (s := s + 1) (by omega)] at a
  rw [det_lin (by omega), det_lin (by omega)] at a
  rw [upR_comm (r := s + 1) (by omega), upR_comm (r := s + 1) (by omega), upR_comm (r := s + 1) (by omega), upR_comm (r := s + 1) (by omega), z x, z y] at a
  grind
theorem det_eq : ∀ {m : Nat} (d : Nat) {A : Nat → Nat → Rat} {r : Nat}, r + d + 1 < m → (∀ j, A r j = A (r + d + 1) j) → det m A = 0 := by
  intro m d
  induction d with
  | zero => intro A r h e; exact det_adj h (fun j _ => e j)
  | succ d ih =>
    intro A r h e
    have s := det_swap1 (A := A) (s := r + d + 1) (x := A (r + d + 1)) (y := A (r + d + 1 + 1)) (m := m) (by omega)
    rw [upR_id, upR_id] at s
    rw [s, ih (r := r) (by omega) (fun j => ?_)]
    · grind
    · rw [upR_ne (by omega), upR_ne (by omega), upR_ne (by omega), upR_at]
      exact e j
theorem det_same {m : Nat} {A : Nat → Nat → Rat} {r s : Nat} (hr : r < m) (hs : s < m) (hrs : r ≠ s) (e : ∀ j, A r j = A s j) : det m A = 0 := by
  rcases Nat.lt_or_ge r s with q | q
  · exact det_eq (s - r - 1) (r := r) (by omega) (fun j => by rw [e j, show r + (s - r - 1) + 1 = s by omega])
  · exact det_eq (r - s - 1) (r := s) (by omega) (fun j => by rw [← e j, show s + (r - s - 1) + 1 = r by omega])
theorem det_add {m : Nat} {A : Nat → Nat → Rat} {r s : Nat} {t : Rat} (hr : r < m) (hs : s < m) (hrs : r ≠ s) : det m (upR A r (fun j => A r j + t * A s j)) = det m A := by
  rw [det_lin hr, upR_id, det_same hr hs hrs (A := upR A r (A s)) (fun j => by rw [upR_at, upR_ne (Ne.symm hrs)])]
  grind
theorem det_swap {m : Nat} {A : Nat → Nat → Rat} {r s : Nat} {x y : Nat → Rat} (hr : r < m) (hs : s < m) (hrs : r ≠ s) : det m (upR (upR A r x) s y) = - det m (upR (upR A r y) s x) := by
  have z : ∀ x, det m (upR (upR A r x) s x) = 0 := fun x => det_same hr hs hrs (fun j => by rw [upR_at, upR_ne hrs, upR_at])
  have a := z (fun j => x j + 1 * y j)
  rw [det_lin hs] at a
  rw [upR_comm hrs, upR_comm (r := r) (s := s) hrs] at a
  rw [det_lin hr, det_lin hr] at a
  rw [upR_comm (Ne.symm hrs), upR_comm (Ne.symm hrs), upR_comm (Ne.symm hrs), upR_comm (Ne.symm hrs), z x, z y] at a
  grind
theorem det_zr {m : Nat} {A : Nat → Nat → Rat} {r : Nat} (hr : r < m) (h : ∀ j, A r j = 0) : det m A = 0 := by
  have e : A = upR A r (fun j => (0 : Rat) + 0 * 0) := by
    funext i j
    by_cases q : i = r
    · rw [q, upR_at, h]; grind
    · rw [upR_ne q]
  have l := det_lin (m := m) (A := A) (r := r) (x := A r) (y := A r) (t := -1) hr
  have e2 : A = upR A r (fun j => A r j + -1 * A r j) := by
    funext i j
    by_cases q : i = r
    · rw [q, upR_at, h]; grind
    · rw [upR_ne q]
  rw [← e2, upR_id] at l
  grind
theorem det_rr {m x : Nat} {t : Nat → Rat} {A : Nat → Nat → Rat} (hx : x < m) : det m (fun v j => if v = x then A x j else A v j + t v * A x j) = det m A := by
  have lp : ∀ k, k ≤ m → det m (fun v j => if v = x then A x j else if v < k then A v j + t v * A x j else A v j) = det m A := by
    intro k
    induction k with
    | zero =>
      intro _
      refine det_ext (fun i j _ _ => ?_)
      by_cases q : i = x
      · rw [if_pos q, q]
      · rw [if_neg q, if_neg (by omega)]
    | succ k ih =>
      intro hk
      by_cases e : k = x
      · rw [← ih (by omega)]
        refine det_ext (fun i j _ _ => ?_)
        by_cases q : i = x
        · rw [if_pos q, if_pos q]
        · rw [if_neg q, if_neg q]
          by_cases z : i < k
          · rw [if_pos z, if_pos (by omega)]
          · rw [if_neg z, if_neg (by omega)]
      · rw [← ih (by omega)]
        rw [← det_add (m := m) (A := fun v j => if v = x then A x j else if v < k then A v j + t v * A x j else A v j) (r := k) (s := x) (t := t k) (by omega) hx e]
        refine det_ext (fun i j _ _ => ?_)
        by_cases q : i = k
        · rw [q, upR_at, if_neg e, if_pos (by omega), if_neg e, if_neg (by omega), if_pos rfl]
        · rw [upR_ne q]
          by_cases z : i = x
          · rw [if_pos z, if_pos z]
          · rw [if_neg z, if_neg z]
            by_cases y : i < k
            · rw [if_pos y, if_pos (by omega)]
            · rw [if_neg y, if_neg (by omega)]
  rw [← lp m (Nat.le_refl _)]
  refine det_ext (fun i j hi _ => ?_)
  by_cases z : i = x
  · rw [if_pos z, if_pos z]
  · rw [if_neg z, if_neg z, if_pos hi]
def scm (A : Nat → Nat → Rat) : Nat → Nat → Rat := fun i j => A (i + 1) (j + 1) - A (i + 1) 0 * A 0 (j + 1) / A 0 0
theorem det_elim {m : Nat} {A : Nat → Nat → Rat} (h : A 0 0 ≠ 0) : det (m + 1) A = A 0 0 * det m (scm A) := by
  rw [← det_rr (m := m + 1) (x := 0) (t := fun v => - (A v 0 / A 0 0)) (A := A) (by omega), det, sumR_first]
  · have e : det m (mnr1 0 (fun v j => if v = 0 then A 0 j else A v j + -(A v 0 / A 0 0) * A 0 j)) = det m (scm A) := by
      refine det_ext (fun i j _ _ => ?_)
      have hk : skp 0 i = i + 1 := by unfold skp; rw [if_neg (by omega)]
      unfold mnr1 scm
      rw [hk]
      dsimp only
      rw [if_neg (by omega)]
      grind
    rw [e, if_pos rfl]
    unfold sgn
    rw [if_pos (by omega)]
    grind
  · intro i h1 h2
    rw [if_neg (by omega)]
    have : A i 0 + -(A i 0 / A 0 0) * A 0 0 = 0 := by grind
    rw [this]
    grind
/-- rows below are unit rows -/
theorem det_blk : ∀ {m k : Nat} {A : Nat → Nat → Rat}, k ≤ m → (∀ i j, k ≤ i → i < m → j < m → A i j = if i = j then 1 else 0) → det m A = det k A := by
  intro m
  induction m with
  | zero => intro k A h _; rw [show k = 0 by omega]
  | succ m ih =>
    intro k A hk h
    cases k with
    | zero =>
      rw [show det 0 A = 1 from rfl, show det (m + 1) A = sumR (fun p => sgn p * A p 0 * det m (mnr1 p A)) (m + 1) from rfl, sumR_first]
      · rw [h 0 0 (by omega) (by omega) (by omega), if_pos rfl, ih (k := 0) (Nat.zero_le _) (fun i j _ hi hj => ?_)]
        · unfold sgn det; rw [if_pos (by omega)]; grind
        · unfold mnr1 skp
          rw [if_neg (by omega), h _ _ (by omega) (by omega) (by omega)]
          by_cases q : i = j
          · rw [if_pos q, if_pos (by omega)]
          · rw [if_neg q, if_neg (by omega)]
      · intro i h1 h2
        rw [h i 0 (by omega) (by omega) (by omega), if_neg (by omega)]
        grind
    | succ k =>
      rw [det, det]
      have hs : ∀ d, sumR (fun p => sgn p * A p 0 * det m (mnr1 p A)) (k + 1 + d) = sumR (fun p => sgn p * A p 0 * det m (mnr1 p A)) (k + 1) ∨ m + 1 < k + 1 + d := by
        intro d
        induction d with
        | zero => exact Or.inl rfl
        | succ d ihd =>
          rcases ihd with e | e
          · by_cases q : m + 1 < k + 1 + (d + 1)
            · exact Or.inr q
            · left
              rw [show k + 1 + (d + 1) = (k + 1 + d) + 1 by omega, sumR, e, h (k + 1 + d) 0 (by omega) (by omega) (by omega), if_neg (by omega)]
              grind
          · exact Or.inr (by omega)
      rcases hs (m + 1 - (k + 1)) with e | e
      · rw [show k + 1 + (m + 1 - (k + 1)) = m + 1 by omega] at e
        rw [e]
        refine sumR_ext (fun p hp => ?_)
        congr 1
        refine ih (by omega) (fun i j h1 h2 h3 => ?_)
        unfold mnr1 skp
        rw [if_neg (by omega), h _ _ (by omega) (by omega) (by omega)]
        by_cases q : i = j
        · rw [if_pos q, if_pos (by omega)]
        · rw [if_neg q, if_neg (by omega)]
      · omega
def isZ (b : Nat) (x : Rat) : Prop := ∃ z : Int, x = (z : Rat) ∧ z.natAbs ≤ b
theorem isZ.add {b c : Nat} {x y : Rat} (h1 : isZ b x) (h2 : isZ c y) : isZ (b + c) (x + y) := by
  obtain ⟨z, e1, l1⟩ := h1
  obtain ⟨w, e2, l2⟩ := h2
  exact ⟨z + w, by rw [e1, e2, Rat.intCast_add], by omega⟩
theorem isZ.mul {b c : Nat} {x y : Rat} (h1 : isZ b x) (h2 : isZ c y) : isZ (b * c) (x * y) := by
  obtain ⟨z, e1, l1⟩ := h1
  obtain ⟨w, e2, l2⟩ := h2
  exact ⟨z * w, by rw [e1, e2, Rat.intCast_mul], by rw [Int.natAbs_mul]; exact Nat.mul_le_mul l1 l2⟩
theorem isZ.mono {b c : Nat} {x : Rat} (h1 : isZ b x) (h : b ≤ c) : isZ c x := by
  obtain ⟨z, e1, l1⟩ := h1
  exact ⟨z, e1, by omega⟩
theorem sgn_Z (p : Nat) : isZ 1 (sgn p) := by
  unfold sgn
  split
  · exact ⟨1, rfl, by decide⟩
  · exact ⟨-1, rfl, by decide⟩
theorem sumR_Z {b : Nat} {f : Nat → Rat} : ∀ {n}, (∀ i, i < n → isZ b (f i)) → isZ (n * b) (sumR f n) := by
  intro n
  induction n with
  | zero => intro _; exact ⟨0, rfl, by simp⟩
  | succ n ih =>
    intro h
    rw [sumR, Nat.succ_mul]
    exact (ih (fun i hi => h i (by omega))).add (h n (by omega))
def bdN (c : Nat) : Nat → Nat
  | 0 => 1
  | m + 1 => (m + 1) * (1 * c * bdN c m)
theorem det_Z {c : Nat} : ∀ {m : Nat} {A : Nat → Nat → Rat}, (∀ i j, i < m → j < m → isZ c (A i j)) → isZ (bdN c m) (det m A) := by
  intro m
  induction m with
  | zero => intro A _; exact ⟨1, rfl, Nat.le_refl 1⟩
  | succ m ih =>
    intro A h
    rw [det, bdN]
    refine sumR_Z (fun p hp => ((sgn_Z p).mul (h p 0 hp (by omega))).mul (ih (fun i j hi hj => ?_)))
    unfold mnr1
    exact h _ _ (by unfold skp; split <;> omega) (by omega)
def tS : Nat → (Nat → Nat → Rat) → Nat → Nat → Rat
  | 0, A => A
  | k + 1, A => tS k (scm A)
theorem tS_s : ∀ (k : Nat) (A : Nat → Nat → Rat), tS (k + 1) A = scm (tS k A) := by
  intro k
  induction k with
  | zero => intro A; rfl
  | succ k ih => intro A; rw [tS, ih]; rfl
def pS : Nat → (Nat → Nat → Rat) → Rat
  | 0, _ => 1
  | k + 1, A => A 0 0 * pS k (scm A)
theorem pS_s : ∀ (k : Nat) (A : Nat → Nat → Rat), pS (k + 1) A = pS k A * tS k A 0 0 := by
  intro k
  induction k with
  | zero => intro A; rw [pS, pS, pS, tS]; grind
  | succ k ih => intro A; rw [pS, ih, pS, tS]; grind
def bord (k i j : Nat) (A : Nat → Nat → Rat) : Nat → Nat → Rat := fun r c => A (if r < k then r else i) (if c < k then c else j)
theorem det_bord : ∀ (k i j : Nat) (A : Nat → Nat → Rat), (∀ l, l < k → tS l A 0 0 ≠ 0) → det (k + 1) (bord k (k + i) (k + j) A) = pS k A * tS k A i j := by
  intro k
  induction k with
  | zero =>
    intro i j A _
    have e : bord 0 (0 + i) (0 + j) A 0 0 = A i j := by
      unfold bord
      rw [if_neg (by omega), if_neg (by omega), Nat.zero_add, Nat.zero_add]
    have e1 : sgn 0 = 1 := by unfold sgn; rw [if_pos (by omega)]
    rw [det, sumR, sumR, det, e, e1, pS, tS]
    grind
  | succ k ih =>
    intro i j A h
    have h0 : A 0 0 ≠ 0 := h 0 (by omega)
    have hb : bord (k + 1) (k + 1 + i) (k + 1 + j) A 0 0 = A 0 0 := by unfold bord; rw [if_pos (by omega), if_pos (by omega)]
    rw [det_elim (by rw [hb]; exact h0), hb]
    have e : det (k + 1) (scm (bord (k + 1) (k + 1 + i) (k + 1 + j) A)) = det (k + 1) (bord k (k + i) (k + j) (scm A)) := by
      refine det_ext (fun r c hr hc => ?_)
      have e1 : ∀ r i, (if r + 1 < k + 1 then r + 1 else k + 1 + i) = (if r < k then r else k + i) + 1 := by
        intro r i
        by_cases q : r < k
        · rw [if_pos q, if_pos (by omega)]
        · rw [if_neg q, if_neg (by omega)]; omega
      have e2 : ∀ i, (if 0 < k + 1 then 0 else k + 1 + i) = 0 := fun i => by rw [if_pos (by omega)]
      unfold scm bord
      rw [e1, e1, e2, e2]
    rw [e, ih i j (scm A) (fun l hl => h (l + 1) (by omega)), pS, tS]
    grind
theorem det_full : ∀ (k : Nat) (A : Nat → Nat → Rat), (∀ l, l < k → tS l A 0 0 ≠ 0) → det k A = pS k A := by
  intro k
  induction k with
  | zero => intro A _; rfl
  | succ k ih =>
    intro A h
    have h0 : A 0 0 ≠ 0 := h 0 (by omega)
    rw [det_elim h0, ih (scm A) (fun l hl => h (l + 1) (by omega)), pS]
/-- what stands in a cell after k rounds -/
def bV (A : Nat → Nat → Rat) (k i j : Nat) : Rat := pS k A * tS k A (i - k) (j - k)
theorem bV_step {A : Nat → Nat → Rat} {k i j : Nat} (h : tS k A 0 0 ≠ 0) (hi : k < i) (hj : k < j) : bV A k i j * bV A k k k - bV A k i k * bV A k k j = pS k A * bV A (k + 1) i j := by
  obtain ⟨a, rfl⟩ : ∃ a, i = k + 1 + a := ⟨i - k - 1, by omega⟩
  obtain ⟨b, rfl⟩ : ∃ b, j = k + 1 + b := ⟨j - k - 1, by omega⟩
  unfold bV
  rw [pS_s, tS_s, Nat.sub_self, show k + 1 + a - k = a + 1 by omega, show k + 1 + b - k = b + 1 by omega, show k + 1 + a - (k + 1) = a by omega, show k + 1 + b - (k + 1) = b by omega]
  unfold scm
  grind
theorem bV_Z {A : Nat → Nat → Rat} {c w k i j : Nat} (hA : ∀ i j, i < w → j < w → isZ c (A i j)) (h : ∀ l, l < k → tS l A 0 0 ≠ 0) (hi : k ≤ i) (hj : k ≤ j) (hiw : i < w) (hjw : j < w) : isZ (bdN c (k + 1)) (bV A k i j) := by
  have := det_bord k (i - k) (j - k) A h
  unfold bV
  rw [← this]
  refine det_Z (fun r s hr hs => hA _ _ ?_ ?_)
  · split <;> omega
  · split <;> omega
theorem pS_piv {A : Nat → Nat → Rat} {k : Nat} : pS (k + 1) A = bV A k k k := by
  unfold bV
  rw [pS_s, Nat.sub_self]
