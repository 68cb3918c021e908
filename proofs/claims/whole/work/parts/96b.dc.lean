/-! lines as rows: deletion and contraction -/
def dlt (i j : Nat) : Rat := if i = j then 1 else 0
theorem dlt_y {i : Nat} : dlt i i = 1 := by unfold dlt; rw [if_pos rfl]
theorem dlt_n {i j : Nat} (h : i ≠ j) : dlt i j = 0 := by unfold dlt; rw [if_neg h]
def rowS (c : Nat → Nat) : List (Nat × Nat) → Nat → Nat → Rat
  | [], _, _ => 0
  | e :: es, v, j => rowS c es v j + (dlt (c e.1) v - dlt (c e.2) v) * (dlt e.1 j - dlt e.2 j)
def NR (c : Nat → Nat) (es : List (Nat × Nat)) : Nat → Nat → Rat := fun v j => if c v = v then rowS c es v j else dlt v j - dlt (c v) j
def rel (c : Nat → Nat) (x y : Nat) : Nat → Nat := fun v => if c v = x then y else c v
def LB (w : Nat) (c : Nat → Nat) : Prop := (∀ v, v ≤ w → c v ≤ w ∧ c (c v) = c v) ∧ c w = w
theorem rel_d {c : Nat → Nat} {x y z v : Nat} (h1 : v ≠ x) (h2 : v ≠ y) : dlt (rel c x y z) v = dlt (c z) v := by
  unfold rel
  by_cases q : c z = x
  · rw [if_pos q, q, dlt_n (Ne.symm h2), dlt_n (Ne.symm h1)]
  · rw [if_neg q]
theorem rel_y {c : Nat → Nat} {x y z : Nat} (h : x ≠ y) : dlt (rel c x y z) y = dlt (c z) y + dlt (c z) x := by
  unfold rel
  by_cases q : c z = x
  · rw [if_pos q, q, dlt_y, dlt_n h, dlt_y]; grind
  · rw [if_neg q, dlt_n (j := x) q]; grind
theorem rowS_ne {c : Nat → Nat} {x y v j : Nat} (h1 : v ≠ x) (h2 : v ≠ y) : ∀ es, rowS (rel c x y) es v j = rowS c es v j
  | [] => rfl
  | e :: es => by rw [rowS, rowS, rowS_ne h1 h2 es, rel_d h1 h2, rel_d h1 h2]
theorem rowS_y {c : Nat → Nat} {x y j : Nat} (h : x ≠ y) : ∀ es, rowS (rel c x y) es y j = rowS c es y j + rowS c es x j
  | [] => by rw [rowS, rowS, rowS]; grind
  | e :: es => by rw [rowS, rowS, rowS, rowS_y h es, rel_y h, rel_y h]; grind
theorem LB_rel {w x y : Nat} {c : Nat → Nat} (h : LB w c) (hx : x ≠ w) (hy : y ≤ w) (cy : c y = y) (hxy : x ≠ y) : LB w (rel c x y) := by
  refine ⟨fun v hv => ?_, ?_⟩
  · unfold rel
    by_cases q : c v = x
    · rw [if_pos q, if_neg (by rw [cy]; exact Ne.symm hxy), cy]; exact ⟨hy, rfl⟩
    · rw [if_neg q, if_neg (by rw [(h.1 v hv).2]; exact q), (h.1 v hv).2]; exact ⟨(h.1 v hv).1, rfl⟩
  · unfold rel
    rw [if_neg (by rw [h.2]; exact Ne.symm hx)]
    exact h.2
theorem NR_dc {w a b : Nat} {c : Nat → Nat} {es : List (Nat × Nat)} (hc : LB w c) (ha : a ≤ w) (hb : b ≤ w) (hab : c a ≠ c b) (haw : c a ≠ w) : det w (NR c ((a, b) :: es)) = det w (NR c es) + det w (NR (rel c (c a) (c b)) es) := by
  obtain ⟨x, hx⟩ : ∃ x, x = c a := ⟨_, rfl⟩
  obtain ⟨y, hy⟩ : ∃ y, y = c b := ⟨_, rfl⟩
  rw [← hx] at haw
  rw [← hx, ← hy] at hab
  rw [← hx, ← hy]
  have ca := hc.1 a ha
  have cb := hc.1 b hb
  rw [← hx] at ca
  rw [← hy] at cb
  have hxw : x < w := by omega
  obtain ⟨A, hA⟩ : ∃ A, A = NR c es := ⟨_, rfl⟩
  obtain ⟨u, hu⟩ : ∃ u : Nat → Rat, u = fun j => dlt a j - dlt b j := ⟨_, rfl⟩
  have huj : ∀ j, u j = dlt a j - dlt b j := fun j => by rw [hu]
  have hAr : ∀ v j, c v = v → A v j = rowS c es v j := fun v j h => by rw [hA]; unfold NR; rw [if_pos h]
  have hAn : ∀ v j, c v ≠ v → A v j = dlt v j - dlt (c v) j := fun v j h => by rw [hA]; unfold NR; rw [if_neg h]
  have row : ∀ v j, NR c ((a, b) :: es) v j = if v = x then A x j + 1 * u j else if v = y then A y j + -1 * u j else A v j := by
    intro v j
    unfold NR
    by_cases q : c v = v
    · rw [if_pos q]
      show rowS c es v j + (dlt (c a) v - dlt (c b) v) * (dlt a j - dlt b j) = _
      rw [← hx, ← hy, ← huj, ← hAr v j q]
      by_cases z : v = x
      · rw [if_pos z, z, dlt_y, dlt_n (Ne.symm hab)]; grind
      · rw [if_neg z]
        by_cases z2 : v = y
        · rw [if_pos z2, z2, dlt_y, dlt_n hab]; grind
        · rw [if_neg z2, dlt_n (Ne.symm z), dlt_n (Ne.symm z2)]; grind
    · rw [if_neg q, if_neg (fun z => q (by rw [z]; exact ca.2)), if_neg (fun z => q (by rw [z]; exact cb.2)), hAn v j q]
  obtain ⟨f, hf⟩ : ∃ f : Nat → Rat, f = fun j => if y = w then u j else u j := ⟨_, rfl⟩
  -- the rows after contraction, before they are cleaned
  have key : ∀ C1 : Nat → Nat → Rat, (∀ v j, v < w → v ≠ x → C1 v j = if v = y then A y j + 1 * A x j else A v j) → det w (upR C1 x u) = det w (NR (rel c x y) es) := by
    intro C1 hC
    have anx : a ≠ x → a < w ∧ a ≠ y ∧ ∀ j, C1 a j = dlt a j - dlt x j := by
      intro q
      have h1 : a < w := by
        rcases Nat.lt_or_ge a w with z | z
        · exact z
        · exact absurd (by rw [hx, show a = w by omega, hc.2]) haw
      have h2 : a ≠ y := fun z => hab (by rw [hx, z]; exact cb.2)
      refine ⟨h1, h2, fun j => ?_⟩
      rw [hC a j h1 q, if_neg h2, hAn a j (by rw [← hx]; exact Ne.symm q), ← hx]
    have bny : b ≠ y → b < w ∧ b ≠ x ∧ ∀ j, C1 b j = dlt b j - dlt y j := by
      intro q
      have h1 : b < w := by
        rcases Nat.lt_or_ge b w with z | z
        · exact z
        · exact absurd (by rw [hy, show b = w by omega, hc.2]) q
      have h2 : b ≠ x := fun z => hab (by rw [hy, z]; exact ca.2.symm)
      refine ⟨h1, h2, fun j => ?_⟩
      rw [hC b j h1 h2, if_neg q, hAn b j (by rw [← hy]; exact Ne.symm q), ← hy]
    have e1 : det w (upR C1 x (fun j => dlt a j - dlt y j)) = det w (upR C1 x (fun j => dlt x j - dlt y j)) := by
      by_cases q : a = x
      · rw [q]
      · obtain ⟨h1, h2, h3⟩ := anx q
        rw [← det_add (A := upR C1 x (fun j => dlt x j - dlt y j)) (r := x) (s := a) (t := 1) hxw h1 (Ne.symm q), upR_up]
        congr 2
        funext j
        rw [upR_at, upR_ne q, h3]
        grind
    have e2 : det w (upR C1 x u) = det w (upR C1 x (fun j => dlt a j - dlt y j)) := by
      by_cases q : b = y
      · rw [hu, q]
      · obtain ⟨h1, h2, h3⟩ := bny q
        rw [← det_add (A := upR C1 x (fun j => dlt a j - dlt y j)) (r := x) (s := b) (t := -1) hxw h1 (Ne.symm h2), upR_up]
        congr 2
        funext j
        rw [upR_at, upR_ne h2, h3, huj]
        grind
    rw [e2, e1, ← det_rr (m := w) (x := x) (t := fun v => if c v = x then 1 else 0) (A := upR C1 x (fun j => dlt x j - dlt y j)) hxw]
    refine det_ext (fun v j hv hj => ?_)
    rw [upR_at]
    have cxr : rel c x y x = y := by unfold rel; rw [if_pos ca.2]
    by_cases z : v = x
    · rw [if_pos z, z]
      unfold NR
      rw [cxr, if_neg (Ne.symm hab)]
    · rw [if_neg z, upR_ne z, hC v j hv z]
      by_cases q : c v = x
      · have vy : v ≠ y := fun e => hab (by rw [← q, e]; exact cb.2)
        have cr : rel c x y v = y := by unfold rel; rw [if_pos q]
        rw [if_pos q, if_neg vy, hAn v j (by rw [q]; exact Ne.symm z), q]
        unfold NR
        rw [cr, if_neg (Ne.symm vy)]
        grind
      · have cr : rel c x y v = c v := by unfold rel; rw [if_neg q]
        rw [if_neg q]
        unfold NR
        rw [cr]
        by_cases r : c v = v
        · rw [if_pos r]
          by_cases vy : v = y
          · rw [if_pos vy, vy, rowS_y hab, hAr y j cb.2, hAr x j ca.2]; grind
          · rw [if_neg vy, rowS_ne z vy, hAr v j r]; grind
        · rw [if_neg r, if_neg (fun e => r (by rw [e]; exact cb.2)), hAn v j r]; grind
  by_cases yw : y = w
  · have e : det w (NR c ((a, b) :: es)) = det w (upR A x (fun j => A x j + 1 * u j)) := by
      refine det_ext (fun v j hv _ => ?_)
      rw [row]
      by_cases z : v = x
      · rw [if_pos z, z, upR_at]
      · rw [if_neg z, if_neg (by omega), upR_ne z]
    rw [e, det_lin hxw, upR_id, key A (fun v j hv _ => by rw [if_neg (by omega)]), ← hA]
    grind
  · have yl : y < w := by omega
    have e : det w (NR c ((a, b) :: es)) = det w (upR (upR A x (fun j => A x j + 1 * u j)) y (fun j => A y j + -1 * u j)) := by
      refine det_ext (fun v j hv _ => ?_)
      rw [row]
      by_cases z2 : v = y
      · rw [if_neg (by omega), if_pos z2, z2, upR_at]
      · rw [if_neg z2, upR_ne z2]
        by_cases z : v = x
        · rw [if_pos z, z, upR_at]
        · rw [if_neg z, upR_ne z]
    have s1 : det w (upR (upR A x (fun j => A x j + 1 * u j)) y (A y)) = det w A + det w (upR A x u) := by
      have : upR (upR A x (fun j => A x j + 1 * u j)) y (A y) = upR A x (fun j => A x j + 1 * u j) := by
        rw [upR_comm hab, upR_id]
      rw [this, det_lin hxw, upR_id]; grind
    have s2 : det w (upR (upR A x (fun j => A x j + 1 * u j)) y u) = det w (upR A y u) := by
      rw [upR_comm hab, det_lin hxw]
      have z : det w (upR (upR A y u) x u) = 0 := det_same hxw yl hab (fun j => by rw [upR_at, upR_ne (Ne.symm hab), upR_at])
      have i : upR (upR A y u) x (A x) = upR A y u := by rw [upR_comm (Ne.symm hab), upR_id]
      rw [z, i]; grind
    have s3 : det w (upR A y u) = - det w (upR (upR A x u) y (A x)) := by
      have := det_swap (m := w) (A := A) (r := x) (s := y) (x := A x) (y := u) hxw yl hab
      rw [upR_id] at this
      exact this
    have s4 : det w (upR (upR A x u) y (fun j => A y j + 1 * A x j)) = det w (upR A x u) + det w (upR (upR A x u) y (A x)) := by
      rw [det_lin yl]
      have i : upR (upR A x u) y (A y) = upR A x u := by rw [upR_comm hab, upR_id]
      rw [i]; grind
    have s5 : det w (upR (upR A x u) y (fun j => A y j + 1 * A x j)) = det w (NR (rel c x y) es) := by
      rw [upR_comm hab]
      refine key _ (fun v j hv z => ?_)
      by_cases q : v = y
      · rw [q, upR_at, if_pos rfl]
      · rw [upR_ne q, if_neg q]
    rw [e, det_lin yl, s1, s2, s3, ← hA]
    grind
theorem NR_sym (c : Nat → Nat) (a b : Nat) (es : List (Nat × Nat)) : NR c ((a, b) :: es) = NR c ((b, a) :: es) := by
  funext v j
  unfold NR
  by_cases q : c v = v
  · rw [if_pos q, if_pos q]
    show rowS c es v j + (dlt (c a) v - dlt (c b) v) * (dlt a j - dlt b j) = rowS c es v j + (dlt (c b) v - dlt (c a) v) * (dlt b j - dlt a j)
    grind
  · rw [if_neg q, if_neg q]
theorem NR_loop {c : Nat → Nat} {a b : Nat} {es : List (Nat × Nat)} (h : c a = c b) : NR c ((a, b) :: es) = NR c es := by
  funext v j
  unfold NR
  by_cases q : c v = v
  · rw [if_pos q, if_pos q]
    show rowS c es v j + (dlt (c a) v - dlt (c b) v) * (dlt a j - dlt b j) = rowS c es v j
    rw [h]; grind
  · rw [if_neg q, if_neg q]
def mg (w : Nat) (c : Nat → Nat) (a b : Nat) : Nat → Nat := if c a = w then rel c (c b) (c a) else rel c (c a) (c b)
theorem mg_eq {w : Nat} {c : Nat → Nat} {a b u v : Nat} : mg w c a b u = mg w c a b v ↔ (c u = c v ∨ ((c u = c a ∨ c u = c b) ∧ (c v = c a ∨ c v = c b))) := by
  have key : ∀ x y, rel c x y u = rel c x y v ↔ (c u = c v ∨ ((c u = x ∨ c u = y) ∧ (c v = x ∨ c v = y))) := by
    intro x y
    unfold rel
    by_cases h1 : c u = x
    · rw [if_pos h1]
      by_cases h2 : c v = x
      · rw [if_pos h2]; omega
      · rw [if_neg h2]; omega
    · rw [if_neg h1]
      by_cases h2 : c v = x
      · rw [if_pos h2]; omega
      · rw [if_neg h2]; omega
  unfold mg
  by_cases h : c a = w
  · rw [if_pos h, key]; omega
  · rw [if_neg h, key]
theorem LB_mg {w a b : Nat} {c : Nat → Nat} (h : LB w c) (ha : a ≤ w) (hb : b ≤ w) : LB w (mg w c a b) := by
  have ca := h.1 a ha
  have cb := h.1 b hb
  unfold mg
  by_cases q : c a = c b
  · have e : ∀ x, rel c x x = c := fun x => by
      funext v
      unfold rel
      by_cases z : c v = x
      · rw [if_pos z, z]
      · rw [if_neg z]
    rw [q]
    split <;> rw [e] <;> exact h
  · by_cases z : c a = w
    · rw [if_pos z]
      exact LB_rel h (by omega) ca.1 ca.2 (Ne.symm q)
    · rw [if_neg z]
      exact LB_rel h z cb.1 cb.2 q
/-- the number of trees, by deletion and contraction -/
def TC (w : Nat) : (Nat → Nat) → List (Nat × Nat) → Nat
  | c, [] => if ∀ v, v < w → c v ≠ v then 1 else 0
  | c, e :: es => TC w c es + (if c e.1 = c e.2 then 0 else TC w (mg w c e.1 e.2) es)
theorem det_TC {w : Nat} : ∀ (es : List (Nat × Nat)) (c : Nat → Nat), LB w c → (∀ e ∈ es, e.1 ≤ w ∧ e.2 ≤ w) → det w (NR c es) = (TC w c es : Rat) := by
  intro es
  induction es with
  | nil =>
    intro c hc _
    rw [TC]
    by_cases h : ∀ v, v < w → c v ≠ v
    · rw [if_pos h]
      have := det_blk (m := w) (k := 0) (A := NR c []) (Nat.zero_le _) (fun i j _ hi hj => by
        unfold NR
        have cw : c i = w := by
          have := hc.1 i (by omega)
          rcases Nat.lt_or_ge (c i) w with z | z
          · exact absurd this.2 (h _ z)
          · omega
        rw [if_neg (h i hi), cw, dlt_n (i := w) (by omega)]
        unfold dlt
        grind)
      rw [this]
      rfl
    · rw [if_neg h]
      obtain ⟨v, hv⟩ := Classical.not_forall.mp h
      obtain ⟨h1, h2⟩ := Classical.not_imp.mp hv
      have h2 := Classical.not_not.mp h2
      rw [det_zr h1 (fun j => by unfold NR; rw [if_pos h2]; rfl)]
      rfl
  | cons e es ih =>
    intro c hc he
    obtain ⟨a, b⟩ := e
    have hab : a ≤ w ∧ b ≤ w := he (a, b) (by simp)
    have hr : ∀ e ∈ es, e.1 ≤ w ∧ e.2 ≤ w := fun e h => he e (by simp [h])
    have hm := LB_mg hc hab.1 hab.2
    rw [TC]
    dsimp only
    by_cases q : c a = c b
    · rw [if_pos q, NR_loop q, ih c hc hr, Nat.add_zero]
    · rw [if_neg q]
      have hcast : ((TC w c es + TC w (mg w c a b) es : Nat) : Rat) = (TC w c es : Rat) + (TC w (mg w c a b) es : Rat) := by rw [Rat.natCast_add]
      rw [hcast, ← ih c hc hr, ← ih _ hm hr]
      by_cases z : c a = w
      · rw [NR_sym, NR_dc hc hab.2 hab.1 (Ne.symm q) (by omega)]
        unfold mg
        rw [if_pos z]
      · rw [NR_dc hc hab.1 hab.2 q z]
        unfold mg
        rw [if_neg z]
theorem TC_mono {w : Nat} : ∀ (es : List (Nat × Nat)) (c c' : Nat → Nat), LB w c → LB w c' → (∀ e ∈ es, e.1 ≤ w ∧ e.2 ≤ w) → (∀ u v, u ≤ w → v ≤ w → c u = c v → c' u = c' v) → 0 < TC w c es → 0 < TC w c' es := by
  intro es
  induction es with
  | nil =>
    intro c c' hc hc' _ hco h
    rw [TC] at h ⊢
    by_cases q : ∀ v, v < w → c v ≠ v
    · have : ∀ v, v < w → c' v ≠ v := by
        intro v hv e
        have a := hc.1 v (by omega)
        have cw : c v = w := by
          rcases Nat.lt_or_ge (c v) w with z | z
          · exact absurd a.2 (q _ z)
          · omega
        have := hco v w (by omega) (Nat.le_refl _) (by rw [cw, hc.2])
        rw [hc'.2] at this
        omega
      rw [if_pos this]; decide
    · rw [if_neg q] at h; omega
  | cons e es ih =>
    intro c c' hc hc' he hco h
    obtain ⟨a, b⟩ := e
    have hab : a ≤ w ∧ b ≤ w := he (a, b) (by simp)
    have hr : ∀ e ∈ es, e.1 ≤ w ∧ e.2 ≤ w := fun e h => he e (by simp [h])
    rw [TC] at h ⊢
    dsimp only at h ⊢
    by_cases z : 0 < TC w c es
    · have := ih c c' hc hc' hr hco z
      omega
    · by_cases q : c a = c b
      · rw [if_pos q] at h; omega
      · rw [if_neg q] at h
        have hp : 0 < TC w (mg w c a b) es := by omega
        by_cases q' : c' a = c' b
        · have := ih _ c' (LB_mg hc hab.1 hab.2) hc' hr (fun u v hu hv e => by
            rcases mg_eq.mp e with r | ⟨r1, r2⟩
            · exact hco u v hu hv r
            · have t1 : c' u = c' a := by
                rcases r1 with r | r
                · exact hco u a hu hab.1 r
                · rw [hco u b hu hab.2 r, q']
              have t2 : c' v = c' a := by
                rcases r2 with r | r
                · exact hco v a hv hab.1 r
                · rw [hco v b hv hab.2 r, q']
              rw [t1, t2]) hp
          omega
        · rw [if_neg q']
          have := ih _ _ (LB_mg hc hab.1 hab.2) (LB_mg hc' hab.1 hab.2) hr (fun u v hu hv e => by
            rw [mg_eq]
            rcases mg_eq.mp e with r | ⟨r1, r2⟩
            · exact Or.inl (hco u v hu hv r)
            · right
              refine ⟨?_, ?_⟩
              · rcases r1 with r | r
                · exact Or.inl (hco u a hu hab.1 r)
                · exact Or.inr (hco u b hu hab.2 r)
              · rcases r2 with r | r
                · exact Or.inl (hco v a hv hab.1 r)
                · exact Or.inr (hco v b hv hab.2 r)) hp
          omega
theorem LB_id (w : Nat) : LB w (fun v => v) := ⟨fun v hv => ⟨hv, rfl⟩, rfl⟩
/-- the leading minors -/
theorem det_lead {w k : Nat} {es : List (Nat × Nat)} (hk : k ≤ w) (he : ∀ e ∈ es, e.1 ≤ w ∧ e.2 ≤ w) (h0 : det k (NR (fun v => v) es) = 0) : det w (NR (fun v => v) es) = 0 := by
  obtain ⟨c, hc⟩ : ∃ c : Nat → Nat, c = fun v => if v < k then v else w := ⟨_, rfl⟩
  have hcv : ∀ v, c v = if v < k then v else w := fun v => by rw [hc]
  have lb : LB w c := by
    refine ⟨fun v hv => ?_, by rw [hcv, if_neg (by omega)]⟩
    by_cases q : v < k
    · rw [hcv v, if_pos q, hcv v, if_pos q]; exact ⟨hv, rfl⟩
    · rw [hcv v, if_neg q, hcv w, if_neg (by omega)]; exact ⟨Nat.le_refl _, rfl⟩
  have e1 : det w (NR c es) = det k (NR c es) := by
    refine det_blk hk (fun i j h1 h2 h3 => ?_)
    unfold NR
    have ci : c i = w := by rw [hcv, if_neg (by omega)]
    rw [ci, if_neg (by omega), dlt_n (i := w) (by omega)]
    unfold dlt
    grind
  have e2 : det k (NR c es) = det k (NR (fun v => v) es) := by
    refine det_ext (fun v j hv hj => ?_)
    unfold NR
    rw [hcv v, if_pos hv, if_pos rfl, if_pos rfl]
    have dd : ∀ z, dlt (c z) v = dlt z v := by
      intro z
      by_cases q : z < k
      · rw [hcv, if_pos q]
      · rw [hcv, if_neg q, dlt_n (by omega), dlt_n (by omega)]
    have : ∀ es, rowS c es v j = rowS (fun v => v) es v j := by
      intro es
      induction es with
      | nil => rfl
      | cons e es ih => rw [rowS, rowS, ih, dd, dd]
    exact this es
  rw [det_TC es _ (LB_id w) he]
  rw [e2, h0] at e1
  rw [det_TC es c lb he] at e1
  have z : TC w c es = 0 := by
    have : ((TC w c es : Nat) : Rat) = ((0 : Nat) : Rat) := by rw [e1]; rfl
    exact Rat.natCast_inj.mp this
  have : TC w (fun v => v) es = 0 := by
    apply Classical.byContradiction
    intro q
    have := TC_mono es _ c (LB_id w) lb he (fun u v _ _ e => by rw [e]) (by omega)
    omega
  rw [this]
  rfl
