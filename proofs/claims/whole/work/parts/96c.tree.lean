/-! trees: the reference's count -/
def prT : List (Nat × Nat) := [(0, 1), (0, 2), (1, 2), (0, 3), (1, 3), (2, 3), (0, 4), (1, 4), (2, 4), (3, 4), (0, 5), (1, 5), (2, 5), (3, 5), (4, 5), (0, 6), (1, 6), (2, 6), (3, 6), (4, 6), (5, 6)]
def prL (l : Nat) : Nat × Nat := prT.getD l (0, 1)
theorem pr_f : ∀ l, l < 21 → bt (prL l).1 (prL l).2 = l ∧ (prL l).1 < (prL l).2 ∧ (prL l).2 < 7 := by decide +kernel
theorem pr_n : ∀ n, n < 8 → ∀ l, l < 21 → l < tri n → (prL l).2 < n := by decide +kernel
def esF (C : Nat) : Nat → Nat → List (Nat × Nat)
  | _, 0 => []
  | l, k + 1 => if C.testBit l = true then prL l :: esF C (l + 1) k else esF C (l + 1) k
theorem esF_in {C n : Nat} (hn : n ≤ 7) : ∀ k l, l + k ≤ tri n → ∀ e ∈ esF C l k, e.1 < e.2 ∧ e.2 < n := by
  intro k
  induction k with
  | zero => intro l _ e he; simp [esF] at he
  | succ k ih =>
    intro l hl e he
    have ht := tri_le hn
    rw [esF] at he
    by_cases q : C.testBit l = true
    · rw [if_pos q] at he
      rcases List.mem_cons.mp he with z | z
      · rw [z]
        exact ⟨(pr_f l (by omega)).2.1, pr_n n (by omega) l (by omega) (by omega)⟩
      · exact ih (l + 1) (by omega) e z
    · rw [if_neg q] at he
      exact ih (l + 1) (by omega) e he
def Rl (n C : Nat) (c : Nat → Nat) : Prop := ∀ u v, u < n → v < n → ((pcO (rowOf n C) n u).testBit v = true ↔ c u = c v)
theorem Rl0 {n : Nat} (hn : n ≤ 7) : Rl n 0 (fun v => v) := by
  intro u v hu hv
  have hs := pcO_spec (g := rowOf n 0) hn (rowOf_lt' n 0) hu
  constructor
  · intro h
    have hc : Clo (rowOf n 0) n (2 ^ u) := fun x _ _ i hi => by
      rw [rowOf_tb] at hi
      simp [adj] at hi
    have := hs.2.2.2 _ hc (Sub.rf _) v h
    rw [Nat.testBit_two_pow] at this
    exact of_decide_eq_true this
  · intro h
    have h : u = v := h
    rw [← h]
    exact hs.2.1 u (by rw [Nat.testBit_two_pow]; exact decide_eq_true rfl)
theorem adj_or {C a b u v : Nat} (hC : C.testBit (bt a b) = false) (hab : a ≠ b) (ha : a < 7) (hb : b < 7) (hu : u < 7) (hv : v < 7) : adj (C ||| 2 ^ bt a b) u v = true ↔ (adj C u v = true ∨ (a = u ∧ b = v) ∨ (a = v ∧ b = u)) := by
  rw [← xor_or2 hC, adj_xor hab ha hb hu hv]
  by_cases q : (a = u ∧ b = v) ∨ (a = v ∧ b = u)
  · have hz : adj C u v = false := by
      unfold adj
      rcases q with ⟨rfl, rfl⟩ | ⟨rfl, rfl⟩
      · rw [hC, Bool.and_false]
      · rw [bt_comm, hC, Bool.and_false]
    rw [hz, decide_eq_true q]
    exact ⟨fun _ => Or.inr q, fun _ => rfl⟩
  · rw [decide_eq_false q, Bool.xor_false]
    exact ⟨Or.inl, fun z => z.elim id (fun z => absurd z q)⟩
theorem Rl_add {n C w a b : Nat} {c : Nat → Nat} (hn : n ≤ 7) (hC : C.testBit (bt a b) = false) (hab : a ≠ b) (ha : a < n) (hb : b < n) (hR : Rl n C c) : Rl n (C ||| 2 ^ bt a b) (mg w c a b) := by
  intro u v hu hv
  have hs := pcO_spec (g := rowOf n (C ||| 2 ^ bt a b)) hn (rowOf_lt' n _) hu
  obtain ⟨P, hP⟩ : ∃ P, P = pcO (rowOf n (C ||| 2 ^ bt a b)) n u := ⟨_, rfl⟩
  rw [← hP] at hs
  rw [← hP]
  obtain ⟨_, s1, s2, s3⟩ := hs
  have row : ∀ x y, (rowOf n (C ||| 2 ^ bt a b) x).testBit y = true ↔ (x < n ∧ y < n ∧ (adj C y x = true ∨ (a = y ∧ b = x) ∨ (a = x ∧ b = y))) := by
    intro x y
    rw [rowOf_tb, Bool.and_eq_true, Bool.and_eq_true, decide_eq_true_iff, decide_eq_true_iff]
    constructor
    · rintro ⟨⟨h1, h2⟩, h3⟩
      exact ⟨h1, h2, (adj_or hC hab (by omega) (by omega) (by omega) (by omega)).mp h3⟩
    · rintro ⟨h1, h2, h3⟩
      exact ⟨⟨h1, h2⟩, (adj_or hC hab (by omega) (by omega) (by omega) (by omega)).mpr h3⟩
  have old : ∀ x y, x < n → y < n → adj C y x = true → c x = c y := by
    intro x y hx hy h
    have hx' := pcO_spec (g := rowOf n C) hn (rowOf_lt' n C) hx
    refine (hR x y hx hy).mp (hx'.2.2.1 x hx (hx'.2.1 x (by rw [Nat.testBit_two_pow]; exact decide_eq_true rfl)) y ?_)
    rw [rowOf_tb, decide_eq_true hx, decide_eq_true hy, h]; rfl
  constructor
  · intro h
    have hc : Clo (rowOf n (C ||| 2 ^ bt a b)) n (bsum (fun y => decide (mg w c a b u = mg w c a b y)) n) := by
      intro x hx hb1 y hy
      rw [bsum_tb, Bool.and_eq_true] at hb1
      have e1 := of_decide_eq_true hb1.2
      obtain ⟨_, hyn, hy⟩ := (row x y).mp hy
      rw [bsum_tb, decide_eq_true hyn, Bool.true_and]
      refine decide_eq_true (e1.trans ?_)
      rw [mg_eq]
      rcases hy with z | ⟨rfl, rfl⟩ | ⟨rfl, rfl⟩
      · exact Or.inl (old x y hx hyn z)
      · exact Or.inr ⟨Or.inr rfl, Or.inl rfl⟩
      · exact Or.inr ⟨Or.inl rfl, Or.inr rfl⟩
    have := s3 _ hc (fun i hi => by
      rw [Nat.testBit_two_pow] at hi
      have e := of_decide_eq_true hi
      rw [← e, bsum_tb, decide_eq_true hu, Bool.true_and]
      exact decide_eq_true rfl) v h
    rw [bsum_tb, Bool.and_eq_true] at this
    exact of_decide_eq_true this.2
  · intro h
    have clo : Clo (rowOf n C) n P := by
      intro x hx hb1 y hy
      refine s2 x hx hb1 y ?_
      rw [rowOf_tb, Bool.and_eq_true, Bool.and_eq_true, decide_eq_true_iff, decide_eq_true_iff] at hy
      exact (row x y).mpr ⟨hy.1.1, hy.1.2, Or.inl hy.2⟩
    have f1 : ∀ x y, x < n → y < n → P.testBit x = true → c x = c y → P.testBit y = true := by
      intro x y hx hy hp e
      have hx' := pcO_spec (g := rowOf n C) hn (rowOf_lt' n C) hx
      refine hx'.2.2.2 P clo (fun i hi => ?_) y ((hR x y hx hy).mpr e)
      rw [Nat.testBit_two_pow] at hi
      rw [← of_decide_eq_true hi]; exact hp
    have fab : P.testBit a = true → P.testBit b = true := fun z => s2 a ha z b ((row a b).mpr ⟨ha, hb, Or.inr (Or.inr ⟨rfl, rfl⟩)⟩)
    have fba : P.testBit b = true → P.testBit a = true := fun z => s2 b hb z a ((row b a).mpr ⟨hb, ha, Or.inr (Or.inl ⟨rfl, rfl⟩)⟩)
    have uu : P.testBit u = true := s1 u (by rw [Nat.testBit_two_pow]; exact decide_eq_true rfl)
    rcases mg_eq.mp h with e | ⟨e1, e2⟩
    · exact f1 u v hu hv uu e
    · have both : P.testBit a = true ∧ P.testBit b = true := by
        rcases e1 with e | e
        · have := f1 u a hu ha uu e
          exact ⟨this, fab this⟩
        · have := f1 u b hu hb uu e
          exact ⟨fba this, this⟩
      rcases e2 with e | e
      · exact f1 a v ha hv both.1 e.symm
      · exact f1 b v hb hv both.2 e.symm
def fstC (c : Nat → Nat) (v : Nat) : Bool := decide (∀ u, u < v → c u ≠ c v)
def kc (n : Nat) (c : Nat → Nat) : Nat := cnt (fstC c) n
theorem pcN_kc {n C : Nat} {c : Nat → Nat} (hR : Rl n C c) : pcN n C = kc n c := by
  have lp : ∀ v, v ≤ n → (∀ x, x < n → ((pcs (rowOf n C) n v).1.testBit x = true ↔ ∃ u, u < v ∧ c u = c x)) ∧ (pcs (rowOf n C) n v).2 = cnt (fstC c) v := by
    intro v
    induction v with
    | zero =>
      intro _
      refine ⟨fun x _ => ?_, rfl⟩
      rw [pcs]
      simp
    | succ v ih =>
      intro hv
      obtain ⟨h1, h2⟩ := ih (by omega)
      rw [pcs, cnt]
      by_cases q : (pcs (rowOf n C) n v).1.testBit v = true
      · rw [if_pos q]
        obtain ⟨u0, hu0, e0⟩ := (h1 v (by omega)).mp q
        have hf : fstC c v = false := by unfold fstC; exact decide_eq_false (fun z => z u0 hu0 e0)
        refine ⟨fun x hx => ?_, by rw [h2, hf]; rfl⟩
        rw [h1 x hx]
        constructor
        · rintro ⟨u, hu, e⟩; exact ⟨u, by omega, e⟩
        · rintro ⟨u, hu, e⟩
          by_cases z : u = v
          · exact ⟨u0, hu0, by rw [e0, ← z, e]⟩
          · exact ⟨u, by omega, e⟩
      · rw [if_neg q]
        have hf : fstC c v = true := by
          unfold fstC
          refine decide_eq_true (fun u hu e => q ((h1 v (by omega)).mpr ⟨u, hu, e⟩))
        refine ⟨fun x hx => ?_, by rw [h2, hf]; rfl⟩
        dsimp only
        rw [Nat.testBit_or, Bool.or_eq_true, h1 x hx, hR v x (by omega) hx]
        constructor
        · rintro (⟨u, hu, e⟩ | e)
          · exact ⟨u, by omega, e⟩
          · exact ⟨v, by omega, e⟩
        · rintro ⟨u, hu, e⟩
          by_cases z : u = v
          · right; rw [← z]; exact e
          · left; exact ⟨u, by omega, e⟩
  exact (lp n (Nat.le_refl _)).2
theorem kc_id (n : Nat) : kc n (fun v => v) = n := by
  unfold kc
  rw [show cnt (fstC (fun v => v)) n = cnt (fun _ => true) n from cnt_ext (fun v _ => by unfold fstC; exact decide_eq_true (fun u hu => Nat.ne_of_lt hu)), cnt_true]
theorem cnt_rm (Q : Nat → Bool) (M : Nat) : ∀ n, cnt (fun v => Q v && decide (v ≠ M)) n + (if M < n ∧ Q M = true then 1 else 0) = cnt Q n := by
  intro n
  induction n with
  | zero => rfl
  | succ n ih =>
    rw [cnt, cnt, ← ih]
    by_cases e : n = M
    · subst e
      by_cases q : Q n = true <;> simp [q]
    · have hM : M < n + 1 ↔ M < n := by omega
      rw [decide_eq_true e, Bool.and_true]
      by_cases q : M < n ∧ Q M = true
      · rw [if_pos q, if_pos (c := M < n + 1 ∧ Q M = true) ⟨by omega, q.2⟩]; omega
      · rw [if_neg q, if_neg (c := M < n + 1 ∧ Q M = true) (fun z => q ⟨by omega, z.2⟩)]; omega
theorem least {P : Nat → Prop} : ∀ a, P a → ∃ p, p ≤ a ∧ P p ∧ ∀ u, u < p → ¬ P u := by
  intro a
  induction a using Nat.strongRecOn with
  | _ a ih =>
    intro h
    by_cases q : ∃ u, u < a ∧ P u
    · obtain ⟨u, hu, pu⟩ := q
      obtain ⟨p, h1, h2, h3⟩ := ih u hu pu
      exact ⟨p, by omega, h2, h3⟩
    · exact ⟨a, Nat.le_refl _, h, fun u hu pu => q ⟨u, hu, pu⟩⟩
theorem kc_mg {n w a b : Nat} {c : Nat → Nat} (ha : a < n) (hb : b < n) (hab : c a ≠ c b) : kc n (mg w c a b) + 1 = kc n c := by
  obtain ⟨p, hp1, hp2, hp3⟩ := least (P := fun u => c u = c a) a rfl
  obtain ⟨q, hq1, hq2, hq3⟩ := least (P := fun u => c u = c b) b rfl
  have hpq : p ≠ q := fun e => hab (by rw [← hp2, e, hq2])
  obtain ⟨M, hM⟩ : ∃ M, M = max p q := ⟨_, rfl⟩
  have e : ∀ v, fstC (mg w c a b) v = (fstC c v && decide (v ≠ M)) := by
    intro v
    rw [Bool.eq_iff_iff, Bool.and_eq_true]
    unfold fstC
    rw [decide_eq_true_iff, decide_eq_true_iff, decide_eq_true_iff]
    constructor
    · intro h
      refine ⟨fun u hu z => h u hu (mg_eq.mpr (Or.inl z)), fun z => ?_⟩
      rcases Nat.lt_or_ge p q with r | r
      · exact h p (by omega) (mg_eq.mpr (Or.inr ⟨Or.inl hp2, Or.inr (by rw [z, show M = q by omega]; exact hq2)⟩))
      · exact h q (by omega) (mg_eq.mpr (Or.inr ⟨Or.inr hq2, Or.inl (by rw [z, show M = p by omega]; exact hp2)⟩))
    · rintro ⟨h1, h2⟩ u hu z
      rcases mg_eq.mp z with r | ⟨r1, r2⟩
      · exact h1 u hu r
      · rcases r2 with r2 | r2
        · have vp : v = p := by
            have x1 : ¬ p < v := fun y => h1 p y (by rw [hp2, r2])
            have x2 : ¬ v < p := fun y => hp3 v y r2
            omega
          rcases r1 with r1 | r1
          · exact h1 u hu (by rw [r1, r2])
          · have : ¬ u < q := fun y => hq3 u y r1
            omega
        · have vq : v = q := by
            have x1 : ¬ q < v := fun y => h1 q y (by rw [hq2, r2])
            have x2 : ¬ v < q := fun y => hq3 v y r2
            omega
          rcases r1 with r1 | r1
          · have : ¬ u < p := fun y => hp3 u y r1
            omega
          · exact h1 u hu (by rw [r1, r2])
  have hf : fstC c M = true := by
    unfold fstC
    refine decide_eq_true (fun u hu z => ?_)
    rcases Nat.lt_or_ge p q with r | r
    · rw [show M = q by omega] at hu z
      exact hq3 u hu (by rw [z, hq2])
    · rw [show M = p by omega] at hu z
      exact hp3 u hu (by rw [z, hp2])
  have := cnt_rm (fstC c) M n
  rw [if_pos ⟨by omega, hf⟩] at this
  unfold kc
  rw [← this, cnt_ext (fun v _ => e v)]
theorem kc_pos {n : Nat} {c : Nat → Nat} (hn : 0 < n) : 0 < kc n c := by
  unfold kc
  have := cnt_slt (p := fun _ => false) (q := fstC c) (n := n) (fun _ _ h => Bool.noConfusion h) ⟨0, hn, by unfold fstC; exact decide_eq_true (fun u hu => by omega), rfl⟩
  omega
theorem kc_1 {w : Nat} {c : Nat → Nat} (hc : LB w c) : kc (w + 1) c = 1 ↔ ∀ v, v < w → c v ≠ v := by
  constructor
  · intro h v hv e
    have := kc_mg (n := w + 1) (w := w) (c := c) (a := v) (b := w) (by omega) (by omega) (by rw [e, hc.2]; omega)
    have := kc_pos (n := w + 1) (c := mg w c v w) (by omega)
    omega
  · intro h
    have all : ∀ v, v ≤ w → c v = w := by
      intro v hv
      have := hc.1 v hv
      rcases Nat.lt_or_ge (c v) w with z | z
      · exact absurd this.2 (h _ z)
      · omega
    unfold kc
    have e : ∀ v, v < w + 1 → fstC c v = decide (v = 0) := by
      intro v hv
      unfold fstC
      by_cases q : v = 0
      · rw [decide_eq_true q]; exact decide_eq_true (fun u hu => by omega)
      · rw [decide_eq_false q]; exact decide_eq_false (fun z => z 0 (by omega) (by rw [all 0 (by omega), all v (by omega)]))
    rw [cnt_ext e]
    have : ∀ w, cnt (fun v => decide (v = 0)) (w + 1) = 1 := by
      intro w
      induction w with
      | zero => rfl
      | succ w ih => rw [cnt, ih, decide_eq_false (by omega)]; rfl
    exact this w
def tfN (n C : Nat) : Nat → Nat → Nat → Nat
  | _, 0, t => if pop t = n - 1 then (if pcN n t = 1 then 1 else 0) else 0
  | l, k + 1, t => if pop t = n - 1 then (if pcN n t = 1 then 1 else 0) else tfN n C (l + 1) k t + (if C.testBit l = true ∧ pcN n (t ||| 2 ^ l) < pcN n t then tfN n C (l + 1) k (t ||| 2 ^ l) else 0)
theorem tfN_le (n C : Nat) : ∀ k l t, tfN n C l k t ≤ 2 ^ k := by
  intro k
  induction k with
  | zero => intro l t; rw [tfN]; split <;> (try split) <;> decide
  | succ k ih =>
    intro l t
    have h1 := ih (l + 1) t
    have h2 := ih (l + 1) (t ||| 2 ^ l)
    have h3 := Nat.two_pow_pos k
    rw [tfN, Nat.pow_succ]
    split
    · split <;> omega
    · split <;> omega
theorem TC_all {w : Nat} {c : Nat → Nat} (hc : LB w c) (h : ∀ v, v < w → c v ≠ v) : ∀ es : List (Nat × Nat), (∀ e ∈ es, e.1 ≤ w ∧ e.2 ≤ w) → TC w c es = 1 := by
  have all : ∀ v, v ≤ w → c v = w := by
    intro v hv
    have := hc.1 v hv
    rcases Nat.lt_or_ge (c v) w with z | z
    · exact absurd this.2 (h _ z)
    · omega
  intro es
  induction es with
  | nil => intro _; rw [TC, if_pos h]
  | cons e es ih =>
    intro he
    have := he e (by simp)
    rw [TC, ih (fun e h => he e (by simp [h])), if_pos (by rw [all _ this.1, all _ this.2])]
theorem pop_or {t l : Nat} (ht : t < 2 ^ l) (hl : l < 24) : pop (t ||| 2 ^ l) = pop t + 1 := by
  have hlt : t ||| 2 ^ l < 2 ^ (l + 1) := Nat.or_lt_two_pow (Nat.lt_of_lt_of_le ht (Nat.pow_le_pow_right (by decide) (by omega))) (Nat.pow_lt_pow_right (by decide) (by omega))
  rw [pop_eq hlt (by omega), pop_eq ht (by omega), cnt]
  have e : ∀ i, i < l → (t ||| 2 ^ l).testBit i = t.testBit i := fun i hi => by rw [Nat.testBit_or, Nat.testBit_two_pow, decide_eq_false (by omega), Bool.or_false]
  rw [cnt_ext e, Nat.testBit_or, Nat.testBit_two_pow, decide_eq_true rfl, Bool.or_true]
  rfl
theorem tf_TC {w C : Nat} (hw : w < 7) : ∀ k l t c, l + k = tri (w + 1) → t < 2 ^ l → LB w c → Rl (w + 1) t c → pop t + kc (w + 1) c = w + 1 → tfN (w + 1) C l k t = TC w c (esF C l k) := by
  have ht := tri_le (n := w + 1) (by omega)
  intro k
  induction k with
  | zero =>
    intro l t c hl hlt hc hR hk
    rw [tfN, esF, TC, pcN_kc hR]
    have k1 := kc_1 hc
    by_cases q : pop t = w + 1 - 1
    · rw [if_pos q, if_pos (by omega), if_pos (k1.mp (by omega))]
    · rw [if_neg q, if_neg (fun z => q (by have := k1.mpr z; omega))]
  | succ k ih =>
    intro l t c hl hlt hc hR hk
    have k1 := kc_1 hc
    have hes : ∀ e ∈ esF C l (k + 1), e.1 ≤ w ∧ e.2 ≤ w := fun e he => by
      have := esF_in (C := C) (n := w + 1) (by omega) (k + 1) l (by omega) e he
      omega
    rw [tfN]
    by_cases q : pop t = w + 1 - 1
    · rw [if_pos q, pcN_kc hR, if_pos (by omega), TC_all hc (k1.mp (by omega)) _ hes]
    · obtain ⟨a, b, hab⟩ : ∃ a b, (a, b) = prL l := ⟨_, _, rfl⟩
      have pf := pr_f l (by omega)
      have pn := pr_n (w + 1) (by omega) l (by omega) (by omega)
      rw [← hab] at pf pn
      obtain ⟨p1, p2, p3⟩ := pf
      have p1 : bt a b = l := p1
      have p2 : a < b := p2
      have pn : b < w + 1 := pn
      have htl : t < 2 ^ (l + 1) := Nat.lt_of_lt_of_le hlt (Nat.pow_le_pow_right (by decide) (by omega))
      rw [if_neg q, ih (l + 1) t c (by omega) htl hc hR hk, esF]
      by_cases z : C.testBit l = true
      · have htb : t.testBit (bt a b) = false := by rw [p1]; exact Nat.testBit_lt_two_pow hlt
        have hRa := Rl_add (w := w) (by omega) htb (by omega) (by omega) pn hR
        rw [p1] at hRa
        rw [if_pos z, TC, ← hab]
        dsimp only
        rw [pcN_kc hR, pcN_kc hRa]
        by_cases e : c a = c b
        · have em : mg w c a b = c := by
            unfold mg
            have er : ∀ x, rel c x x = c := fun x => by
              funext v
              unfold rel
              by_cases z : c v = x
              · rw [if_pos z, z]
              · rw [if_neg z]
            rw [e]
            split <;> rw [er]
          rw [em, if_neg (by omega), if_pos e]
        · have hm := kc_mg (n := w + 1) (w := w) (c := c) (a := a) (b := b) (by omega) pn e
          rw [if_pos ⟨z, by omega⟩, if_neg e, ih (l + 1) (t ||| 2 ^ l) _ (by omega) (Nat.or_lt_two_pow htl (Nat.pow_lt_pow_right (by decide) (by omega))) (LB_mg hc (by omega) (by omega)) hRa (by rw [pop_or hlt (by omega)]; omega)]
      · rw [if_neg z, if_neg (fun y => z y.1), Nat.add_zero]
def trN (n C : Nat) : Nat := TC (n - 1) (fun v => v) (esF C 0 (tri n))
theorem tf_0 {n C : Nat} (hn : n ≤ 7) (h1 : 0 < n) : tfN n C 0 (tri n) 0 = trN n C := by
  obtain ⟨w, rfl⟩ : ∃ w, n = w + 1 := ⟨n - 1, by omega⟩
  unfold trN
  rw [tf_TC (by omega) (tri (w + 1)) 0 0 (fun v => v) (by omega) (by decide) (LB_id w) (Rl0 (by omega)) (by rw [kc_id, show pop 0 = 0 from by rw [pop_eq (n := 0) (by decide) (by decide)]; rfl]; omega)]
  rfl
