/-! what the search over all numberings finds; symmetries -/
def sumN (f : Nat → Nat) : Nat → Nat
  | 0 => 0
  | n + 1 => sumN f n + f n
theorem sumN_ext {f g : Nat → Nat} : ∀ {n : Nat}, (∀ i, i < n → f i = g i) → sumN f n = sumN g n := by
  intro n
  induction n with
  | zero => intro _; rfl
  | succ n ih => intro h; rw [sumN, sumN, ih (fun i hi => h i (by omega)), h n (by omega)]
theorem sumN_zero {f : Nat → Nat} : ∀ {n : Nat}, (∀ i, i < n → f i = 0) → sumN f n = 0 := by
  intro n
  induction n with
  | zero => intro _; rfl
  | succ n ih => intro h; rw [sumN, ih (fun i hi => h i (by omega)), h n (by omega)]
theorem sumN_del {f : Nat → Nat} {x n : Nat} (hx : x < n + 1) : sumN f (n + 1) = f x + sumN (fun i => f (if i = x then n else i)) n := by
  have key : ∀ m, m ≤ n → (if x < m then sumN (fun i => f (if i = x then n else i)) m + f x = sumN f m + f n else sumN (fun i => f (if i = x then n else i)) m = sumN f m) := by
    intro m
    induction m with
    | zero => intro _; rw [if_neg (by omega)]; rfl
    | succ m ih =>
      intro hm
      have ih := ih (by omega)
      rw [sumN, sumN]
      by_cases h1 : x < m
      · rw [if_pos h1] at ih
        rw [if_pos (by omega), if_neg (by omega)]; omega
      · rw [if_neg h1] at ih
        by_cases h2 : x = m
        · subst h2; rw [if_pos (by omega), if_pos rfl]; omega
        · rw [if_neg (by omega), if_neg (by omega)]; omega
  have := key n (Nat.le_refl _)
  rw [sumN]
  by_cases h1 : x < n
  · rw [if_pos h1] at this; omega
  · rw [if_neg h1] at this
    have : x = n := by omega
    subst this; omega
theorem sumN_perm {f : Nat → Nat} : ∀ {n : Nat} {q : Nat → Nat}, PM n q → sumN (fun i => f (q i)) n = sumN f n := by
  intro n
  induction n with
  | zero => intro q _; rfl
  | succ n ih =>
    intro q h
    obtain ⟨x, hx, hqx⟩ := h.onto (y := n) (by omega)
    rw [sumN_del (f := fun i => f (q i)) hx]
    have hp : PM n (fun i => q (if i = x then n else i)) := by
      have hne : ∀ i, i < n → (if i = x then n else i) < n + 1 ∧ (if i = x then n else i) ≠ x := by
        intro i hi
        by_cases e : i = x
        · rw [if_pos e]; omega
        · rw [if_neg e]; omega
      refine ⟨fun i hi => ?_, fun i j hi hj e => ?_⟩
      · have h1 := h.1 _ (hne i hi).1
        have h2 : q (if i = x then n else i) ≠ n := fun e => (hne i hi).2 (h.2 _ _ (hne i hi).1 hx (by rw [e, hqx]))
        show q (if i = x then n else i) < n
        omega
      · have := h.2 _ _ (hne i hi).1 (hne j hj).1 e
        by_cases e1 : i = x
        · by_cases e2 : j = x
          · omega
          · rw [if_pos e1, if_neg e2] at this; omega
        · by_cases e2 : j = x
          · rw [if_neg e1, if_pos e2] at this; omega
          · rw [if_neg e1, if_neg e2] at this; omega
    have := ih (q := fun i => q (if i = x then n else i)) hp
    rw [this, hqx, sumN, Nat.add_comm]
def mkc (C : Nat) (t : Nat → Nat) : Nat → Nat
  | 0 => 0
  | k + 1 => mor C k t (t k) (mkc C t k) k
theorem mor_ext {C node v made : Nat} {t t' : Nat → Nat} : ∀ a, (∀ b, b < a → t b = t' b) → mor C node t v made a = mor C node t' v made a := by
  intro a
  induction a with
  | zero => intro _; rfl
  | succ a ih => intro h; rw [mor, mor, ih (fun b hb => h b (by omega)), h a (by omega)]
theorem mkc_ext {C : Nat} {t t' : Nat → Nat} : ∀ k, (∀ b, b < k → t b = t' b) → mkc C t k = mkc C t' k := by
  intro k
  induction k with
  | zero => intro _; rfl
  | succ k ih => intro h; rw [mkc, mkc, ih (fun b hb => h b (by omega)), h k (by omega), mor_ext k (fun b hb => h b (by omega))]
theorem mor_tb {C node v made : Nat} {t : Nat → Nat} : ∀ a i, (mor C node t v made a).testBit i = true ↔ made.testBit i = true ∨ ∃ b, b < a ∧ adj C b node = true ∧ bt (t b) v = i := by
  intro a
  induction a with
  | zero => intro i; rw [mor]; exact ⟨Or.inl, fun h => h.elim id (fun ⟨b, hb, _⟩ => by omega)⟩
  | succ a ih =>
    intro i
    rw [mor]
    by_cases hj : adj C a node = true
    · rw [if_pos hj, Nat.testBit_or, Bool.or_eq_true, ih, tb2, decide_eq_true_eq]
      constructor
      · rintro ((h | ⟨b, hb, h1, h2⟩) | h)
        · exact Or.inl h
        · exact Or.inr ⟨b, by omega, h1, h2⟩
        · exact Or.inr ⟨a, by omega, hj, h⟩
      · rintro (h | ⟨b, hb, h1, h2⟩)
        · exact Or.inl (Or.inl h)
        · by_cases e : b = a
          · subst e; exact Or.inr h2
          · exact Or.inl (Or.inr ⟨b, by omega, h1, h2⟩)
    · rw [if_neg hj, ih]
      constructor
      · rintro (h | ⟨b, hb, h1, h2⟩)
        · exact Or.inl h
        · exact Or.inr ⟨b, by omega, h1, h2⟩
      · rintro (h | ⟨b, hb, h1, h2⟩)
        · exact Or.inl h
        · by_cases e : b = a
          · subst e; exact absurd h1 hj
          · exact Or.inr ⟨b, by omega, h1, h2⟩
theorem mkc_tb {C : Nat} {t : Nat → Nat} : ∀ k i, (mkc C t k).testBit i = true ↔ ∃ b c, b < c ∧ c < k ∧ adj C b c = true ∧ bt (t b) (t c) = i := by
  intro k
  induction k with
  | zero => intro i; rw [mkc, Nat.zero_testBit]; exact ⟨fun h => (Bool.noConfusion h), fun ⟨b, c, _, h, _⟩ => by omega⟩
  | succ k ih =>
    intro i
    rw [mkc, mor_tb, ih]
    constructor
    · rintro (⟨b, c, h1, h2, h3, h4⟩ | ⟨b, h1, h2, h3⟩)
      · exact ⟨b, c, h1, by omega, h3, h4⟩
      · exact ⟨b, k, h1, by omega, h2, h3⟩
    · rintro ⟨b, c, h1, h2, h3, h4⟩
      by_cases e : c = k
      · subst e; exact Or.inr ⟨b, h1, h3, h4⟩
      · exact Or.inl ⟨b, c, h1, by omega, h3, h4⟩
theorem mkc_pcd {n C : Nat} {t : Nat → Nat} (hn : n ≤ 7) (ht : PM n t) : mkc C t n = pcd C n (minv n t) := by
  refine code_ext hn ?_ (pcd_lt _ _ _) (fun x y hxy hy => ?_)
  · apply Nat.lt_pow_two_of_testBit
    intro i hi
    cases q : (mkc C t n).testBit i with
    | false => rfl
    | true =>
      obtain ⟨b, c, h1, h2, _, h4⟩ := (mkc_tb n i).mp q
      have hne : t b ≠ t c := fun e => by have := ht.2 b c (by omega) h2 e; omega
      have := bt_lt' hn hne (ht.1 b (by omega)) (ht.1 c h2)
      omega
  · rw [pcd_adj hn (by omega) hy ht.inv, Bool.eq_iff_iff]
    have hx := minv_spec ht (y := x) (by omega)
    have hy2 := minv_spec ht hy
    have e1 : adj (mkc C t n) x y = (mkc C t n).testBit (bt x y) := by
      unfold adj; rw [decide_eq_true (by omega)]; rfl
    rw [e1, mkc_tb]
    constructor
    · rintro ⟨b, c, h1, h2, h3, h4⟩
      have hne : t b ≠ t c := fun e => by have := ht.2 b c (by omega) h2 e; omega
      have hb := ht.1 b (by omega)
      have hc := ht.1 c h2
      rcases (bt_eq hne (by omega) (by omega) (by omega) (by omega) (by omega)).mp h4 with ⟨z1, z2⟩ | ⟨z1, z2⟩
      · rw [← z1, ← z2, minv_left ht (by omega), minv_left ht h2]; exact h3
      · rw [← z1, ← z2, minv_left ht h2, minv_left ht (x := b) (by omega), adj_comm]; exact h3
    · intro h
      have hne : minv n t x ≠ minv n t y := fun e => by rw [e, adj_self] at h; exact Bool.noConfusion h
      by_cases hl : minv n t x < minv n t y
      · exact ⟨_, _, hl, hy2.1, h, by rw [hx.2, hy2.2]⟩
      · exact ⟨minv n t y, minv n t x, by omega, hx.1, by rw [adj_comm]; exact h, by rw [hx.2, hy2.2, bt_comm]⟩
def Aut (n C : Nat) (u : Nat → Nat) : Prop := PM n u ∧ ∀ a b, a < n → b < n → adj C (u a) (u b) = adj C a b
theorem Aut.one (n C : Nat) : Aut n C (fun i => i) := ⟨PM.one n, fun _ _ _ _ => rfl⟩
theorem Aut.comp {n C : Nat} {u w : Nat → Nat} (h : Aut n C u) (h2 : Aut n C w) : Aut n C (fun i => u (w i)) := ⟨h.1.comp h2.1, fun a b ha hb => by rw [h.2 _ _ (h2.1.1 a ha) (h2.1.1 b hb), h2.2 a b ha hb]⟩
theorem Aut.inv {n C : Nat} {u : Nat → Nat} (h : Aut n C u) : Aut n C (minv n u) := ⟨h.1.inv, fun a b ha hb => by
  have h1 := minv_spec h.1 ha
  have h2 := minv_spec h.1 hb
  rw [← h.2 _ _ h1.1 h2.1, h1.2, h2.2]⟩
theorem Aut.ext {n C : Nat} {u w : Nat → Nat} (h : Aut n C u) (e : ∀ i, i < n → u i = w i) : Aut n C w := ⟨⟨fun i hi => by rw [← e i hi]; exact h.1.1 i hi, fun i j hi hj q => by rw [← e i hi, ← e j hj] at q; exact h.1.2 i j hi hj q⟩, fun a b ha hb => by rw [← e a ha, ← e b hb]; exact h.2 a b ha hb⟩
theorem mkc_aut {n C : Nat} {u : Nat → Nat} (hn : n ≤ 7) (hC : C < 2 ^ tri n) (hu : PM n u) : mkc C u n = C ↔ Aut n C u := by
  rw [mkc_pcd hn hu]
  constructor
  · intro h
    refine ⟨hu, fun a b ha hb => ?_⟩
    have := pcd_adj (C := C) hn (hu.1 a ha) (hu.1 b hb) hu.inv
    rw [h, minv_left hu ha, minv_left hu hb] at this
    exact this
  · intro h
    have h2 := h.inv
    refine Eq.trans ?_ (pcd_one hn hC)
    exact codeOf_ext hn fun a b hab hb => h2.2 a b (by omega) hb
def TI (n node : Nat) (t : Nat → Nat) (given : Nat) : Prop := (∀ a, a < node → t a < n) ∧ (∀ a b, a < node → b < node → t a = t b → a = b) ∧ ∀ v, v < n → (given.testBit v = true ↔ ∃ a, a < node ∧ t a = v)
theorem TI.step {n node given v : Nat} {t : Nat → Nat} (h : TI n node t given) (hv : v < n) (hg : given.testBit v = false) : TI n (node + 1) (updN t node v) (given ||| 2 ^ v) := by
  have hne : ∀ a, a < node → t a ≠ v := fun a ha e => by
    have := (h.2.2 v hv).mpr ⟨a, ha, e⟩
    rw [hg] at this; exact Bool.noConfusion this
  refine ⟨fun a ha => ?_, fun a b ha hb e => ?_, fun w hw => ?_⟩
  · unfold updN; split
    · exact hv
    · exact h.1 a (by omega)
  · unfold updN at e
    by_cases e1 : a = node
    · by_cases e2 : b = node
      · omega
      · rw [if_pos e1, if_neg e2] at e; exact absurd e.symm (hne b (by omega))
    · by_cases e2 : b = node
      · rw [if_neg e1, if_pos e2] at e; exact absurd e (hne a (by omega))
      · rw [if_neg e1, if_neg e2] at e; exact h.2.1 a b (by omega) (by omega) e
  · rw [Nat.testBit_or, Bool.or_eq_true, h.2.2 w hw, tb2, decide_eq_true_eq]
    constructor
    · rintro (⟨a, ha, e⟩ | e)
      · exact ⟨a, by omega, by unfold updN; rw [if_neg (by omega)]; exact e⟩
      · exact ⟨node, by omega, by unfold updN; rw [if_pos rfl]; exact e⟩
    · rintro ⟨a, ha, e⟩
      unfold updN at e
      by_cases e1 : a = node
      · rw [if_pos e1] at e; exact Or.inr e
      · rw [if_neg e1] at e; exact Or.inl ⟨a, by omega, e⟩
theorem TI.pm {n given : Nat} {t : Nat → Nat} (h : TI n n t given) : PM n t := ⟨h.1, h.2.1⟩
def Ex (n node : Nat) (t u : Nat → Nat) : Prop := PM n u ∧ ∀ a, a < node → u a = t a
def GR (n C : Nat) (P : (Nat → Nat) → Prop) (st st' : gst) : Prop := (st'.1 ≤ st.1 ∧ (∀ u, P u → st'.1 ≤ mkc C u n) ∧ (st'.1 = st.1 ∨ ∃ u, P u ∧ st'.1 = mkc C u n)) ∧ ∀ v, v < n → st'.2.2 v ≤ st.2.2 v ∧ (∀ u, P u → Aut n C u → st'.2.2 v ≤ u v) ∧ (st'.2.2 v = st.2.2 v ∨ ∃ u, P u ∧ Aut n C u ∧ st'.2.2 v = u v)
theorem GR.imp {n C : Nat} {P Q : (Nat → Nat) → Prop} {st st' : gst} (h : GR n C P st st') (e : ∀ u, P u ↔ Q u) : GR n C Q st st' := ⟨⟨h.1.1, fun u hu => h.1.2.1 u ((e u).mpr hu), h.1.2.2.elim Or.inl (fun ⟨u, h1, h2⟩ => Or.inr ⟨u, (e u).mp h1, h2⟩)⟩, fun v hv => ⟨(h.2 v hv).1, fun u hu => (h.2 v hv).2.1 u ((e u).mpr hu), (h.2 v hv).2.2.elim Or.inl (fun ⟨u, h1, h2⟩ => Or.inr ⟨u, (e u).mp h1, h2⟩)⟩⟩
theorem GR.none {n C : Nat} {P : (Nat → Nat) → Prop} {st : gst} (h : ∀ u, ¬ P u) : GR n C P st st := ⟨⟨Nat.le_refl _, fun u hu => absurd hu (h u), Or.inl rfl⟩, fun v hv => ⟨Nat.le_refl _, fun u hu => absurd hu (h u), Or.inl rfl⟩⟩
theorem GR.comp {n C : Nat} {P Q : (Nat → Nat) → Prop} {st s1 s2 : gst} (h : GR n C P st s1) (g : GR n C Q s1 s2) : GR n C (fun u => P u ∨ Q u) st s2 := by
  refine ⟨⟨Nat.le_trans g.1.1 h.1.1, fun u hu => ?_, ?_⟩, fun v hv => ⟨Nat.le_trans (g.2 v hv).1 (h.2 v hv).1, fun u hu ha => ?_, ?_⟩⟩
  · rcases hu with hu | hu
    · exact Nat.le_trans g.1.1 (h.1.2.1 u hu)
    · exact g.1.2.1 u hu
  · rcases g.1.2.2 with e | ⟨u, h1, h2⟩
    · rw [e]
      rcases h.1.2.2 with e | ⟨u, h1, h2⟩
      · exact Or.inl e
      · exact Or.inr ⟨u, Or.inl h1, h2⟩
    · exact Or.inr ⟨u, Or.inr h1, h2⟩
  · rcases hu with hu | hu
    · exact Nat.le_trans (g.2 v hv).1 ((h.2 v hv).2.1 u hu ha)
    · exact (g.2 v hv).2.1 u hu ha
  · rcases (g.2 v hv).2.2 with e | ⟨u, h1, h2⟩
    · rw [e]
      rcases (h.2 v hv).2.2 with e | ⟨u, h1, h2⟩
      · exact Or.inl e
      · exact Or.inr ⟨u, Or.inl h1, h2⟩
    · exact Or.inr ⟨u, Or.inr h1, h2⟩
theorem gos_GR {n C : Nat} (hn : n ≤ 7) (hC : C < 2 ^ tri n) : ∀ r node t given st, node + r = n → TI n node t given → GR n C (Ex n node t) st (gos n C r node t given (mkc C t node) st) := by
  intro r
  induction r with
  | zero =>
    intro node t given st hnr hT
    obtain rfl : node = n := by omega
    rw [gos]
    have hpm := hT.pm
    have hex : Ex node node t t := ⟨hpm, fun _ _ => rfl⟩
    have hmk : ∀ u, Ex node node t u → mkc C u node = mkc C t node := fun u hu => mkc_ext node hu.2
    unfold gleaf
    refine ⟨⟨?_, fun u hu => ?_, ?_⟩, fun v hv => ?_⟩
    · dsimp only; split <;> omega
    · rw [hmk u hu]; dsimp only; split <;> omega
    · dsimp only; split
      · exact Or.inr ⟨t, hex, rfl⟩
      · exact Or.inl rfl
    · dsimp only
      by_cases hm : mkc C t node = C
      · rw [if_pos hm]
        dsimp only
        have hA := (mkc_aut hn hC hpm).mp hm
        by_cases hz : v < node ∧ t v < st.2.2 v
        · rw [if_pos hz]
          exact ⟨by omega, fun u hu _ => by rw [hu.2 v hv]; exact Nat.le_refl _, Or.inr ⟨t, hex, hA, rfl⟩⟩
        · rw [if_neg hz]
          exact ⟨Nat.le_refl _, fun u hu _ => by rw [hu.2 v hv]; omega, Or.inl rfl⟩
      · rw [if_neg hm]
        exact ⟨Nat.le_refl _, fun u hu hA => absurd ((mkc_aut hn hC hu.1).mpr hA) (by rw [hmk u hu]; exact hm), Or.inl rfl⟩
  | succ r ih =>
    intro node t given st hnr hT
    rw [gos]
    have key : ∀ v, v ≤ n → GR n C (fun u => Ex n node t u ∧ u node < v) st (gosV (gos n C r (node + 1)) C node t given (mkc C t node) st v) := by
      intro v
      induction v with
      | zero => intro _; exact GR.none (fun u hu => by omega)
      | succ v ihv =>
        intro hv
        have ihv := ihv (by omega)
        rw [gosV]
        by_cases hg : given.testBit v = true
        · rw [if_pos hg]
          refine ihv.imp (fun u => ⟨fun h => ⟨h.1, by omega⟩, fun h => ⟨h.1, ?_⟩⟩)
          obtain ⟨a, ha, e⟩ := (hT.2.2 v (by omega)).mp hg
          have : u node ≠ v := fun q => by
            have := h.1.1.2 node a (by omega) (by omega) (by rw [q, h.1.2 a ha, e])
            omega
          omega
        · rw [if_neg hg]
          have hT2 := hT.step (v := v) (by omega) (by cases q : given.testBit v with
            | true => exact absurd q hg
            | false => rfl)
          have h2 := ih (node + 1) (updN t node v) (given ||| 2 ^ v) (gosV (gos n C r (node + 1)) C node t given (mkc C t node) st v) (by omega) hT2
          have e2 : mkc C (updN t node v) (node + 1) = mor C node t v (mkc C t node) node := by
            rw [mkc, mkc_ext (t' := t) node (fun b hb => by unfold updN; rw [if_neg (by omega)]), show updN t node v node = v by unfold updN; rw [if_pos rfl]]
            exact mor_ext node (fun b hb => by unfold updN; rw [if_neg (by omega)])
          rw [e2] at h2
          refine (ihv.comp h2).imp (fun u => ⟨?_, ?_⟩)
          · rintro (h | h)
            · exact ⟨h.1, by omega⟩
            · have e1 := h.2 node (by omega)
              rw [show updN t node v node = v by unfold updN; rw [if_pos rfl]] at e1
              exact ⟨⟨h.1, fun a ha => by rw [h.2 a (by omega)]; unfold updN; rw [if_neg (by omega)]⟩, by omega⟩
          · intro h
            by_cases e : u node = v
            · refine Or.inr ⟨h.1.1, fun a ha => ?_⟩
              unfold updN
              by_cases e1 : a = node
              · rw [if_pos e1, e1]; exact e
              · rw [if_neg e1]; exact h.1.2 a (by omega)
            · exact Or.inl ⟨h.1, by omega⟩
    exact (key n (Nat.le_refl _)).imp (fun u => ⟨fun h => h.1, fun h => ⟨h, h.1.1 node (by omega)⟩⟩)
theorem TI0 (n : Nat) (t : Nat → Nat) : TI n 0 t 0 := ⟨fun a ha => by omega, fun a b ha => by omega, fun v hv => by rw [Nat.zero_testBit]; exact ⟨fun h => Bool.noConfusion h, fun ⟨a, ha, _⟩ => by omega⟩⟩
theorem gall_GR {n C : Nat} (hn : n ≤ 7) (hC : C < 2 ^ tri n) : GR n C (PM n) (2147483647, 0, fun v => v) (gall n C) := (gos_GR hn hC n 0 (fun _ => 0) 0 (2147483647, 0, fun v => v) (by omega) (TI0 _ _)).imp (fun u => ⟨fun h => h.1, fun h => ⟨h, fun a ha => by omega⟩⟩)
theorem gall_frm {n C : Nat} (hn : n ≤ 7) (hC : C < 2 ^ tri n) : (gall n C).1 = frm n C := by
  obtain ⟨⟨_, h2, h3⟩, _⟩ := gall_GR hn hC
  have hb : (gall n C).1 < 2147483647 := by
    have := h2 _ (PM.one n)
    rw [mkc_pcd hn (PM.one n)] at this
    have h4 := pcd_lt C n (minv n fun i => i)
    have h5 : 2 ^ tri n ≤ 2 ^ 21 := Nat.pow_le_pow_right (by decide) (tri_le hn)
    omega
  apply frm_uniq hn
  · rcases h3 with e | ⟨u, hu, e⟩
    · rw [e] at hb; exact absurd hb (by decide)
    · exact ⟨minv n u, hu.inv, by rw [e, mkc_pcd hn hu]⟩
  · intro q hq
    have := h2 _ hq.inv
    rw [mkc_pcd hn hq.inv] at this
    rwa [pcd_ext hn (r := q) (fun i hi => by
      have h1 := minv_spec hq.inv hi
      exact hq.inv.2 _ _ h1.1 (hq.1 i hi) (by rw [h1.2, minv_left hq hi]))] at this
