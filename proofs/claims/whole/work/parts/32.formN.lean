/-! the search finds the least code of all arrangements: the search -/
/-- the code of the first m places -/
def lcd (g q : Nat → Nat) : Nat → Nat
  | 0 => 0
  | m + 1 => lcd g q m + bsum (fun i => (g (q m)).testBit (q i)) m * 2 ^ tri m
theorem lcd_lt (g q : Nat → Nat) (m : Nat) : lcd g q m < 2 ^ tri m := by
  induction m with
  | zero => exact Nat.two_pow_pos _
  | succ m ih =>
    rw [lcd, tri_succ, Nat.pow_add]
    have := bsum_lt (fun i => (g (q m)).testBit (q i)) m
    have h2 : (bsum (fun i => (g (q m)).testBit (q i)) m + 1) * 2 ^ tri m ≤ 2 ^ m * 2 ^ tri m := Nat.mul_le_mul_right _ this
    rw [Nat.add_mul, Nat.mul_comm (2 ^ m)] at h2
    omega
theorem lcd_ext {g q q' : Nat → Nat} {m : Nat} (h : ∀ i, i < m → q i = q' i) : lcd g q m = lcd g q' m := by
  induction m with
  | zero => rfl
  | succ m ih =>
    rw [lcd, lcd, ih (fun i hi => h i (by omega)), bsum_ext (q := fun i => (g (q' m)).testBit (q' i)) (fun i hi => by rw [h m (by omega), h i (by omega)])]
theorem nlr_spec {g : Nat → Nat} {cl : List Nat} (hs : popS cl ≤ 7) : ∀ v, (∀ w, (nlr g cl v).1.testBit w = true ↔ w < v ∧ (lastC cl).testBit w = true ∧ (lrw (g w) cl cl.length).1 = (nlr g cl v).2) ∧ ∀ w, w < v → (lastC cl).testBit w = true → (nlr g cl v).2 ≤ (lrw (g w) cl cl.length).1 := by
  intro v
  induction v with
  | zero => exact ⟨fun w => by simp [nlr], fun w hw => by omega⟩
  | succ v ih =>
    obtain ⟨i1, i2⟩ := ih
    rw [nlr]
    split
    · rename_i hc
      refine ⟨fun w => ?_, fun w hw hb => ?_⟩
      · dsimp only
        split
        · rename_i hlt
          rw [tb2]
          constructor
          · intro e
            have e := of_decide_eq_true e
            subst e
            exact ⟨by omega, hc.1, rfl⟩
          · rintro ⟨e1, e2, e3⟩
            apply decide_eq_true
            rcases Nat.lt_or_ge w v with q | q
            · have := i2 w q e2; omega
            · omega
        · rename_i hlt
          have he : (lrw (g v) cl cl.length).1 = (nlr g cl v).2 := by omega
          rw [Nat.testBit_or, tb2, Bool.or_eq_true, i1 w]
          constructor
          · rintro (⟨e1, e2, e3⟩ | e)
            · exact ⟨by omega, e2, by omega⟩
            · have e := of_decide_eq_true e
              subst e
              exact ⟨by omega, hc.1, rfl⟩
          · rintro ⟨e1, e2, e3⟩
            rcases Nat.lt_or_ge w v with q | q
            · exact Or.inl ⟨q, e2, by omega⟩
            · right; apply decide_eq_true; omega
      · dsimp only
        rcases Nat.lt_or_ge w v with q | q
        · have := i2 w q hb; omega
        · rw [show w = v by omega]; exact Nat.le_refl _
    · rename_i hc
      refine ⟨fun w => ?_, fun w hw hb => ?_⟩
      · rw [i1 w]
        constructor
        · rintro ⟨e1, e2, e3⟩; exact ⟨by omega, e2, e3⟩
        · rintro ⟨e1, e2, e3⟩
          refine ⟨?_, e2, e3⟩
          rcases Nat.lt_or_ge w v with q | q
          · exact q
          · have : w = v := by omega
            subst this
            exact absurd ⟨e2, by omega⟩ hc
      · rcases Nat.lt_or_ge w v with q | q
        · exact i2 w q hb
        · have : w = v := by omega
          subst this
          rcases Nat.lt_or_ge (nlr g cl w).2 (lrw (g w) cl cl.length).1 with z | z
          · omega
          · exact absurd ⟨hb, z⟩ hc
theorem filV_tried {f : List Nat → Nat → Nat → Nat} {g : Nat → Nat} {n fit longer best : Nat} {cl : List Nat} (hf : ∀ c l b, f c l b ≤ b) : ∀ v w, (filV f g n cl fit longer best v).1.testBit w = true → w < v ∧ fit.testBit w = true ∧ ∃ b, (filV f g n cl fit longer best v).2 ≤ f (spl g cl w cl.length) longer b := by
  intro v
  induction v with
  | zero => intro w h; simp [filV] at h
  | succ v ih =>
    intro w h
    rw [filV] at h ⊢
    split at h
    · rename_i hc
      rw [if_pos hc]
      rw [Nat.testBit_or, tb2, Bool.or_eq_true] at h
      rcases h with h | h
      · obtain ⟨h1, h2, b, h3⟩ := ih w h
        exact ⟨by omega, h2, b, Nat.le_trans (hf _ _ _) h3⟩
      · have h := of_decide_eq_true h
        subst h
        exact ⟨by omega, hc.1, _, Nat.le_refl _⟩
    · rename_i hc
      rw [if_neg hc]
      obtain ⟨h1, h2, b, h3⟩ := ih w h
      exact ⟨by omega, h2, b, h3⟩
theorem filV_mono {f : List Nat → Nat → Nat → Nat} {g : Nat → Nat} {n fit longer best : Nat} {cl : List Nat} (hf : ∀ c l b, f c l b ≤ b) {v : Nat} : ∀ {u : Nat}, v ≤ u → (filV f g n cl fit longer best u).2 ≤ (filV f g n cl fit longer best v).2 := by
  intro u
  induction u with
  | zero => intro h; rw [show v = 0 by omega]; exact Nat.le_refl _
  | succ u ih =>
    intro h
    rcases Nat.lt_or_ge u v with q | q
    · rw [show v = u + 1 by omega]; exact Nat.le_refl _
    · refine Nat.le_trans ?_ (ih q)
      rw [filV]
      split
      · exact hf _ _ _
      · exact Nat.le_refl _
theorem htw_ex {g : Nat → Nat} {v t : Nat} : ∀ {n : Nat}, htw g v t n = true → ∃ w, w < n ∧ t.testBit w = true ∧ (g v ^^^ (g v &&& (2 ^ v ||| 2 ^ w))) = (g w ^^^ (g w &&& (2 ^ v ||| 2 ^ w))) := by
  intro n
  induction n with
  | zero => intro h; simp [htw] at h
  | succ n ih =>
    intro h
    rw [htw, Bool.or_eq_true, Bool.and_eq_true] at h
    rcases h with h | h
    · obtain ⟨w, h1, h2⟩ := ih h
      exact ⟨w, by omega, h2⟩
    · exact ⟨n, by omega, h.1, of_decide_eq_true h.2⟩
/-- nets by rows -/
def NG (n : Nat) (g : Nat → Nat) : Prop := (∀ v, (g v).testBit v = false) ∧ ∀ u v, (g u).testBit v = (g v).testBit u
def sw (v w u : Nat) : Nat := if u = v then w else if u = w then v else u
theorem sw_sw (v w u : Nat) : sw v w (sw v w u) = u := by
  unfold sw
  split <;> split <;> (try split) <;> omega
theorem sw_aut {n v w : Nat} {g : Nat → Nat} (hg : NG n g) (h : (g v ^^^ (g v &&& (2 ^ v ||| 2 ^ w))) = (g w ^^^ (g w &&& (2 ^ v ||| 2 ^ w)))) (a b : Nat) : (g (sw v w a)).testBit (sw v w b) = (g a).testBit b := by
  have hu : ∀ u, u ≠ v → u ≠ w → (g v).testBit u = (g w).testBit u := by
    intro u h1 h2
    have := congrArg (fun x => x.testBit u) h
    simp only [Nat.testBit_xor, Nat.testBit_and, Nat.testBit_or, tb2] at this
    simpa [Ne.symm h1, Ne.symm h2] using this
  have hu2 : ∀ u, u ≠ v → u ≠ w → (g u).testBit v = (g u).testBit w := by
    intro u h1 h2
    rw [hg.2 u v, hg.2 u w]; exact hu u h1 h2
  have hvw := hg.2 v w
  have hv := hg.1 v
  have hw := hg.1 w
  unfold sw
  by_cases a1 : a = v
  · rw [if_pos a1]
    by_cases b1 : b = v
    · rw [if_pos b1, a1, b1, hv, hw]
    · rw [if_neg b1]
      by_cases b2 : b = w
      · rw [if_pos b2, a1, b2, hvw]
      · rw [if_neg b2, a1, hu b b1 b2]
  · rw [if_neg a1]
    by_cases a2 : a = w
    · rw [if_pos a2]
      by_cases b1 : b = v
      · rw [if_pos b1, a2, b1, hvw]
      · rw [if_neg b1]
        by_cases b2 : b = w
        · rw [if_pos b2, a2, b2, hv, hw]
        · rw [if_neg b2, a2, hu b b1 b2]
    · rw [if_neg a2]
      by_cases b1 : b = v
      · rw [if_pos b1, b1, hu2 a a1 a2]
      · rw [if_neg b1]
        by_cases b2 : b = w
        · rw [if_pos b2, b2, hu2 a a1 a2]
        · rw [if_neg b2]
/-- arrangements of the cells on the places up to p -/
def Arr (n p : Nat) (cl : List Nat) (q : Nat → Nat) : Prop := (∀ i, i ≤ p → q i < n) ∧ (∀ i j, i ≤ p → j ≤ p → q i = q j → i = j) ∧ Adm q 0 cl
theorem Arr.last {n p : Nat} {cl : List Nat} {q : Nat → Nat} (hn : n ≤ 7) (hI : CLI n p cl) (h : Arr n p cl q) : (lastC cl).testBit (q p) = true := by
  obtain ⟨k, hk⟩ : ∃ k, cl.length = k + 1 := ⟨cl.length - 1, by have := hI.ne; omega⟩
  have hlast : lastC cl = cl.getD k 0 := by unfold lastC; rw [hk]; rfl
  have hfull : cl.take (k + 1) = cl := by rw [← hk, List.take_length]
  have htk := take_getD cl k (by omega)
  rw [hfull] at htk
  have hpp := hI.1
  have hp1 : popS cl = popS (cl.take k) + pop (cl.getD k 0) := by
    have := popS_take1 cl k (by omega)
    rwa [hfull] at this
  have hA := h.2.2
  rw [htk, Adm_app, Adm_one] at hA
  have hlm := lastC_mem hI.ne
  have hpos : 0 < pop (cl.getD k 0) := by
    rw [← hlast]
    obtain ⟨w, h1, h2⟩ := ex_bit (hI.2.2 _ hlm).1 (hI.2.2 _ hlm).2
    have h3 := pop_out (c := lastC cl) (v := w) (by omega)
    rw [if_pos h2] at h3
    omega
  have := hA.2 (pop (cl.getD k 0) - 1) (by omega)
  rw [Nat.zero_add, show popS (cl.take k) + (pop (cl.getD k 0) - 1) = p by omega] at this
  rw [hlast]; exact this
