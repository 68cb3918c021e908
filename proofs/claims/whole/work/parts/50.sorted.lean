/-! sorted lists -/
theorem ins_perm (v : Nat) (p : List Nat) : List.Perm (ins v p) (v :: p) := by
  unfold ins
  refine List.Perm.trans List.perm_middle ?_
  rw [List.take_append_drop]
theorem srtF_perm (xs : List Nat) : ∀ k, k ≤ xs.length → List.Perm (srtF xs k) (xs.take k) := by
  intro k
  induction k with
  | zero => intro _; rw [srtF, List.take_zero]
  | succ k ih =>
    intro hk
    rw [srtF, take_getD xs k (by omega)]
    refine (ins_perm _ _).trans ?_
    refine ((ih (by omega)).cons _).trans ?_
    exact (List.perm_append_singleton _ _).symm
theorem srt_perm (xs : List Nat) : List.Perm (srt xs) xs := by
  have := srtF_perm xs xs.length (Nat.le_refl _)
  rw [List.take_length] at this
  exact this
def Srtd (l : List Nat) : Prop := List.Pairwise (fun a b => a ≤ b) l
theorem Srtd_iff {l : List Nat} : Srtd l ↔ ∀ i j, i < j → j < l.length → l.getD i 0 ≤ l.getD j 0 := by
  unfold Srtd
  rw [List.pairwise_iff_getElem]
  constructor
  · intro h i j hij hj
    have := h i j (by omega) hj hij
    rw [List.getD_eq_getElem?_getD, List.getD_eq_getElem?_getD, List.getElem?_eq_getElem (by omega), List.getElem?_eq_getElem hj]
    exact this
  · intro h i j hi hj hij
    have := h i j hij hj
    rw [List.getD_eq_getElem?_getD, List.getD_eq_getElem?_getD, List.getElem?_eq_getElem hi, List.getElem?_eq_getElem hj] at this
    exact this
theorem posR_lo {v : Nat} {p : List Nat} : ∀ k, 0 < posR v p k → p.getD (posR v p k - 1) 0 ≤ v := by
  intro k
  induction k with
  | zero => intro h; exact absurd h (Nat.lt_irrefl 0)
  | succ k ih =>
    intro h
    rw [posR] at h ⊢
    by_cases q : v < p.getD k 0
    · rw [if_pos q] at h ⊢; exact ih h
    · rw [if_neg q, Nat.add_sub_cancel]; omega
theorem posR_hi {v : Nat} {p : List Nat} : ∀ k j, posR v p k ≤ j → j < k → v < p.getD j 0 := by
  intro k
  induction k with
  | zero => intro j _ h; omega
  | succ k ih =>
    intro j h1 h2
    rw [posR] at h1
    by_cases q : v < p.getD k 0
    · rw [if_pos q] at h1
      by_cases e : j = k
      · rw [e]; exact q
      · exact ih j h1 (by omega)
    · rw [if_neg q] at h1; omega
theorem ins_srtd {v : Nat} {p : List Nat} (h : Srtd p) : Srtd (ins v p) := by
  rw [Srtd_iff] at h ⊢
  intro i j hij hj
  rw [ins_len] at hj
  have hl := posR_le v p p.length
  have h1 := posR_lo (v := v) (p := p) p.length
  have h2 := posR_hi (v := v) (p := p) p.length
  rw [ins_at, ins_at]
  generalize posR v p p.length = t at hl h1 h2 ⊢
  by_cases a1 : i < t
  · rw [if_pos a1]
    have b1 : p.getD i 0 ≤ v := by
      have := h1 (by omega)
      by_cases e : i = t - 1
      · rw [e]; exact this
      · exact Nat.le_trans (h i (t - 1) (by omega) (by omega)) this
    by_cases a2 : j < t
    · rw [if_pos a2]; exact h i j hij (by omega)
    · rw [if_neg a2]
      by_cases a3 : j = t
      · rw [if_pos a3]; exact b1
      · rw [if_neg a3]
        have := h2 (j - 1) (by omega) (by omega)
        omega
  · rw [if_neg a1]
    have a2 : ¬ j < t := by omega
    rw [if_neg a2, if_neg (show ¬ j = t by omega)]
    by_cases a3 : i = t
    · rw [if_pos a3]
      have := h2 (j - 1) (by omega) (by omega)
      omega
    · rw [if_neg a3]; exact h (i - 1) (j - 1) (by omega) (by omega)
theorem srt_srtd (xs : List Nat) : Srtd (srt xs) := by
  unfold srt
  have : ∀ k, Srtd (srtF xs k) := by
    intro k
    induction k with
    | zero => exact List.Pairwise.nil
    | succ k ih => exact ins_srtd ih
  exact this _
theorem srtd_uniq {xs ys : List Nat} (h1 : Srtd xs) (h2 : Srtd ys) (hp : List.Perm xs ys) : xs = ys :=
  List.Perm.eq_of_pairwise (fun a b _ _ h h' => Nat.le_antisymm h h') h1 h2 hp
theorem srt_eq {xs ys : List Nat} (h : Srtd ys) : srt xs = ys ↔ List.Perm xs ys := by
  constructor
  · intro e; rw [← e]; exact (srt_perm xs).symm
  · intro e; exact srtd_uniq (srt_srtd xs) h ((srt_perm xs).trans e)
theorem srt_id {xs : List Nat} (h : Srtd xs) : srt xs = xs := (srt_eq h).mpr (List.Perm.refl _)
/-- kept in order, no form twice -/
def insU (x : Nat) : List Nat → List Nat
  | [] => [x]
  | y :: ys => if y < x then y :: insU x ys else if y = x then y :: ys else x :: y :: ys
theorem insU_mem {x z : Nat} {l : List Nat} : z ∈ insU x l ↔ z = x ∨ z ∈ l := by
  induction l with
  | nil => simp [insU]
  | cons y ys ih =>
    rw [insU]
    by_cases h1 : y < x
    · rw [if_pos h1, List.mem_cons, ih, List.mem_cons]
      constructor
      · rintro (h | h | h)
        · exact Or.inr (Or.inl h)
        · exact Or.inl h
        · exact Or.inr (Or.inr h)
      · rintro (h | h | h)
        · exact Or.inr (Or.inl h)
        · exact Or.inl h
        · exact Or.inr (Or.inr h)
    · rw [if_neg h1]
      by_cases h2 : y = x
      · rw [if_pos h2, List.mem_cons, h2]
        exact ⟨fun h => h.elim Or.inl (fun h => Or.inr (Or.inr h)), fun h => h.elim Or.inl id⟩
      · rw [if_neg h2, List.mem_cons]
def SSrt (l : List Nat) : Prop := List.Pairwise (fun a b => a < b) l
theorem insU_ss {x : Nat} {l : List Nat} (h : SSrt l) : SSrt (insU x l) := by
  induction l with
  | nil => exact List.pairwise_singleton _ _
  | cons y ys ih =>
    obtain ⟨h1, h2⟩ := List.pairwise_cons.mp h
    rw [insU]
    by_cases q : y < x
    · rw [if_pos q]
      refine List.pairwise_cons.mpr ⟨fun z hz => ?_, ih h2⟩
      rcases insU_mem.mp hz with e | e
      · rw [e]; exact q
      · exact h1 z e
    · rw [if_neg q]
      by_cases q2 : y = x
      · rw [if_pos q2]; exact h
      · rw [if_neg q2]
        refine List.pairwise_cons.mpr ⟨fun z hz => ?_, h⟩
        rcases List.mem_cons.mp hz with e | e
        · rw [e]; omega
        · have := h1 z e; omega
theorem insU_at {x : Nat} : ∀ (l : List Nat) (t : Nat), t ≤ l.length → (∀ i, i < t → l.getD i 0 < x) → (t < l.length → x ≤ l.getD t 0) → insU x l = if t < l.length ∧ l.getD t 0 = x then l else l.take t ++ x :: l.drop t := by
  intro l
  induction l with
  | nil =>
    intro t ht _ _
    obtain rfl : t = 0 := by simpa using ht
    simp [insU]
  | cons y ys ih =>
    intro t ht h1 h2
    rw [insU]
    cases t with
    | zero =>
      have h2 := h2 (by simp)
      have h2 : x ≤ y := h2
      rw [if_neg (by omega)]
      by_cases e : y = x
      · rw [if_pos e, if_pos ⟨by simp, e⟩]
      · rw [if_neg e, if_neg (fun q => e q.2)]; rfl
    | succ t =>
      have hy : y < x := h1 0 (by omega)
      rw [if_pos hy, ih t (by simpa using ht) (fun i hi => h1 (i + 1) (by omega)) (fun hl => h2 (by simpa using hl))]
      have e1 : (t + 1 < (y :: ys).length ∧ (y :: ys).getD (t + 1) 0 = x) ↔ (t < ys.length ∧ ys.getD t 0 = x) := by
        rw [show (y :: ys).getD (t + 1) 0 = ys.getD t 0 from rfl]
        simp
      by_cases q : t < ys.length ∧ ys.getD t 0 = x
      · rw [if_pos q, if_pos (e1.mpr q)]
      · rw [if_neg q, if_neg (fun z => q (e1.mp z))]; rfl
theorem ss_nodup {l : List Nat} (h : SSrt l) : l.Nodup := List.Pairwise.imp (fun {a b} h => Nat.ne_of_lt h) h
theorem ss_srtd {l : List Nat} (h : SSrt l) : Srtd l := List.Pairwise.imp (fun {a b} h => Nat.le_of_lt h) h
theorem nodup_perm : ∀ {l m : List Nat}, l.Nodup → m.Nodup → (∀ z, z ∈ l ↔ z ∈ m) → List.Perm l m := by
  intro l
  induction l with
  | nil =>
    intro m _ _ h
    cases m with
    | nil => exact List.Perm.refl _
    | cons y ys => exact absurd ((h y).mpr (by simp)) (by simp)
  | cons x xs ih =>
    intro m h1 h2 h
    obtain ⟨a1, a2⟩ := List.nodup_cons.mp h1
    have hx : x ∈ m := (h x).mp (by simp)
    obtain ⟨A, B, rfl⟩ := List.append_of_mem hx
    have h3 := (List.perm_middle (a := x) (l₁ := A) (l₂ := B)).nodup_iff.mp h2
    obtain ⟨b1, b2⟩ := List.nodup_cons.mp h3
    refine List.Perm.trans (List.Perm.cons x (ih a2 b2 (fun z => ?_))) List.perm_middle.symm
    have hz := h z
    rw [(List.perm_middle (a := x) (l₁ := A) (l₂ := B)).mem_iff, List.mem_cons, List.mem_cons] at hz
    constructor
    · intro q
      rcases hz.mp (Or.inr q) with e | e
      · rw [e] at q; exact absurd q a1
      · exact e
    · intro q
      rcases hz.mpr (Or.inr q) with e | e
      · rw [e] at q; exact absurd q b1
      · exact e
/-- what is left when a card is taken: its place goes to the last -/
theorem take_perm {L : List Nat} {i m : Nat} (hm : L.length = m + 1) (hi : i < m + 1) : List.Perm (L.getD i 0 :: (L.set i (L.getD m 0)).take m) L := by
  have hLm : L = L.take m ++ [L.getD m 0] := by
    have := take_getD L m (by omega)
    rw [← hm, List.take_length] at this
    exact this
  by_cases e : i = m
  · subst e
    have : (L.set i (L.getD i 0)).take i = L.take i := by
      rw [List.take_set_of_le (Nat.le_refl _)]
    rw [this]
    refine List.Perm.trans ?_ (List.Perm.of_eq hLm.symm)
    exact (List.perm_append_singleton _ _).symm
  · have h1 : (L.set i (L.getD m 0)).take m = (L.take i) ++ L.getD m 0 :: (L.take m).drop (i + 1) := by
      rw [List.take_set, List.set_eq_take_append_cons_drop, if_pos (by rw [List.length_take]; omega), List.take_take, show min i m = i by omega]
    have h2 : L.take m = L.take i ++ L.getD i 0 :: (L.take m).drop (i + 1) := by
      have a1 := List.take_append_drop (i + 1) (L.take m)
      rw [List.take_take, show min (i + 1) m = i + 1 by omega, take_getD L i (by omega)] at a1
      rw [List.append_assoc] at a1
      exact a1.symm
    rw [h1]
    refine List.Perm.trans ?_ (List.Perm.of_eq hLm.symm)
    have hB : ∃ B, B = (L.take m).drop (i + 1) := ⟨_, rfl⟩
    obtain ⟨B, hB⟩ := hB
    rw [← hB] at h2 ⊢
    rw [h2]
    generalize L.take i = A
    generalize L.getD i 0 = x
    generalize L.getD m 0 = y
    refine List.Perm.trans ?_ (List.perm_append_singleton _ _).symm
    refine List.Perm.trans (List.Perm.cons x List.perm_middle) ?_
    refine List.Perm.trans (List.Perm.swap y x _) ?_
    exact List.Perm.cons y List.perm_middle.symm
