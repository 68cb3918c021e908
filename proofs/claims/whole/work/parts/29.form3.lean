/-! forms: fillPlace -/
theorem net_ge {a : Nat} (h : isNet a = true) : 14 ≤ a := by
  have : ∀ a, a < 208 → isNet a = true → 14 ≤ a := by decide +kernel
  exact this a (shC_lt h) h
def cv (w : Nat) (cl : List Nat) : Nat := cl.countP (·.testBit w)
theorem cv_nz (w x : Nat) : cv w (nz x) = if x.testBit w then 1 else 0 := by
  unfold nz cv
  split
  · rename_i h; rw [h]; simp
  · rw [List.countP_cons, List.countP_nil]; simp
theorem cv_app (w : Nat) (a b : List Nat) : cv w (a ++ b) = cv w a + cv w b := List.countP_append
theorem tb_sub (c v w : Nat) : (c ^^^ (c &&& 2 ^ v)).testBit w = (c.testBit w && decide (w ≠ v)) := by
  rw [Nat.testBit_xor, Nat.testBit_and, tb2]
  by_cases h : v = w
  · subst h; simp
  · simp [h, Ne.symm h]
theorem take_getD (cl : List Nat) (i : Nat) (hi : i < cl.length) : cl.take (i + 1) = cl.take i ++ [cl.getD i 0] := by
  rw [List.take_succ, List.getD_eq_getElem?_getD, List.getElem?_eq_getElem hi]; rfl
theorem spl_cv {g : Nat → Nat} {cl : List Nat} {v w : Nat} : ∀ i, i ≤ cl.length → cv w (spl g cl v i) = if w = v then 0 else cv w (cl.take i) := by
  intro i
  induction i with
  | zero => intro _; simp [spl, cv]
  | succ i ih =>
    intro hi
    rw [spl, cv_app, cv_app, cv_nz, cv_nz, ih (by omega), take_getD cl i (by omega), cv_app, Nat.testBit_xor, Nat.testBit_and, tb_sub]
    have : cv w [cl.getD i 0] = if (cl.getD i 0).testBit w then 1 else 0 := by unfold cv; rw [List.countP_cons, List.countP_nil]; simp
    rw [this]
    by_cases h1 : w = v
    · simp [h1]
    · by_cases h2 : (cl.getD i 0).testBit w = true <;> by_cases h3 : (g v).testBit w = true <;> simp [h1, h2, h3]
theorem pop_2p {v : Nat} (h : v < 24) : pop (2 ^ v) = 1 := by
  have : ∀ v : Fin 24, pop (2 ^ v.val) = 1 := by decide
  exact this ⟨v, h⟩
theorem pop_out {c v : Nat} (h : v < 24) : pop (c ^^^ (c &&& 2 ^ v)) + (if c.testBit v then 1 else 0) = pop c := by
  have h1 := pop_split c (2 ^ v)
  by_cases h2 : c.testBit v = true
  · have e : c &&& 2 ^ v = 2 ^ v := by
      apply Nat.eq_of_testBit_eq
      intro i
      rw [Nat.testBit_and, tb2]
      by_cases q : v = i
      · subst q; simp [h2]
      · simp [q]
    rw [e, pop_2p h] at h1
    rw [e, if_pos h2]
    omega
  · have e : c &&& 2 ^ v = 0 := by
      apply Nat.eq_of_testBit_eq
      intro i
      rw [Nat.testBit_and, tb2]
      by_cases q : v = i
      · subst q; simp [h2]
      · simp [q]
    rw [e, if_neg h2]
    simp
theorem spl_popS {g : Nat → Nat} {cl : List Nat} {v : Nat} (hv : v < 24) : ∀ i, i ≤ cl.length → popS (spl g cl v i) + cv v (cl.take i) = popS (cl.take i) := by
  intro i
  induction i with
  | zero => intro _; simp [spl, cv, popS]
  | succ i ih =>
    intro hi
    have h1 := ih (by omega)
    have h2 := pop_split (cl.getD i 0 ^^^ (cl.getD i 0 &&& 2 ^ v)) (g v)
    have h3 := pop_out (c := cl.getD i 0) hv
    have h4 : cv v [cl.getD i 0] = if (cl.getD i 0).testBit v then 1 else 0 := by unfold cv; rw [List.countP_cons, List.countP_nil]; simp
    rw [spl, popS_app, popS_app, popS_nz, popS_nz, popS_take1 cl i (by omega), take_getD cl i (by omega), cv_app, h4]
    omega
/-- cells of the nodes below n that are left, p + 1 of them -/
def CLI (n p : Nat) (cl : List Nat) : Prop := popS cl = p + 1 ∧ (∀ w, cv w cl ≤ 1) ∧ ∀ x ∈ cl, x < 2 ^ n ∧ x ≠ 0
theorem CLI.sz {n p : Nat} {cl : List Nat} (hn : n ≤ 7) (h : CLI n p cl) : ∀ x ∈ cl, x < 128 ∧ x ≠ 0 := fun x hx => ⟨Nat.lt_of_lt_of_le (h.2.2 x hx).1 (Nat.pow_le_pow_right (n := 2) (j := 7) (by decide) hn), (h.2.2 x hx).2⟩
theorem CLI.ne {n p : Nat} {cl : List Nat} (h : CLI n p cl) : 0 < cl.length := by
  cases cl with
  | nil => have := h.1; simp [popS] at this
  | cons c cl => simp
theorem lastC_mem {cl : List Nat} (h : 0 < cl.length) : lastC cl ∈ cl := by
  unfold lastC
  rw [List.getD_eq_getElem?_getD, List.getElem?_eq_getElem (by omega)]
  exact List.getElem_mem _
theorem cv_one {cl : List Nat} {w x : Nat} (hx : x ∈ cl) (hw : x.testBit w = true) : 0 < cv w cl := List.countP_pos_iff.mpr ⟨x, hx, hw⟩
theorem spl_lt {g : Nat → Nat} {cl : List Nat} {v n : Nat} (hc : ∀ x ∈ cl, x < 2 ^ n) : ∀ i, ∀ x ∈ spl g cl v i, x < 2 ^ n ∧ x ≠ 0 := by
  intro i
  induction i with
  | zero => intro x hx; cases hx
  | succ i ih =>
    intro x hx
    have hd : cl.getD i 0 ^^^ (cl.getD i 0 &&& 2 ^ v) < 2 ^ n := Nat.xor_lt_two_pow (getD_lt hc (Nat.two_pow_pos _)) (Nat.lt_of_le_of_lt Nat.and_le_left (getD_lt hc (Nat.two_pow_pos _)))
    rw [spl] at hx
    rcases List.mem_append.mp hx with q | q
    · rcases List.mem_append.mp q with q | q
      · exact ih x q
      · unfold nz at q
        split at q
        · cases q
        · rename_i h; rw [List.mem_singleton.mp q]; exact ⟨Nat.lt_of_le_of_lt Nat.and_le_left hd, h⟩
    · unfold nz at q
      split at q
      · cases q
      · rename_i h; rw [List.mem_singleton.mp q]; exact ⟨Nat.xor_lt_two_pow hd (Nat.lt_of_le_of_lt Nat.and_le_left hd), h⟩
theorem CLI.spl {n p v : Nat} {g : Nat → Nat} {cl : List Nat} (hn : n ≤ 7) (h : CLI n (p + 1) cl) (hv : v < n) (hl : (lastC cl).testBit v = true) : CLI n p (spl g cl v cl.length) := by
  have h1 := spl_popS (g := g) (cl := cl) (v := v) (by omega) cl.length (Nat.le_refl _)
  have h2 := cv_one (lastC_mem h.ne) hl
  have h3 := h.2.1 v
  have h4 := h.1
  rw [List.take_length] at h1
  refine ⟨by omega, fun w => ?_, spl_lt (fun x hx => (h.2.2 x hx).1) _⟩
  rw [spl_cv _ (Nat.le_refl _), List.take_length]
  split
  · exact Nat.zero_le _
  · exact h.2.1 w
def filV (f : List Nat → Nat → Nat → Nat) (g : Nat → Nat) (n : Nat) (cl : List Nat) (fit longer best : Nat) : Nat → Nat × Nat
  | 0 => (0, best)
  | v + 1 => if fit.testBit v = true ∧ htw g v (filV f g n cl fit longer best v).1 n = false then ((filV f g n cl fit longer best v).1 ||| 2 ^ v, f (spl g cl v cl.length) longer (filV f g n cl fit longer best v).2) else filV f g n cl fit longer best v
def fil (g : Nat → Nat) (n : Nat) : Nat → List Nat → Nat → Nat → Nat
  | 0, _, code, best => min best code
  | p + 1, cl, code, best => if best >>> tri (p + 1) < (code ||| (nlr g cl n).2 <<< tri (p + 1)) >>> tri (p + 1) then best else (filV (fil g n p) g n cl (nlr g cl n).1 (code ||| (nlr g cl n).2 <<< tri (p + 1)) best n).2
theorem nlr_fit {g : Nat → Nat} {cl : List Nat} : ∀ v w, (nlr g cl v).1.testBit w = true → w < v ∧ (lastC cl).testBit w = true := by
  intro v
  induction v with
  | zero => intro w h; simp [nlr] at h
  | succ v ih =>
    intro w h
    rw [nlr] at h
    split at h
    · rename_i hc
      have hw : w = v ∨ (nlr g cl v).1.testBit w = true := by
        dsimp only at h
        split at h
        · rw [tb2] at h; left; exact (of_decide_eq_true h).symm
        · rw [Nat.testBit_or, tb2, Bool.or_eq_true] at h
          rcases h with h | h
          · exact Or.inr h
          · left; exact (of_decide_eq_true h).symm
      rcases hw with q | q
      · subst q; exact ⟨by omega, hc.1⟩
      · exact ⟨by have := (ih w q).1; omega, (ih w q).2⟩
    · exact ⟨by have := (ih w h).1; omega, (ih w h).2⟩
/-- once a node of the last cell is seen, the least row is a row of the length of the place -/
theorem nlr_row {g : Nat → Nat} {cl : List Nat} {p : Nat} (hp : popS cl = p + 1) (hp7 : p < 7) : ∀ v w, w < v → (lastC cl).testBit w = true → (nlr g cl v).2 < 2 ^ (p + 1) := by
  intro v
  induction v with
  | zero => intro w h; omega
  | succ v ih =>
    intro w h hw
    have hl : (lrw (g v) cl cl.length).1 < 2 ^ (p + 1) := by
      have h1 := lrw_lt (x := g v) (cl := cl) (by omega) cl.length (Nat.le_refl _)
      rw [lrw_low _ _ _ (Nat.le_refl _), List.take_length, hp] at h1
      exact h1
    rw [nlr]
    split
    · exact hl
    · rename_i hc
      by_cases e : w = v
      · subst e
        have : (nlr g cl w).2 < (lrw (g w) cl cl.length).1 := by
          rcases Nat.lt_or_ge (nlr g cl w).2 (lrw (g w) cl cl.length).1 with q | q
          · exact q
          · exact absurd ⟨hw, q⟩ hc
        omega
      · exact ih w (by omega) hw
theorem ex_bit {x n : Nat} (h : x < 2 ^ n) (h0 : x ≠ 0) : ∃ v, v < n ∧ x.testBit v = true := by
  induction n with
  | zero => simp at h; omega
  | succ n ih =>
    by_cases hb : x.testBit n = true
    · exact ⟨n, by omega, hb⟩
    · have : x < 2 ^ n := by
        apply Nat.lt_pow_two_of_testBit
        intro i hi
        rcases Nat.lt_or_ge n i with q | q
        · exact Nat.testBit_lt_two_pow (Nat.lt_of_lt_of_le h (Nat.pow_le_pow_right (by decide) q))
        · rw [show i = n by omega]; exact Bool.eq_false_iff.mpr hb
      obtain ⟨v, h1, h2⟩ := ih this
      exact ⟨v, by omega, h2⟩
theorem filV_lt {f : List Nat → Nat → Nat → Nat} {g : Nat → Nat} {n fit longer best : Nat} {cl : List Nat} : ∀ v, (filV f g n cl fit longer best v).1 < 2 ^ v := by
  intro v
  induction v with
  | zero => simp [filV]
  | succ v ih =>
    rw [filV]
    split
    · exact Nat.or_lt_two_pow (Nat.lt_trans ih (Nat.pow_lt_pow_right (by decide) (by omega))) (Nat.pow_lt_pow_right (by decide) (by omega))
    · exact Nat.lt_trans ih (Nat.pow_lt_pow_right (by decide) (by omega))
theorem fil_le {g : Nat → Nat} {n : Nat} : ∀ p cl code best, fil g n p cl code best ≤ best := by
  intro p
  induction p with
  | zero => intro cl code best; rw [fil]; exact Nat.min_le_left _ _
  | succ p ih =>
    intro cl code best
    rw [fil]
    split
    · exact Nat.le_refl _
    · have : ∀ v, (filV (fil g n p) g n cl (nlr g cl n).1 (code ||| (nlr g cl n).2 <<< tri (p + 1)) best v).2 ≤ best := by
        intro v
        induction v with
        | zero => exact Nat.le_refl _
        | succ v ihv =>
          rw [filV]
          split
          · exact Nat.le_trans (ih _ _ _) ihv
          · exact ihv
      exact this n
theorem filV_le {g : Nat → Nat} {n p fit longer best : Nat} {cl : List Nat} (v : Nat) : (filV (fil g n p) g n cl fit longer best v).2 ≤ best := by
  induction v with
  | zero => exact Nat.le_refl _
  | succ v ihv =>
    rw [filV]
    split
    · exact Nat.le_trans (fil_le _ _ _ _) ihv
    · exact ihv
/-- what fillPlace leaves as it was -/
def FF (p : Nat) (h h' : Hp) : Prop := h'.2 = h.2 ∧ ∀ b i, ¬(b = 6 ∧ i = 3) → b ≠ 9 → ¬(b = 8 ∧ i < p) → ¬(b = 7 ∧ i < 7 * p) → h'.1 b i = h.1 b i
theorem FF.rf {p : Nat} {h : Hp} : FF p h h := ⟨rfl, fun _ _ _ _ _ _ => rfl⟩
theorem FF.tr {p q : Nat} {h h1 h2 : Hp} (hq : q ≤ p) (a : FF p h h1) (b : FF q h1 h2) : FF p h h2 := ⟨b.1.trans a.1, fun c i h1 h2 h3 h4 => (b.2 c i h1 h2 (by omega) (by omega)).trans (a.2 c i h1 h2 h3 h4)⟩
theorem NA.ff {p a n : Nat} {g : Nat → Nat} {h h' : Hp} (hN : NA h a n g) (hf : FF p h h') : NA h' a n g := by
  obtain ⟨ha, hn, h0, hg, hb⟩ := id hN
  have := net_ge ha
  exact ⟨ha, hn, by rw [hf.2 a 0 (by omega) (by omega) (by omega) (by omega)]; exact h0, fun v hv => by rw [hf.2 (a + 1) v (by omega) (by omega) (by omega) (by omega)]; exact hg v hv, hb⟩
theorem CL.ff {p : Nat} {cl : List Nat} {h h' : Hp} (hC : CL h p cl) (hf : FF p h h') : CL h' p cl := by
  obtain ⟨k1, k2, k3, k4, k5⟩ := id hC
  exact ⟨by rw [hf.2 8 p (by omega) (by omega) (by omega) (by omega)]; exact k1, k2, fun i hi => by rw [hf.2 7 (p * 7 + i) (by omega) (by omega) (by omega) (by omega)]; exact k3 i hi, k4, k5⟩
theorem SPI.ff {p q : Nat} {L : List Nat} {h h' : Hp} (hq : p < q) (hs : SPI h h' p L) : FF q h h' := ⟨hs.2.2.1, fun b i h1 h2 h3 h4 => hs.2.2.2 b i (by omega) (by omega)⟩
