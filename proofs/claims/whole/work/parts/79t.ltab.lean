/-! the reference: least -/
theorem dM_T {n k : Nat} (hn : n < 6) (h3 : 3 ≤ n) (hk : k < (fms n).length) : dM n k = dT (fr n + k) := by
  obtain ⟨h1, h2⟩ := fms_T n hn
  have hfr := fr_f n hn
  obtain ⟨e1, e2⟩ := fr_sz (fr n + k) (by omega) n hn h3 (by omega) (by omega)
  have := dck_T (fr n + k) (by omega) e2
  unfold dM dT
  rw [h2 k (by omega), ← this, e1]
def tlT (n own s k : Nat) : Bool := decide (k = own) || !decide (hal (dT (fr n + k)) (selL (dT (fr n + own)) s n) n = (selL (dT (fr n + own)) s n).length)
def lsT (n own : Nat) : Nat → Nat × Nat
  | 0 => (n, 0)
  | s + 1 => if allB (tlT n own s) (fr (n + 1) - fr n) = true then (min (pop s) (lsT n own s).1, (lsT n own s).2) else ((lsT n own s).1, max (pop s + 1) (lsT n own s).2)
theorem allB_ext {p q : Nat → Bool} {k : Nat} (h : ∀ i, i < k → p i = q i) : allB p k = allB q k := by
  by_cases e : allB q k = true
  · rw [e]
    exact allB_iff.mpr (fun i hi => by rw [h i hi]; exact allB_iff.mp e i hi)
  · have e2 : allB q k = false := bfalse e
    rw [e2]
    exact bfalse (fun r => e (allB_iff.mpr (fun i hi => by rw [← h i hi]; exact allB_iff.mp r i hi)))
theorem tlB_T {n own s : Nat} (hn : n < 6) (h3 : 3 ≤ n) (ho : own < (fms n).length) : tlB n own s = allB (tlT n own s) (fr (n + 1) - fr n) := by
  unfold tlB
  rw [(fms_T n hn).1]
  refine allB_ext (fun k hk => ?_)
  unfold tlP tlT
  rw [dM_T hn h3 (show k < (fms n).length by rw [(fms_T n hn).1]; exact hk), dM_T hn h3 ho]
theorem lsT_3 : ∀ k, k < 4 → lsT 3 k 8 = (leaA 3 (fr 3 + k) 0, leaA 3 (fr 3 + k) 1) := by decide +kernel
theorem lsT_4 : ∀ k, k < 11 → lsT 4 k 16 = (leaA 4 (fr 4 + k) 0, leaA 4 (fr 4 + k) 1) := by decide +kernel
theorem lsT_5 : ∀ k, k < 34 → lsT 5 k 32 = (leaA 5 (fr 5 + k) 0, leaA 5 (fr 5 + k) 1) := by decide +kernel
theorem lsT_all {n k : Nat} (hn : n < 6) (h3 : 3 ≤ n) (hk : k < (fms n).length) : lsT n k (2 ^ n) = (leaA n (fr n + k) 0, leaA n (fr n + k) 1) := by
  rw [(fms_T n hn).1] at hk
  rcases (by omega : n = 3 ∨ n = 4 ∨ n = 5) with rfl | rfl | rfl
  · exact lsT_3 k hk
  · exact lsT_4 k hk
  · exact lsT_5 k hk
theorem lsT_le {n own : Nat} : ∀ s, s ≤ 128 → n ≤ 7 → (lsT n own s).1 ≤ 7 ∧ (lsT n own s).2 ≤ 8 := by
  intro s
  induction s with
  | zero => intro _ h; exact ⟨h, Nat.zero_le _⟩
  | succ s ih =>
    intro h1 h2
    have := ih (by omega) h2
    have hp := pop7 (show s < 128 by omega)
    rw [lsT]
    split
    · exact ⟨by show min _ _ ≤ 7; omega, this.2⟩
    · exact ⟨this.1, by show max _ _ ≤ 8; omega⟩
