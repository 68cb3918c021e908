/-! forms: splitting cells, filling places -/
theorem cnt_split (x y : Nat) (n : Nat) : cnt (x &&& y).testBit n + cnt (x ^^^ (x &&& y)).testBit n = cnt x.testBit n := by
  induction n with
  | zero => rfl
  | succ n ih =>
    rw [cnt, cnt, cnt, Nat.testBit_xor, Nat.testBit_and]
    by_cases h : x.testBit n = true <;> by_cases h2 : y.testBit n = true <;> simp [h, h2] <;> omega
theorem pop_split (x y : Nat) : pop (x &&& y) + pop (x ^^^ (x &&& y)) = pop x := cnt_split x y 24
set_option maxRecDepth 20000 in
theorem pop_pos {x : Nat} (h : x < 128) (h0 : x ≠ 0) : 0 < pop x := by
  have : ∀ x : Fin 128, x.val ≠ 0 → 0 < pop x.val := by decide
  exact this ⟨x, h⟩ h0
def nz (x : Nat) : List Nat := if x = 0 then [] else [x]
/-- the first i cells, split by a node -/
def spl (g : Nat → Nat) (cl : List Nat) (v : Nat) : Nat → List Nat
  | 0 => []
  | i + 1 => (spl g cl v i ++ nz ((cl.getD i 0 ^^^ (cl.getD i 0 &&& 2 ^ v)) &&& g v)) ++ nz ((cl.getD i 0 ^^^ (cl.getD i 0 &&& 2 ^ v)) ^^^ ((cl.getD i 0 ^^^ (cl.getD i 0 &&& 2 ^ v)) &&& g v))
theorem popS_app (a b : List Nat) : popS (a ++ b) = popS a + popS b := by
  unfold popS; rw [List.map_append, List.sum_append]
theorem popS_nz (x : Nat) : popS (nz x) = pop x := by
  unfold nz
  split
  · rename_i h; rw [h]; decide
  · simp [popS]
theorem popS_take1 (cl : List Nat) (i : Nat) (hi : i < cl.length) : popS (cl.take (i + 1)) = popS (cl.take i) + pop (cl.getD i 0) := by
  unfold popS
  rw [List.take_succ, List.map_append, List.sum_append, List.getD_eq_getElem?_getD, List.getElem?_eq_getElem (by omega)]
  simp
theorem spl_pop {g : Nat → Nat} {cl : List Nat} {v : Nat} : ∀ i, i ≤ cl.length → popS (spl g cl v i) ≤ popS (cl.take i) := by
  intro i
  induction i with
  | zero => intro _; exact Nat.zero_le _
  | succ i ih =>
    intro hi
    have h1 := ih (by omega)
    have h2 := pop_split (cl.getD i 0 ^^^ (cl.getD i 0 &&& 2 ^ v)) (g v)
    have h3 := pop_split (cl.getD i 0) (2 ^ v)
    rw [spl, popS_app, popS_app, popS_nz, popS_nz, popS_take1 cl i (by omega)]
    omega
theorem spl_mem {g : Nat → Nat} {cl : List Nat} {v : Nat} (hc : ∀ x ∈ cl, x < 128) : ∀ i, ∀ x ∈ spl g cl v i, x < 128 ∧ x ≠ 0 := by
  intro i
  induction i with
  | zero => intro x hx; cases hx
  | succ i ih =>
    intro x hx
    have hd : cl.getD i 0 ^^^ (cl.getD i 0 &&& 2 ^ v) < 128 := xand_lt (getD_lt hc (by decide))
    rw [spl] at hx
    rcases List.mem_append.mp hx with q | q
    · rcases List.mem_append.mp q with q | q
      · exact ih x q
      · unfold nz at q
        split at q
        · cases q
        · rename_i h; rw [List.mem_singleton.mp q]; exact ⟨Nat.lt_of_le_of_lt Nat.and_le_left hd, h⟩
    · unfold nz at q
      split at q
      · cases q
      · rename_i h; rw [List.mem_singleton.mp q]; exact ⟨xand_lt hd, h⟩
theorem len_pop {cl : List Nat} (h : ∀ x ∈ cl, x < 128 ∧ x ≠ 0) : cl.length ≤ popS cl := by
  induction cl with
  | nil => exact Nat.zero_le _
  | cons c cl ih =>
    have h1 := ih (fun x hx => h x (List.mem_cons_of_mem _ hx))
    have h2 := pop_pos (h c (List.mem_cons_self)).1 (h c (List.mem_cons_self)).2
    have : popS (c :: cl) = pop c + popS cl := by simp [popS]
    rw [this, List.length_cons]; omega
/-- the cells below are L, the rest is as it was -/
def SPI (h h' : Hp) (b : Nat) (L : List Nat) : Prop := h'.1 8 b = nI L.length ∧ (∀ j, j < L.length → h'.1 7 (b * 7 + j) = nI (L.getD j 0)) ∧ h'.2 = h.2 ∧ ∀ a i, ¬(a = 8 ∧ i = b) → ¬(a = 7 ∧ b * 7 ≤ i ∧ i < b * 7 + 7) → h'.1 a i = h.1 a i
theorem c_addc {S : mScr} {dep b x : Nat} {L : List Nat} {h0 h : Hp} (hs : SPI h0 h b L) (hb : b < 7) (hL : L.length ≤ 7) (hx : x < 128) (hl : x = 0 ∨ L.length < 7) : Cal S dep 40 [.ref 6, .int (nI b), .int (nI x)] h (fun r h' => r = none ∧ SPI h0 h' b (L ++ nz x)) := by
  obtain ⟨s1, s2, s3, s4⟩ := id hs
  show V S dep 40 0 [.ref 6, .int (nI b), .int (nI x)] [] h _
  refine V_iload_n rfl rfl ?_
  -- at 1: .ifCond .eq 41
  refine V_if_eq rfl (fun hc => ?_) (fun hc => ?_)
  · have hc : x = 0 := nI_inj (by omega) (by decide) hc
    refine V_return rfl rfl ?_
    rw [hc]
    exact ⟨rfl, by rw [show nz 0 = [] from rfl, List.append_nil]; exact hs⟩
  · have hc : x ≠ 0 := fun q => hc (by rw [q]; rfl)
    refine V_aload_n rfl rfl rfl ?_
    refine V_getR (r := 8) rfl rfl ?_
    refine V_iload_n rfl rfl ?_
    refine V_al 7 rfl rfl (by first | with_reducible rfl | assumption | exact nI_sub (by omega) | exact nI_add _ _) (by first | omega | assumption) rfl ?_
    refine V_bi (v := nI 7) rfl rfl ?_
    -- at 12: .if_icmp .ge 30
    rw [s1]
    refine V_icmp_ge rfl (fun hd => ?_) (fun hd => ?_)
    · exact absurd hd (nI_ge (by omega) (by decide))
    · refine V_aload_n rfl rfl rfl ?_
      refine V_getR (r := 7) rfl rfl ?_
      refine V_iload_n rfl rfl ?_
      refine V_bi (v := nI 7) rfl rfl ?_
      refine V_imul rfl ?_
      refine V_aload_n rfl rfl rfl ?_
      refine V_getR (r := 8) rfl rfl ?_
      refine V_iload_n rfl rfl ?_
      refine V_al 7 rfl rfl (by first | with_reducible rfl | assumption | exact nI_sub (by omega) | exact nI_add _ _) (by first | omega | assumption) rfl ?_
      refine V_iadd rfl ?_
      -- at 30: .iload_n 2
      rw [s1, nI_mul, nI_add]
      refine V_iload_n rfl rfl ?_
      refine V_as 49 rfl rfl rfl (by omega) rfl ?_
      refine V_aload_n rfl rfl rfl ?_
      refine V_getR (r := 8) rfl rfl ?_
      refine V_iload_n rfl rfl ?_
      refine V_dup2 rfl rfl ?_
      refine V_al 7 rfl rfl (by first | with_reducible rfl | assumption | exact nI_sub (by omega) | exact nI_add _ _) (by first | omega | assumption) rfl ?_
      refine V_ic (v := nI 1) rfl rfl ?_
      refine V_iadd rfl ?_
      refine V_as 7 rfl rfl (by first | with_reducible rfl | assumption | exact nI_sub (by omega) | exact nI_add _ _) (by first | omega | assumption) rfl ?_
      -- at 42: .return_
      refine V_return rfl rfl ?_
      rw [wI_oth (by omega), s1, nI_add]
      refine ⟨rfl, ?_, fun j hj => ?_, s3, fun a i q1 q2 => ?_⟩
      · rw [wI_same]; unfold nz; rw [if_neg hc]; simp
      · unfold nz at hj ⊢
        rw [if_neg hc] at hj ⊢
        simp at hj
        rw [wI_oth (by omega)]
        by_cases hj2 : j = L.length
        · subst hj2
          rw [wI_same, List.getD_eq_getElem?_getD, List.getElem?_append_right (Nat.le_refl _)]; simp
        · rw [wI_ne (by omega), s2 j (by omega), List.getD_eq_getElem?_getD, List.getD_eq_getElem?_getD, List.getElem?_append_left (by omega)]
      · rw [wI_ne (by omega), wI_ne (by omega)]
        exact s4 a i q1 q2
theorem c_split {S : mScr} {dep a n p v : Nat} {g : Nat → Nat} {cl : List Nat} {h : Hp} (hN : NA h a n g) (hC : CL h (p + 1) cl) (hp : p < 6) (hv : v < n) (ha7 : a + 1 ≠ 7) (ha8 : a + 1 ≠ 8) : Cal S (dep + 1) 39 [.ref 6, .ref a, .int (nI (p + 1)), .int (nI v)] h (fun r h' => r = none ∧ SPI h h' p (spl g cl v cl.length)) := by
  obtain ⟨ha, hn, h0, hg, hb⟩ := id hN
  obtain ⟨k1, k2, k3, k4, k5⟩ := id hC
  have hb1 := net_b ha
  have hcl : ∀ i, cl.getD i 0 < 128 := fun i => getD_lt k4 (by decide)
  show V S (dep + 1) 39 0 [.ref 6, .ref a, .int (nI (p + 1)), .int (nI v), .null, .null, .null] [] h _
  refine V_iload_n rfl rfl ?_
  refine V_ic (v := nI 1) rfl rfl ?_
  refine V_isub rfl ?_
  -- at 3: .istore 4
  rw [nI_sub (by omega), Nat.add_sub_cancel]
  refine V_istore (L' := [_, _, _, _, _, _, _]) rfl rfl rfl ?_
  refine V_aload_n rfl rfl rfl ?_
  refine V_getR (r := 8) rfl rfl ?_
  refine V_iload rfl rfl ?_
  refine V_ic (v := nI 0) rfl rfl ?_
  refine V_as 7 rfl rfl (by first | with_reducible rfl | assumption | exact nI_sub (by omega) | exact nI_add _ _) (by first | omega | assumption) rfl ?_
  refine V_ic (v := nI 0) rfl rfl ?_
  refine V_istore (L' := [_, _, _, _, _, _, _]) rfl rfl rfl ?_
  -- at 16: .iload 5
  have lp := loopUp (P := fun i => ∀ h1 v6, SPI h h1 p (spl g cl v i) → V S (dep + 1) 39 16 [.ref 6, .ref a, .int (nI (p + 1)), .int (nI v), .int (nI p), .int (nI i), v6] [] h1 (fun r h' => r = none ∧ SPI h h' p (spl g cl v cl.length))) cl.length ?_ ?_ 0 (Nat.zero_le _)
  · refine lp _ _ ⟨(by rw [wI_same]; rfl), fun j hj => absurd hj (Nat.not_lt_zero _), rfl, fun a i q1 q2 => ?_⟩
    rw [wI_ne (by omega)]
  · intro h1 v6 hs
    refine V_iload rfl rfl ?_
    refine V_aload_n rfl rfl rfl ?_
    refine V_getR (r := 8) rfl rfl ?_
    refine V_iload_n rfl rfl ?_
    refine V_al 7 rfl rfl (by first | with_reducible rfl | assumption | exact nI_sub (by omega) | exact nI_add _ _) (by first | omega | assumption) rfl ?_
    -- at 24: .if_icmp .ge 61
    rw [hs.2.2.2 8 (p + 1) (by omega) (by omega), k1]
    refine V_icmp_ge rfl (fun hd => ?_) (fun hd => ?_)
    · refine V_return rfl rfl ?_
      exact ⟨rfl, hs⟩
    · exact absurd (nI_le (Nat.le_refl _) (by omega)) hd
  · intro i hi ih h1 v6 hs
    have hd1 : cl.getD i 0 ^^^ (cl.getD i 0 &&& 2 ^ v) < 128 := xand_lt (hcl i)
    have hpop := spl_pop (g := g) (cl := cl) (v := v) i (by omega)
    have hpt := popS_take1 cl i hi
    have hpl := popS_le cl (i + 1)
    have hsp := pop_split (cl.getD i 0) (2 ^ v)
    have hsp2 := pop_split (cl.getD i 0 ^^^ (cl.getD i 0 &&& 2 ^ v)) (g v)
    have hlen := len_pop (spl_mem (g := g) (v := v) k4 i)
    refine V_iload rfl rfl ?_
    refine V_aload_n rfl rfl rfl ?_
    refine V_getR (r := 8) rfl rfl ?_
    refine V_iload_n rfl rfl ?_
    refine V_al 7 rfl rfl (by first | with_reducible rfl | assumption | exact nI_sub (by omega) | exact nI_add _ _) (by first | omega | assumption) rfl ?_
    -- at 24: .if_icmp .ge 61
    rw [hs.2.2.2 8 (p + 1) (by omega) (by omega), k1]
    refine V_icmp_ge rfl (fun hd => ?_) (fun hd => ?_)
    · exact absurd hd (nI_ge hi (by omega))
    · refine V_aload_n rfl rfl rfl ?_
      refine V_getR (r := 7) rfl rfl ?_
      refine V_iload_n rfl rfl ?_
      refine V_bi (v := nI 7) rfl rfl ?_
      refine V_imul rfl ?_
      refine V_iload rfl rfl ?_
      refine V_iadd rfl ?_
      -- at 38: .iaload
      rw [nI_mul, nI_add]
      refine V_al 49 rfl rfl rfl (by omega) rfl ?_
      rw [hs.2.2.2 7 ((p + 1) * 7 + i) (by omega) (by omega), k3 i hi]
      refine V_ic (v := nI 1) rfl rfl ?_
      refine V_iload_n rfl rfl ?_
      refine V_ishl rfl ?_
      refine V_ic (v := -1) rfl rfl ?_
      refine V_ixor rfl ?_
      -- at 44: .iand
      rw [nI_2p _ (by omega)]
      refine V_iand rfl ?_
      rw [nI_andn]
      refine V_istore (L' := [_, _, _, _, _, _, _]) rfl rfl rfl ?_
      refine V_aload_n rfl rfl rfl ?_
      refine V_iload rfl rfl ?_
      refine V_iload rfl rfl ?_
      refine V_aload_n rfl rfl (by first | assumption | rfl) ?_
      refine V_getR rfl (net_nr (by first | assumption | rfl)) ?_
      refine V_iload_n rfl rfl ?_
      refine V_al 7 rfl (net_ar (by first | assumption | rfl)) (by first | with_reducible rfl | assumption | exact nI_sub (by omega) | exact nI_add _ _) (by first | omega | assumption) rfl ?_
      refine V_iand rfl ?_
      -- at 59: .invokevirtual 76
      rw [hs.2.2.2 (a + 1) v (by omega) (by omega), hg v (by omega), nI_and]
      have hx1 : (cl.getD i 0 ^^^ (cl.getD i 0 &&& 2 ^ v)) &&& g v < 128 := Nat.lt_of_le_of_lt Nat.and_le_left hd1
      refine V_callV rfl rfl rfl rfl rfl (c_addc hs (by omega) (by omega) hx1 (by rcases Nat.eq_zero_or_pos ((cl.getD i 0 ^^^ (cl.getD i 0 &&& 2 ^ v)) &&& g v) with q | q; exact Or.inl q; right; have := pop_pos hx1 (by omega); omega)) ?_
      rintro _ h2 ⟨rfl, hs2⟩
      show V S (dep + 1) 39 62 [.ref 6, .ref a, .int (nI (p + 1)), .int (nI v), .int (nI p), .int (nI i), .int (nI (cl.getD i 0 ^^^ (cl.getD i 0 &&& 2 ^ v)))] [] h2 _
      refine V_aload_n rfl rfl rfl ?_
      refine V_iload rfl rfl ?_
      refine V_iload rfl rfl ?_
      refine V_aload_n rfl rfl (by first | assumption | rfl) ?_
      refine V_getR rfl (net_nr (by first | assumption | rfl)) ?_
      refine V_iload_n rfl rfl ?_
      refine V_al 7 rfl (net_ar (by first | assumption | rfl)) (by first | with_reducible rfl | assumption | exact nI_sub (by omega) | exact nI_add _ _) (by first | omega | assumption) rfl ?_
      refine V_ic (v := -1) rfl rfl ?_
      refine V_ixor rfl ?_
      -- at 75: .iand
      rw [hs2.2.2.2 (a + 1) v (by omega) (by omega), hg v (by omega)]
      refine V_iand rfl ?_
      rw [nI_andn]
      have hx2 : (cl.getD i 0 ^^^ (cl.getD i 0 &&& 2 ^ v)) ^^^ ((cl.getD i 0 ^^^ (cl.getD i 0 &&& 2 ^ v)) &&& g v) < 128 := xand_lt hd1
      have hlen2 : (spl g cl v i ++ nz ((cl.getD i 0 ^^^ (cl.getD i 0 &&& 2 ^ v)) &&& g v)).length ≤ popS (spl g cl v i) + pop ((cl.getD i 0 ^^^ (cl.getD i 0 &&& 2 ^ v)) &&& g v) := by
        rw [List.length_append]
        unfold nz
        split
        · rw [List.length_nil]; omega
        · rename_i q
          have := pop_pos hx1 q
          rw [List.length_singleton]; omega
      refine V_callV rfl rfl rfl rfl rfl (c_addc hs2 (by omega) (by omega) hx2 (by rcases Nat.eq_zero_or_pos ((cl.getD i 0 ^^^ (cl.getD i 0 &&& 2 ^ v)) ^^^ ((cl.getD i 0 ^^^ (cl.getD i 0 &&& 2 ^ v)) &&& g v)) with q | q; exact Or.inl q; right; have := pop_pos hx2 (by omega); omega)) ?_
      rintro _ h3 ⟨rfl, hs3⟩
      show V S (dep + 1) 39 79 [.ref 6, .ref a, .int (nI (p + 1)), .int (nI v), .int (nI p), .int (nI i), .int (nI (cl.getD i 0 ^^^ (cl.getD i 0 &&& 2 ^ v)))] [] h3 _
      refine V_iinc (L' := [_, _, _, _, _, _, _]) rfl rfl rfl ?_
      refine V_goto rfl ?_
      -- at 16: .iload 5
      rw [show Int32.ofInt 1 = nI 1 from rfl, nI_add]
      exact ih _ _ hs3
