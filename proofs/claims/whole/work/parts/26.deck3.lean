/-! decks: lines; rows by lines -/
theorem c_lno {S : mScr} {dep a j : Nat} {cs : List Nat} {h : Hp} (hD : DK h a cs) (hj : j < cs.length) : Cal S (dep + 1) 16 [.ref a, .int (nI j)] h (Rt (nI (pop (cs.getD j 0))) h) := by
  obtain ⟨ha, hn, h0, hg, hb⟩ := id hD
  have hb1 := deck_b ha
  show V S (dep + 1) 16 0 [.ref a, .int (nI j)] [] h _
  refine V_iload_n rfl rfl ?_
  -- at 1: .ifCond .lt 23
  refine V_if_lt rfl (fun hc => ?_) (fun hc => ?_)
  · exact absurd hc (nI_pos (by omega))
  · refine V_iload_n rfl rfl ?_
    refine V_aload_n rfl rfl (by first | assumption | rfl) ?_
    refine V_gi 0 rfl (deck_sz (by first | assumption | rfl)) rfl ?_
    -- at 9: .if_icmp .ge 15
    refine V_icmp_ge rfl (fun hd => ?_) (fun hd => ?_)
    · exact absurd hd (by rw [h0]; exact nI_ge hj (by omega))
    · refine V_aload_n rfl rfl (by first | assumption | rfl) ?_
      refine V_getR rfl (deck_cd (by first | assumption | rfl)) ?_
      refine V_iload_n rfl rfl ?_
      refine V_al 7 rfl (deck_ar (by first | assumption | rfl)) (by first | with_reducible rfl | assumption | exact nI_sub (by omega) | exact nI_add _ _) (by first | omega | assumption) rfl ?_
      -- at 18: .invokestatic 33
      rw [hg j hj]
      refine V_cS rfl rfl rfl rfl (c_bc (Nat.lt_trans (getD_lt hb (by decide)) (by decide))) ?_
      refine V_goto rfl ?_
      -- at 25: .ireturn
      refine V_iret rfl rfl ?_
      exact Rt.rf
def fewL (cs : List Nat) : Nat → Nat
  | 0 => 21
  | k + 1 => min (fewL cs k) (pop (cs.getD k 0))
def mosL (cs : List Nat) : Nat → Nat
  | 0 => 0
  | k + 1 => max (mosL cs k) (pop (cs.getD k 0))
def sumL (cs : List Nat) : Nat → Nat
  | 0 => 0
  | k + 1 => sumL cs k + pop (cs.getD k 0)
theorem fewL_le (cs : List Nat) (k : Nat) : fewL cs k ≤ 21 := by
  induction k with
  | zero => exact Nat.le_refl _
  | succ k ih => rw [fewL]; omega
theorem pop21 {x : Nat} (h : x < 2 ^ 21) : pop x ≤ 21 := pop_le h (by decide)
theorem mosL_le {cs : List Nat} (hb : ∀ x ∈ cs, x < 2 ^ 21) (k : Nat) : mosL cs k ≤ 21 := by
  induction k with
  | zero => simp [mosL]
  | succ k ih => rw [mosL]; have := pop21 (getD_lt (i := k) hb (by decide)); omega
theorem sumL_le {cs : List Nat} (hb : ∀ x ∈ cs, x < 2 ^ 21) (k : Nat) : sumL cs k ≤ 21 * k := by
  induction k with
  | zero => simp [sumL]
  | succ k ih => rw [sumL]; have := pop21 (getD_lt (i := k) hb (by decide)); omega
theorem nI_min {x y : Nat} (hx : x < 2 ^ 31) (hy : y < 2 ^ 31) : (if nI y < nI x then nI y else nI x) = nI (min x y) := by
  by_cases h : y < x
  · rw [if_pos (nI_lt h hx), Nat.min_eq_right (by omega)]
  · rw [if_neg (nI_nlt (by omega) hy), Nat.min_eq_left (by omega)]
theorem nI_max {x y : Nat} (hx : x < 2 ^ 31) (hy : y < 2 ^ 31) : (if nI x < nI y then nI y else nI x) = nI (max x y) := by
  by_cases h : x < y
  · rw [if_pos (nI_lt h hy), Nat.max_eq_right (by omega)]
  · rw [if_neg (nI_nlt (by omega) hx), Nat.max_eq_left (by omega)]
theorem c_few {S : mScr} {dep a : Nat} {cs : List Nat} {h : Hp} (hD : DK h a cs) : Cal S (dep + 2) 17 [.ref a] h (Rt (nI (fewL cs cs.length)) h) := by
  obtain ⟨ha, hn, h0, hg, hb⟩ := id hD
  have hb1 := deck_b ha
  show V S (dep + 2) 17 0 [.ref a, .null, .null] [] h _
  refine V_bi (v := nI 21) rfl rfl ?_
  refine V_istore_n (L' := [_, _, _]) rfl rfl rfl ?_
  refine V_ic (v := nI 0) rfl rfl ?_
  refine V_istore_n (L' := [_, _, _]) rfl rfl rfl ?_
  -- at 5: .iload_n 2
  refine loopUp (P := fun j => V S (dep + 2) 17 5 [.ref a, .int (nI (fewL cs j)), .int (nI j)] [] h (Rt (nI (fewL cs cs.length)) h)) cs.length ?_ ?_ 0 (Nat.zero_le _)
  · refine V_iload_n rfl rfl ?_
    refine V_aload_n rfl rfl (by first | assumption | rfl) ?_
    refine V_gi 0 rfl (deck_sz (by first | assumption | rfl)) rfl ?_
    -- at 10: .if_icmp .ge 19
    refine V_icmp_ge rfl (fun hc => ?_) (fun hc => ?_)
    · refine V_iload_n rfl rfl ?_
      -- at 30: .ireturn
      refine V_iret rfl rfl ?_
      exact Rt.rf
    · exact absurd (by rw [h0]; exact nI_le (Nat.le_refl _) (by omega)) hc
  · intro j hj ih
    have hp := pop21 (getD_lt (i := j) hb (by decide))
    have hf := fewL_le cs j
    refine V_iload_n rfl rfl ?_
    refine V_aload_n rfl rfl (by first | assumption | rfl) ?_
    refine V_gi 0 rfl (deck_sz (by first | assumption | rfl)) rfl ?_
    -- at 10: .if_icmp .ge 19
    refine V_icmp_ge rfl (fun hc => ?_) (fun hc => ?_)
    · exact absurd hc (by rw [h0]; exact nI_ge hj (by omega))
    · refine V_iload_n rfl rfl ?_
      refine V_aload_n rfl rfl (by first | assumption | rfl) ?_
      refine V_iload_n rfl rfl ?_
      -- at 16: .invokevirtual 39
      refine V_cV rfl rfl (by first | assumption | rfl) rfl rfl (c_lno hD hj) ?_
      refine V_min rfl rfl rfl ?_
      rw [nI_min (by omega) (by omega)]
      refine V_istore_n (L' := [_, _, _]) rfl rfl rfl ?_
      refine V_iinc (L' := [_, _, _]) rfl rfl rfl ?_
      refine V_goto rfl ?_
      -- at 5: .iload_n 2
      refine V_L ?_ ih
      rw [fewL, nI_succ]; rfl
theorem c_mos {S : mScr} {dep a : Nat} {cs : List Nat} {h : Hp} (hD : DK h a cs) : Cal S (dep + 2) 18 [.ref a] h (Rt (nI (mosL cs cs.length)) h) := by
  obtain ⟨ha, hn, h0, hg, hb⟩ := id hD
  have hb1 := deck_b ha
  show V S (dep + 2) 18 0 [.ref a, .null, .null] [] h _
  refine V_ic (v := nI 0) rfl rfl ?_
  refine V_istore_n (L' := [_, _, _]) rfl rfl rfl ?_
  refine V_ic (v := nI 0) rfl rfl ?_
  refine V_istore_n (L' := [_, _, _]) rfl rfl rfl ?_
  -- at 4: .iload_n 2
  refine loopUp (P := fun j => V S (dep + 2) 18 4 [.ref a, .int (nI (mosL cs j)), .int (nI j)] [] h (Rt (nI (mosL cs cs.length)) h)) cs.length ?_ ?_ 0 (Nat.zero_le _)
  · refine V_iload_n rfl rfl ?_
    refine V_aload_n rfl rfl (by first | assumption | rfl) ?_
    refine V_gi 0 rfl (deck_sz (by first | assumption | rfl)) rfl ?_
    -- at 9: .if_icmp .ge 19
    refine V_icmp_ge rfl (fun hc => ?_) (fun hc => ?_)
    · refine V_iload_n rfl rfl ?_
      -- at 29: .ireturn
      refine V_iret rfl rfl ?_
      exact Rt.rf
    · exact absurd (by rw [h0]; exact nI_le (Nat.le_refl _) (by omega)) hc
  · intro j hj ih
    have hp := pop21 (getD_lt (i := j) hb (by decide))
    have hf := mosL_le hb j
    refine V_iload_n rfl rfl ?_
    refine V_aload_n rfl rfl (by first | assumption | rfl) ?_
    refine V_gi 0 rfl (deck_sz (by first | assumption | rfl)) rfl ?_
    -- at 9: .if_icmp .ge 19
    refine V_icmp_ge rfl (fun hc => ?_) (fun hc => ?_)
    · exact absurd hc (by rw [h0]; exact nI_ge hj (by omega))
    · refine V_iload_n rfl rfl ?_
      refine V_aload_n rfl rfl (by first | assumption | rfl) ?_
      refine V_iload_n rfl rfl ?_
      -- at 15: .invokevirtual 39
      refine V_cV rfl rfl (by first | assumption | rfl) rfl rfl (c_lno hD hj) ?_
      refine V_max rfl rfl rfl ?_
      rw [nI_max (by omega) (by omega)]
      refine V_istore_n (L' := [_, _, _]) rfl rfl rfl ?_
      refine V_iinc (L' := [_, _, _]) rfl rfl rfl ?_
      refine V_goto rfl ?_
      -- at 4: .iload_n 2
      refine V_L ?_ ih
      rw [mosL, nI_succ]; rfl
/-- lines that a deck tells: none where they are no whole number, or there are fewer than three cards -/
def tldL (cs : List Nat) : Option Nat := if cs.length < 3 then none else if sumL cs cs.length % (cs.length - 2) = 0 then some (sumL cs cs.length / (cs.length - 2)) else none
def oI (o : Option Nat) : Int32 := match o with
  | some x => nI x
  | none => -1
theorem tldL_le {cs : List Nat} {t : Nat} (hb : ∀ x ∈ cs, x < 2 ^ 21) (hn : cs.length ≤ 7) (h : tldL cs = some t) : t ≤ 147 ∧ 3 ≤ cs.length := by
  unfold tldL at h
  split at h
  · cases h
  · split at h
    · cases h
      have h1 := sumL_le hb cs.length
      have h2 := Nat.div_le_self (sumL cs cs.length) (cs.length - 2)
      omega
    · cases h
theorem c_tld {S : mScr} {dep a : Nat} {cs : List Nat} {h : Hp} (hD : DK h a cs) : Cal S (dep + 2) 19 [.ref a] h (Rt (oI (tldL cs)) h) := by
  obtain ⟨ha, hn, h0, hg, hb⟩ := id hD
  have hb1 := deck_b ha
  have hsl := sumL_le hb cs.length
  show V S (dep + 2) 19 0 [.ref a, .null, .null] [] h _
  refine V_aload_n rfl rfl (by first | assumption | rfl) ?_
  refine V_gi 0 rfl (deck_sz (by first | assumption | rfl)) rfl ?_
  refine V_ic (v := nI 3) rfl rfl ?_
  -- at 5: .if_icmp .ge 5
  rw [h0]
  refine V_icmp_ge rfl (fun hc => ?_) (fun hc => ?_)
  · have hc : 3 ≤ cs.length := (nI_leI (by decide) (by omega)).mp hc
    refine V_ic (v := nI 0) rfl rfl ?_
    refine V_istore_n (L' := [_, _, _]) rfl rfl rfl ?_
    refine V_ic (v := nI 0) rfl rfl ?_
    refine V_istore_n (L' := [_, _, _]) rfl rfl rfl ?_
    -- at 14: .iload_n 2
    refine loopUp (P := fun j => V S (dep + 2) 19 14 [.ref a, .int (nI (sumL cs j)), .int (nI j)] [] h (Rt (oI (tldL cs)) h)) cs.length ?_ ?_ 0 (Nat.zero_le _)
    · refine V_iload_n rfl rfl ?_
      refine V_aload_n rfl rfl (by first | assumption | rfl) ?_
      refine V_gi 0 rfl (deck_sz (by first | assumption | rfl)) rfl ?_
      -- at 19: .if_icmp .ge 17
      refine V_icmp_ge rfl (fun hd => ?_) (fun hd => ?_)
      · refine V_aload_n rfl rfl (by first | assumption | rfl) ?_
        refine V_gi 0 rfl (deck_sz (by first | assumption | rfl)) rfl ?_
        refine V_ic (v := nI 2) rfl rfl ?_
        refine V_isub rfl ?_
        -- at 42: .istore_n 2
        rw [h0, nI_sub (by omega)]
        have hnz : ¬ nI (cs.length - 2) = 0 := nI_ne0 (by omega) (by omega)
        refine V_istore_n (L' := [_, _, _]) rfl rfl rfl ?_
        refine V_iload_n rfl rfl ?_
        refine V_iload_n rfl rfl ?_
        refine V_irem rfl (by first | assumption | decide | omega) ?_
        -- at 46: .ifCond .ne 9
        rw [nI_rem (by omega) (by omega) (by omega)]
        refine V_if_ne rfl (fun he => ?_) (fun he => ?_)
        · have he : ¬ sumL cs cs.length % (cs.length - 2) = 0 := fun q => he (by rw [q]; rfl)
          refine V_ic (v := -1) rfl rfl ?_
          -- at 56: .ireturn
          refine V_iret rfl rfl ?_
          rw [tldL, if_neg (by omega), if_neg he]
          exact Rt.rf
        · have he : sumL cs cs.length % (cs.length - 2) = 0 := by
            have he := Decidable.of_not_not he
            exact nI_inj (Nat.lt_of_le_of_lt (Nat.mod_le _ _) (by omega)) (by decide) he
          refine V_iload_n rfl rfl ?_
          refine V_iload_n rfl rfl ?_
          refine V_idiv rfl (by first | assumption | decide | omega) ?_
          refine V_goto rfl ?_
          -- at 56: .ireturn
          refine V_iret rfl rfl ?_
          rw [tldL, if_neg (by omega), if_pos he, nI_div2 (by omega) (by omega) (by omega)]
          exact Rt.rf
      · exact absurd (by rw [h0]; exact nI_le (Nat.le_refl _) (by omega)) hd
    · intro j hj ih
      refine V_iload_n rfl rfl ?_
      refine V_aload_n rfl rfl (by first | assumption | rfl) ?_
      refine V_gi 0 rfl (deck_sz (by first | assumption | rfl)) rfl ?_
      -- at 19: .if_icmp .ge 17
      refine V_icmp_ge rfl (fun hd => ?_) (fun hd => ?_)
      · exact absurd hd (by rw [h0]; exact nI_ge hj (by omega))
      · refine V_iload_n rfl rfl ?_
        refine V_aload_n rfl rfl (by first | assumption | rfl) ?_
        refine V_iload_n rfl rfl ?_
        -- at 25: .invokevirtual 39
        refine V_cV rfl rfl (by first | assumption | rfl) rfl rfl (c_lno hD hj) ?_
        refine V_iadd rfl ?_
        refine V_istore_n (L' := [_, _, _]) rfl rfl rfl ?_
        refine V_iinc (L' := [_, _, _]) rfl rfl rfl ?_
        refine V_goto rfl ?_
        -- at 14: .iload_n 2
        refine V_L ?_ ih
        rw [sumL, nI_succ, nI_add]; rfl
  · have hc := nI_ngt (by decide) (by omega) hc
    refine V_ic (v := -1) rfl rfl ?_
    -- at 9: .ireturn
    refine V_iret rfl rfl ?_
    rw [tldL, if_pos hc]
    exact Rt.rf
theorem c_ladd {S : mScr} {dep a x : Nat} {cs : List Nat} {h : Hp} (hD : LDK h a cs) (hx : x < 2 ^ 21) (hl : cs.length < 21) : Cal S dep 49 [.ref a, .int (nI x)] h (fun r h' => r = none ∧ LDK h' a (cs ++ [x]) ∧ Fr [a, a + 1] h h') := by
  obtain ⟨ha, hn, h0, hg, hb⟩ := id hD
  have hb1 := ld_b ha
  show V S dep 49 0 [.ref a, .int (nI x)] [] h _
  refine V_aload_n rfl rfl (by first | assumption | rfl) ?_
  refine V_gi 0 rfl (ld_sz (by first | assumption | rfl)) rfl ?_
  refine V_bi (v := nI 21) rfl rfl ?_
  -- at 6: .if_icmp .ge 23
  rw [h0]
  refine V_icmp_ge rfl (fun hc => ?_) (fun hc => ?_)
  · exact absurd hc (nI_ge hl (by decide))
  · refine V_aload_n rfl rfl (by first | assumption | rfl) ?_
    refine V_getR rfl (ld_fm (by first | assumption | rfl)) ?_
    refine V_aload_n rfl rfl (by first | assumption | rfl) ?_
    refine V_gi 0 rfl (ld_sz (by first | assumption | rfl)) rfl ?_
    -- at 17: .iload_n 1
    rw [h0]
    refine V_iload_n rfl rfl ?_
    refine V_as 21 rfl (ld_ar (by first | assumption | rfl)) (by first | with_reducible rfl | assumption | exact nI_sub (by omega) | exact nI_add _ _) (by first | omega | assumption) rfl ?_
    refine V_aload_n rfl rfl (by first | assumption | rfl) ?_
    refine V_dup rfl rfl ?_
    refine V_gi 0 rfl (ld_sz (by first | assumption | rfl)) rfl ?_
    refine V_ic (v := nI 1) rfl rfl ?_
    refine V_iadd rfl ?_
    refine V_pi 0 rfl (ld_sz (by first | assumption | rfl)) rfl rfl ?_
    -- at 29: .return_
    refine V_return rfl rfl ?_
    rw [wI_ne (by omega), h0, nI_add]
    refine ⟨rfl, ⟨ha, by simp; omega, by rw [wI_same]; simp, fun i hi => ?_, fun y hy => ?_⟩, (Fr.w (by simp)).tr (Fr.w (by simp))⟩
    · simp at hi
      rw [wI_ne (by omega)]
      by_cases hi2 : i = cs.length
      · subst hi2
        rw [wI_same, List.getD_eq_getElem?_getD, List.getElem?_append_right (Nat.le_refl _)]; simp
      · rw [wI_ne (by omega), hg i (by omega), List.getD_eq_getElem?_getD, List.getD_eq_getElem?_getD, List.getElem?_append_left (by omega)]
    · rcases List.mem_append.mp hy with q | q
      · exact hb y q
      · rw [List.mem_singleton.mp q]; exact hx
theorem list_eq_getD {xs ys : List Nat} (hl : xs.length = ys.length) (h : ∀ i, i < xs.length → xs.getD i 0 = ys.getD i 0) : xs = ys := by
  apply List.ext_getElem hl
  intro i h1 h2
  have := h i h1
  rw [List.getD_eq_getElem?_getD, List.getD_eq_getElem?_getD, List.getElem?_eq_getElem h1, List.getElem?_eq_getElem h2] at this
  exact this
theorem c_same {S : mScr} {dep a b : Nat} {cs os : List Nat} {h : Hp} (hD : LDK h a cs) (hO : LDK h b os) : Cal S dep 53 [.ref a, .ref b] h (Rt (bI (decide (cs = os))) h) := by
  obtain ⟨ha, hn, h0, hg, hb⟩ := id hD
  obtain ⟨ha', hn', h0', hg', hb'⟩ := id hO
  have hb1 := ld_b ha
  have hb2 := ld_b ha'
  have hgd : ∀ i, cs.getD i 0 < 2 ^ 31 := fun i => Nat.lt_trans (getD_lt hb (by decide)) (by decide)
  have hgo : ∀ i, os.getD i 0 < 2 ^ 31 := fun i => Nat.lt_trans (getD_lt hb' (by decide)) (by decide)
  show V S dep 53 0 [.ref a, .ref b, .null] [] h _
  refine V_aload_n rfl rfl hb1 ?_
  refine V_gi 0 rfl (ld_sz ha) rfl ?_
  refine V_aload_n rfl rfl hb2 ?_
  refine V_gi 0 rfl (ld_sz ha') rfl ?_
  rw [h0, h0']
  refine V_icmp_eq rfl (fun hc => ?_) (fun hc => ?_)
  · have hc := nI_inj (by omega) (by omega) hc
    refine V_ic (v := nI 0) rfl rfl ?_
    refine V_istore_n (L' := [_, _, _]) rfl rfl rfl ?_
    -- at 15: .iload_n 2
    have lp := loopUp (P := fun j => (∀ i, i < j → cs.getD i 0 = os.getD i 0) → V S dep 53 15 [.ref a, .ref b, .int (nI j)] [] h (Rt (bI (decide (cs = os))) h)) cs.length ?_ ?_ 0 (Nat.zero_le _)
    · exact lp (fun i hi => by omega)
    · intro hq
      refine V_iload_n rfl rfl ?_
      refine V_aload_n rfl rfl hb1 ?_
      refine V_gi 0 rfl (ld_sz ha) rfl ?_
      refine V_icmp_ge rfl (fun hd => ?_) (fun hd => ?_)
      · refine V_ic (v := nI 1) rfl rfl ?_
        -- at 47: .ireturn
        refine V_zret rfl rfl (by first | exact Or.inl rfl | exact Or.inr rfl | assumption) ?_
        rw [decide_eq_true (list_eq_getD hc hq)]
        exact Rt.rf
      · exact absurd (by rw [h0]; exact nI_le (Nat.le_refl _) (by omega)) hd
    · intro j hj ih hq
      refine V_iload_n rfl rfl ?_
      refine V_aload_n rfl rfl hb1 ?_
      refine V_gi 0 rfl (ld_sz ha) rfl ?_
      refine V_icmp_ge rfl (fun hd => ?_) (fun hd => ?_)
      · exact absurd hd (by rw [h0]; exact nI_ge hj (by omega))
      · refine V_aload_n rfl rfl hb1 ?_
        refine V_getR rfl (ld_fm ha) ?_
        refine V_iload_n rfl rfl ?_
        refine V_al 21 rfl (ld_ar ha) rfl (by omega) rfl ?_
        refine V_aload_n rfl rfl hb2 ?_
        refine V_getR rfl (ld_fm ha') ?_
        refine V_iload_n rfl rfl ?_
        refine V_al 21 rfl (ld_ar ha') rfl (by omega) rfl ?_
        rw [hg j hj, hg' j (by omega)]
        refine V_icmp_eq rfl (fun he => ?_) (fun he => ?_)
        · have he := nI_inj (hgd _) (hgo _) he
          refine V_iinc (L' := [_, _, _]) rfl rfl rfl ?_
          refine V_goto rfl ?_
          -- at 15: .iload_n 2
          rw [show Int32.ofInt 1 = nI 1 from rfl, nI_add]
          refine ih (fun i hi => ?_)
          by_cases hi2 : i = j
          · subst hi2; exact he
          · exact hq i (by omega)
        · refine V_ic (v := nI 0) rfl rfl ?_
          -- at 39: .ireturn
          refine V_zret rfl rfl (by first | exact Or.inl rfl | exact Or.inr rfl | assumption) ?_
          rw [decide_eq_false (fun q => he (by rw [q]))]
          exact Rt.rf
  · refine V_ic (v := nI 0) rfl rfl ?_
    -- at 12: .ireturn
    refine V_zret rfl rfl (by first | exact Or.inl rfl | exact Or.inr rfl | assumption) ?_
    rw [decide_eq_false (fun q => hc (by rw [q]))]
    exact Rt.rf
