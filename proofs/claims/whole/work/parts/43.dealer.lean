/-! the class: cards, decks, decks by lines, parts -/
theorem shCA {a ci t n : Nat} (h : shC a ci = true) (g : shA a t n = true) : False := by
  unfold shC at h
  unfold shA at g
  rw [Bool.and_eq_true] at h g
  obtain ⟨_, h⟩ := h
  obtain ⟨_, g⟩ := g
  generalize shT.get a = e at h g
  obtain ⟨x, y, z⟩ := e
  split at g
  · rename_i heq
    cases heq
    exact Bool.noConfusion h
  · exact Bool.noConfusion g
theorem shCC {a ci cj : Nat} (h : shC a ci = true) (g : shC a cj = true) : ci = cj := by
  unfold shC at h g
  rw [Bool.and_eq_true] at h g
  obtain ⟨_, h⟩ := h
  obtain ⟨_, g⟩ := g
  generalize shT.get a = e at h g
  obtain ⟨x, y, z⟩ := e
  split at g
  · rename_i heq
    cases heq
    have h1 := Nat.eq_of_beq_eq_true h
    have h2 := Nat.eq_of_beq_eq_true g
    omega
  · exact Bool.noConfusion g
theorem net_dk {a b : Nat} (ha : isNet a = true) (hb : isDeck b = true) : a ≠ b ∧ a ≠ b + 1 ∧ a + 1 ≠ b := by
  refine ⟨fun e => ?_, fun e => ?_, fun e => ?_⟩
  · rw [← e] at hb; have := shCC ha hb; omega
  · rw [e] at ha; exact shCA ha (deck_ar hb)
  · rw [← e] at hb; exact shCA hb (net_ar ha)
theorem net_fre : ∀ a, a < 208 → (isNet a && !(a == 21)) = true → a ∉ [6, 7, 8, 9, 21, 22, 23, 24] ∧ a + 1 ∉ [6, 7, 8, 9, 21, 22, 23, 24] := by decide +kernel
theorem deck_fre : ∀ a, a < 208 → isDeck a = true → a ∉ [6, 7, 8, 9, 21, 22, 23, 24] ∧ a + 1 ∉ [6, 7, 8, 9, 21, 22, 23, 24] := by decide +kernel
theorem net_free {a : Nat} (h : isNet a = true) (h2 : a ≠ 21) : a ∉ [6, 7, 8, 9, 21, 22, 23, 24] ∧ a + 1 ∉ [6, 7, 8, 9, 21, 22, 23, 24] := net_fre a (shC_lt h) (by rw [h]; simp [h2])
theorem deck_free {a : Nat} (h : isDeck a = true) : a ∉ [6, 7, 8, 9, 21, 22, 23, 24] ∧ a + 1 ∉ [6, 7, 8, 9, 21, 22, 23, 24] := deck_fre a (shC_lt h) h
theorem c_frm {S : mScr} {dep a n C : Nat} {h : Hp} (hN : NC h a n C) : Cal S (dep + 9) 34 [.ref 6, .ref a] h (fun r h' => r = some (.int (nI (frm n C))) ∧ Fr [6, 7, 8, 9] h h') := c_form hN.1
def crd (n C v : Nat) : Nat := frm (n - 1) (wot n C v)
theorem crd_lt {n C v : Nat} (hn : n ≤ 7) : crd n C v < 2 ^ tri (n - 1) := frm_lt (by omega)
theorem frm21 {n C : Nat} (hn : n ≤ 7) : frm n C < 2 ^ 21 := Nat.lt_of_lt_of_le (frm_lt hn) (Nat.pow_le_pow_right (by decide) (tri_le hn))
theorem c_dform {S : mScr} {dep a n C : Nat} {h : Hp} (hN : NC h a n C) : Cal S (dep + 10) 2 [.ref 20, .ref a] h (fun r h' => r = some (.int (nI (frm n C))) ∧ Fr [6, 7, 8, 9] h h') := by
  have ha := hN.1.1
  have hb1 := net_b ha
  show V S (dep + 10) 2 0 [.ref 20, .ref a] [] h _
  refine V_aload_n rfl rfl rfl ?_
  refine V_getR (r := 6) rfl rfl ?_
  refine V_aload_n rfl rfl (by first | assumption | rfl) ?_
  -- at 5: .invokevirtual 27
  refine V_callV rfl rfl rfl rfl rfl (c_frm hN) ?_
  rintro _ h3 ⟨rfl, f3⟩
  refine V_iret rfl rfl ?_
  exact ⟨rfl, f3⟩
theorem c_card {S : mScr} {dep a n C v : Nat} {h : Hp} (hN : NC h a n C) (h21 : a ≠ 21) (hv : v < n) : Cal S (dep + 10) 3 [.ref 20, .ref a, .int (nI v)] h (fun r h' => r = some (.int (nI (crd n C v))) ∧ Fr [6, 7, 8, 9, 21, 22] h h') := by
  obtain ⟨⟨ha, hn, h0, hg, hb⟩, hC⟩ := id hN
  have hb1 := net_b ha
  have hfr := net_free ha h21
  simp at hfr
  show V S (dep + 10) 3 0 [.ref 20, .ref a, .int (nI v)] [] h _
  refine V_aload_n rfl rfl rfl ?_
  refine V_getR (r := 21) rfl rfl ?_
  refine V_aload_n rfl rfl (by first | assumption | rfl) ?_
  refine V_aload_n rfl rfl (by first | assumption | rfl) ?_
  -- at 6: .invokevirtual 33
  refine V_cV rfl rfl (by first | assumption | rfl) rfl rfl (c_evn hN.1) ?_
  refine V_ic (v := nI 1) rfl rfl ?_
  refine V_iload_n rfl rfl ?_
  refine V_ishl rfl ?_
  refine V_ic (v := -1) rfl rfl ?_
  refine V_ixor rfl ?_
  refine V_iand rfl ?_
  -- at 15: .invokevirtual 37
  rw [nI_2p _ (by omega), nI_andn]
  refine V_callV rfl rfl rfl rfl rfl (c_keep (a := 21) hN rfl (cset_lt hn) (by omega) (by omega)) ?_
  rintro _ h1 ⟨rfl, hN1, f1⟩
  show V S (dep + 10) 3 18 [.ref 20, .ref a, .int (nI v)] [] h1 _
  refine V_aload_n rfl rfl rfl ?_
  refine V_getR (r := 6) rfl rfl ?_
  refine V_aload_n rfl rfl rfl ?_
  refine V_getR (r := 21) rfl rfl ?_
  -- at 26: .invokevirtual 27
  refine V_callV rfl rfl rfl rfl rfl (c_frm hN1) ?_
  rintro _ h3 ⟨rfl, f3⟩
  refine V_iret rfl rfl ?_
  refine ⟨?_, (f1.mono (by simp)).tr (f3.mono (by simp))⟩
  have e : rk (cset n v) n = n - 1 := cset_rk hv
  unfold crd wot
  show some (Value.int (nI (frm (rk (cset n v) n) (wth n C (cset n v))))) = _
  rw [e]
def crds (n C : Nat) : List Nat := (List.range n).map (crd n C)
theorem crds_len (n C : Nat) : (crds n C).length = n := by simp [crds]
theorem crds_at {n C v : Nat} (hv : v < n) : (crds n C).getD v 0 = crd n C v := by simp [crds, List.getD, hv]
theorem crds_lt {n C x : Nat} (hn : n ≤ 7) (h : x ∈ crds n C) : x < 2 ^ tri (n - 1) := by
  simp only [crds, List.mem_map] at h
  obtain ⟨v, _, e⟩ := h
  rw [← e]; exact crd_lt hn
theorem crds21 {n C x : Nat} (hn : n ≤ 7) (h : x ∈ crds n C) : x < 2 ^ 21 := Nat.lt_of_lt_of_le (crds_lt hn h) (Nat.pow_le_pow_right (by decide) (tri_le (by omega)))
def dck (n C : Nat) : List Nat := srt (crds n C)
theorem c_deal {S : mScr} {dep a b n C : Nat} {h : Hp} (hN : NC h a n C) (h21 : a ≠ 21) (hD : isDeck b = true) : Cal S (dep + 11) 4 [.ref 20, .ref a, .ref b] h (fun r h' => r = none ∧ DK h' b (dck n C) ∧ Fr [6, 7, 8, 9, 21, 22, b, b + 1] h h') := by
  obtain ⟨⟨ha, hn, h0, hg, hb⟩, hC⟩ := id hN
  have hb1 := net_b ha
  have hb2 := deck_b hD
  have hb3 := deck_b1 hD
  have hfr := net_free ha h21
  have hfd := deck_free hD
  have hnd := net_dk ha hD
  have hsa : a ∉ [6, 7, 8, 9, 21, 22, b, b + 1] ∧ a + 1 ∉ [6, 7, 8, 9, 21, 22, b, b + 1] := by
    simp at hfr ⊢; omega
  simp at hfd
  show V S (dep + 11) 4 0 [.ref 20, .ref a, .ref b, .null] [] h _
  refine V_ic (v := nI 0) rfl rfl ?_
  refine V_istore_n (L' := [_, _, _, _]) rfl rfl rfl ?_
  -- at 2: .iload_n 3
  have lp := loopUp (P := fun v => ∀ h1, Fr [6, 7, 8, 9, 21, 22, b, b + 1] h h1 → (∀ j, j < v → h1.1 (b + 1) j = nI (crd n C j)) → V S (dep + 11) 4 2 [.ref 20, .ref a, .ref b, .int (nI v)] [] h1 (fun r h' => r = none ∧ DK h' b (dck n C) ∧ Fr [6, 7, 8, 9, 21, 22, b, b + 1] h h')) n ?_ ?_ 0 (Nat.zero_le _)
  · exact lp h Fr.rf (fun j hj => by omega)
  · intro h1 f1 e1
    have hN1 := hN.fr f1 hsa.1 hsa.2
    have h01 := hN1.1.2.2.1
    refine V_iload_n rfl rfl ?_
    refine V_aload_n rfl rfl (by first | assumption | rfl) ?_
    refine V_gi 0 rfl (net_sz (by first | assumption | rfl)) rfl ?_
    -- at 7: .if_icmp .ge 21
    rw [h01]
    refine V_icmp_ge rfl (fun hc => ?_) (fun hc => ?_)
    · refine V_aload_n rfl rfl (by first | assumption | rfl) ?_
      refine V_aload_n rfl rfl (by first | assumption | rfl) ?_
      refine V_gi 0 rfl (net_sz (by first | assumption | rfl)) rfl ?_
      refine V_pi 0 rfl (deck_sz (by first | assumption | rfl)) rfl rfl ?_
      refine V_aload_n rfl rfl (by first | assumption | rfl) ?_
      -- at 37: .invokevirtual 56
      rw [h01]
      have hDK : DK (wI h1 b 0 (nI n)) b (crds n C) := by
        refine ⟨hD, by rw [crds_len]; exact hn, by rw [wI_same, crds_len], fun i hi => ?_, fun x hx => crds21 hn hx⟩
        rw [crds_len] at hi
        rw [wI_ne (by omega), e1 i hi, crds_at hi]
      refine V_callV rfl rfl (by first | assumption | rfl) rfl rfl (c_dsort hDK) ?_
      rintro _ h3 ⟨rfl, hD3, f3⟩
      refine V_return rfl rfl ?_
      exact ⟨rfl, hD3, (f1.tr (Fr.w (by simp))).tr (f3.mono (by simp))⟩
    · exact absurd (nI_le (Nat.le_refl _) (by omega)) hc
  · intro v hv ih h1 f1 e1
    have hN1 := hN.fr f1 hsa.1 hsa.2
    have h01 := hN1.1.2.2.1
    refine V_iload_n rfl rfl ?_
    refine V_aload_n rfl rfl (by first | assumption | rfl) ?_
    refine V_gi 0 rfl (net_sz (by first | assumption | rfl)) rfl ?_
    -- at 7: .if_icmp .ge 21
    rw [h01]
    refine V_icmp_ge rfl (fun hc => ?_) (fun hc => ?_)
    · exact absurd hc (nI_ge hv (by omega))
    · refine V_aload_n rfl rfl (by first | assumption | rfl) ?_
      refine V_getR rfl (deck_cd (by first | assumption | rfl)) ?_
      refine V_iload_n rfl rfl ?_
      refine V_aload_n rfl rfl rfl ?_
      refine V_aload_n rfl rfl (by first | assumption | rfl) ?_
      refine V_iload_n rfl rfl ?_
      -- at 18: .invokevirtual 51
      refine V_callV rfl rfl rfl rfl rfl (c_card hN1 h21 hv) ?_
      rintro _ h3 ⟨rfl, f3⟩
      show V S (dep + 11) 4 21 [.ref 20, .ref a, .ref b, .int (nI v)] [.int (nI (crd n C v)), .int (nI v), .ref (b + 1)] h3 _
      refine V_as 7 rfl (deck_ar (by first | assumption | rfl)) (by first | with_reducible rfl | assumption | exact nI_sub (by omega) | exact nI_add _ _) (by first | omega | assumption) rfl ?_
      refine V_iinc (L' := [_, _, _, _]) rfl rfl rfl ?_
      refine V_goto rfl ?_
      -- at 2: .iload_n 3
      rw [show Int32.ofInt 1 = nI 1 from rfl, nI_add]
      refine ih _ ((f1.tr (f3.mono (by simp))).tr (Fr.w (by simp))) (fun j hj => ?_)
      by_cases e : j = v
      · rw [e, wI_same]
      · rw [wI_ne (by omega), f3.1 (b + 1) (by simp; omega)]
        exact e1 j (by omega)
def lfL (n C : Nat) : Nat → List Nat
  | 0 => []
  | k + 1 => if C.testBit k = true then lfL n C k ++ [frm n (C ^^^ 2 ^ k)] else lfL n C k
theorem lfL_len (n C : Nat) : ∀ k, (lfL n C k).length = cnt C.testBit k := by
  intro k
  induction k with
  | zero => rfl
  | succ k ih =>
    rw [lfL, cnt]
    split
    · rw [List.length_append, ih]; rfl
    · exact ih
def ldk (n C : Nat) : List Nat := srt (lfL n C (tri n))
theorem c_ldk {S : mScr} {dep a n C : Nat} {h : Hp} (hN : NC h a n C) (h21 : a ≠ 21) : Cal S (dep + 10) 5 [.ref 20, .ref a] h (fun r h' => r = some (.ref 23) ∧ LDK h' 23 (ldk n C) ∧ Fr [6, 7, 8, 9, 21, 22, 23, 24] h h') := by
  obtain ⟨⟨ha, hn, h0, hg, hb⟩, hC⟩ := id hN
  have hb1 := net_b ha
  have hfr := net_free ha h21
  have hfr2 := hfr
  simp at hfr2
  have htn := tri_le hn
  show V S (dep + 10) 5 0 [.ref 20, .ref a, .null, .null] [] h _
  refine V_aload_n rfl rfl rfl ?_
  refine V_getR (r := 23) rfl rfl ?_
  -- at 4: .invokevirtual 59
  refine V_callV rfl rfl rfl rfl rfl (c_lclear (a := 23) rfl) ?_
  rintro _ h1 ⟨rfl, hL1, f1⟩
  show V S (dep + 10) 5 7 [.ref 20, .ref a, .null, .null] [] h1 _
  have f1 : Fr [6, 7, 8, 9, 21, 22, 23, 24] h h1 := f1.mono (by simp)
  have hN1 := hN.fr f1 hfr.1 hfr.2
  refine V_aload_n rfl rfl rfl ?_
  refine V_getR (r := 21) rfl rfl ?_
  refine V_aload_n rfl rfl (by first | assumption | rfl) ?_
  -- at 12: .invokevirtual 62
  refine V_callV rfl rfl rfl rfl rfl (c_copy (a := 21) hN1 rfl (by omega) (by omega) (by omega)) ?_
  rintro _ h2 ⟨rfl, hR2, f2⟩
  show V S (dep + 10) 5 15 [.ref 20, .ref a, .null, .null] [] h2 _
  have hL2 := hL1.fr f2 (by decide) (by decide)
  have f2 : Fr [6, 7, 8, 9, 21, 22, 23, 24] h h2 := f1.tr (f2.mono (by simp))
  refine V_ic (v := nI 1) rfl rfl ?_
  refine V_istore_n (L' := [_, _, _, _]) rfl rfl rfl ?_
  -- at 17: .iload_n 2
  have fin : ∀ h3 v2 v3, Fr [6, 7, 8, 9, 21, 22, 23, 24] h h3 → LDK h3 23 (lfL n C (tri n)) → V S (dep + 10) 5 89 [.ref 20, .ref a, v2, v3] [] h3 (fun r h' => r = some (.ref 23) ∧ LDK h' 23 (ldk n C) ∧ Fr [6, 7, 8, 9, 21, 22, 23, 24] h h') := by
    intro h3 v2 v3 f3 hL3
    refine V_aload_n rfl rfl rfl ?_
    refine V_getR (r := 23) rfl rfl ?_
    -- at 93: .invokevirtual 78
    refine V_callV rfl rfl rfl rfl rfl (c_lsort hL3) ?_
    rintro _ h4 ⟨rfl, hL4, f4⟩
    show V S (dep + 10) 5 96 [.ref 20, .ref a, v2, v3] [] h4 _
    refine V_aload_n rfl rfl rfl ?_
    refine V_getR (r := 23) rfl rfl ?_
    -- at 100: .areturn
    refine V_areturn rfl rfl ?_
    exact ⟨rfl, hL4, f3.tr (f4.mono (by simp))⟩
  by_cases hn0 : n = 0
  · subst hn0
    have h02 := (hN.fr f2 hfr.1 hfr.2).1.2.2.1
    refine V_iload_n rfl rfl ?_
    refine V_aload_n rfl rfl (by first | assumption | rfl) ?_
    refine V_gi 0 rfl (net_sz (by first | assumption | rfl)) rfl ?_
    -- at 22: .if_icmp .ge 67
    rw [h02]
    refine V_icmp_ge rfl (fun hc => ?_) (fun hc => ?_)
    · exact fin h2 _ _ f2 hL2
    · exact absurd (nI_le (by decide) (by decide)) hc
  have lp := loopUp (P := fun b => 1 ≤ b → ∀ h3 v3, Fr [6, 7, 8, 9, 21, 22, 23, 24] h h3 → NC h3 21 n C → LDK h3 23 (lfL n C (tri b)) → V S (dep + 10) 5 17 [.ref 20, .ref a, .int (nI b), v3] [] h3 (fun r h' => r = some (.ref 23) ∧ LDK h' 23 (ldk n C) ∧ Fr [6, 7, 8, 9, 21, 22, 23, 24] h h')) n ?_ ?_ 1 (by omega)
  · exact lp (Nat.le_refl _) h2 _ f2 hR2 hL2
  · intro _ h3 v3 f3 hR3 hL3
    have h03 := (hN.fr f3 hfr.1 hfr.2).1.2.2.1
    refine V_iload_n rfl rfl ?_
    refine V_aload_n rfl rfl (by first | assumption | rfl) ?_
    refine V_gi 0 rfl (net_sz (by first | assumption | rfl)) rfl ?_
    -- at 22: .if_icmp .ge 67
    rw [h03]
    refine V_icmp_ge rfl (fun hc => ?_) (fun hc => ?_)
    · exact fin h3 _ _ f3 hL3
    · exact absurd (nI_le (Nat.le_refl _) (by omega)) hc
  · intro b hbn ih hb0 h3 v3 f3 hR3 hL3
    have h03 := (hN.fr f3 hfr.1 hfr.2).1.2.2.1
    refine V_iload_n rfl rfl ?_
    refine V_aload_n rfl rfl (by first | assumption | rfl) ?_
    refine V_gi 0 rfl (net_sz (by first | assumption | rfl)) rfl ?_
    -- at 22: .if_icmp .ge 67
    rw [h03]
    refine V_icmp_ge rfl (fun hc => ?_) (fun hc => ?_)
    · exact absurd hc (nI_ge hbn (by omega))
    · refine V_ic (v := nI 0) rfl rfl ?_
      refine V_istore_n (L' := [_, _, _, _]) rfl rfl rfl ?_
      -- at 27: .iload_n 3
      have lq := loopUp (P := fun x => ∀ h4, Fr [6, 7, 8, 9, 21, 22, 23, 24] h h4 → NC h4 21 n C → LDK h4 23 (lfL n C (tri b + x)) → V S (dep + 10) 5 27 [.ref 20, .ref a, .int (nI b), .int (nI x)] [] h4 (fun r h' => r = some (.ref 23) ∧ LDK h' 23 (ldk n C) ∧ Fr [6, 7, 8, 9, 21, 22, 23, 24] h h')) b ?_ ?_ 0 (Nat.zero_le _)
      · exact lq h3 f3 hR3 hL3
      · intro h4 f4 hR4 hL4
        refine V_iload_n rfl rfl ?_
        refine V_iload_n rfl rfl ?_
        -- at 29: .if_icmp .ge 54
        refine V_icmp_ge rfl (fun hd => ?_) (fun hd => ?_)
        · refine V_iinc (L' := [_, _, _, _]) rfl rfl rfl ?_
          refine V_goto rfl ?_
          -- at 17: .iload_n 2
          rw [show Int32.ofInt 1 = nI 1 from rfl, nI_add]
          refine ih (by omega) h4 _ f4 hR4 ?_
          rw [tri_succ]; exact hL4
        · exact absurd (nI_le (Nat.le_refl _) (by omega)) hd
      · intro x hx ih2 h4 f4 hR4 hL4
        have hN4 := hN.fr f4 hfr.1 hfr.2
        have hbt : bt x b = tri b + x := bt_up hx
        have hlt := bt_lt hn hx hbn
        have eadj : adj C x b = C.testBit (tri b + x) := by
          unfold adj; rw [decide_eq_true (by omega), hbt]; rfl
        rw [show tri b + (x + 1) = (tri b + x) + 1 from rfl, lfL] at ih2
        refine V_iload_n rfl rfl ?_
        refine V_iload_n rfl rfl ?_
        -- at 29: .if_icmp .ge 54
        refine V_icmp_ge rfl (fun hd => ?_) (fun hd => ?_)
        · exact absurd hd (nI_ge hx (by omega))
        · refine V_aload_n rfl rfl (by first | assumption | rfl) ?_
          refine V_iload_n rfl rfl ?_
          refine V_iload_n rfl rfl ?_
          -- at 35: .invokevirtual 66
          refine V_cV rfl rfl (by first | assumption | rfl) rfl rfl (c_ajC hN4 (by omega) hbn) ?_
          rw [eadj]
          refine V_if_eq rfl (fun he => ?_) (fun he => ?_)
          · have he := bI_z.mp he
            rw [if_neg (by rw [he]; simp)] at ih2
            refine V_iinc (L' := [_, _, _, _]) rfl rfl rfl ?_
            refine V_goto rfl ?_
            -- at 27: .iload_n 3
            rw [show Int32.ofInt 1 = nI 1 from rfl, nI_add]
            exact ih2 h4 f4 hR4 hL4
          · have he := bI_nz.mp he
            rw [if_pos he] at ih2
            refine V_aload_n rfl rfl rfl ?_
            refine V_getR (r := 21) rfl rfl ?_
            refine V_iload_n rfl rfl ?_
            refine V_iload_n rfl rfl ?_
            -- at 47: .invokevirtual 70
            refine V_callV rfl rfl rfl rfl rfl (c_flip hR4 (by omega) hbn (by omega)) ?_
            rintro _ h5 ⟨rfl, hR5, f5⟩
            show V S (dep + 10) 5 50 [.ref 20, .ref a, .int (nI b), .int (nI x)] [] h5 _
            have hL5 := hL4.fr f5 (by decide) (by decide)
            refine V_aload_n rfl rfl rfl ?_
            refine V_getR (r := 23) rfl rfl ?_
            refine V_aload_n rfl rfl rfl ?_
            refine V_getR (r := 6) rfl rfl ?_
            refine V_aload_n rfl rfl rfl ?_
            refine V_getR (r := 21) rfl rfl ?_
            -- at 62: .invokevirtual 27
            refine V_callV rfl rfl rfl rfl rfl (c_frm hR5) ?_
            rintro _ h6 ⟨rfl, f6⟩
            have hL6 := hL5.fr f6 (by decide) (by decide)
            have hR6 := hR5.fr f6 (by decide) (by decide)
            show V S (dep + 10) 5 65 [.ref 20, .ref a, .int (nI b), .int (nI x)] [.int (nI (frm n (C ^^^ 2 ^ bt x b))), .ref 23] h6 _
            have hlen : (lfL n C (tri b + x)).length < 21 := by
              rw [lfL_len]
              have := cnt_le C.testBit (tri b + x)
              omega
            refine V_callV rfl rfl rfl rfl rfl (c_ladd hL6 (frm21 hn) hlen) ?_
            rintro _ h7 ⟨rfl, hL7, f7⟩
            have hR7 := hR6.fr f7 (by decide) (by decide)
            show V S (dep + 10) 5 68 [.ref 20, .ref a, .int (nI b), .int (nI x)] [] h7 _
            refine V_aload_n rfl rfl rfl ?_
            refine V_getR (r := 21) rfl rfl ?_
            refine V_iload_n rfl rfl ?_
            refine V_iload_n rfl rfl ?_
            -- at 74: .invokevirtual 70
            refine V_callV rfl rfl rfl rfl rfl (c_flip hR7 (by omega) hbn (by omega)) ?_
            rintro _ h8 ⟨rfl, hR8, f8⟩
            show V S (dep + 10) 5 77 [.ref 20, .ref a, .int (nI b), .int (nI x)] [] h8 _
            rw [Nat.xor_assoc, Nat.xor_self, Nat.xor_zero] at hR8
            have hL8 := hL7.fr f8 (by decide) (by decide)
            refine V_iinc (L' := [_, _, _, _]) rfl rfl rfl ?_
            refine V_goto rfl ?_
            -- at 27: .iload_n 3
            rw [show Int32.ofInt 1 = nI 1 from rfl, nI_add]
            refine ih2 h8 ?_ hR8 (by rw [← hbt]; rw [← hbt] at hL8; exact hL8)
            exact (((f4.tr (f5.mono (by simp))).tr (f6.mono (by simp))).tr (f7.mono (by simp))).tr (f8.mono (by simp))
/-- how many sets of nodes make a part like p -/
def prt (m p n C : Nat) : Nat := cnt (fun s => decide (pop s = m) && decide (frm m (wth n C s) = p)) (2 ^ n)
theorem rk_pop {s n : Nat} (hs : s < 2 ^ n) (hn : n ≤ 7) : rk s n = pop s := (pop_eq hs (by omega)).symm
theorem c_prt {S : mScr} {dep a n C m p : Nat} {h : Hp} (hN : NC h a n C) (h21 : a ≠ 21) (hm : m ≤ 7) (hp : p < 2 ^ 21) : Cal S (dep + 10) 6 [.ref 20, .int (nI m), .int (nI p), .ref a] h (fun r h' => r = some (.int (nI (prt m p n C))) ∧ Fr [6, 7, 8, 9, 21, 22] h h') := by
  obtain ⟨⟨ha, hn, h0, hg, hb⟩, hC⟩ := id hN
  have hb1 := net_b ha
  have hfr := net_free ha h21
  have hsa : a ∉ [6, 7, 8, 9, 21, 22] ∧ a + 1 ∉ [6, 7, 8, 9, 21, 22] := by simp at hfr ⊢; omega
  have hL : (2 : Nat) ^ n ≤ 128 := Nat.pow_le_pow_right (n := 2) (j := 7) (by decide) hn
  have h2p := Nat.two_pow_pos n
  have hpp := pop21 hp
  obtain ⟨F, hF⟩ : ∃ F : Nat → Bool, F = fun s => decide (pop s = m) && decide (frm m (wth n C s) = p) := ⟨_, rfl⟩
  show V S (dep + 10) 6 0 [.ref 20, .int (nI m), .int (nI p), .ref a, .null, .null, .null, .null] [] h _
  unfold prt
  rw [← hF]
  refine V_iload_n rfl rfl ?_
  -- at 1: .invokestatic 79
  refine V_cS rfl rfl rfl rfl (c_bc (Nat.lt_trans hp (by decide))) ?_
  refine V_istore (L' := [_, _, _, _, _, _, _, _]) rfl rfl rfl ?_
  refine V_ic (v := nI 0) rfl rfl ?_
  refine V_istore (L' := [_, _, _, _, _, _, _, _]) rfl rfl rfl ?_
  refine V_ic (v := nI 0) rfl rfl ?_
  refine V_istore (L' := [_, _, _, _, _, _, _, _]) rfl rfl rfl ?_
  -- at 12: .iload 6
  have lp := loopUp (P := fun s => ∀ h1 v7, Fr [6, 7, 8, 9, 21, 22] h h1 → V S (dep + 10) 6 12 [.ref 20, .int (nI m), .int (nI p), .ref a, .int (nI (pop p)), .int (nI (cnt F s)), .int (nI s), v7] [] h1 (fun r h' => r = some (.int (nI (cnt F (2 ^ n)))) ∧ Fr [6, 7, 8, 9, 21, 22] h h')) (2 ^ n) ?_ ?_ 0 (Nat.zero_le _)
  · exact lp h _ Fr.rf
  · intro h1 v7 f1
    have hN1 := hN.fr f1 hsa.1 hsa.2
    refine V_iload rfl rfl ?_
    refine V_aload_n rfl rfl (by first | assumption | rfl) ?_
    -- at 15: .invokevirtual 33
    refine V_cV rfl rfl (by first | assumption | rfl) rfl rfl (c_evn hN1.1) ?_
    refine V_icmp_gt rfl (fun hc => ?_) (fun hc => ?_)
    · refine V_iload rfl rfl ?_
      -- at 90: .ireturn
      refine V_iret rfl rfl ?_
      exact ⟨rfl, f1⟩
    · exact absurd (nI_lt (by omega) (by omega)) hc
  · intro s hs ih h1 v7 f1
    have hN1 := hN.fr f1 hsa.1 hsa.2
    have next : ∀ h2 v7 c, Fr [6, 7, 8, 9, 21, 22] h h2 → c = cnt F (s + 1) → V S (dep + 10) 6 82 [.ref 20, .int (nI m), .int (nI p), .ref a, .int (nI (pop p)), .int (nI c), .int (nI s), v7] [] h2 (fun r h' => r = some (.int (nI (cnt F (2 ^ n)))) ∧ Fr [6, 7, 8, 9, 21, 22] h h') := by
      intro h2 v7 c f2 e
      rw [e]
      refine V_iinc (L' := [_, _, _, _, _, _, _, _]) rfl rfl rfl ?_
      refine V_goto rfl ?_
      -- at 12: .iload 6
      rw [show Int32.ofInt 1 = nI 1 from rfl, nI_add]
      exact ih h2 _ f2
    have hcs : cnt F (s + 1) = cnt F s + if F s = true then 1 else 0 := by rw [cnt]
    refine V_iload rfl rfl ?_
    refine V_aload_n rfl rfl (by first | assumption | rfl) ?_
    -- at 15: .invokevirtual 33
    refine V_cV rfl rfl (by first | assumption | rfl) rfl rfl (c_evn hN1.1) ?_
    refine V_icmp_gt rfl (fun hc => ?_) (fun hc => ?_)
    · exact absurd hc (nI_nlt (by omega) (by omega))
    · refine V_iload rfl rfl ?_
      -- at 23: .invokestatic 79
      refine V_cS rfl rfl rfl rfl (c_bc (by omega)) ?_
      refine V_iload_n rfl rfl ?_
      -- at 27: .if_icmp .ne 55
      have hps := pop7 (show s < 128 by omega)
      refine V_icmp_ne rfl (fun hd => ?_) (fun hd => ?_)
      · have hd : pop s ≠ m := fun q => hd (by rw [q])
        exact next h1 _ _ f1 (by rw [hcs, hF]; simp [hd])
      · have hd := nI_inj (by omega) (by omega) (Decidable.of_not_not hd)
        have hrk := rk_pop hs hn
        rw [hd] at hrk
        have hfr3 := hfr
        simp at hfr3
        refine V_aload_n rfl rfl rfl ?_
        refine V_getR (r := 21) rfl rfl ?_
        refine V_aload_n rfl rfl (by first | assumption | rfl) ?_
        refine V_iload rfl rfl ?_
        -- at 37: .invokevirtual 37
        refine V_callV rfl rfl rfl rfl rfl (c_keep (a := 21) hN1 rfl (by omega) (by omega) (by omega)) ?_
        rintro _ h2 ⟨rfl, hR, f2⟩
        rw [hrk] at hR
        show V S (dep + 10) 6 40 [.ref 20, .int (nI m), .int (nI p), .ref a, .int (nI (pop p)), .int (nI (cnt F s)), .int (nI s), v7] [] h2 _
        have f2 : Fr [6, 7, 8, 9, 21, 22] h h2 := f1.tr (f2.mono (by simp))
        have hwl : wth n C s < 2 ^ tri m := by have := wth_lt n C s; rw [hrk] at this; exact this
        have hpw : pop (wth n C s) ≤ 21 := pop21 (wth_lt' hn)
        refine V_aload_n rfl rfl rfl ?_
        refine V_getR (r := 21) rfl rfl ?_
        -- at 44: .invokevirtual 85
        refine V_cV rfl rfl rfl rfl rfl (c_lc hR.1) ?_
        rw [lsum_row hm hwl, Nat.mul_div_cancel_left _ (by decide)]
        refine V_iload rfl rfl ?_
        -- at 49: .if_icmp .ne 7
        refine V_icmp_ne rfl (fun he => ?_) (fun he => ?_)
        · have he : pop (wth n C s) ≠ pop p := fun q => he (by rw [q])
          refine V_ic (v := nI 0) rfl rfl ?_
          refine V_istore (L' := [_, _, _, _, _, _, _, _]) rfl rfl rfl ?_
          refine V_iload rfl rfl ?_
          -- at 61: .ifCond .eq 21
          refine V_if_eq rfl (fun hz => ?_) (fun hz => ?_)
          · refine next h2 _ _ f2 ?_
            have : ¬ frm m (wth n C s) = p := fun q => he (by rw [← q, pop_frm hm hwl])
            rw [hcs, hF]; simp [this]
          · exact absurd rfl hz
        · have he := nI_inj (by omega) (by omega) (Decidable.of_not_not he)
          refine V_ic (v := nI 1) rfl rfl ?_
          refine V_goto rfl ?_
          refine V_istore (L' := [_, _, _, _, _, _, _, _]) rfl rfl rfl ?_
          refine V_iload rfl rfl ?_
          -- at 61: .ifCond .eq 21
          refine V_if_eq rfl (fun hz => ?_) (fun hz => ?_)
          · exact absurd hz (by decide)
          · refine V_aload_n rfl rfl rfl ?_
            refine V_getR (r := 6) rfl rfl ?_
            refine V_aload_n rfl rfl rfl ?_
            refine V_getR (r := 21) rfl rfl ?_
            -- at 72: .invokevirtual 27
            refine V_callV rfl rfl rfl rfl rfl (c_frm hR) ?_
            rintro _ h3 ⟨rfl, f3⟩
            show V S (dep + 10) 6 75 [.ref 20, .int (nI m), .int (nI p), .ref a, .int (nI (pop p)), .int (nI (cnt F s)), .int (nI s), .int (nI 1)] [.int (nI (frm m (wth n C s)))] h3 _
            have f3 : Fr [6, 7, 8, 9, 21, 22] h h3 := f2.tr (f3.mono (by simp))
            have hfl := frm21 (C := wth n C s) hm
            refine V_iload_n rfl rfl ?_
            -- at 76: .if_icmp .ne 6
            refine V_icmp_ne rfl (fun hj => ?_) (fun hj => ?_)
            · have hj : ¬ frm m (wth n C s) = p := fun q => hj (by rw [q])
              refine next h3 _ _ f3 ?_
              rw [hcs, hF]; simp [hj]
            · have hj := nI_inj (by omega) (by omega) (Decidable.of_not_not hj)
              refine V_iinc (L' := [_, _, _, _, _, _, _, _]) rfl rfl rfl ?_
              -- at 82: .iinc 6 1
              rw [show Int32.ofInt 1 = nI 1 from rfl, nI_add]
              refine next h3 _ _ f3 ?_
              rw [hcs, hF]; simp [hj, hd]
