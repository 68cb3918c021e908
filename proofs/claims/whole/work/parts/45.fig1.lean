/-! classes of nets: like degrees, two sides -/
def allB (p : Nat → Bool) : Nat → Bool
  | 0 => true
  | k + 1 => allB p k && p k
def anyB (p : Nat → Bool) : Nat → Bool
  | 0 => false
  | k + 1 => anyB p k || p k
theorem allB_iff {p : Nat → Bool} : ∀ {k : Nat}, allB p k = true ↔ ∀ i, i < k → p i = true := by
  intro k
  induction k with
  | zero => exact ⟨fun _ i hi => by omega, fun _ => rfl⟩
  | succ k ih =>
    rw [allB, Bool.and_eq_true, ih]
    exact ⟨fun h i hi => if e : i = k then e ▸ h.2 else h.1 i (by omega), fun h => ⟨fun i hi => h i (by omega), h k (by omega)⟩⟩
theorem anyB_iff {p : Nat → Bool} : ∀ {k : Nat}, anyB p k = true ↔ ∃ i, i < k ∧ p i = true := by
  intro k
  induction k with
  | zero => exact ⟨fun h => Bool.noConfusion h, fun ⟨i, hi, _⟩ => by omega⟩
  | succ k ih =>
    rw [anyB, Bool.or_eq_true, ih]
    constructor
    · rintro (⟨i, hi, h⟩ | h)
      · exact ⟨i, by omega, h⟩
      · exact ⟨k, by omega, h⟩
    · rintro ⟨i, hi, h⟩
      by_cases e : i = k
      · subst e; exact Or.inr h
      · exact Or.inl ⟨i, by omega, h⟩
theorem bfalse {b : Bool} (h : ¬ b = true) : b = false := by cases b <;> simp_all
theorem allB_no {p : Nat → Bool} {k i : Nat} (hi : i < k) (h : p i = false) : allB p k = false := bfalse (fun q => by
  have := allB_iff.mp q i hi
  rw [h] at this
  exact Bool.noConfusion this)
theorem anyB_yes {p : Nat → Bool} {k i : Nat} (hi : i < k) (h : p i = true) : anyB p k = true := anyB_iff.mpr ⟨i, hi, h⟩
theorem anyB_none {p : Nat → Bool} {k : Nat} (h : ∀ i, i < k → p i = false) : anyB p k = false := bfalse (fun q => by
  obtain ⟨i, hi, h2⟩ := anyB_iff.mp q
  rw [h i hi] at h2
  exact Bool.noConfusion h2)
def ldg (n C : Nat) : Bool := allB (fun v => decide (pop (rowOf n C v) = pop (rowOf n C 0))) n
theorem c_ldg {S : mScr} {dep a n C : Nat} {h : Hp} (hN : NC h a n C) (hn1 : 1 ≤ n) : Cal S (dep + 2) 22 [.ref a] h (Rt (bI (ldg n C)) h) := by
  obtain ⟨⟨ha, hn, h0, hg, hb⟩, hC⟩ := id hN
  have hb1 := net_b ha
  show V S (dep + 2) 22 0 [.ref a, .null] [] h _
  refine V_ic (v := nI 1) rfl rfl ?_
  refine V_istore_n (L' := [_, _]) rfl rfl rfl ?_
  -- at 2: .iload_n 1
  have lp := loopUp (P := fun v => 1 ≤ v → (∀ u, u < v → decide (pop (rowOf n C u) = pop (rowOf n C 0)) = true) → V S (dep + 2) 22 2 [.ref a, .int (nI v)] [] h (Rt (bI (ldg n C)) h)) n ?_ ?_ 1 hn1
  · exact lp (Nat.le_refl _) (fun u hu => by rw [show u = 0 by omega]; exact decide_eq_true rfl)
  · intro _ hall
    refine V_iload_n rfl rfl ?_
    refine V_aload_n rfl rfl (by first | assumption | rfl) ?_
    refine V_gi 0 rfl (net_sz (by first | assumption | rfl)) rfl ?_
    -- at 7: .if_icmp .ge 24
    rw [h0]
    refine V_icmp_ge rfl (fun hc => ?_) (fun hc => ?_)
    · refine V_ic (v := nI 1) rfl rfl ?_
      -- at 32: .ireturn
      refine V_zret rfl rfl (by first | exact Or.inl rfl | exact Or.inr rfl | assumption) ?_
      exact Rt.of (by rw [show ldg n C = true from allB_iff.mpr hall]; rfl)
    · exact absurd (nI_le (Nat.le_refl _) (by omega)) hc
  · intro v hv ih hv1 hall
    have hp1 := pop7 (hb v)
    have hp2 := pop7 (hb 0)
    refine V_iload_n rfl rfl ?_
    refine V_aload_n rfl rfl (by first | assumption | rfl) ?_
    refine V_gi 0 rfl (net_sz (by first | assumption | rfl)) rfl ?_
    -- at 7: .if_icmp .ge 24
    rw [h0]
    refine V_icmp_ge rfl (fun hc => ?_) (fun hc => ?_)
    · exact absurd hc (nI_ge hv (by omega))
    · refine V_aload_n rfl rfl (by first | assumption | rfl) ?_
      refine V_iload_n rfl rfl ?_
      -- at 12: .invokevirtual 67
      refine V_cV rfl rfl (by first | assumption | rfl) rfl rfl (c_degC hN hv) ?_
      refine V_aload_n rfl rfl (by first | assumption | rfl) ?_
      refine V_ic (v := nI 0) rfl rfl ?_
      -- at 17: .invokevirtual 67
      refine V_cV rfl rfl (by first | assumption | rfl) rfl rfl (c_degC hN hn1) ?_
      refine V_icmp_eq rfl (fun hd => ?_) (fun hd => ?_)
      · have hd := nI_inj (by omega) (by omega) hd
        refine V_iinc (L' := [_, _]) rfl rfl rfl ?_
        refine V_goto rfl ?_
        -- at 2: .iload_n 1
        rw [show Int32.ofInt 1 = nI 1 from rfl, nI_add]
        exact ih (by omega) (fun u hu => if e : u = v then e ▸ decide_eq_true hd else hall u (by omega))
      · refine V_ic (v := nI 0) rfl rfl ?_
        -- at 24: .ireturn
        refine V_zret rfl rfl (by first | exact Or.inl rfl | exact Or.inr rfl | assumption) ?_
        exact Rt.of (by rw [show ldg n C = false from allB_no hv (decide_eq_false (fun q => hd (by rw [q])))]; rfl)
theorem m_ldg {S : mScr} {dep n C : Nat} {h : Hp} (hn : n ≤ 7) (hC : C < 2 ^ 21) (hn1 : 1 ≤ n) : Cal S (dep + 3) 229 [.int (nI n), .int (nI C)] h (Rt (bI (ldg n C)) h) := by
  show V S (dep + 3) 229 0 [.int (nI n), .int (nI C), .null] [] h _
  refine V_ic (v := nI 1) rfl rfl ?_
  refine V_istore_n (L' := [_, _, _]) rfl rfl rfl ?_
  -- at 2: .iload_n 2
  have lp := loopUp (P := fun v => 1 ≤ v → (∀ u, u < v → decide (pop (rowOf n C u) = pop (rowOf n C 0)) = true) → V S (dep + 3) 229 2 [.int (nI n), .int (nI C), .int (nI v)] [] h (Rt (bI (ldg n C)) h)) n ?_ ?_ 1 hn1
  · exact lp (Nat.le_refl _) (fun u hu => by rw [show u = 0 by omega]; exact decide_eq_true rfl)
  · intro _ hall
    refine V_iload_n rfl rfl ?_
    refine V_iload_n rfl rfl ?_
    -- at 4: .if_icmp .ge 32
    refine V_icmp_ge rfl (fun hc => ?_) (fun hc => ?_)
    · refine V_ic (v := nI 1) rfl rfl ?_
      -- at 37: .ireturn
      refine V_zret rfl rfl (by first | exact Or.inl rfl | exact Or.inr rfl | assumption) ?_
      exact Rt.of (by rw [show ldg n C = true from allB_iff.mpr hall]; rfl)
    · exact absurd (nI_le (Nat.le_refl _) (by omega)) hc
  · intro v hv ih hv1 hall
    have hb1 : rowOf n C v < 128 := row128 hn
    have hb2 : rowOf n C 0 < 128 := row128 hn
    have hp1 := pop7 hb1
    have hp2 := pop7 hb2
    refine V_iload_n rfl rfl ?_
    refine V_iload_n rfl rfl ?_
    -- at 4: .if_icmp .ge 32
    refine V_icmp_ge rfl (fun hc => ?_) (fun hc => ?_)
    · exact absurd hc (nI_ge hv (by omega))
    · refine V_iload_n rfl rfl ?_
      refine V_iload_n rfl rfl ?_
      refine V_iload_n rfl rfl ?_
      -- at 10: .invokestatic 112
      refine V_cS rfl rfl rfl rfl (m_near hn hC (by omega)) ?_
      rw [mnr_row hv]
      refine V_cS rfl rfl rfl rfl (c_bc (by omega)) ?_
      refine V_iload_n rfl rfl ?_
      refine V_iload_n rfl rfl ?_
      refine V_ic (v := nI 0) rfl rfl ?_
      -- at 19: .invokestatic 112
      refine V_cS rfl rfl rfl rfl (m_near hn hC (by omega)) ?_
      rw [mnr_row hn1]
      refine V_cS rfl rfl rfl rfl (c_bc (by omega)) ?_
      refine V_icmp_eq rfl (fun hd => ?_) (fun hd => ?_)
      · have hd := nI_inj (by omega) (by omega) hd
        refine V_iinc (L' := [_, _, _]) rfl rfl rfl ?_
        refine V_goto rfl ?_
        -- at 2: .iload_n 2
        rw [show Int32.ofInt 1 = nI 1 from rfl, nI_add]
        exact ih (by omega) (fun u hu => if e : u = v then e ▸ decide_eq_true hd else hall u (by omega))
      · refine V_ic (v := nI 0) rfl rfl ?_
        -- at 29: .ireturn
        refine V_zret rfl rfl (by first | exact Or.inl rfl | exact Or.inr rfl | assumption) ?_
        exact Rt.of (by rw [show ldg n C = false from allB_no hv (decide_eq_false (fun q => hd (by rw [q])))]; rfl)
def sdv (n C s v : Nat) : Bool := decide ((if s.testBit v = true then rowOf n C v &&& s else rowOf n C v ^^^ (rowOf n C v &&& s)) = 0)
def sds (n C s : Nat) : Bool := allB (sdv n C s) n
def two (n C : Nat) : Bool := anyB (sds n C) (2 ^ n)
theorem c_sds {S : mScr} {dep a n C s : Nat} {h : Hp} (hN : NC h a n C) (hs : s < 128) : Cal S dep 24 [.ref a, .int (nI s)] h (Rt (bI (sds n C s)) h) := by
  obtain ⟨⟨ha, hn, h0, hg, hb⟩, hC⟩ := id hN
  have hb1 := net_b ha
  have hb2 := net_b1 ha
  show V S dep 24 0 [.ref a, .int (nI s), .null, .null] [] h _
  refine V_ic (v := nI 0) rfl rfl ?_
  refine V_istore_n (L' := [_, _, _, _]) rfl rfl rfl ?_
  -- at 2: .iload_n 2
  have lp := loopUp (P := fun v => (∀ u, u < v → sdv n C s u = true) → ∀ v3, V S dep 24 2 [.ref a, .int (nI s), .int (nI v), v3] [] h (Rt (bI (sds n C s)) h)) n ?_ ?_ 0 (Nat.zero_le _)
  · exact lp (fun u hu => by omega) _
  · intro hall v3
    refine V_iload_n rfl rfl ?_
    refine V_aload_n rfl rfl (by first | assumption | rfl) ?_
    refine V_gi 0 rfl (net_sz (by first | assumption | rfl)) rfl ?_
    -- at 7: .if_icmp .ge 38
    rw [h0]
    refine V_icmp_ge rfl (fun hc => ?_) (fun hc => ?_)
    · refine V_ic (v := nI 1) rfl rfl ?_
      -- at 46: .ireturn
      refine V_zret rfl rfl (by first | exact Or.inl rfl | exact Or.inr rfl | assumption) ?_
      exact Rt.of (by rw [show sds n C s = true from allB_iff.mpr hall]; rfl)
    · exact absurd (nI_le (Nat.le_refl _) (by omega)) hc
  · intro v hv ih hall v3
    have hbv := hb v
    have key : ∀ x y, nI (rowOf n C v) &&& x = nI y → y < 128 → decide (y = 0) = sdv n C s v → V S dep 24 25 [.ref a, .int (nI s), .int (nI v), v3] [.int x] h (Rt (bI (sds n C s)) h) := by
      intro x y e1 e2 e3
      refine V_istore_n (L' := [_, _, _, _]) rfl rfl rfl ?_
      refine V_aload_n rfl rfl (by first | assumption | rfl) ?_
      refine V_getR rfl (net_nr (by first | assumption | rfl)) ?_
      refine V_iload_n rfl rfl ?_
      refine V_al 7 rfl (net_ar (by first | assumption | rfl)) (by first | with_reducible rfl | assumption | exact nI_sub (by omega) | exact nI_add _ _) (by first | omega | assumption) rfl ?_
      refine V_iload_n rfl rfl ?_
      refine V_iand rfl ?_
      -- at 34: .ifCond .eq 5
      rw [hg v (by omega), e1]
      refine V_if_eq rfl (fun hd => ?_) (fun hd => ?_)
      · have hd : y = 0 := nI_inj (by omega) (by omega) hd
        refine V_iinc (L' := [_, _, _, _]) rfl rfl rfl ?_
        refine V_goto rfl ?_
        -- at 2: .iload_n 2
        rw [show Int32.ofInt 1 = nI 1 from rfl, nI_add]
        exact ih (fun u hu => if e : u = v then e ▸ (by rw [← e3, hd]; rfl) else hall u (by omega)) _
      · refine V_ic (v := nI 0) rfl rfl ?_
        -- at 38: .ireturn
        refine V_zret rfl rfl (by first | exact Or.inl rfl | exact Or.inr rfl | assumption) ?_
        exact Rt.of (by rw [show sds n C s = false from allB_no hv (by rw [← e3]; exact decide_eq_false (fun q => hd (by rw [q]; rfl)))]; rfl)
    refine V_iload_n rfl rfl ?_
    refine V_aload_n rfl rfl (by first | assumption | rfl) ?_
    refine V_gi 0 rfl (net_sz (by first | assumption | rfl)) rfl ?_
    -- at 7: .if_icmp .ge 38
    rw [h0]
    refine V_icmp_ge rfl (fun hc => ?_) (fun hc => ?_)
    · exact absurd hc (nI_ge hv (by omega))
    · refine V_iload_n rfl rfl ?_
      refine V_iload_n rfl rfl ?_
      refine V_ishr rfl ?_
      refine V_ic (v := nI 1) rfl rfl ?_
      refine V_iand rfl ?_
      -- at 15: .ifCond .eq 7
      refine V_if_eq rfl (fun hd => ?_) (fun hd => ?_)
      · have hd := (tb_z (by omega) (by omega)).mp hd
        refine V_iload_n rfl rfl ?_
        refine V_ic (v := -1) rfl rfl ?_
        refine V_ixor rfl ?_
        -- at 25: .istore_n 3
        refine key _ (rowOf n C v ^^^ (rowOf n C v &&& s)) (nI_andn _ _) (xand_lt hbv) ?_
        unfold sdv
        rw [hd]; rfl
      · have hd := (tb_nz (by omega) (by omega)).mp hd
        refine V_iload_n rfl rfl ?_
        refine V_goto rfl ?_
        -- at 25: .istore_n 3
        refine key _ (rowOf n C v &&& s) (nI_and _ _) (Nat.lt_of_le_of_lt Nat.and_le_left hbv) ?_
        unfold sdv
        rw [hd]; rfl
theorem c_two {S : mScr} {dep a n C : Nat} {h : Hp} (hN : NC h a n C) : Cal S (dep + 1) 23 [.ref a] h (Rt (bI (two n C)) h) := by
  obtain ⟨⟨ha, hn, h0, hg, hb⟩, hC⟩ := id hN
  have hb1 := net_b ha
  have hL : (2 : Nat) ^ n ≤ 128 := Nat.pow_le_pow_right (n := 2) (j := 7) (by decide) hn
  have h2p := Nat.two_pow_pos n
  show V S (dep + 1) 23 0 [.ref a, .null] [] h _
  refine V_ic (v := nI 0) rfl rfl ?_
  refine V_istore_n (L' := [_, _]) rfl rfl rfl ?_
  -- at 2: .iload_n 1
  have lp := loopUp (P := fun s => (∀ u, u < s → sds n C u = false) → V S (dep + 1) 23 2 [.ref a, .int (nI s)] [] h (Rt (bI (two n C)) h)) (2 ^ n) ?_ ?_ 0 (Nat.zero_le _)
  · exact lp (fun u hu => by omega)
  · intro hall
    refine V_iload_n rfl rfl ?_
    refine V_aload_n rfl rfl (by first | assumption | rfl) ?_
    -- at 4: .invokevirtual 71
    refine V_cV rfl rfl (by first | assumption | rfl) rfl rfl (c_evn hN.1) ?_
    refine V_icmp_gt rfl (fun hc => ?_) (fun hc => ?_)
    · refine V_ic (v := nI 0) rfl rfl ?_
      -- at 27: .ireturn
      refine V_zret rfl rfl (by first | exact Or.inl rfl | exact Or.inr rfl | assumption) ?_
      exact Rt.of (by rw [show two n C = false from anyB_none hall]; rfl)
    · exact absurd (nI_lt (by omega) (by omega)) hc
  · intro s hs ih hall
    refine V_iload_n rfl rfl ?_
    refine V_aload_n rfl rfl (by first | assumption | rfl) ?_
    -- at 4: .invokevirtual 71
    refine V_cV rfl rfl (by first | assumption | rfl) rfl rfl (c_evn hN.1) ?_
    refine V_icmp_gt rfl (fun hc => ?_) (fun hc => ?_)
    · exact absurd hc (nI_nlt (by omega) (by omega))
    · refine V_aload_n rfl rfl (by first | assumption | rfl) ?_
      refine V_iload_n rfl rfl ?_
      -- at 12: .invokestatic 74
      refine V_cS rfl rfl rfl rfl (c_sds hN (by omega)) ?_
      refine V_if_eq rfl (fun hd => ?_) (fun hd => ?_)
      · have hd := bI_z.mp hd
        refine V_iinc (L' := [_, _]) rfl rfl rfl ?_
        refine V_goto rfl ?_
        -- at 2: .iload_n 1
        rw [show Int32.ofInt 1 = nI 1 from rfl, nI_add]
        exact ih (fun u hu => if e : u = s then e ▸ hd else hall u (by omega))
      · have hd := bI_nz.mp hd
        refine V_ic (v := nI 1) rfl rfl ?_
        -- at 19: .ireturn
        refine V_zret rfl rfl (by first | exact Or.inl rfl | exact Or.inr rfl | assumption) ?_
        exact Rt.of (by rw [show two n C = true from anyB_yes hs hd]; rfl)
theorem m_two {S : mScr} {dep n C : Nat} {h : Hp} (hn : n ≤ 7) (hC : C < 2 ^ 21) : Cal S (dep + 3) 230 [.int (nI n), .int (nI C)] h (Rt (bI (two n C)) h) := by
  have hL : (2 : Nat) ^ n ≤ 128 := Nat.pow_le_pow_right (n := 2) (j := 7) (by decide) hn
  have h2p := Nat.two_pow_pos n
  show V S (dep + 3) 230 0 [.int (nI n), .int (nI C), .null, .null, .null] [] h _
  refine V_ic (v := nI 0) rfl rfl ?_
  refine V_istore_n (L' := [_, _, _, _, _]) rfl rfl rfl ?_
  -- at 2: .iload_n 2
  have lp := loopUp (P := fun s => (∀ u, u < s → sds n C u = false) → ∀ v3 v4, V S (dep + 3) 230 2 [.int (nI n), .int (nI C), .int (nI s), v3, v4] [] h (Rt (bI (two n C)) h)) (2 ^ n) ?_ ?_ 0 (Nat.zero_le _)
  · exact lp (fun u hu => by omega) _ _
  · intro hall v3 v4
    refine V_iload_n rfl rfl ?_
    refine V_ic (v := nI 1) rfl rfl ?_
    refine V_iload_n rfl rfl ?_
    refine V_ishl rfl ?_
    -- at 6: .if_icmp .ge 81
    rw [nI_2p _ (by omega)]
    refine V_icmp_ge rfl (fun hc => ?_) (fun hc => ?_)
    · refine V_ic (v := nI 0) rfl rfl ?_
      -- at 88: .ireturn
      refine V_zret rfl rfl (by first | exact Or.inl rfl | exact Or.inr rfl | assumption) ?_
      exact Rt.of (by rw [show two n C = false from anyB_none hall]; rfl)
    · exact absurd (nI_le (Nat.le_refl _) (by omega)) hc
  · intro s hs ih hall v3 v4
    refine V_iload_n rfl rfl ?_
    refine V_ic (v := nI 1) rfl rfl ?_
    refine V_iload_n rfl rfl ?_
    refine V_ishl rfl ?_
    -- at 6: .if_icmp .ge 81
    rw [nI_2p _ (by omega)]
    refine V_icmp_ge rfl (fun hc => ?_) (fun hc => ?_)
    · exact absurd hc (nI_ge hs (by omega))
    · refine V_ic (v := nI 1) rfl rfl ?_
      refine V_istore_n (L' := [_, _, _, _, _]) rfl rfl rfl ?_
      refine V_ic (v := nI 0) rfl rfl ?_
      refine V_istore (L' := [_, _, _, _, _]) rfl rfl rfl ?_
      -- at 14: .iload 4
      have lq := loopUp (P := fun v => V S (dep + 3) 230 14 [.int (nI n), .int (nI C), .int (nI s), .int (bI (allB (sdv n C s) v)), .int (nI v)] [] h (Rt (bI (two n C)) h)) n ?_ ?_ 0 (Nat.zero_le _)
      · exact lq
      · refine V_iload rfl rfl ?_
        refine V_iload_n rfl rfl ?_
        -- at 17: .if_icmp .ge 58
        refine V_icmp_ge rfl (fun hd => ?_) (fun hd => ?_)
        · refine V_iload_n rfl rfl ?_
          -- at 76: .ifCond .eq 5
          refine V_if_eq rfl (fun he => ?_) (fun he => ?_)
          · have he := bI_z.mp he
            refine V_iinc (L' := [_, _, _, _, _]) rfl rfl rfl ?_
            refine V_goto rfl ?_
            -- at 2: .iload_n 2
            rw [show Int32.ofInt 1 = nI 1 from rfl, nI_add]
            exact ih (fun u hu => if e : u = s then e ▸ he else hall u (by omega)) _ _
          · have he := bI_nz.mp he
            refine V_ic (v := nI 1) rfl rfl ?_
            -- at 80: .ireturn
            refine V_zret rfl rfl (by first | exact Or.inl rfl | exact Or.inr rfl | assumption) ?_
            exact Rt.of (by rw [show two n C = true from anyB_yes hs he]; rfl)
        · exact absurd (nI_le (Nat.le_refl _) (by omega)) hd
      · intro v hv ih2
        have hbv : rowOf n C v < 128 := row128 hn
        have st1 : ∀ b : Bool, b = allB (sdv n C s) (v + 1) → V S (dep + 3) 230 68 [.int (nI n), .int (nI C), .int (nI s), .int (bI (allB (sdv n C s) v)), .int (nI v)] [.int (bI b)] h (Rt (bI (two n C)) h) := by
          intro b e
          refine V_istore_n (L' := [_, _, _, _, _]) rfl rfl rfl ?_
          refine V_iinc (L' := [_, _, _, _, _]) rfl rfl rfl ?_
          refine V_goto rfl ?_
          -- at 14: .iload 4
          rw [show Int32.ofInt 1 = nI 1 from rfl, nI_add, e]
          exact ih2
        have yes : allB (sdv n C s) v = true → sdv n C s v = true → V S (dep + 3) 230 63 [.int (nI n), .int (nI C), .int (nI s), .int (bI (allB (sdv n C s) v)), .int (nI v)] [] h (Rt (bI (two n C)) h) := by
          intro e1 e2
          refine V_ic (v := nI 1) rfl rfl ?_
          refine V_goto rfl ?_
          -- at 68: .istore_n 3
          exact st1 true (by rw [allB, e1, e2]; rfl)
        have no : allB (sdv n C s) (v + 1) = false → V S (dep + 3) 230 67 [.int (nI n), .int (nI C), .int (nI s), .int (bI (allB (sdv n C s) v)), .int (nI v)] [] h (Rt (bI (two n C)) h) := by
          intro e1
          refine V_ic (v := nI 0) rfl rfl ?_
          -- at 68: .istore_n 3
          exact st1 false e1.symm
        refine V_iload rfl rfl ?_
        refine V_iload_n rfl rfl ?_
        -- at 17: .if_icmp .ge 58
        refine V_icmp_ge rfl (fun hd => ?_) (fun hd => ?_)
        · exact absurd hd (nI_ge hv (by omega))
        · refine V_iload_n rfl rfl ?_
          -- at 21: .ifCond .eq 46
          refine V_if_eq rfl (fun he => ?_) (fun he => ?_)
          · have he := bI_z.mp he
            exact no (by rw [allB, he]; rfl)
          · have he := bI_nz.mp he
            refine V_iload_n rfl rfl ?_
            refine V_iload rfl rfl ?_
            refine V_ishr rfl ?_
            refine V_ic (v := nI 1) rfl rfl ?_
            refine V_iand rfl ?_
            -- at 30: .iconst 1
            rw [tb_one (by omega) (by omega)]
            refine V_ic (v := nI 1) rfl rfl ?_
            -- at 31: .if_icmp .ne 18
            refine V_icmp_ne rfl (fun hf => ?_) (fun hf => ?_)
            · have hf : s.testBit v = false := by
                cases q : s.testBit v with
                | false => rfl
                | true => rw [q] at hf; exact absurd rfl hf
              refine V_iload_n rfl rfl ?_
              refine V_iload_n rfl rfl ?_
              refine V_iload rfl rfl ?_
              -- at 53: .invokestatic 112
              refine V_cS rfl rfl rfl rfl (m_near hn hC (by omega)) ?_
              rw [mnr_row hv]
              refine V_iload_n rfl rfl ?_
              refine V_ic (v := -1) rfl rfl ?_
              refine V_ixor rfl ?_
              refine V_iand rfl ?_
              -- at 60: .ifCond .ne 7
              rw [nI_andn]
              have hlt := xand_lt (y := s) hbv
              have e3 : sdv n C s v = decide (rowOf n C v ^^^ (rowOf n C v &&& s) = 0) := by unfold sdv; rw [hf]; rfl
              refine V_if_ne rfl (fun hj => ?_) (fun hj => ?_)
              · refine no (by rw [allB, he, e3]; exact decide_eq_false (fun q => hj (by rw [q]; rfl)))
              · have hj := nI_inj (b := 0) (by omega) (by omega) (Decidable.of_not_not hj)
                exact yes he (by rw [e3]; exact decide_eq_true hj)
            · have hf := bI_one.mp (Decidable.of_not_not hf)
              refine V_iload_n rfl rfl ?_
              refine V_iload_n rfl rfl ?_
              refine V_iload rfl rfl ?_
              -- at 38: .invokestatic 112
              refine V_cS rfl rfl rfl rfl (m_near hn hC (by omega)) ?_
              rw [mnr_row hv]
              refine V_iload_n rfl rfl ?_
              refine V_iand rfl ?_
              -- at 43: .ifCond .ne 24
              rw [nI_and]
              have hlt : rowOf n C v &&& s < 128 := Nat.lt_of_le_of_lt Nat.and_le_left hbv
              have e3 : sdv n C s v = decide (rowOf n C v &&& s = 0) := by unfold sdv; rw [hf]; rfl
              refine V_if_ne rfl (fun hj => ?_) (fun hj => ?_)
              · refine no (by rw [allB, he, e3]; exact decide_eq_false (fun q => hj (by rw [q]; rfl)))
              · have hj := nI_inj (b := 0) (by omega) (by omega) (Decidable.of_not_not hj)
                refine V_goto rfl ?_
                -- at 63: .iconst 1
                exact yes he (by rw [e3]; exact decide_eq_true hj)
