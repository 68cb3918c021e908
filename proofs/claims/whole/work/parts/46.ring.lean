/-! rings -/
def re (g : Nat → Nat) (n : Nat) : Nat → Nat → Nat → Prop
  | 0, T, v => T = 1 ∧ v = 0
  | k + 1, T, v => v < n ∧ v ≠ 0 ∧ T.testBit v = true ∧ ∃ e, e < n ∧ re g n k (T ^^^ 2 ^ v) e ∧ (g e).testBit v = true
def RE (g : Nat → Nat) (n T v : Nat) : Prop := ∃ k, re g n k T v
theorem xor_tb (T v i : Nat) : (T ^^^ 2 ^ v).testBit i = (T.testBit i ^^ decide (v = i)) := by rw [Nat.testBit_xor, tb2]
theorem RE_odd {g : Nat → Nat} {n : Nat} : ∀ k T v, re g n k T v → T.testBit 0 = true ∧ T.testBit v = true := by
  intro k
  induction k with
  | zero => rintro T v ⟨rfl, rfl⟩; exact ⟨rfl, rfl⟩
  | succ k ih =>
    rintro T v ⟨_, h0, h1, e, _, h2, _⟩
    have := (ih _ _ h2).1
    rw [xor_tb, decide_eq_false h0, Bool.xor_false] at this
    exact ⟨this, h1⟩
theorem xor_sub_lt {T v : Nat} (h : T.testBit v = true) : T ^^^ 2 ^ v < T := by
  have e : (T ^^^ 2 ^ v) ||| 2 ^ v = T := by
    apply Nat.eq_of_testBit_eq
    intro i
    rw [Nat.testBit_or, xor_tb, tb2]
    by_cases q : v = i
    · subst q; rw [h]; simp
    · simp [q]
  have h1 : T ^^^ 2 ^ v ≤ T := by conv => rhs; rw [← e]
                                  exact Nat.left_le_or
  have h2 : T ^^^ 2 ^ v ≠ T := fun q => by
    have := congrArg (fun x => x.testBit v) q
    rw [xor_tb, h] at this
    simp at this
  omega
theorem xor_or {s v : Nat} (h : s.testBit v = false) : (s ||| 2 ^ v) ^^^ 2 ^ v = s := by
  apply Nat.eq_of_testBit_eq
  intro i
  rw [xor_tb, Nat.testBit_or, tb2]
  by_cases q : v = i
  · subst q; rw [h]; simp
  · simp [q]
theorem or_xor {T v : Nat} (h : T.testBit v = true) : (T ^^^ 2 ^ v) ||| 2 ^ v = T := by
  apply Nat.eq_of_testBit_eq
  intro i
  rw [Nat.testBit_or, xor_tb, tb2]
  by_cases q : v = i
  · subst q; rw [h]; simp
  · simp [q]
theorem RE_step {g : Nat → Nat} {n T v : Nat} : RE g n T v ↔ (T = 1 ∧ v = 0) ∨ (v < n ∧ v ≠ 0 ∧ T.testBit v = true ∧ ∃ e, e < n ∧ RE g n (T ^^^ 2 ^ v) e ∧ (g e).testBit v = true) := by
  constructor
  · rintro ⟨k, h⟩
    cases k with
    | zero => exact Or.inl h
    | succ k => obtain ⟨a, b, c, e, d, f, i⟩ := h; exact Or.inr ⟨a, b, c, e, d, ⟨k, f⟩, i⟩
  · rintro (h | ⟨a, b, c, e, d, ⟨k, f⟩, i⟩)
    · exact ⟨0, h⟩
    · exact ⟨k + 1, a, b, c, e, d, f, i⟩
/-- rows of ends: after all odd sets below s -/
def RI (g : Nat → Nat) (n s : Nat) (R : Nat → Nat) : Prop := ∀ T, T < 2 ^ n → ∀ v, (R T).testBit v = true ↔ RE g n T v ∧ (T = 1 ∨ T ^^^ 2 ^ v < s)
def LRn (g : Nat → Nat) (n s e x : Nat) (R R1 : Nat → Nat) : Prop := ∀ T, T < 2 ^ n → ∀ v, (R1 T).testBit v = true ↔ (R T).testBit v = true ∨ (s.testBit v = false ∧ v < n ∧ T = s ||| 2 ^ v ∧ ((∃ e', e' < e ∧ (R s).testBit e' = true ∧ (g e').testBit v = true) ∨ (v < x ∧ (R s).testBit e = true ∧ (g e).testBit v = true)))
theorem RI_self {g : Nat → Nat} {n s : Nat} {R : Nat → Nat} (h : RI g n s R) (hs : s < 2 ^ n) (e : Nat) : (R s).testBit e = true ↔ RE g n s e := by
  rw [h s hs]
  refine ⟨fun q => q.1, fun q => ⟨q, ?_⟩⟩
  obtain ⟨k, hk⟩ := q
  exact Or.inr (xor_sub_lt (RE_odd k _ _ hk).2)
theorem RI_step {g : Nat → Nat} {n s : Nat} {R R1 : Nat → Nat} (hs : s < 2 ^ n) (hodd : s.testBit 0 = true) (h : RI g n s R) (hl : LRn g n s n 0 R R1) : RI g n (s + 2) R1 := by
  intro T hT v
  rw [hl T hT v, h T hT v]
  constructor
  · rintro (⟨h1, h2⟩ | ⟨h1, h2, h3, h4⟩)
    · exact ⟨h1, h2.imp id (fun q => by omega)⟩
    · have hv0 : v ≠ 0 := fun q => by rw [q, hodd] at h1; exact Bool.noConfusion h1
      rcases h4 with ⟨e, he, h5, h6⟩ | ⟨h5, _⟩
      · have ex : T ^^^ 2 ^ v = s := by rw [h3]; exact xor_or h1
        refine ⟨RE_step.mpr (Or.inr ⟨h2, hv0, ?_, e, he, by rw [ex]; exact (RI_self h hs e).mp h5, h6⟩), Or.inr (by omega)⟩
        rw [h3, Nat.testBit_or, tb2]; simp
      · omega
  · rintro ⟨h1, h2⟩
    by_cases q : T = 1 ∨ T ^^^ 2 ^ v < s
    · exact Or.inl ⟨h1, q⟩
    · have hT1 : T ≠ 1 := fun z => q (Or.inl z)
      have hlt : T ^^^ 2 ^ v < s + 2 := h2.resolve_left hT1
      rcases RE_step.mp h1 with ⟨z, _⟩ | ⟨a, b, c, e, d, f, i⟩
      · exact absurd z hT1
      · have hx : T ^^^ 2 ^ v = s ∨ T ^^^ 2 ^ v = s + 1 := by have : ¬ T ^^^ 2 ^ v < s := fun z => q (Or.inr z); omega
        rcases hx with hx | hx
        · right
          have hsv : s.testBit v = false := by rw [← hx, xor_tb, c]; simp
          refine ⟨hsv, a, ?_, Or.inl ⟨e, d, (RI_self h hs e).mpr (by rw [← hx]; exact f), i⟩⟩
          rw [← hx]; exact (or_xor c).symm
        · exfalso
          obtain ⟨k, hk⟩ := f
          have h5 := (RE_odd k _ _ hk).1
          rw [hx] at h5
          rw [Nat.testBit_zero] at h5 hodd
          simp at h5 hodd
          omega
theorem net_16 : ∀ a, a < 208 → isNet a = true → a ≠ 16 ∧ a + 1 ≠ 16 := by decide +kernel
theorem net16 {a : Nat} (h : isNet a = true) : a ≠ 16 ∧ a + 1 ≠ 16 := net_16 a (shC_lt h) h
theorem c_len {S : mScr} {dep a n C s : Nat} {R : Nat → Nat} {h : Hp} (hN : NC h a n C) (hs : s < 2 ^ n) (hR : ∀ T, T < 2 ^ n → h.1 16 T = nI (R T) ∧ R T < 128) : Cal S dep 26 [.ref 13, .ref a, .int (nI s)] h (fun q h' => q = none ∧ Fr [16] h h' ∧ ∃ R1, (∀ T, T < 2 ^ n → h'.1 16 T = nI (R1 T) ∧ R1 T < 128) ∧ LRn (rowOf n C) n s n 0 R R1) := by
  obtain ⟨⟨ha, hn, h0, hg, hb⟩, hC⟩ := id hN
  have hb1 := net_b ha
  have hb2 := net_b1 ha
  have hge := net_ge ha
  have ha16 := net16 ha
  have hL : (2 : Nat) ^ n ≤ 128 := Nat.pow_le_pow_right (n := 2) (j := 7) (by decide) hn
  show V S dep 26 0 [.ref 13, .ref a, .int (nI s), .null, .null, .null] [] h _
  refine V_ic (v := nI 0) rfl rfl ?_
  refine V_istore_n (L' := [_, _, _, _, _, _]) rfl rfl rfl ?_
  -- at 2: .iload_n 3
  have lp := loopUp (P := fun e => ∀ h1 R1 v4 v5, Fr [16] h h1 → (∀ T, T < 2 ^ n → h1.1 16 T = nI (R1 T) ∧ R1 T < 128) → LRn (rowOf n C) n s e 0 R R1 → V S dep 26 2 [.ref 13, .ref a, .int (nI s), .int (nI e), v4, v5] [] h1 (fun q h' => q = none ∧ Fr [16] h h' ∧ ∃ R1, (∀ T, T < 2 ^ n → h'.1 16 T = nI (R1 T) ∧ R1 T < 128) ∧ LRn (rowOf n C) n s n 0 R R1)) n ?_ ?_ 0 (Nat.zero_le _)
  · refine lp h R _ _ Fr.rf hR (fun T hT v => ⟨Or.inl, ?_⟩)
    rintro (q | ⟨_, _, _, ⟨e', he, _⟩ | ⟨hx, _⟩⟩)
    · exact q
    · omega
    · omega
  · intro h1 R1 v4 v5 f1 hR1 hI
    have hN1 := hN.fr f1 (by simp; omega) (by simp; omega)
    have h01 := hN1.1.2.2.1
    refine V_iload_n rfl rfl ?_
    refine V_aload_n rfl rfl (by first | assumption | rfl) ?_
    refine V_gi 0 rfl (net_sz (by first | assumption | rfl)) rfl ?_
    -- at 7: .if_icmp .ge 84
    rw [h01]
    refine V_icmp_ge rfl (fun hc => ?_) (fun hc => ?_)
    · refine V_return rfl rfl ?_
      exact ⟨rfl, f1, R1, hR1, hI⟩
    · exact absurd (nI_le (Nat.le_refl _) (by omega)) hc
  · intro e he ih h1 R1 v4 v5 f1 hR1 hI
    have hN1 := hN.fr f1 (by simp; omega) (by simp; omega)
    have h01 := hN1.1.2.2.1
    have hg1 := hN1.1.2.2.2.1
    have hss : ∀ (R2 : Nat → Nat) x, LRn (rowOf n C) n s e x R R2 → ∀ i, (R2 s).testBit i = (R s).testBit i := by
      intro R2 x hl i
      rw [Bool.eq_iff_iff, hl s hs i]
      refine ⟨fun q => q.elim id (fun ⟨z1, _, z2, _⟩ => ?_), Or.inl⟩
      exfalso
      have := congrArg (fun y => y.testBit i) z2
      rw [Nat.testBit_or, tb2, z1] at this
      simp at this
    have nxt : ∀ h2 R2 w v4 v5, Fr [16] h h2 → (∀ T, T < 2 ^ n → h2.1 16 T = nI (R2 T) ∧ R2 T < 128) → w < 128 → (∀ v, w.testBit v = true ↔ s.testBit v = false ∧ (R s).testBit e = true ∧ (rowOf n C e).testBit v = true) → LRn (rowOf n C) n s e 0 R R2 → V S dep 26 37 [.ref 13, .ref a, .int (nI s), .int (nI e), v4, v5] [.int (nI w)] h2 (fun q h' => q = none ∧ Fr [16] h h' ∧ ∃ R1, (∀ T, T < 2 ^ n → h'.1 16 T = nI (R1 T) ∧ R1 T < 128) ∧ LRn (rowOf n C) n s n 0 R R1) := by
      intro h2 R2 w v4 v5 f2 hR2 hw hwb hI2
      refine V_istore (L' := [_, _, _, _, _, _]) rfl rfl rfl ?_
      refine V_ic (v := nI 0) rfl rfl ?_
      refine V_istore (L' := [_, _, _, _, _, _]) rfl rfl rfl ?_
      -- at 42: .iload 5
      have lq := loopUp (P := fun x => ∀ h3 R3, Fr [16] h h3 → (∀ T, T < 2 ^ n → h3.1 16 T = nI (R3 T) ∧ R3 T < 128) → LRn (rowOf n C) n s e x R R3 → V S dep 26 42 [.ref 13, .ref a, .int (nI s), .int (nI e), .int (nI w), .int (nI x)] [] h3 (fun q h' => q = none ∧ Fr [16] h h' ∧ ∃ R1, (∀ T, T < 2 ^ n → h'.1 16 T = nI (R1 T) ∧ R1 T < 128) ∧ LRn (rowOf n C) n s n 0 R R1)) n ?_ ?_ 0 (Nat.zero_le _)
      · exact lq h2 R2 f2 hR2 hI2
      · intro h3 R3 f3 hR3 hI3
        have hN3 := hN.fr f3 (by simp; omega) (by simp; omega)
        have h03 := hN3.1.2.2.1
        refine V_iload rfl rfl ?_
        refine V_aload_n rfl rfl (by first | assumption | rfl) ?_
        refine V_gi 0 rfl (net_sz (by first | assumption | rfl)) rfl ?_
        -- at 48: .if_icmp .ge 37
        rw [h03]
        refine V_icmp_ge rfl (fun hd => ?_) (fun hd => ?_)
        · refine V_iinc (L' := [_, _, _, _, _, _]) rfl rfl rfl ?_
          refine V_goto rfl ?_
          -- at 2: .iload_n 3
          rw [show Int32.ofInt 1 = nI 1 from rfl, nI_add]
          refine ih h3 R3 _ _ f3 hR3 (fun T hT v => ?_)
          rw [hI3 T hT v]
          constructor
          · rintro (q | ⟨q1, q2, q3, ⟨e', he', q4⟩ | ⟨_, q5⟩⟩)
            · exact Or.inl q
            · exact Or.inr ⟨q1, q2, q3, Or.inl ⟨e', by omega, q4⟩⟩
            · exact Or.inr ⟨q1, q2, q3, Or.inl ⟨e, by omega, q5⟩⟩
          · rintro (q | ⟨q1, q2, q3, ⟨e', he', q4⟩ | ⟨q5, _⟩⟩)
            · exact Or.inl q
            · by_cases z : e' = e
              · subst z; exact Or.inr ⟨q1, q2, q3, Or.inr ⟨q2, q4⟩⟩
              · exact Or.inr ⟨q1, q2, q3, Or.inl ⟨e', by omega, q4⟩⟩
            · omega
        · exact absurd (nI_le (Nat.le_refl _) (by omega)) hd
      · intro x hx ih2 h3 R3 f3 hR3 hI3
        have hN3 := hN.fr f3 (by simp; omega) (by simp; omega)
        have h03 := hN3.1.2.2.1
        refine V_iload rfl rfl ?_
        refine V_aload_n rfl rfl (by first | assumption | rfl) ?_
        refine V_gi 0 rfl (net_sz (by first | assumption | rfl)) rfl ?_
        -- at 48: .if_icmp .ge 37
        rw [h03]
        refine V_icmp_ge rfl (fun hd => ?_) (fun hd => ?_)
        · exact absurd hd (nI_ge hx (by omega))
        · refine V_iload rfl rfl ?_
          refine V_iload rfl rfl ?_
          refine V_ishr rfl ?_
          refine V_ic (v := nI 1) rfl rfl ?_
          refine V_iand rfl ?_
          -- at 58: .ifCond .eq 21
          refine V_if_eq rfl (fun hj => ?_) (fun hj => ?_)
          · have hj := (tb_z (by omega) (by omega)).mp hj
            refine V_iinc (L' := [_, _, _, _, _, _]) rfl rfl rfl ?_
            refine V_goto rfl ?_
            -- at 42: .iload 5
            rw [show Int32.ofInt 1 = nI 1 from rfl, nI_add]
            refine ih2 h3 R3 f3 hR3 (fun T hT v => ?_)
            rw [hI3 T hT v]
            constructor
            · rintro (q | ⟨q1, q2, q3, q4 | ⟨q5, q6⟩⟩)
              · exact Or.inl q
              · exact Or.inr ⟨q1, q2, q3, Or.inl q4⟩
              · exact Or.inr ⟨q1, q2, q3, Or.inr ⟨by omega, q6⟩⟩
            · rintro (q | ⟨q1, q2, q3, q4 | ⟨q5, q6⟩⟩)
              · exact Or.inl q
              · exact Or.inr ⟨q1, q2, q3, Or.inl q4⟩
              · by_cases z : v = x
                · subst z
                  have := (hwb v).mpr ⟨q1, q6⟩
                  rw [hj] at this; exact Bool.noConfusion this
                · exact Or.inr ⟨q1, q2, q3, Or.inr ⟨by omega, q6⟩⟩
          · have hj := (tb_nz (by omega) (by omega)).mp hj
            have hjw := (hwb x).mp hj
            have hTl : s ||| 2 ^ x < 2 ^ n := Nat.or_lt_two_pow hs (Nat.pow_lt_pow_right (by decide) hx)
            refine V_aload_n rfl rfl rfl ?_
            refine V_getR (r := 16) rfl rfl ?_
            refine V_iload_n rfl rfl ?_
            refine V_ic (v := nI 1) rfl rfl ?_
            refine V_iload rfl rfl ?_
            refine V_ishl rfl ?_
            refine V_ior rfl ?_
            -- at 71: .dup2
            rw [nI_2p _ (by omega), nI_or]
            refine V_dup2 rfl rfl ?_
            refine V_al 128 rfl rfl (by first | with_reducible rfl | assumption | exact nI_sub (by omega) | exact nI_add _ _) (by first | omega | assumption) rfl ?_
            -- at 73: .iconst 1
            rw [(hR3 _ hTl).1]
            refine V_ic (v := nI 1) rfl rfl ?_
            refine V_iload rfl rfl ?_
            refine V_ishl rfl ?_
            refine V_ior rfl ?_
            -- at 78: .iastore
            rw [nI_2p _ (by omega), nI_or]
            refine V_as 128 rfl rfl (by first | with_reducible rfl | assumption | exact nI_sub (by omega) | exact nI_add _ _) (by first | omega | assumption) rfl ?_
            refine V_iinc (L' := [_, _, _, _, _, _]) rfl rfl rfl ?_
            refine V_goto rfl ?_
            -- at 42: .iload 5
            rw [show Int32.ofInt 1 = nI 1 from rfl, nI_add]
            have hRl := (hR3 _ hTl).2
            refine ih2 _ (fun T => if T = s ||| 2 ^ x then R3 T ||| 2 ^ x else R3 T) (f3.tr (Fr.w (by simp))) (fun T hT => ?_) (fun T hT v => ?_)
            · by_cases z : T = s ||| 2 ^ x
              · rw [if_pos z, z, wI_same]
                exact ⟨rfl, Nat.or_lt_two_pow (n := 7) hRl (Nat.pow_lt_pow_right (by decide) (by omega))⟩
              · rw [if_neg z, wI_ne (by omega)]; exact hR3 T hT
            · have e1 : ((if T = s ||| 2 ^ x then R3 T ||| 2 ^ x else R3 T).testBit v = true) ↔ (R3 T).testBit v = true ∨ (T = s ||| 2 ^ x ∧ x = v) := by
                by_cases z : T = s ||| 2 ^ x
                · rw [if_pos z, Nat.testBit_or, tb2]; simp [z]
                · rw [if_neg z]; simp [z]
              rw [e1, hI3 T hT v]
              constructor
              · rintro ((q | ⟨q1, q2, q3, q4 | ⟨q5, q6⟩⟩) | ⟨q1, rfl⟩)
                · exact Or.inl q
                · exact Or.inr ⟨q1, q2, q3, Or.inl q4⟩
                · exact Or.inr ⟨q1, q2, q3, Or.inr ⟨by omega, q6⟩⟩
                · exact Or.inr ⟨hjw.1, hx, q1, Or.inr ⟨by omega, hjw.2⟩⟩
              · rintro (q | ⟨q1, q2, q3, q4 | ⟨q5, q6⟩⟩)
                · exact Or.inl (Or.inl q)
                · exact Or.inl (Or.inr ⟨q1, q2, q3, Or.inl q4⟩)
                · by_cases z : v = x
                  · subst z; exact Or.inr ⟨q3, rfl⟩
                  · exact Or.inl (Or.inr ⟨q1, q2, q3, Or.inr ⟨by omega, q6⟩⟩)
    have hRs := (hR1 s hs).2
    refine V_iload_n rfl rfl ?_
    refine V_aload_n rfl rfl (by first | assumption | rfl) ?_
    refine V_gi 0 rfl (net_sz (by first | assumption | rfl)) rfl ?_
    -- at 7: .if_icmp .ge 84
    rw [h01]
    refine V_icmp_ge rfl (fun hc => ?_) (fun hc => ?_)
    · exact absurd hc (nI_ge he (by omega))
    · refine V_aload_n rfl rfl rfl ?_
      refine V_getR (r := 16) rfl rfl ?_
      refine V_iload_n rfl rfl ?_
      refine V_al 128 rfl rfl (by first | with_reducible rfl | assumption | exact nI_sub (by omega) | exact nI_add _ _) (by first | omega | assumption) rfl ?_
      refine V_iload_n rfl rfl ?_
      refine V_ishr rfl ?_
      refine V_ic (v := nI 1) rfl rfl ?_
      refine V_iand rfl ?_
      -- at 20: .ifCond .eq 16
      rw [(hR1 s hs).1]
      refine V_if_eq rfl (fun hd => ?_) (fun hd => ?_)
      · have hd := (tb_z (by omega) (by omega)).mp hd
        rw [hss R1 0 hI] at hd
        refine V_ic (v := nI 0) rfl rfl ?_
        -- at 37: .istore 4
        exact nxt h1 R1 0 _ _ f1 hR1 (by decide) (fun v => by rw [Nat.zero_testBit, hd]; simp) hI
      · have hd := (tb_nz (by omega) (by omega)).mp hd
        rw [hss R1 0 hI] at hd
        refine V_aload_n rfl rfl (by first | assumption | rfl) ?_
        refine V_getR rfl (net_nr (by first | assumption | rfl)) ?_
        refine V_iload_n rfl rfl ?_
        refine V_al 7 rfl (net_ar (by first | assumption | rfl)) (by first | with_reducible rfl | assumption | exact nI_sub (by omega) | exact nI_add _ _) (by first | omega | assumption) rfl ?_
        refine V_iload_n rfl rfl ?_
        refine V_ic (v := -1) rfl rfl ?_
        refine V_ixor rfl ?_
        refine V_iand rfl ?_
        refine V_goto rfl ?_
        -- at 37: .istore 4
        rw [hg1 e (by omega), nI_andn]
        refine nxt h1 R1 _ _ _ f1 hR1 (xand_lt (hb e)) (fun v => ?_) hI
        rw [Nat.testBit_xor, Nat.testBit_and, hd]
        cases (rowOf n C e).testBit v <;> cases s.testBit v <;> simp
noncomputable def rng (n C : Nat) : Bool := decide (3 ≤ n) && @decide (∃ v, RE (rowOf n C) n (2 ^ n - 1) v ∧ (rowOf n C 0).testBit v = true) (Classical.propDecidable _)
theorem c_ring {S : mScr} {dep a n C : Nat} {h : Hp} (hN : NC h a n C) : Cal S (dep + 1) 25 [.ref 13, .ref a] h (fun q h' => q = some (.int (bI (rng n C))) ∧ Fr [16] h h') := by
  obtain ⟨⟨ha, hn, h0, hg, hb⟩, hC⟩ := id hN
  have hb1 := net_b ha
  have hb2 := net_b1 ha
  have ha16 := net16 ha
  have hL : (2 : Nat) ^ n ≤ 128 := Nat.pow_le_pow_right (n := 2) (j := 7) (by decide) hn
  show V S (dep + 1) 25 0 [.ref 13, .ref a, .null, .null] [] h _
  refine V_aload_n rfl rfl (by first | assumption | rfl) ?_
  refine V_gi 0 rfl (net_sz (by first | assumption | rfl)) rfl ?_
  refine V_ic (v := nI 3) rfl rfl ?_
  -- at 5: .if_icmp .ge 5
  rw [h0]
  refine V_icmp_ge rfl (fun hc => ?_) (fun hc => ?_)
  · have hc := (nI_leI (by omega) (by omega)).mp hc
    have h8 : (2 : Nat) ^ 3 ≤ 2 ^ n := Nat.pow_le_pow_right (by decide) hc
    refine V_aload_n rfl rfl (by first | assumption | rfl) ?_
    -- at 11: .invokevirtual 71
    refine V_cV rfl rfl (by first | assumption | rfl) rfl rfl (c_evn hN.1) ?_
    refine V_istore_n (L' := [_, _, _, _]) rfl rfl rfl ?_
    refine V_ic (v := nI 0) rfl rfl ?_
    refine V_istore_n (L' := [_, _, _, _]) rfl rfl rfl ?_
    -- at 17: .iload_n 3
    have lp := loopUp (P := fun s => ∀ h1, Fr [16] h h1 → (∀ T, T < s → h1.1 16 T = nI 0) → V S (dep + 1) 25 17 [.ref 13, .ref a, .int (nI (2 ^ n - 1)), .int (nI s)] [] h1 (fun q h' => q = some (.int (bI (rng n C))) ∧ Fr [16] h h')) (2 ^ n) ?_ ?_ 0 (Nat.zero_le _)
    · exact lp h Fr.rf (fun T hT => by omega)
    · intro h1 f1 z1
      refine V_iload_n rfl rfl ?_
      refine V_iload_n rfl rfl ?_
      -- at 19: .if_icmp .gt 16
      refine V_icmp_gt rfl (fun hd => ?_) (fun hd => ?_)
      · refine V_aload_n rfl rfl rfl ?_
        refine V_getR (r := 16) rfl rfl ?_
        refine V_ic (v := nI 1) rfl rfl ?_
        refine V_ic (v := nI 1) rfl rfl ?_
        refine V_as 128 rfl rfl (by first | with_reducible rfl | assumption | exact nI_sub (by omega) | exact nI_add _ _) (by first | omega | assumption) rfl ?_
        refine V_ic (v := nI 1) rfl rfl ?_
        refine V_istore_n (L' := [_, _, _, _]) rfl rfl rfl ?_
        -- at 44: .iload_n 3
        have hodd : ∀ s : Nat, s % 2 = 1 → s.testBit 0 = true := fun s hs => by rw [Nat.testBit_zero]; simp [hs]
        have lq : ∀ m s, s % 2 = 1 → s + 2 * m = 2 ^ n - 1 → ∀ h2 R, Fr [16] h h2 → (∀ T, T < 2 ^ n → h2.1 16 T = nI (R T) ∧ R T < 128) → RI (rowOf n C) n s R → V S (dep + 1) 25 44 [.ref 13, .ref a, .int (nI (2 ^ n - 1)), .int (nI s)] [] h2 (fun q h' => q = some (.int (bI (rng n C))) ∧ Fr [16] h h') := by
          intro m
          induction m with
          | zero =>
            intro s hs hsm h2 R f2 hR hI
            obtain rfl : s = 2 ^ n - 1 := by omega
            have hN2 := hN.fr f2 (by simp; omega) (by simp; omega)
            have hg2 := hN2.1.2.2.2.1
            refine V_iload_n rfl rfl ?_
            refine V_iload_n rfl rfl ?_
            -- at 46: .if_icmp .ge 15
            refine V_icmp_ge rfl (fun he => ?_) (fun he => ?_)
            · refine V_aload_n rfl rfl rfl ?_
              refine V_getR (r := 16) rfl rfl ?_
              refine V_iload_n rfl rfl ?_
              refine V_al 128 rfl rfl (by first | with_reducible rfl | assumption | exact nI_sub (by omega) | exact nI_add _ _) (by first | omega | assumption) rfl ?_
              refine V_aload_n rfl rfl (by first | assumption | rfl) ?_
              refine V_getR rfl (net_nr (by first | assumption | rfl)) ?_
              refine V_ic (v := nI 0) rfl rfl ?_
              refine V_al 7 rfl (net_ar (by first | assumption | rfl)) (by first | with_reducible rfl | assumption | exact nI_sub (by omega) | exact nI_add _ _) (by first | omega | assumption) rfl ?_
              refine V_iand rfl ?_
              -- at 74: .ifCond .eq 7
              rw [(hR _ (by omega)).1, hg2 0 (by omega), nI_and]
              have hlt : R (2 ^ n - 1) &&& rowOf n C 0 < 128 := Nat.lt_of_le_of_lt Nat.and_le_left (hR _ (by omega)).2
              have hiff : rng n C = true ↔ R (2 ^ n - 1) &&& rowOf n C 0 ≠ 0 := by
                unfold rng
                rw [Bool.and_eq_true, decide_eq_true_eq, @decide_eq_true_iff _ (Classical.propDecidable _)]
                constructor
                · rintro ⟨_, v, q1, q2⟩ q
                  have := congrArg (fun y => y.testBit v) q
                  rw [Nat.testBit_and, q2, (RI_self hI (by omega) v).mpr q1, Nat.zero_testBit] at this
                  exact Bool.noConfusion this
                · intro q
                  refine ⟨hc, ?_⟩
                  obtain ⟨v, hv, hvb⟩ := ex_bit (n := 7) hlt q
                  rw [Nat.testBit_and, Bool.and_eq_true] at hvb
                  exact ⟨v, (RI_self hI (by omega) v).mp hvb.1, hvb.2⟩
              refine V_if_eq rfl (fun hj => ?_) (fun hj => ?_)
              · have hj := nI_inj (b := 0) (by omega) (by omega) hj
                refine V_ic (v := nI 0) rfl rfl ?_
                -- at 82: .ireturn
                refine V_zret rfl rfl (by first | exact Or.inl rfl | exact Or.inr rfl | assumption) ?_
                refine ⟨?_, f2⟩
                rw [show rng n C = false from bfalse (fun q => hiff.mp q hj)]; rfl
              · refine V_ic (v := nI 1) rfl rfl ?_
                refine V_goto rfl ?_
                -- at 82: .ireturn
                refine V_zret rfl rfl (by first | exact Or.inl rfl | exact Or.inr rfl | assumption) ?_
                refine ⟨?_, f2⟩
                rw [show rng n C = true from hiff.mpr (fun q => hj (by rw [q]; rfl))]; rfl
            · exact absurd (nI_le (Nat.le_refl _) (by omega)) he
          | succ m ihm =>
            intro s hs hsm h2 R f2 hR hI
            have hN2 := hN.fr f2 (by simp; omega) (by simp; omega)
            refine V_iload_n rfl rfl ?_
            refine V_iload_n rfl rfl ?_
            -- at 46: .if_icmp .ge 15
            refine V_icmp_ge rfl (fun he => ?_) (fun he => ?_)
            · exact absurd he (nI_ge (by omega) (by omega))
            · refine V_aload_n rfl rfl rfl ?_
              refine V_aload_n rfl rfl (by first | assumption | rfl) ?_
              refine V_iload_n rfl rfl ?_
              -- at 52: .invokevirtual 81
              refine V_callV rfl rfl rfl rfl rfl (c_len hN2 (by omega) hR) ?_
              rintro _ h3 ⟨rfl, f3, R3, hR3, hl3⟩
              show V S (dep + 1) 25 55 [.ref 13, .ref a, .int (nI (2 ^ n - 1)), .int (nI s)] [] h3 _
              refine V_iinc (L' := [_, _, _, _]) rfl rfl rfl ?_
              refine V_goto rfl ?_
              -- at 44: .iload_n 3
              rw [show Int32.ofInt 2 = nI 2 from rfl, nI_add]
              exact ihm (s + 2) (by omega) (by omega) h3 R3 (f2.tr f3) hR3 (RI_step (by omega) (hodd s hs) hI hl3)
        have hpo : (2 ^ n - 1) % 2 = 1 := by
          obtain ⟨k, rfl⟩ : ∃ k, n = k + 1 := ⟨n - 1, by omega⟩
          rw [Nat.pow_succ] at h8 ⊢; omega
        refine lq ((2 ^ n - 2) / 2) 1 rfl (by omega) _ (fun T => if T = 1 then 1 else 0) (f1.tr (Fr.w (by simp))) (fun T hT => ?_) (fun T hT v => ?_)
        · by_cases q : T = 1
          · rw [if_pos q, q, wI_same]; exact ⟨rfl, by decide⟩
          · rw [if_neg q, wI_ne (by omega)]; exact ⟨z1 T hT, by decide⟩
        · show ((if T = 1 then 1 else 0) : Nat).testBit v = true ↔ _
          by_cases q : T = 1
          · rw [if_pos q]
            constructor
            · intro q2
              have : v = 0 := by
                have := tb_lt (n := 1) (by decide) q2
                omega
              exact ⟨⟨0, q, this⟩, Or.inl q⟩
            · rintro ⟨⟨k, hk⟩, _⟩
              have := (RE_odd k _ _ hk).2
              rw [q] at this; exact this
          · rw [if_neg q, Nat.zero_testBit]
            refine ⟨fun z => Bool.noConfusion z, ?_⟩
            rintro ⟨hk, z⟩
            rcases RE_step.mp hk with ⟨z1, _⟩ | ⟨a1, b1, c1, e, d1, ⟨k, f⟩, i⟩
            · exact absurd z1 q
            · rcases z with z | z
              · exact absurd z q
              · have := (RE_odd k _ _ f).1
                rw [show T ^^^ 2 ^ v = 0 by omega] at this
                exact this
      · exact absurd (nI_lt (by omega) (by omega)) hd
    · intro s hs ih h1 f1 z1
      refine V_iload_n rfl rfl ?_
      refine V_iload_n rfl rfl ?_
      -- at 19: .if_icmp .gt 16
      refine V_icmp_gt rfl (fun hd => ?_) (fun hd => ?_)
      · exact absurd hd (nI_nlt (by omega) (by omega))
      · refine V_aload_n rfl rfl rfl ?_
        refine V_getR (r := 16) rfl rfl ?_
        refine V_iload_n rfl rfl ?_
        refine V_ic (v := nI 0) rfl rfl ?_
        refine V_as 128 rfl rfl (by first | with_reducible rfl | assumption | exact nI_sub (by omega) | exact nI_add _ _) (by first | omega | assumption) rfl ?_
        refine V_iinc (L' := [_, _, _, _]) rfl rfl rfl ?_
        refine V_goto rfl ?_
        -- at 17: .iload_n 3
        rw [show Int32.ofInt 1 = nI 1 from rfl, nI_add]
        refine ih _ (f1.tr (Fr.w (by simp))) (fun T hT => ?_)
        by_cases q : T = s
        · rw [q, wI_same]
        · rw [wI_ne (by omega)]; exact z1 T (by omega)
  · have hc : ¬ 3 ≤ n := fun q => hc (nI_le q (by omega))
    refine V_ic (v := nI 0) rfl rfl ?_
    -- at 9: .ireturn
    refine V_zret rfl rfl (by first | exact Or.inl rfl | exact Or.inr rfl | assumption) ?_
    refine ⟨?_, Fr.rf⟩
    rw [show rng n C = false from by unfold rng; rw [decide_eq_false hc]; rfl]; rfl
