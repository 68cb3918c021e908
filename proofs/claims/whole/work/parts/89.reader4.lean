/-! the class: lines, the whole text, tell -/
theorem isR (i : Nat) (h : i < 6) : isNet (152 + 2 * i) = true := by
  rcases (by omega : i = 0 ∨ i = 1 ∨ i = 2 ∨ i = 3 ∨ i = 4 ∨ i = 5) with rfl | rfl | rfl | rfl | rfl | rfl <;> rfl
theorem isRD (i : Nat) (h : i < 3) : isDeck (164 + 2 * i) = true := by
  rcases (by omega : i = 0 ∨ i = 1 ∨ i = 2) with rfl | rfl | rfl <;> rfl
def RSl (h : Hp) (s : Sl) : Prop := (∀ i, i < 6 → NC h (152 + 2 * i) (s.1 i) (s.2.1 i)) ∧ ∀ d, d < 3 → DK h (164 + 2 * d) (s.2.2 d)
theorem RSl.fr {A : List Nat} {h h' : Hp} {s : Sl} (hs : RSl h s) (hf : Fr A h h') (hA : ∀ a ∈ A, a < 152) : RSl h' s := ⟨fun i hi => (hs.1 i hi).fr hf (fun q => by have := hA _ q; omega) (fun q => by have := hA _ q; omega), fun d hd => (hs.2 d hd).fr hf (fun q => by have := hA _ q; omega) (fun q => by have := hA _ q; omega)⟩
theorem RSl.setN {A : List Nat} {h h' : Hp} {s : Sl} {i n C : Nat} (hs : RSl h s) (hi : i < 6) (hN : NC h' (152 + 2 * i) n C) (hf : Fr A h h') (hA : ∀ a ∈ A, a < 152 ∨ a = 152 + 2 * i ∨ a = 153 + 2 * i) : RSl h' (setN s i n C) := by
  refine ⟨fun j hj => ?_, fun d hd => (hs.2 d hd).fr hf (fun q => by have := hA _ q; omega) (fun q => by have := hA _ q; omega)⟩
  show NC h' (152 + 2 * j) (updN s.1 i n j) (updN s.2.1 i C j)
  unfold updN
  by_cases e : j = i
  · rw [if_pos e, if_pos e, e]; exact hN
  · rw [if_neg e, if_neg e]
    exact (hs.1 j hj).fr hf (fun q => by have := hA _ q; omega) (fun q => by have := hA _ q; omega)
theorem RSl.setD {A : List Nat} {h h' : Hp} {s : Sl} {d : Nat} {cs : List Nat} (hs : RSl h s) (hD : DK h' (164 + 2 * d) cs) (hf : Fr A h h') (hA : ∀ a ∈ A, a < 152 ∨ a = 164 + 2 * d ∨ a = 165 + 2 * d) (hd3 : d < 3) : RSl h' (setD s d cs) := by
  refine ⟨fun j hj => (hs.1 j hj).fr hf (fun q => by have := hA _ q; omega) (fun q => by have := hA _ q; omega), fun e he => ?_⟩
  show DK h' (164 + 2 * e) (if e = d then cs else s.2.2 e)
  by_cases q : e = d
  · rw [if_pos q, q]; exact hD
  · rw [if_neg q]
    exact (hs.2 e he).fr hf (fun q => by have := hA _ q; omega) (fun q => by have := hA _ q; omega)
theorem c_rleB {S : mScr} {dep N k p : Nat} {h : Hp} (hB : BD h N k p) : Cal S (dep + 5) 113 [.ref 147] h (fun r h' => r = none ∧ h' = h) := by
  show V S (dep + 5) 113 0 [.ref 147] [] h _
  have h0 := hB.2.2.1
  have h4 := hB.2.2.2.1
  refine V_aload_n rfl rfl rfl ?_
  refine V_gi 2 rfl rfl rfl ?_
  -- at 4: .ifCond .eq 4
  rw [hB.1]
  refine V_if_eq rfl (fun hc => ?_) (fun hc => ?_)
  · exact absurd (nI_inj (b := 0) (by omega) (by omega) hc) (by omega)
  · refine V_return rfl rfl ?_
    exact ⟨rfl, rfl⟩
def rA : List Nat := [147, 150, 151, 152, 153, 154, 155, 156, 157, 158, 159, 160, 161, 162, 163, 164, 165, 166, 167, 168, 169]
theorem rA_in {a : Nat} (h : a = 147 ∨ (150 ≤ a ∧ a ≤ 169)) : a ∈ rA := by
  unfold rA
  simp
  omega
theorem rA_of {a : Nat} (h : a ∈ rA) : a = 147 ∨ (150 ≤ a ∧ a ≤ 169) := by
  have : ∀ a ∈ rA, a = 147 ∨ (150 ≤ a ∧ a ≤ 169) := by decide
  exact this a h
theorem Fr.rA {A : List Nat} {h h' : Hp} (f : Fr A h h') (hA : ∀ a ∈ A, a = 147 ∨ (150 ≤ a ∧ a ≤ 169)) : Fr rA h h' := f.mono (fun a ha => rA_in (hA a ha))
theorem c_rnet {S : mScr} {dep N m q : Nat} {s : Sl} {T : Nat → Int32} {h : Hp} (hs : RS h T N m q) (hl : RSl h s) : Cal S (dep + 9) 107 [.ref 147] h (fun r h' => r = none ∧ RO h T N m (netP T N s (en T N (sk T N q))) h' (fun s' h' => RSl h' s') ∧ Fr rA h h') := by
  have hle := hs.le
  have h600 := hs.1.2.2.2.2.2.2
  show V S (dep + 9) 107 0 [.ref 147, .null, .null] [] h _
  refine V_aload_n rfl rfl rfl ?_
  -- at 1: .invokevirtual 97
  refine V_callV rfl rfl rfl rfl rfl (c_adv hs.1 hle.2.1) ?_
  rintro _ h1 ⟨rfl, hR1, f1⟩
  show V S (dep + 9) 107 4 [.ref 147, .null, .null] [] h1 _
  obtain ⟨q0, hq0⟩ : ∃ q0, q0 = en T N (sk T N q) := ⟨_, rfl⟩
  rw [← hq0] at hR1
  rw [← hq0]
  refine V_aload_n rfl rfl rfl ?_
  refine V_ic (v := nI 0) rfl rfl ?_
  refine V_ic (v := nI 5) rfl rfl ?_
  -- at 7: .invokevirtual 120
  refine V_callV rfl rfl rfl rfl rfl (c_rdg (lo := 0) (hi := 5) hR1 (by decide) (by decide)) ?_
  rintro _ h2 ⟨⟨k, p, e, hB, rfl⟩ | ⟨i, q1, e, hR2, rfl, hi0, hi5, hq1⟩, f2⟩
  · show V S (dep + 9) 107 10 [.ref 147, .null, .null] [.int (nI 0)] h2 _
    have h0 := hB.2.2.1
    have h4 := hB.2.2.2.1
    refine V_istore_n (L' := [_, _, _]) rfl rfl rfl ?_
    refine V_aload_n rfl rfl rfl ?_
    refine V_ic (v := nI 0) rfl rfl ?_
    refine V_bi (v := nI 7) rfl rfl ?_
    -- at 15: .invokevirtual 120
    refine V_cV rfl rfl rfl rfl rfl (c_rdgB hB) ?_
    refine V_istore_n (L' := [_, _, _]) rfl rfl rfl ?_
    refine V_aload_n rfl rfl rfl ?_
    refine V_gi 2 rfl rfl rfl ?_
    -- at 23: .ifCond .eq 4
    rw [hB.1]
    refine V_if_eq rfl (fun hc => ?_) (fun hc => ?_)
    · exact absurd (nI_inj (b := 0) (by omega) (by omega) hc) (by omega)
    · refine V_return rfl rfl ?_
      refine ⟨rfl, Or.inl ⟨k, p, ?_, hB⟩, (f1.rA (by simp)).tr (f2.rA (by simp))⟩
      unfold netP
      rw [e]
  · show V S (dep + 9) 107 10 [.ref 147, .null, .null] [.int (nI i)] h2 _
    refine V_istore_n (L' := [_, _, _]) rfl rfl rfl ?_
    refine V_aload_n rfl rfl rfl ?_
    refine V_ic (v := nI 0) rfl rfl ?_
    refine V_bi (v := nI 7) rfl rfl ?_
    -- at 15: .invokevirtual 120
    refine V_callV rfl rfl rfl rfl rfl (c_rdg (lo := 0) (hi := 7) hR2 (by decide) (by decide)) ?_
    rintro _ h3 ⟨⟨k, p, e3, hB, rfl⟩ | ⟨n, q2, e3, hR3, rfl, hn0, hn7, hq2⟩, f3⟩
    · show V S (dep + 9) 107 18 [.ref 147, .int (nI i), .null] [.int (nI 0)] h3 _
      have h0 := hB.2.2.1
      have h4 := hB.2.2.2.1
      refine V_istore_n (L' := [_, _, _]) rfl rfl rfl ?_
      refine V_aload_n rfl rfl rfl ?_
      refine V_gi 2 rfl rfl rfl ?_
      -- at 23: .ifCond .eq 4
      rw [hB.1]
      refine V_if_eq rfl (fun hc => ?_) (fun hc => ?_)
      · exact absurd (nI_inj (b := 0) (by omega) (by omega) hc) (by omega)
      · refine V_return rfl rfl ?_
        refine ⟨rfl, Or.inl ⟨k, p, ?_, hB⟩, ((f1.rA (by simp)).tr (f2.rA (by simp))).tr (f3.rA (by simp))⟩
        unfold netP
        rw [e]
        dsimp only
        rw [e3]
    · show V S (dep + 9) 107 18 [.ref 147, .int (nI i), .null] [.int (nI n)] h3 _
      have hi6 : i < 6 := by omega
      have hni := isR i hi6
      have hb1 := net_b hni
      refine V_istore_n (L' := [_, _, _]) rfl rfl rfl ?_
      refine V_aload_n rfl rfl rfl ?_
      refine V_gi 2 rfl rfl rfl ?_
      -- at 23: .ifCond .eq 4
      rw [hR3.1.2.2.1]
      refine V_if_eq rfl (fun hc => ?_) (fun hc => ?_)
      · refine V_aload_n rfl rfl rfl ?_
        refine V_getR (r := 148) rfl rfl ?_
        refine V_iload_n rfl rfl ?_
        refine V_a148 rfl (by first | omega | assumption) ?_
        refine V_iload_n rfl rfl ?_
        -- at 34: .invokevirtual 83
        refine V_callV rfl rfl (by first | assumption | rfl) rfl rfl (c_clear hni hn7) ?_
        rintro _ h4 ⟨rfl, hN4, f4⟩
        show V S (dep + 9) 107 37 [.ref 147, .int (nI i), .int (nI n)] [] h4 _
        have hR4 := hR3.fr f4 (by simp; omega) (by simp; omega)
        refine V_aload_n rfl rfl rfl ?_
        refine V_aload_n rfl rfl rfl ?_
        refine V_getR (r := 148) rfl rfl ?_
        refine V_iload_n rfl rfl ?_
        refine V_a148 rfl (by first | omega | assumption) ?_
        -- at 44: .invokevirtual 123
        refine V_callV rfl rfl rfl rfl rfl (c_prs (f := N + 1) hR4 hN4 (by omega) (by omega)) ?_
        rintro _ h5 ⟨rfl, hr, f5⟩
        show V S (dep + 9) 107 47 [.ref 147, .int (nI i), .int (nI n)] [] h5 _
        have g5 : Fr [147, 152 + 2 * i, 153 + 2 * i] h h5 := ((((f1.mono (by simp)).tr (f2.mono (by simp))).tr (f3.mono (by simp))).tr (f4.mono (by simp; omega))).tr (f5.mono (by simp; omega))
        have g5a : Fr rA h h5 := g5.rA (by simp; omega)
        refine V_aload_n rfl rfl rfl ?_
        -- at 48: .invokevirtual 127
        rcases hr with ⟨k, p, e5, hB⟩ | ⟨C, q3, e5, hR5, hN5⟩
        · refine V_callV rfl rfl rfl rfl rfl (c_rleB hB) ?_
          rintro _ h6 ⟨rfl, eh⟩
          rw [eh]
          show V S (dep + 9) 107 51 [.ref 147, .int (nI i), .int (nI n)] [] h5 _
          refine V_return rfl rfl ?_
          refine ⟨rfl, Or.inl ⟨k, p, ?_, hB⟩, g5a⟩
          unfold netP
          rw [e]
          dsimp only
          rw [e3]
          dsimp only
          rw [e5]
        · have hl5 : RSl h5 (setN s i n C) := hl.setN hi6 hN5 g5 (by simp)
          refine V_callV rfl rfl rfl rfl rfl (c_rle (a := setN s i n C) (P := fun s' h' => RSl h' s') hR5 (fun h' f => hl5.fr f (by simp))) ?_
          rintro _ h6 ⟨rfl, hr6, f6⟩
          show V S (dep + 9) 107 51 [.ref 147, .int (nI i), .int (nI n)] [] h6 _
          refine V_return rfl rfl ?_
          have en : netP T N s q0 = eop T N (setN s i n C) q3 := by
            unfold netP
            rw [e]
            dsimp only
            rw [e3]
            dsimp only
            rw [e5]
          rw [en]
          exact ⟨rfl, hr6, g5a.tr (f6.rA (by simp))⟩
      · exact absurd rfl hc
theorem c_rdk {S : mScr} {dep N m q : Nat} {s : Sl} {T : Nat → Int32} {h : Hp} (hs : RS h T N m q) (hl : RSl h s) : Cal S (dep + 9) 108 [.ref 147] h (fun r h' => r = none ∧ RO h T N m (decP T N s (en T N (sk T N q))) h' (fun s' h' => RSl h' s') ∧ Fr rA h h') := by
  have hle := hs.le
  have h600 := hs.1.2.2.2.2.2.2
  show V S (dep + 9) 108 0 [.ref 147, .null, .null, .null, .null] [] h _
  refine V_aload_n rfl rfl rfl ?_
  -- at 1: .invokevirtual 97
  refine V_callV rfl rfl rfl rfl rfl (c_adv hs.1 hle.2.1) ?_
  rintro _ h1 ⟨rfl, hR1, f1⟩
  show V S (dep + 9) 108 4 [.ref 147, .null, .null, .null, .null] [] h1 _
  obtain ⟨q0, hq0⟩ : ∃ q0, q0 = en T N (sk T N q) := ⟨_, rfl⟩
  rw [← hq0] at hR1
  rw [← hq0]
  refine V_aload_n rfl rfl rfl ?_
  refine V_ic (v := nI 0) rfl rfl ?_
  refine V_ic (v := nI 2) rfl rfl ?_
  -- at 7: .invokevirtual 120
  refine V_callV rfl rfl rfl rfl rfl (c_rdg (lo := 0) (hi := 2) hR1 (by decide) (by decide)) ?_
  rintro _ h2 ⟨⟨k, p, e, hB, rfl⟩ | ⟨d, q1, e, hR2, rfl, hd0, hd2, hq1⟩, f2⟩
  · show V S (dep + 9) 108 10 [.ref 147, .null, .null, .null, .null] [.int (nI 0)] h2 _
    have h0 := hB.2.2.1
    have h4 := hB.2.2.2.1
    refine V_istore_n (L' := [_, _, _, _, _]) rfl rfl rfl ?_
    refine V_aload_n rfl rfl rfl ?_
    refine V_ic (v := nI 2) rfl rfl ?_
    refine V_bi (v := nI 7) rfl rfl ?_
    -- at 15: .invokevirtual 120
    refine V_cV rfl rfl rfl rfl rfl (c_rdgB hB) ?_
    refine V_istore_n (L' := [_, _, _, _, _]) rfl rfl rfl ?_
    refine V_aload_n rfl rfl rfl ?_
    refine V_gi 2 rfl rfl rfl ?_
    -- at 23: .ifCond .eq 4
    rw [hB.1]
    refine V_if_eq rfl (fun hc => ?_) (fun hc => ?_)
    · exact absurd (nI_inj (b := 0) (by omega) (by omega) hc) (by omega)
    · refine V_return rfl rfl ?_
      refine ⟨rfl, Or.inl ⟨k, p, ?_, hB⟩, (f1.rA (by simp)).tr (f2.rA (by simp))⟩
      unfold decP
      rw [e]
  · show V S (dep + 9) 108 10 [.ref 147, .null, .null, .null, .null] [.int (nI d)] h2 _
    refine V_istore_n (L' := [_, _, _, _, _]) rfl rfl rfl ?_
    refine V_aload_n rfl rfl rfl ?_
    refine V_ic (v := nI 2) rfl rfl ?_
    refine V_bi (v := nI 7) rfl rfl ?_
    -- at 15: .invokevirtual 120
    refine V_callV rfl rfl rfl rfl rfl (c_rdg (lo := 2) (hi := 7) hR2 (by decide) (by decide)) ?_
    rintro _ h3 ⟨⟨k, p, e3, hB, rfl⟩ | ⟨n, q2, e3, hR3, rfl, hn2, hn7, hq2⟩, f3⟩
    · show V S (dep + 9) 108 18 [.ref 147, .int (nI d), .null, .null, .null] [.int (nI 2)] h3 _
      have h0 := hB.2.2.1
      have h4 := hB.2.2.2.1
      refine V_istore_n (L' := [_, _, _, _, _]) rfl rfl rfl ?_
      refine V_aload_n rfl rfl rfl ?_
      refine V_gi 2 rfl rfl rfl ?_
      -- at 23: .ifCond .eq 4
      rw [hB.1]
      refine V_if_eq rfl (fun hc => ?_) (fun hc => ?_)
      · exact absurd (nI_inj (b := 0) (by omega) (by omega) hc) (by omega)
      · refine V_return rfl rfl ?_
        refine ⟨rfl, Or.inl ⟨k, p, ?_, hB⟩, ((f1.rA (by simp)).tr (f2.rA (by simp))).tr (f3.rA (by simp))⟩
        unfold decP
        rw [e]
        dsimp only
        rw [e3]
    · show V S (dep + 9) 108 18 [.ref 147, .int (nI d), .null, .null, .null] [.int (nI n)] h3 _
      have hd3 : d < 3 := by omega
      have hni := isRD d hd3
      have hb1 := deck_b hni
      have ed : decP T N s q0 = match cds T N n (n + 1) [] q2 with
          | .inl e => .inl e
          | .inr (cs, q3) => if cs.length = 0 then .inl (1, sk T N q3) else if cs.length < n ∧ eol T N q3 = true then .inl (4, sk T N q3) else eop T N (setD s d cs) q3 := by
        unfold decP
        rw [e]
        dsimp only
        rw [e3]
        rfl
      rw [ed]
      obtain ⟨X, hX⟩ : ∃ X, X = cds T N n (n + 1) [] q2 := ⟨_, rfl⟩
      rw [← hX]
      refine V_istore_n (L' := [_, _, _, _, _]) rfl rfl rfl ?_
      refine V_aload_n rfl rfl rfl ?_
      refine V_gi 2 rfl rfl rfl ?_
      -- at 23: .ifCond .eq 4
      rw [hR3.1.2.2.1]
      refine V_if_eq rfl (fun hc => ?_) (fun hc => ?_)
      · refine V_aload_n rfl rfl rfl ?_
        refine V_getR (r := 149) rfl rfl ?_
        refine V_iload_n rfl rfl ?_
        refine V_a149 rfl (by first | omega | assumption) ?_
        refine V_astore_n (L' := [_, _, _, _, _]) rfl (by first | rfl | (rw [Bool.and_eq_true]; exact ⟨rfl, by first | assumption | rfl⟩)) rfl ?_
        refine V_aload_n rfl rfl (by first | assumption | rfl) ?_
        -- at 35: .invokevirtual 86
        refine V_callV rfl rfl (by first | assumption | rfl) rfl rfl (c_dclear hni) ?_
        rintro _ h4 ⟨rfl, eh4⟩
        have f4 : Fr [164 + 2 * d] h3 h4 := by rw [eh4]; exact Fr.w (by simp)
        have hD4 : DK h4 (164 + 2 * d) [] := by rw [eh4]; exact DK_nil hni
        have hR4 := hR3.fr f4 (by simp; omega) (by simp; omega)
        have g4 : Fr [147, 150, 151, 164 + 2 * d, 165 + 2 * d] h h4 := (((f1.mono (by simp)).tr (f2.mono (by simp))).tr (f3.mono (by simp))).tr (f4.mono (by simp))
        show V S (dep + 9) 108 38 [.ref 147, .int (nI d), .int (nI n), .ref (164 + 2 * d), .null] [] h4 _
        refine V_ic (v := nI 0) rfl rfl ?_
        refine V_istore (L' := [_, _, _, _, _]) rfl rfl rfl ?_
        -- at 41: .iload 4
        obtain ⟨Q, hQ⟩ : ∃ Q : Option Value → Hp → Prop, Q = (fun r h' => r = none ∧ RO h T N m (match X with
          | .inl e => .inl e
          | .inr (cs, q3) => if cs.length = 0 then .inl (1, sk T N q3) else if cs.length < n ∧ eol T N q3 = true then .inl (4, sk T N q3) else eop T N (setD s d cs) q3) h' (fun s' h' => RSl h' s') ∧ Fr rA h h') := ⟨_, rfl⟩
        rw [← hQ]
        have fin1 : ∀ k p h5 w, X = .inl (k, p) → BD h5 N k p → Fr [147, 150, 151, 164 + 2 * d, 165 + 2 * d] h h5 → V S (dep + 9) 108 75 [.ref 147, .int (nI d), .int (nI n), .ref (164 + 2 * d), w] [] h5 Q := by
          intro k p h5 w eX hB g5
          have h0 := hB.2.2.1
          have h4 := hB.2.2.2.1
          refine V_aload_n rfl rfl rfl ?_
          refine V_gi 2 rfl rfl rfl ?_
          -- at 79: .ifCond .eq 4
          rw [hB.1]
          refine V_if_eq rfl (fun hx => ?_) (fun hx => ?_)
          · exact absurd (nI_inj (b := 0) (by omega) (by omega) hx) (by omega)
          · refine V_return rfl rfl ?_
            rw [hQ, eX]
            exact ⟨rfl, Or.inl ⟨k, p, rfl, hB⟩, g5.rA (by simp; omega)⟩
        have fin2 : ∀ cs q3 h5 w, X = .inr (cs, q3) → cs.length ≤ n → RS h5 T N m q3 → DK h5 (164 + 2 * d) cs → Fr [147, 150, 151, 164 + 2 * d, 165 + 2 * d] h h5 → V S (dep + 9) 108 75 [.ref 147, .int (nI d), .int (nI n), .ref (164 + 2 * d), w] [] h5 Q := by
          intro cs q3 h5 w eX hln hR5 hD5 g5
          refine V_aload_n rfl rfl rfl ?_
          refine V_gi 2 rfl rfl rfl ?_
          -- at 79: .ifCond .eq 4
          rw [hR5.1.2.2.1]
          refine V_if_eq rfl (fun hx => ?_) (fun hx => ?_)
          · refine V_aload_n rfl rfl (by first | assumption | rfl) ?_
            refine V_gi 0 rfl (deck_sz (by first | assumption | rfl)) rfl ?_
            -- at 87: .ifCond .ne 11
            rw [hD5.2.2.1]
            refine V_if_ne rfl (fun hy => ?_) (fun hy => ?_)
            · have hy : cs.length ≠ 0 := fun w => hy (by rw [w]; rfl)
              have rest : ¬ (cs.length < n ∧ eol T N q3 = true) → V S (dep + 9) 108 121 [.ref 147, .int (nI d), .int (nI n), .ref (164 + 2 * d), w] [] h5 Q := by
                intro hno
                have hl5 : RSl h5 (setD s d cs) := hl.setD hD5 g5 (by simp) hd3
                refine V_aload_n rfl rfl rfl ?_
                -- at 122: .invokevirtual 127
                refine V_callV rfl rfl rfl rfl rfl (c_rle (a := setD s d cs) (P := fun s' h' => RSl h' s') hR5 (fun h' f => hl5.fr f (by simp))) ?_
                rintro _ h6 ⟨rfl, hr6, f6⟩
                show V S (dep + 9) 108 125 [.ref 147, .int (nI d), .int (nI n), .ref (164 + 2 * d), w] [] h6 _
                refine V_return rfl rfl ?_
                rw [hQ, eX]
                dsimp only
                rw [if_neg hy, if_neg hno]
                exact ⟨rfl, hr6, (g5.rA (by simp; omega)).tr (f6.rA (by simp))⟩
              refine V_aload_n rfl rfl (by first | assumption | rfl) ?_
              refine V_gi 0 rfl (deck_sz (by first | assumption | rfl)) rfl ?_
              refine V_iload_n rfl rfl ?_
              -- at 103: .if_icmp .ge 18
              rw [hD5.2.2.1]
              refine V_icmp_ge rfl (fun hz => ?_) (fun hz => ?_)
              · have hz := (nI_leI (by omega) (by omega)).mp hz
                exact rest (by omega)
              · have hz := nI_ngt (by omega) (by omega) hz
                refine V_aload_n rfl rfl rfl ?_
                -- at 107: .invokevirtual 135
                refine V_cV rfl rfl rfl rfl rfl (c_isle hR5) ?_
                refine V_if_eq rfl (fun hv => ?_) (fun hv => ?_)
                · have hv := bI_z.mp hv
                  exact rest (fun w => by rw [hv] at w; exact Bool.noConfusion w.2)
                · have hv := bI_nz.mp hv
                  refine V_aload_n rfl rfl rfl ?_
                  refine V_ic (v := nI 4) rfl rfl ?_
                  -- at 115: .invokevirtual 77
                  refine V_callV rfl rfl rfl rfl rfl (c_refu (k := 4) hR5 (by decide) (by decide)) ?_
                  rintro _ h6 ⟨rfl, hB, f6⟩
                  show V S (dep + 9) 108 118 [.ref 147, .int (nI d), .int (nI n), .ref (164 + 2 * d), w] [] h6 _
                  refine V_goto rfl ?_
                  -- at 125: .return_
                  refine V_return rfl rfl ?_
                  rw [hQ, eX]
                  dsimp only
                  rw [if_neg hy, if_pos ⟨hz, hv⟩]
                  exact ⟨rfl, Or.inl ⟨4, _, rfl, hB⟩, (g5.rA (by simp; omega)).tr (f6.rA (by simp))⟩
            · have hy := nI_inj (b := 0) (by omega) (by omega) (Decidable.of_not_not hy)
              refine V_aload_n rfl rfl rfl ?_
              refine V_ic (v := nI 1) rfl rfl ?_
              -- at 92: .invokevirtual 77
              refine V_callV rfl rfl rfl rfl rfl (c_refu (k := 1) hR5 (by decide) (by decide)) ?_
              rintro _ h6 ⟨rfl, hB, f6⟩
              show V S (dep + 9) 108 95 [.ref 147, .int (nI d), .int (nI n), .ref (164 + 2 * d), w] [] h6 _
              refine V_goto rfl ?_
              -- at 125: .return_
              refine V_return rfl rfl ?_
              rw [hQ, eX]
              dsimp only
              rw [if_pos hy]
              exact ⟨rfl, Or.inl ⟨1, _, rfl, hB⟩, (g5.rA (by simp; omega)).tr (f6.rA (by simp))⟩
          · exact absurd rfl hx
        have lp : ∀ f cs q h5, cs.length + f = n + 1 → cs.length ≤ n → RS h5 T N m q → DK h5 (164 + 2 * d) cs → X = cds T N n f cs q → Fr [147, 150, 151, 164 + 2 * d, 165 + 2 * d] h h5 → V S (dep + 9) 108 41 [.ref 147, .int (nI d), .int (nI n), .ref (164 + 2 * d), .int (nI cs.length)] [] h5 Q := by
          intro f
          induction f with
          | zero => intro cs q h5 h1 h2; omega
          | succ f ih =>
            intro cs q h5 hcf hcn hR5 hD5 hX g5
            have hle5 := hR5.le
            refine V_iload rfl rfl ?_
            refine V_iload_n rfl rfl ?_
            -- at 44: .if_icmp .gt 31
            refine V_icmp_gt rfl (fun hx => ?_) (fun hx => ?_)
            · exact absurd hx (nI_nlt (by omega) (by omega))
            · refine V_aload_n rfl rfl rfl ?_
              refine V_gi 2 rfl rfl rfl ?_
              -- at 51: .ifCond .ne 24
              rw [hR5.1.2.2.1]
              refine V_if_ne rfl (fun hy => ?_) (fun hy => ?_)
              · exact absurd rfl hy
              · refine V_aload_n rfl rfl rfl ?_
                refine V_ldc (v := .ref 1012) rfl rfl ?_
                -- at 57: .invokevirtual 65
                refine V_cV rfl rfl rfl rfl rfl (c_isw (t := 2) hR5 (by decide)) ?_
                refine V_if_eq rfl (fun hz => ?_) (fun hz => ?_)
                · have hz := bI_z.mp hz
                  rw [cds, if_neg (by rw [hz]; decide)] at hX
                  exact fin2 cs _ h5 _ hX hcn hR5.sk hD5 g5
                · have hz := bI_nz.mp hz
                  rw [cds, if_pos hz] at hX
                  refine V_aload_n rfl rfl rfl ?_
                  refine V_aload_n rfl rfl (by first | assumption | rfl) ?_
                  refine V_iload_n rfl rfl ?_
                  -- at 66: .invokevirtual 131
                  refine V_callV rfl rfl rfl rfl rfl (c_rcd hR5 hD5 (by omega) hn7 (by omega) hcn) ?_
                  rintro _ h6 ⟨rfl, hr, f6⟩
                  show V S (dep + 9) 108 69 [.ref 147, .int (nI d), .int (nI n), .ref (164 + 2 * d), .int (nI cs.length)] [] h6 _
                  have g6 : Fr [147, 150, 151, 164 + 2 * d, 165 + 2 * d] h h6 := g5.tr (f6.mono (by simp; omega))
                  have bad : ∀ k p, X = .inl (k, p) → BD h6 N k p → V S (dep + 9) 108 69 [.ref 147, .int (nI d), .int (nI n), .ref (164 + 2 * d), .int (nI cs.length)] [] h6 Q := by
                    intro k p eX hB
                    have h0 := hB.2.2.1
                    have h4 := hB.2.2.2.1
                    refine V_iinc (L' := [_, _, _, _, _]) rfl rfl rfl ?_
                    refine V_goto rfl ?_
                    refine V_iload rfl rfl ?_
                    refine V_iload_n rfl rfl ?_
                    -- at 44: .if_icmp .gt 31
                    refine V_icmp_gt rfl (fun hx => ?_) (fun hx => ?_)
                    · exact fin1 k p h6 _ eX hB g6
                    · refine V_aload_n rfl rfl rfl ?_
                      refine V_gi 2 rfl rfl rfl ?_
                      -- at 51: .ifCond .ne 24
                      rw [hB.1]
                      refine V_if_ne rfl (fun hy => ?_) (fun hy => ?_)
                      · exact fin1 k p h6 _ eX hB g6
                      · exact absurd (nI_inj (b := 0) (by omega) (by omega) (Decidable.of_not_not hy)) (by omega)
                  rcases hr with ⟨w1, hB⟩ | ⟨w1, k, p, w2, hB⟩ | ⟨w1, C, q', w2, hR6, hD6⟩
                  · rw [if_pos w1] at hX
                    exact bad _ _ hX hB
                  · rw [if_neg (by omega), w2] at hX
                    exact bad _ _ hX hB
                  · rw [if_neg (by omega), w2] at hX
                    dsimp only at hX
                    refine V_iinc (L' := [_, _, _, _, _]) rfl rfl rfl ?_
                    refine V_goto rfl ?_
                    -- at 41: .iload 4
                    rw [show Int32.ofInt 1 = nI 1 from rfl, nI_add]
                    have el : (cs ++ [C]).length = cs.length + 1 := by rw [List.length_append]; rfl
                    have := ih (cs ++ [C]) q' h6 (by omega) (by omega) hR6 hD6 hX g6
                    rw [el] at this
                    exact this
        exact lp (n + 1) [] q2 h4 (by simp) (by simp) hR4 hD4 hX g4
      · exact absurd rfl hc
