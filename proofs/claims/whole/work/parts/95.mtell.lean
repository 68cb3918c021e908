/-! the reference: decks, lines, tell -/
def decR (T : Nat → Int32) (N : Nat) (s : Sl) (d q : Nat) : RP Sl := match dig T N 2 7 q with
  | .inl e => .inl e
  | .inr (n, q2) => match cds T N n (n + 1) [] q2 with
    | .inl e => .inl e
    | .inr (cs, q3) => if cs.length = 0 then .inl (1, sk T N q3) else if cs.length < n ∧ eol T N q3 = true then .inl (4, sk T N q3) else .inr (setD s d cs, q3)
theorem decP_R (T : Nat → Int32) (N : Nat) (s : Sl) (q : Nat) : decP T N s q = match dig T N 0 2 q with
  | .inl e => .inl e
  | .inr (d, q1) => match decR T N s d q1 with
    | .inl e => .inl e
    | .inr (s', q3) => eop T N s' q3 := by
  unfold decP
  cases dig T N 0 2 q with
  | inl e => rfl
  | inr x =>
    obtain ⟨d, q1⟩ := x
    unfold decR
    dsimp only
    cases dig T N 2 7 q1 with
    | inl e => rfl
    | inr x =>
      obtain ⟨n, q2⟩ := x
      dsimp only
      cases cds T N n (n + 1) [] q2 with
      | inl e => rfl
      | inr x =>
        obtain ⟨cs, q3⟩ := x
        dsimp only
        by_cases h1 : cs.length = 0
        · rw [if_pos h1, if_pos h1]
        · rw [if_neg h1, if_neg h1]
          by_cases h2 : cs.length < n ∧ eol T N q3 = true
          · rw [if_pos h2, if_pos h2]
          · rw [if_neg h2, if_neg h2]
theorem fin_setD (s : Sl) (d : Nat) (cs : List Nat) : fin (setD s d cs) = setD (fin s) d (srt (cs.map (frm (cs.length - 1)))) := by
  unfold fin setD
  dsimp only
  refine congrArg (fun u => (s.1, s.2.1, u)) ?_
  funext e
  by_cases q : e = d
  · rw [if_pos q, if_pos q]
  · rw [if_neg q, if_neg q]
theorem fin_setN (s : Sl) (i n C : Nat) : fin (setN s i n C) = setN (fin s) i n C := rfl
theorem AL.app {h : Hp} {r y : Nat} {xs : List Nat} (hA : AL h r xs) : AL (wI h r xs.length (nI y)) r (xs ++ [y]) := by
  intro i hi
  rw [List.length_append] at hi
  have hi : i < xs.length + 1 := hi
  rw [List.getD_eq_getElem?_getD]
  by_cases e : i = xs.length
  · rw [e, wI_same, List.getElem?_append_right (Nat.le_refl _), Nat.sub_self]; rfl
  · rw [wI_ne (by omega), List.getElem?_append_left (by omega), ← List.getD_eq_getElem?_getD]
    exact hA i (by omega)
def qF : List Nat := [6, 7, 12, 13, 14, 15]
def qA : List Nat := [189, 192, 193, 195]
theorem MF.q {fs A : List Nat} {h h' : Hp} (f : MF fs A h h') (h1 : ∀ i ∈ fs, i ∈ qF) (h2 : ∀ i ∈ A, i ∈ qA) : MF qF qA h h' := f.mono h1 h2
theorem m_dkB {S : mScr} {dep N k p : Nat} {d : Int32} {h : Hp} (hB : WB h N k p) : Cal S (dep + 13) 188 [.ref 188, .int d] h (fun r h' => r = none ∧ h' = h) := by
  have h0 := hB.2.2.1
  have h4 := hB.2.2.2.1
  have nz : ¬ nI k = nI 0 := fun z => by have := nI_inj (b := 0) (by omega) (by omega) z; omega
  show V S (dep + 13) 188 0 [.ref 188, .int d, .null, .null, .null] [] h _
  refine V_aload_n rfl rfl rfl ?_
  refine V_ic (v := nI 1) rfl rfl ?_
  refine V_ic (v := nI 2) rfl rfl ?_
  refine V_bi (v := nI 7) rfl rfl ?_
  -- at 5: .invokevirtual 173
  refine V_cV rfl rfl rfl rfl rfl (m_numB hB) ?_
  refine V_istore_n (L' := [_, _, _, _, _]) rfl rfl rfl ?_
  refine V_ic (v := nI 0) rfl rfl ?_
  refine V_istore_n (L' := [_, _, _, _, _]) rfl rfl rfl ?_
  refine V_aload_n rfl rfl rfl ?_
  refine V_gi 13 rfl rfl rfl ?_
  -- at 15: .ifCond .ne 75
  rw [hB.1]
  refine V_if_ne rfl (fun hx => ?_) (fun hx => ?_)
  · refine V_aload_n rfl rfl rfl ?_
    refine V_gi 13 rfl rfl rfl ?_
    -- at 94: .ifCond .ne 16
    rw [hB.1]
    refine V_if_ne rfl (fun hy => ?_) (fun hy => ?_)
    · refine V_aload_n rfl rfl rfl ?_
      refine V_gi 13 rfl rfl rfl ?_
      -- at 114: .ifCond .ne 26
      rw [hB.1]
      refine V_if_ne rfl (fun hz => ?_) (fun hz => ?_)
      · refine V_aload_n rfl rfl rfl ?_
        refine V_gi 13 rfl rfl rfl ?_
        -- at 144: .ifCond .ne 9
        rw [hB.1]
        refine V_if_ne rfl (fun hw => ?_) (fun hw => ?_)
        · refine V_return rfl rfl ?_
          exact ⟨rfl, rfl⟩
        · exact absurd (Decidable.of_not_not hw) nz
      · exact absurd (Decidable.of_not_not hz) nz
    · exact absurd (Decidable.of_not_not hy) nz
  · exact absurd (Decidable.of_not_not hx) nz
theorem m_dk {S : mScr} {dep N q d : Nat} {s : Sl} {T : Nat → Int32} {h : Hp} (hb : BT T) (hs : RM h T N q) (hM : MSt h (fin s)) (hd : d < 3) : Cal S (dep + 13) 188 [.ref 188, .int (nI d)] h (fun r h' => r = none ∧ ((∃ k p, decR T N s d q = .inl (k, p) ∧ WB h' N k p) ∨ (∃ s' q', decR T N s d q = .inr (s', q') ∧ RM h' T N q' ∧ (eol T N q' = true → MSt h' (fin s')))) ∧ MF qF qA h h') := by
  have h600 := hs.1.2.2.2.2
  obtain ⟨X, hX⟩ : ∃ X, X = decR T N s d q := ⟨_, rfl⟩
  rw [← hX]
  obtain ⟨Q, hQ⟩ : ∃ Q : Option Value → Hp → Prop, Q = (fun r h' => r = none ∧ ((∃ k p, X = .inl (k, p) ∧ WB h' N k p) ∨ (∃ s' q', X = .inr (s', q') ∧ RM h' T N q' ∧ (eol T N q' = true → MSt h' (fin s')))) ∧ MF qF qA h h') := ⟨_, rfl⟩
  rw [← hQ]
  have finB : ∀ k p h5 n v3 v4, X = .inl (k, p) → WB h5 N k p → MF qF qA h h5 → V S (dep + 13) 188 110 [.ref 188, .int (nI d), .int n, v3, v4] [] h5 Q := by
    intro k p h5 n v3 v4 eX hB f5
    have h0 := hB.2.2.1
    have h4 := hB.2.2.2.1
    have nz : ¬ nI k = nI 0 := fun z => by have := nI_inj (b := 0) (by omega) (by omega) z; omega
    refine V_aload_n rfl rfl rfl ?_
    refine V_gi 13 rfl rfl rfl ?_
    -- at 114: .ifCond .ne 26
    rw [hB.1]
    refine V_if_ne rfl (fun hz => ?_) (fun hz => ?_)
    · refine V_aload_n rfl rfl rfl ?_
      refine V_gi 13 rfl rfl rfl ?_
      -- at 144: .ifCond .ne 9
      rw [hB.1]
      refine V_if_ne rfl (fun hw => ?_) (fun hw => ?_)
      · refine V_return rfl rfl ?_
        rw [hQ]
        exact ⟨rfl, Or.inl ⟨k, p, eX, hB⟩, f5⟩
      · exact absurd (Decidable.of_not_not hw) nz
    · exact absurd (Decidable.of_not_not hz) nz
  have finA : ∀ k p h5 n v3 v4, X = .inl (k, p) → WB h5 N k p → MF qF qA h h5 → V S (dep + 13) 188 11 [.ref 188, .int (nI d), .int n, v3, v4] [] h5 Q := by
    intro k p h5 n v3 v4 eX hB f5
    have h0 := hB.2.2.1
    have h4 := hB.2.2.2.1
    have nz : ¬ nI k = nI 0 := fun z => by have := nI_inj (b := 0) (by omega) (by omega) z; omega
    refine V_aload_n rfl rfl rfl ?_
    refine V_gi 13 rfl rfl rfl ?_
    -- at 15: .ifCond .ne 75
    rw [hB.1]
    refine V_if_ne rfl (fun hx => ?_) (fun hx => ?_)
    · refine V_aload_n rfl rfl rfl ?_
      refine V_gi 13 rfl rfl rfl ?_
      -- at 94: .ifCond .ne 16
      rw [hB.1]
      refine V_if_ne rfl (fun hy => ?_) (fun hy => ?_)
      · exact finB k p h5 n v3 v4 eX hB f5
      · exact absurd (Decidable.of_not_not hy) nz
    · exact absurd (Decidable.of_not_not hx) nz
  show V S (dep + 13) 188 0 [.ref 188, .int (nI d), .null, .null, .null] [] h _
  have mnum := m_num (S := S) (dep := dep + 9) (D := 1) (lo := 2) (hi := 7) hb hs (by decide) (by decide) (by decide)
  rw [num_1] at mnum
  refine V_aload_n rfl rfl rfl ?_
  refine V_ic (v := nI 1) rfl rfl ?_
  refine V_ic (v := nI 2) rfl rfl ?_
  refine V_bi (v := nI 7) rfl rfl ?_
  -- at 5: .invokevirtual 173
  refine V_callV rfl rfl rfl rfl rfl (mnum) ?_
  rintro _ h1 ⟨⟨k, p, e1, hB, rfl⟩ | ⟨n, q2, e1, hs1, rfl, _⟩, f1⟩
  · show V S (dep + 13) 188 8 [.ref 188, .int (nI d), .null, .null, .null] [.int (nI 2)] h1 _
    refine V_istore_n (L' := [_, _, _, _, _]) rfl rfl rfl ?_
    refine V_ic (v := nI 0) rfl rfl ?_
    refine V_istore_n (L' := [_, _, _, _, _]) rfl rfl rfl ?_
    -- at 11: .aload_n 0
    refine finA k p h1 _ _ _ ?_ hB (f1.q (by decide) (by simp))
    rw [hX]
    unfold decR
    rw [e1]
  · show V S (dep + 13) 188 8 [.ref 188, .int (nI d), .null, .null, .null] [.int (nI n)] h1 _
    have hn := dig_ok e1 hs.1.2.2.2.1
    have hM1 : MSt h1 (fin s) := hM.mf f1 (by simp)
    have g1 : MF qF qA h h1 := f1.q (by decide) (by simp)
    have hX : X = match cds T N n (n + 1) [] q2 with
        | .inl e => .inl e
        | .inr (cs, q3) => if cs.length = 0 then .inl (1, sk T N q3) else if cs.length < n ∧ eol T N q3 = true then .inl (4, sk T N q3) else .inr (setD s d cs, q3) := by
      rw [hX]
      unfold decR
      rw [e1]
    obtain ⟨Y, hY⟩ : ∃ Y, Y = cds T N n (n + 1) [] q2 := ⟨_, rfl⟩
    rw [← hY] at hX
    refine V_istore_n (L' := [_, _, _, _, _]) rfl rfl rfl ?_
    refine V_ic (v := nI 0) rfl rfl ?_
    refine V_istore_n (L' := [_, _, _, _, _]) rfl rfl rfl ?_
    -- at 11: .aload_n 0
    have endL : ∀ cs q3 h5 v4, Y = .inr (cs, q3) → cs.length ≤ n → (∀ x ∈ cs, x < 2 ^ tri (n - 1)) → sk T N q3 = q3 → RM h5 T N q3 → MSt h5 (fin s) → AL h5 195 (cs.map (frm (n - 1))) → MF qF qA h h5 → V S (dep + 13) 188 90 [.ref 188, .int (nI d), .int (nI n), .int (nI cs.length), v4] [] h5 Q := by
      intro cs q3 h5 v4 eY hcn hcb hsk hs5 hM5 hA5 g5
      have hq3 := hs5.1.2.2.2.1
      rw [eY] at hX
      dsimp only at hX
      refine V_aload_n rfl rfl rfl ?_
      refine V_gi 13 rfl rfl rfl ?_
      -- at 94: .ifCond .ne 16
      rw [hs5.2.1]
      refine V_if_ne rfl (fun hx => ?_) (fun hx => ?_)
      · exact absurd rfl hx
      · refine V_iload_n rfl rfl ?_
        -- at 98: .ifCond .ne 12
        refine V_if_ne rfl (fun hy => ?_) (fun hy => ?_)
        · have hy : cs.length ≠ 0 := fun w => hy (by rw [w]; rfl)
          rw [if_neg hy] at hX
          have lays : ¬ (cs.length < n ∧ eol T N q3 = true) → ∀ h6, RM h6 T N q3 → MSt h6 (fin s) → AL h6 195 (cs.map (frm (n - 1))) → MF qF qA h h6 → V S (dep + 13) 188 140 [.ref 188, .int (nI d), .int (nI n), .int (nI cs.length), v4] [] h6 Q := by
            intro hno h6 hs6 hM6 hA6 g6
            rw [if_neg hno] at hX
            refine V_aload_n rfl rfl rfl ?_
            refine V_gi 13 rfl rfl rfl ?_
            -- at 144: .ifCond .ne 9
            rw [hs6.2.1]
            refine V_if_ne rfl (fun hz => ?_) (fun hz => ?_)
            · exact absurd rfl hz
            · refine V_aload_n rfl rfl rfl ?_
              refine V_iload_n rfl rfl ?_
              refine V_iload_n rfl rfl ?_
              -- at 150: .invokevirtual 190
              by_cases e : cs.length = n
              · have ml := m_lays (S := S) (dep := dep + 11) (cs := cs.map (frm (n - 1))) hM6 hd hA6 (by rw [List.length_map]; omega) (fun x hx => by
                  obtain ⟨y, hy, rfl⟩ := List.mem_map.mp hx
                  exact c21 (n := n - 1) (by omega) (frm_lt (by omega)))
                rw [List.length_map, e] at ml
                refine V_callV rfl rfl rfl rfl rfl (ml) ?_
                rintro _ h7 ⟨rfl, hM7, _, f7⟩
                show V S (dep + 13) 188 153 [.ref 188, .int (nI d), .int (nI n), .int (nI cs.length), v4] [] h7 _
                refine V_return rfl rfl ?_
                rw [hQ]
                refine ⟨rfl, Or.inr ⟨_, _, hX, hs6.mf f7 (by simp) (by simp) (by simp) (by simp) (by simp), fun _ => ?_⟩, g6.tr (f7.q (by simp) (by decide))⟩
                rw [fin_setD, e]
                exact hM7
              · have hlt : cs.length < n := by omega
                refine V_callV rfl rfl rfl rfl rfl (m_laysG hd hn.2.1) ?_
                rintro _ h7 ⟨rfl, f7⟩
                show V S (dep + 13) 188 153 [.ref 188, .int (nI d), .int (nI n), .int (nI cs.length), v4] [] h7 _
                refine V_return rfl rfl ?_
                rw [hQ]
                exact ⟨rfl, Or.inr ⟨_, _, hX, hs6.mf f7 (by simp) (by simp) (by simp) (by simp) (by simp), fun w => absurd ⟨hlt, w⟩ hno⟩, g6.tr (f7.q (by simp) (by decide))⟩
          refine V_aload_n rfl rfl rfl ?_
          refine V_gi 13 rfl rfl rfl ?_
          -- at 114: .ifCond .ne 26
          rw [hs5.2.1]
          refine V_if_ne rfl (fun hz => ?_) (fun hz => ?_)
          · exact absurd rfl hz
          · refine V_iload_n rfl rfl ?_
            refine V_iload_n rfl rfl ?_
            -- at 119: .if_icmp .ge 21
            refine V_icmp_ge rfl (fun hw => ?_) (fun hw => ?_)
            · have hw := (nI_leI (by omega) (by omega)).mp hw
              exact lays (by omega) h5 hs5 hM5 hA5 g5
            · have hw := nI_ngt (by omega) (by omega) hw
              refine V_aload_n rfl rfl rfl ?_
              -- at 123: .invokevirtual 146
              refine V_callV rfl rfl rfl rfl rfl (m_peekR hs5) ?_
              rintro _ h6 ⟨rfl, hs6, f6⟩
              show V S (dep + 13) 188 126 [.ref 188, .int (nI d), .int (nI n), .int (nI cs.length), v4] [.int (pkv T N (sk T N q3))] h6 _
              have g6 := g5.tr (f6.q (by decide) (by simp))
              refine V_bi (v := nI 59) rfl rfl ?_
              -- at 128: .if_icmp .ne 12
              refine V_icmp_ne rfl (fun hu => ?_) (fun hu => ?_)
              · have hu : ¬ eol T N q3 = true := fun w => hu ((pkv_e hb h600).mpr w)
                rw [hsk] at hs6
                exact lays (fun w => hu w.2) h6 hs6 (hM5.mf f6 (by simp)) (hA5.mf f6 (by simp) (by decide)) g6
              · have hu := (pkv_e hb h600).mp (Decidable.of_not_not hu)
                rw [if_pos ⟨hw, hu⟩] at hX
                refine V_aload_n rfl rfl rfl ?_
                refine V_ic (v := nI 4) rfl rfl ?_
                refine V_aload_n rfl rfl rfl ?_
                refine V_gi 12 rfl rfl rfl ?_
                -- at 137: .invokevirtual 167
                rw [hs6.1.2.1]
                refine V_callV rfl rfl rfl rfl rfl (m_fls (k := 4) hs6 (by decide) (by decide) (by rw [hsk]; exact hq3)) ?_
                rintro _ h7 ⟨rfl, hB, _, f7⟩
                have g7 := g6.tr (f7.q (by decide) (by simp))
                show V S (dep + 13) 188 140 [.ref 188, .int (nI d), .int (nI n), .int (nI cs.length), v4] [] h7 _
                have nz : ¬ nI 4 = nI 0 := by decide
                refine V_aload_n rfl rfl rfl ?_
                refine V_gi 13 rfl rfl rfl ?_
                -- at 144: .ifCond .ne 9
                rw [hB.1]
                refine V_if_ne rfl (fun hv => ?_) (fun hv => ?_)
                · refine V_return rfl rfl ?_
                  rw [hQ]
                  exact ⟨rfl, Or.inl ⟨4, _, hX, hB⟩, g7⟩
                · exact absurd (Decidable.of_not_not hv) nz
        · have hy := nI_inj (b := 0) (by omega) (by omega) (Decidable.of_not_not hy)
          rw [if_pos hy, hsk] at hX
          refine V_aload_n rfl rfl rfl ?_
          refine V_ic (v := nI 1) rfl rfl ?_
          refine V_aload_n rfl rfl rfl ?_
          refine V_gi 12 rfl rfl rfl ?_
          -- at 107: .invokevirtual 167
          rw [hs5.1.2.1]
          refine V_callV rfl rfl rfl rfl rfl (m_fls (k := 1) hs5 (by decide) (by decide) hq3) ?_
          rintro _ h7 ⟨rfl, hB, _, f7⟩
          exact finB 1 q3 h7 _ _ _ hX hB (g5.tr (f7.q (by decide) (by simp)))
    have lp : ∀ f cs q h5 v4, cs.length + f = n + 1 → cs.length ≤ n → (∀ x ∈ cs, x < 2 ^ tri (n - 1)) → RM h5 T N q → MSt h5 (fin s) → AL h5 195 (cs.map (frm (n - 1))) → Y = cds T N n f cs q → MF qF qA h h5 → V S (dep + 13) 188 11 [.ref 188, .int (nI d), .int (nI n), .int (nI cs.length), v4] [] h5 Q := by
      intro f
      induction f with
      | zero => intro cs q h5 v4 h1 h2; omega
      | succ f ih =>
        intro cs q h5 v4 hcf hcn hcb hs5 hM5 hA5 hY g5
        have hle := sk_le (T := T) hs5.1.2.2.2.1
        have hel := en_le (T := T) hle.2
        rw [cds] at hY
        refine V_aload_n rfl rfl rfl ?_
        refine V_gi 13 rfl rfl rfl ?_
        -- at 15: .ifCond .ne 75
        rw [hs5.2.1]
        refine V_if_ne rfl (fun hx => ?_) (fun hx => ?_)
        · exact absurd rfl hx
        · refine V_aload_n rfl rfl rfl ?_
          -- at 19: .invokevirtual 176
          refine V_callV rfl rfl rfl rfl rfl (m_wrd hb hs5) ?_
          rintro _ h6 ⟨rfl, hs6, f6⟩
          show V S (dep + 13) 188 22 [.ref 188, .int (nI d), .int (nI n), .int (nI cs.length), v4] [.int (wdv T N (sk T N q))] h6 _
          have g6 := g5.tr (f6.q (by decide) (by simp))
          have hM6 : MSt h6 (fin s) := hM5.mf f6 (by simp)
          have hA6 : AL h6 195 (cs.map (frm (n - 1))) := hA5.mf f6 (by simp) (by decide)
          have w2 : wdv T N (sk T N q) = nI 2 ↔ isW T N (sk T N q) 2 = true := by
            unfold wdv
            by_cases z0 : isW T N (sk T N q) 0 = true
            · rw [if_pos z0]
              exact ⟨fun z => absurd z (by decide), fun z => absurd (isW_one (by decide) (by decide) z0 z) (by decide)⟩
            · rw [if_neg z0]
              by_cases z1 : isW T N (sk T N q) 1 = true
              · rw [if_pos z1]
                exact ⟨fun z => absurd z (by decide), fun z => absurd (isW_one (by decide) (by decide) z1 z) (by decide)⟩
              · rw [if_neg z1]
                by_cases z2 : isW T N (sk T N q) 2 = true
                · rw [if_pos z2]; exact ⟨fun _ => z2, fun _ => rfl⟩
                · rw [if_neg z2]; exact ⟨fun z => absurd z (by decide), fun z => absurd z z2⟩
          refine V_ic (v := nI 2) rfl rfl ?_
          -- at 23: .if_icmp .ne 67
          refine V_icmp_ne rfl (fun hy => ?_) (fun hy => ?_)
          · have hy : ¬ isW T N (sk T N q) 2 = true := fun z => hy (w2.mpr z)
            rw [if_neg hy] at hY
            exact endL cs _ h6 _ hY hcn hcb (sk_sk _ _ _) hs6 hM6 hA6 g6
          · have hy := w2.mp (Decidable.of_not_not hy)
            rw [if_pos hy] at hY
            have k2 : kd T N (sk T N q) = 2 := (of_decide_eq_true hy).1
            have ee := en_2 k2
            refine V_iload_n rfl rfl ?_
            refine V_iload_n rfl rfl ?_
            -- at 28: .if_icmp .ne 12
            refine V_icmp_ne rfl (fun hz => ?_) (fun hz => ?_)
            · have hz : cs.length ≠ n := fun w => hz (by rw [w])
              rw [if_neg hz] at hY
              refine V_aload_n rfl rfl rfl ?_
              refine V_dup rfl rfl ?_
              refine V_gi 12 rfl rfl rfl ?_
              refine V_aload_n rfl rfl rfl ?_
              -- at 46: .invokevirtual 150
              refine V_cV rfl rfl rfl rfl rfl (m_lets hs6.1) ?_
              rw [hs6.1.2.1]
              refine V_iadd rfl ?_
              -- at 50: .putfield 121
              rw [nI_add, show sk T N q + (rn T N leB (sk T N q) - sk T N q) = en T N (sk T N q) from by rw [ee]; have := rn_ge (T := T) (N := N) (c := leB) (sk T N q); omega]
              refine V_pi 12 rfl rfl rfl rfl ?_
              -- at 53: .aload_n 0
              have f7 : MF [12] [] h6 (wI h6 188 12 (nI (en T N (sk T N q)))) := MF.f (by simp)
              have hs7 := hs6.to (hs6.1.to hel.2.1) f7
              obtain ⟨h7, hh7⟩ : ∃ h7, h7 = wI h6 188 12 (nI (en T N (sk T N q))) := ⟨_, rfl⟩
              rw [← hh7] at f7 hs7
              rw [← hh7]
              refine V_aload_n rfl rfl rfl ?_
              refine V_iload_n rfl rfl ?_
              refine V_ic (v := nI 1) rfl rfl ?_
              refine V_isub rfl ?_
              -- at 57: .invokevirtual 179
              rw [nI_sub (by omega)]
              refine V_callV rfl rfl rfl rfl rfl (m_prs (f := N + 1) hb hs7 (by omega) (by omega)) ?_
              rintro _ h8 ⟨⟨k, p, x, e8, hB, rfl⟩ | ⟨C, q', e8, hs8, rfl⟩, f8⟩
              · show V S (dep + 13) 188 60 [.ref 188, .int (nI d), .int (nI n), .int (nI cs.length), v4] [.int x] h8 _
                rw [e8] at hY
                dsimp only at hY
                rw [hY] at hX
                dsimp only at hX
                have h0 := hB.2.2.1
                have h4 := hB.2.2.2.1
                have nz : ¬ nI k = nI 0 := fun z => by have := nI_inj (b := 0) (by omega) (by omega) z; omega
                refine V_istore (L' := [_, _, _, _, _]) rfl rfl rfl ?_
                refine V_aload_n rfl rfl rfl ?_
                refine V_gi 13 rfl rfl rfl ?_
                -- at 66: .ifCond .ne 18
                rw [hB.1]
                refine V_if_ne rfl (fun hv => ?_) (fun hv => ?_)
                · refine V_iinc (L' := [_, _, _, _, _]) rfl rfl rfl ?_
                  refine V_goto rfl ?_
                  -- at 11: .aload_n 0
                  exact finA k p h8 _ _ _ hX hB ((g6.tr (f7.q (by decide) (by simp))).tr (f8.q (by decide) (by simp)))
                · exact absurd (Decidable.of_not_not hv) nz
              · show V S (dep + 13) 188 60 [.ref 188, .int (nI d), .int (nI n), .int (nI cs.length), v4] [.int (nI C)] h8 _
                rw [e8] at hY
                dsimp only at hY
                have hpk := prs_ok (by omega) _ _ _ _ _ (Nat.two_pow_pos _) hel.2.1 (by omega) e8
                have hM8 := (hM6.mf f7 (by simp)).mf f8 (by simp)
                have hA8 := (hA6.mf f7 (by simp) (by decide)).mf f8 (by simp) (by decide)
                refine V_istore (L' := [_, _, _, _, _]) rfl rfl rfl ?_
                refine V_aload_n rfl rfl rfl ?_
                refine V_gi 13 rfl rfl rfl ?_
                -- at 66: .ifCond .ne 18
                rw [hs8.2.1]
                refine V_if_ne rfl (fun hv => ?_) (fun hv => ?_)
                · exact absurd rfl hv
                · refine V_aload_n rfl rfl rfl ?_
                  refine V_getR (r := 195) rfl rfl ?_
                  refine V_iload_n rfl rfl ?_
                  refine V_aload_n rfl rfl rfl ?_
                  refine V_iload_n rfl rfl ?_
                  refine V_ic (v := nI 1) rfl rfl ?_
                  refine V_isub rfl ?_
                  -- at 78: .iload 4
                  rw [nI_sub (by omega)]
                  refine V_iload rfl rfl ?_
                  -- at 80: .invokevirtual 115
                  refine V_callV rfl rfl rfl rfl rfl (m_frm (by omega) hpk.1) ?_
                  rintro _ h9 ⟨rfl, f9⟩
                  show V S (dep + 13) 188 83 [.ref 188, .int (nI d), .int (nI n), .int (nI cs.length), .int (nI C)] [.int (nI (frm (n - 1) C)), .int (nI cs.length), .ref 195] h9 _
                  refine V_as 7 rfl rfl (by first | with_reducible rfl | assumption | exact nI_sub (by omega) | exact nI_add _ _) (by first | omega | assumption) rfl ?_
                  -- at 84: .iinc 3 1
                  have fa : MF [] [195] h9 (wI h9 195 cs.length (nI (frm (n - 1) C))) := MF.w (by simp) (by decide)
                  have hA9 : AL h9 195 (cs.map (frm (n - 1))) := hA8.mf f9 (by simp) (by decide)
                  have hAa := hA9.app (y := frm (n - 1) C)
                  rw [List.length_map] at hAa
                  refine V_iinc (L' := [_, _, _, _, _]) rfl rfl rfl ?_
                  refine V_goto rfl ?_
                  -- at 11: .aload_n 0
                  rw [show Int32.ofInt 1 = nI 1 from rfl, nI_add]
                  have el : (cs ++ [C]).length = cs.length + 1 := by rw [List.length_append]; rfl
                  have := ih (cs ++ [C]) q' (wI h9 195 cs.length (nI (frm (n - 1) C))) (.int (nI C)) (by omega) (by omega) (fun x hx => by
                    rcases List.mem_append.mp hx with z | z
                    · exact hcb x z
                    · rw [List.mem_singleton.mp z]; exact hpk.1) ((hs8.mf f9 (by simp) (by simp) (by simp) (by simp) (by simp)).mf fa (by simp) (by simp) (by simp) (by simp) (by simp)) ((hM8.mf f9 (by simp)).mf fa (by simp)) (by rw [List.map_append]; exact hAa) hY ((((g6.tr (f7.q (by decide) (by simp))).tr (f8.q (by decide) (by simp))).tr (f9.q (by decide) (by decide))).tr (fa.q (by simp) (by decide)))
                  rw [el] at this
                  exact this
            · have hz := nI_inj (by omega) (by omega) (Decidable.of_not_not hz)
              rw [if_pos hz] at hY
              rw [hY] at hX
              dsimp only at hX
              refine V_aload_n rfl rfl rfl ?_
              refine V_ic (v := nI 4) rfl rfl ?_
              refine V_aload_n rfl rfl rfl ?_
              refine V_gi 12 rfl rfl rfl ?_
              -- at 37: .invokevirtual 167
              rw [hs6.1.2.1]
              refine V_callV rfl rfl rfl rfl rfl (m_fls (k := 4) hs6 (by decide) (by decide) hle.2) ?_
              rintro _ h7 ⟨rfl, hB, hT7, f7⟩
              show V S (dep + 13) 188 40 [.ref 188, .int (nI d), .int (nI n), .int (nI cs.length), v4] [] h7 _
              refine V_aload_n rfl rfl rfl ?_
              refine V_dup rfl rfl ?_
              refine V_gi 12 rfl rfl rfl ?_
              refine V_aload_n rfl rfl rfl ?_
              -- at 46: .invokevirtual 150
              refine V_cV rfl rfl rfl rfl rfl (m_lets hT7) ?_
              refine V_iadd rfl ?_
              refine V_pi 12 rfl rfl rfl rfl ?_
              -- at 53: .aload_n 0
              obtain ⟨h8, hh8⟩ : ∃ h8, h8 = wI h7 188 12 (h7.1 188 12 + nI (rn T N leB (sk T N q) - sk T N q)) := ⟨_, rfl⟩
              rw [← hh8]
              have f8 : MF [12] [] h7 h8 := by rw [hh8]; exact MF.f (by simp)
              have hB8 := hB.mf f8 (by simp) (by simp)
              have nz : ¬ nI 4 = nI 0 := by decide
              refine V_aload_n rfl rfl rfl ?_
              refine V_iload_n rfl rfl ?_
              refine V_ic (v := nI 1) rfl rfl ?_
              refine V_isub rfl ?_
              -- at 57: .invokevirtual 179
              refine V_cV rfl rfl rfl rfl rfl (m_prsB hB8) ?_
              refine V_istore (L' := [_, _, _, _, _]) rfl rfl rfl ?_
              refine V_aload_n rfl rfl rfl ?_
              refine V_gi 13 rfl rfl rfl ?_
              -- at 66: .ifCond .ne 18
              rw [hB8.1]
              refine V_if_ne rfl (fun hv => ?_) (fun hv => ?_)
              · refine V_iinc (L' := [_, _, _, _, _]) rfl rfl rfl ?_
                refine V_goto rfl ?_
                -- at 11: .aload_n 0
                exact finA 4 _ h8 _ _ _ hX hB8 ((g6.tr (f7.q (by decide) (by simp))).tr (f8.q (by decide) (by simp)))
              · exact absurd (Decidable.of_not_not hv) nz
    exact lp (n + 1) [] q2 h1 _ (by simp) (by simp) (by simp) hs1 hM1 (fun i hi => by simp at hi) hY g1
theorem m_line {S : mScr} {dep N q : Nat} {s : Sl} {T : Nat → Int32} {h : Hp} (hb : BT T) (hs : RM h T N q) (hM : MSt h (fin s)) : Cal S (dep + 14) 187 [.ref 188] h (fun r h' => r = none ∧ ((∃ k p, linP T N s q = .inl (k, p) ∧ WB h' N k p) ∨ (∃ s' q', linP T N s q = .inr (s', q') ∧ RM h' T N q' ∧ MSt h' (fin s'))) ∧ MF qF qA h h') := by
  have h600 := hs.1.2.2.2.2
  have hle := sk_le (T := T) hs.1.2.2.2.1
  have hel := en_le (T := T) hle.2
  obtain ⟨X, hX⟩ : ∃ X, X = linP T N s q := ⟨_, rfl⟩
  rw [← hX]
  obtain ⟨Q, hQ⟩ : ∃ Q : Option Value → Hp → Prop, Q = (fun r h' => r = none ∧ ((∃ k p, X = .inl (k, p) ∧ WB h' N k p) ∨ (∃ s' q', X = .inr (s', q') ∧ RM h' T N q' ∧ MSt h' (fin s'))) ∧ MF qF qA h h') := ⟨_, rfl⟩
  rw [← hQ]
  unfold linP at hX
  have finB : ∀ k p h5 v1 v2 v3 v4, X = .inl (k, p) → WB h5 N k p → MF qF qA h h5 → V S (dep + 14) 187 101 [.ref 188, v1, v2, v3, v4] [] h5 Q := by
    intro k p h5 v1 v2 v3 v4 eX hB f5
    have h0 := hB.2.2.1
    have h4 := hB.2.2.2.1
    have nz : ¬ nI k = nI 0 := fun z => by have := nI_inj (b := 0) (by omega) (by omega) z; omega
    refine V_aload_n rfl rfl rfl ?_
    refine V_gi 13 rfl rfl rfl ?_
    -- at 105: .ifCond .ne 21
    rw [hB.1]
    refine V_if_ne rfl (fun hx => ?_) (fun hx => ?_)
    · refine V_aload_n rfl rfl rfl ?_
      refine V_dup rfl rfl ?_
      refine V_gi 12 rfl rfl rfl ?_
      refine V_ic (v := nI 1) rfl rfl ?_
      refine V_iadd rfl ?_
      refine V_pi 12 rfl rfl rfl rfl ?_
      -- at 136: .return_
      refine V_return rfl rfl ?_
      rw [hQ]
      have f6 : MF [12] [] h5 (wI h5 188 12 (h5.1 188 12 + nI 1)) := MF.f (by simp)
      exact ⟨rfl, Or.inl ⟨k, p, eX, hB.mf f6 (by simp) (by simp)⟩, f5.tr (f6.q (by decide) (by simp))⟩
    · exact absurd (Decidable.of_not_not hx) nz
  have finG : ∀ s' q3 h5 v1 v2 v3 v4, X = eop T N s' q3 → RM h5 T N q3 → (eol T N q3 = true → MSt h5 (fin s')) → MF qF qA h h5 → V S (dep + 14) 187 101 [.ref 188, v1, v2, v3, v4] [] h5 Q := by
    intro s' q3 h5 v1 v2 v3 v4 eX hs5 hM5 f5
    have hl3 := sk_le (T := T) hs5.1.2.2.2.1
    unfold eop at eX
    refine V_aload_n rfl rfl rfl ?_
    refine V_gi 13 rfl rfl rfl ?_
    -- at 105: .ifCond .ne 21
    rw [hs5.2.1]
    refine V_if_ne rfl (fun hx => ?_) (fun hx => ?_)
    · exact absurd rfl hx
    · refine V_aload_n rfl rfl rfl ?_
      -- at 109: .invokevirtual 146
      refine V_callV rfl rfl rfl rfl rfl (m_peekR hs5) ?_
      rintro _ h6 ⟨rfl, hs6, f6⟩
      show V S (dep + 14) 187 112 [.ref 188, v1, v2, v3, v4] [.int (pkv T N (sk T N q3))] h6 _
      refine V_bi (v := nI 59) rfl rfl ?_
      -- at 114: .if_icmp .eq 12
      refine V_icmp_eq rfl (fun hy => ?_) (fun hy => ?_)
      · have hy := (pkv_e hb h600).mp hy
        have hlt := (of_decide_eq_true (show decide (sk T N q3 < N ∧ T (sk T N q3) = nI 59) = true from hy)).1
        rw [if_pos hy] at eX
        refine V_aload_n rfl rfl rfl ?_
        refine V_dup rfl rfl ?_
        refine V_gi 12 rfl rfl rfl ?_
        refine V_ic (v := nI 1) rfl rfl ?_
        refine V_iadd rfl ?_
        -- at 133: .putfield 121
        rw [hs6.1.2.1, nI_add]
        refine V_pi 12 rfl rfl rfl rfl ?_
        -- at 136: .return_
        refine V_return rfl rfl ?_
        rw [hQ]
        have f7 : MF [12] [] h6 (wI h6 188 12 (nI (sk T N q3 + 1))) := MF.f (by simp)
        exact ⟨rfl, Or.inr ⟨s', _, eX, hs6.to (hs6.1.to (by omega)) f7, ((hM5 hy).mf f6 (by simp)).mf f7 (by simp)⟩, (f5.tr (f6.q (by decide) (by simp))).tr (f7.q (by decide) (by simp))⟩
      · have hy : ¬ eol T N q3 = true := fun w => hy ((pkv_e hb h600).mpr w)
        rw [if_neg hy] at eX
        refine V_aload_n rfl rfl rfl ?_
        refine V_ic (v := nI 1) rfl rfl ?_
        refine V_aload_n rfl rfl rfl ?_
        refine V_gi 12 rfl rfl rfl ?_
        -- at 123: .invokevirtual 167
        rw [hs6.1.2.1]
        refine V_callV rfl rfl rfl rfl rfl (m_fls (k := 1) hs6 (by decide) (by decide) hl3.2) ?_
        rintro _ h7 ⟨rfl, hB, _, f7⟩
        show V S (dep + 14) 187 126 [.ref 188, v1, v2, v3, v4] [] h7 _
        refine V_aload_n rfl rfl rfl ?_
        refine V_dup rfl rfl ?_
        refine V_gi 12 rfl rfl rfl ?_
        refine V_ic (v := nI 1) rfl rfl ?_
        refine V_iadd rfl ?_
        refine V_pi 12 rfl rfl rfl rfl ?_
        -- at 136: .return_
        refine V_return rfl rfl ?_
        rw [hQ]
        have f8 : MF [12] [] h7 (wI h7 188 12 (h7.1 188 12 + nI 1)) := MF.f (by simp)
        exact ⟨rfl, Or.inl ⟨1, _, eX, hB.mf f8 (by simp) (by simp)⟩, ((f5.tr (f6.q (by decide) (by simp))).tr (f7.q (by decide) (by simp))).tr (f8.q (by decide) (by simp))⟩
  show V S (dep + 14) 187 0 [.ref 188, .null, .null, .null, .null] [] h _
  refine V_aload_n rfl rfl rfl ?_
  -- at 1: .invokevirtual 176
  refine V_callV rfl rfl rfl rfl rfl (m_wrd hb hs) ?_
  rintro _ h1 ⟨rfl, hs1, f1⟩
  show V S (dep + 14) 187 4 [.ref 188, .null, .null, .null, .null] [.int (wdv T N (sk T N q))] h1 _
  have g1 : MF qF qA h h1 := f1.q (by decide) (by simp)
  have hM1 : MSt h1 (fin s) := hM.mf f1 (by simp)
  obtain ⟨p, hp⟩ : ∃ p, p = sk T N q := ⟨_, rfl⟩
  rw [← hp] at hs1 hX hle hel
  rw [← hp]
  have word : ∀ w, (w = 0 ∨ w = 1) → isW T N p w = true → ∀ h5, RM h5 T N p → MSt h5 (fin s) → MF qF qA h h5 → (∀ h6, RM h6 T N (en T N p) → MSt h6 (fin s) → MF qF qA h h6 → V S (dep + 14) 187 44 [.ref 188, .int (nI w), .null, .null, .null] [] h6 Q) → V S (dep + 14) 187 23 [.ref 188, .int (nI w), .null, .null, .null] [] h5 Q := by
    intro w hw hy h5 hs5 hM5 g5 kk
    have k2 : kd T N p = 2 := (of_decide_eq_true hy).1
    have ee := en_2 k2
    refine V_aload_n rfl rfl rfl ?_
    refine V_gi 13 rfl rfl rfl ?_
    -- at 27: .ifCond .eq 4
    rw [hs5.2.1]
    refine V_if_eq rfl (fun hx => ?_) (fun hx => ?_)
    · refine V_aload_n rfl rfl rfl ?_
      refine V_dup rfl rfl ?_
      refine V_gi 12 rfl rfl rfl ?_
      refine V_aload_n rfl rfl rfl ?_
      -- at 37: .invokevirtual 150
      refine V_cV rfl rfl rfl rfl rfl (m_lets hs5.1) ?_
      rw [hs5.1.2.1]
      refine V_iadd rfl ?_
      -- at 41: .putfield 121
      rw [nI_add, show p + (rn T N leB p - p) = en T N p from by rw [ee]; have := rn_ge (T := T) (N := N) (c := leB) p; omega]
      refine V_pi 12 rfl rfl rfl rfl ?_
      -- at 44: .iload_n 1
      have f7 : MF [12] [] h5 (wI h5 188 12 (nI (en T N p))) := MF.f (by simp)
      exact kk _ (hs5.to (hs5.1.to hel.2.1) f7) (hM5.mf f7 (by simp)) (g5.tr (f7.q (by decide) (by simp)))
    · exact absurd rfl hx
  by_cases w0 : isW T N p 0 = true
  · have ew : wdv T N p = nI 0 := by unfold wdv; rw [if_pos w0]
    rw [ew]
    rw [if_pos w0] at hX
    unfold netP at hX
    refine V_istore_n (L' := [_, _, _, _, _]) rfl rfl rfl ?_
    refine V_iload_n rfl rfl ?_
    -- at 6: .ifCond .eq 17
    refine V_if_eq rfl (fun hx => ?_) (fun hx => ?_)
    · refine word 0 (Or.inl rfl) w0 h1 hs1 hM1 g1 ?_
      intro h2 hs2 hM2 g2
      refine V_iload_n rfl rfl ?_
      -- at 45: .ifCond .ne 45
      refine V_if_ne rfl (fun hy => ?_) (fun hy => ?_)
      · exact absurd rfl hy
      · have mnum := m_num (S := S) (dep := dep + 10) (D := 1) (lo := 0) (hi := 5) hb hs2 (by decide) (by decide) (by decide)
        rw [num_1] at mnum
        refine V_aload_n rfl rfl rfl ?_
        refine V_ic (v := nI 1) rfl rfl ?_
        refine V_ic (v := nI 0) rfl rfl ?_
        refine V_ic (v := nI 5) rfl rfl ?_
        -- at 52: .invokevirtual 173
        refine V_callV rfl rfl rfl rfl rfl (mnum) ?_
        rintro _ h3 ⟨⟨k, p', e3, hB, rfl⟩ | ⟨i, q1, e3, hs3, rfl, _⟩, f3⟩
        · rw [e3] at hX
          show V S (dep + 14) 187 55 [.ref 188, .int (nI 0), .null, .null, .null] [.int (nI 0)] h3 _
          have h0 := hB.2.2.1
          have h4 := hB.2.2.2.1
          have nz : ¬ nI k = nI 0 := fun z => by have := nI_inj (b := 0) (by omega) (by omega) z; omega
          refine V_istore_n (L' := [_, _, _, _, _]) rfl rfl rfl ?_
          refine V_aload_n rfl rfl rfl ?_
          refine V_ic (v := nI 1) rfl rfl ?_
          refine V_ic (v := nI 0) rfl rfl ?_
          refine V_bi (v := nI 7) rfl rfl ?_
          -- at 61: .invokevirtual 173
          refine V_cV rfl rfl rfl rfl rfl (m_numB hB) ?_
          refine V_istore_n (L' := [_, _, _, _, _]) rfl rfl rfl ?_
          refine V_aload_n rfl rfl rfl ?_
          refine V_iload_n rfl rfl ?_
          -- at 67: .invokevirtual 179
          refine V_cV rfl rfl rfl rfl rfl (m_prsB hB) ?_
          refine V_istore (L' := [_, _, _, _, _]) rfl rfl rfl ?_
          refine V_aload_n rfl rfl rfl ?_
          refine V_gi 13 rfl rfl rfl ?_
          -- at 76: .ifCond .ne 11
          rw [hB.1]
          refine V_if_ne rfl (fun hz => ?_) (fun hz => ?_)
          · refine V_goto rfl ?_
            -- at 101: .aload_n 0
            exact finB k p' h3 _ _ _ _ hX hB (g2.tr (f3.q (by decide) (by simp)))
          · exact absurd (Decidable.of_not_not hz) nz
        · rw [e3] at hX
          dsimp only at hX
          show V S (dep + 14) 187 55 [.ref 188, .int (nI 0), .null, .null, .null] [.int (nI i)] h3 _
          have di := dig_ok e3 hel.2.1
          have hM3 := hM2.mf f3 (by simp)
          have g3 := g2.tr (f3.q (by decide) (by simp))
          have mnum := m_num (S := S) (dep := dep + 10) (D := 1) (lo := 0) (hi := 7) hb hs3 (by decide) (by decide) (by decide)
          rw [num_1] at mnum
          refine V_istore_n (L' := [_, _, _, _, _]) rfl rfl rfl ?_
          refine V_aload_n rfl rfl rfl ?_
          refine V_ic (v := nI 1) rfl rfl ?_
          refine V_ic (v := nI 0) rfl rfl ?_
          refine V_bi (v := nI 7) rfl rfl ?_
          -- at 61: .invokevirtual 173
          refine V_callV rfl rfl rfl rfl rfl (mnum) ?_
          rintro _ h4 ⟨⟨k, p', e4, hB, rfl⟩ | ⟨n, q2, e4, hs4, rfl, _⟩, f4⟩
          · rw [e4] at hX
            show V S (dep + 14) 187 64 [.ref 188, .int (nI 0), .int (nI i), .null, .null] [.int (nI 0)] h4 _
            have h0 := hB.2.2.1
            have h4 := hB.2.2.2.1
            have nz : ¬ nI k = nI 0 := fun z => by have := nI_inj (b := 0) (by omega) (by omega) z; omega
            refine V_istore_n (L' := [_, _, _, _, _]) rfl rfl rfl ?_
            refine V_aload_n rfl rfl rfl ?_
            refine V_iload_n rfl rfl ?_
            -- at 67: .invokevirtual 179
            refine V_cV rfl rfl rfl rfl rfl (m_prsB hB) ?_
            refine V_istore (L' := [_, _, _, _, _]) rfl rfl rfl ?_
            refine V_aload_n rfl rfl rfl ?_
            refine V_gi 13 rfl rfl rfl ?_
            -- at 76: .ifCond .ne 11
            rw [hB.1]
            refine V_if_ne rfl (fun hz => ?_) (fun hz => ?_)
            · refine V_goto rfl ?_
              -- at 101: .aload_n 0
              exact finB k p' _ _ _ _ _ hX hB (g3.tr (f4.q (by decide) (by simp)))
            · exact absurd (Decidable.of_not_not hz) nz
          · rw [e4] at hX
            dsimp only at hX
            show V S (dep + 14) 187 64 [.ref 188, .int (nI 0), .int (nI i), .null, .null] [.int (nI n)] h4 _
            have dn := dig_ok e4 di.2.2.2
            have hM4 := hM3.mf f4 (by simp)
            have g4 := g3.tr (f4.q (by decide) (by simp))
            refine V_istore_n (L' := [_, _, _, _, _]) rfl rfl rfl ?_
            refine V_aload_n rfl rfl rfl ?_
            refine V_iload_n rfl rfl ?_
            -- at 67: .invokevirtual 179
            refine V_callV rfl rfl rfl rfl rfl (m_prs (f := N + 1) hb hs4 dn.2.1 (by omega)) ?_
            rintro _ h5 ⟨⟨k, p', x, e5, hB, rfl⟩ | ⟨C, q3, e5, hs5, rfl⟩, f5⟩
            · rw [e5] at hX
              dsimp only at hX
              show V S (dep + 14) 187 70 [.ref 188, .int (nI 0), .int (nI i), .int (nI n), .null] [.int x] h5 _
              have h0 := hB.2.2.1
              have h4 := hB.2.2.2.1
              have nz : ¬ nI k = nI 0 := fun z => by have := nI_inj (b := 0) (by omega) (by omega) z; omega
              refine V_istore (L' := [_, _, _, _, _]) rfl rfl rfl ?_
              refine V_aload_n rfl rfl rfl ?_
              refine V_gi 13 rfl rfl rfl ?_
              -- at 76: .ifCond .ne 11
              rw [hB.1]
              refine V_if_ne rfl (fun hz => ?_) (fun hz => ?_)
              · refine V_goto rfl ?_
                -- at 101: .aload_n 0
                exact finB k p' _ _ _ _ _ hX hB (g4.tr (f5.q (by decide) (by simp)))
              · exact absurd (Decidable.of_not_not hz) nz
            · rw [e5] at hX
              dsimp only at hX
              show V S (dep + 14) 187 70 [.ref 188, .int (nI 0), .int (nI i), .int (nI n), .null] [.int (nI C)] h5 _
              have hM5 := hM4.mf f5 (by simp)
              have g5 := g4.tr (f5.q (by decide) (by simp))
              refine V_istore (L' := [_, _, _, _, _]) rfl rfl rfl ?_
              refine V_aload_n rfl rfl rfl ?_
              refine V_gi 13 rfl rfl rfl ?_
              -- at 76: .ifCond .ne 11
              rw [hs5.2.1]
              refine V_if_ne rfl (fun hz => ?_) (fun hz => ?_)
              · exact absurd rfl hz
              · refine V_aload_n rfl rfl rfl ?_
                refine V_iload_n rfl rfl ?_
                refine V_iload_n rfl rfl ?_
                refine V_iload rfl rfl ?_
                -- at 84: .invokevirtual 182
                refine V_callV rfl rfl rfl rfl rfl (m_becomes (i := i) (n := n) (C := C) hM5 (by omega)) ?_
                rintro _ h6 ⟨rfl, hM6, f6⟩
                show V S (dep + 14) 187 87 [.ref 188, .int (nI 0), .int (nI i), .int (nI n), .int (nI C)] [] h6 _
                refine V_goto rfl ?_
                -- at 101: .aload_n 0
                exact finG _ q3 h6 _ _ _ _ hX (hs5.mf f6 (by simp) (by simp) (by simp) (by simp) (by simp)) (fun _ => hM6) (g5.tr (f6.q (by simp) (by decide)))
    · exact absurd rfl hx
  · rw [if_neg w0] at hX
    by_cases w1 : isW T N p 1 = true
    · have ew : wdv T N p = nI 1 := by unfold wdv; rw [if_neg w0, if_pos w1]
      rw [ew]
      rw [if_pos w1, decP_R] at hX
      refine V_istore_n (L' := [_, _, _, _, _]) rfl rfl rfl ?_
      refine V_iload_n rfl rfl ?_
      -- at 6: .ifCond .eq 17
      refine V_if_eq rfl (fun hx => ?_) (fun hx => ?_)
      · exact absurd hx (by decide)
      · refine V_iload_n rfl rfl ?_
        refine V_ic (v := nI 1) rfl rfl ?_
        -- at 11: .if_icmp .eq 12
        refine V_icmp_eq rfl (fun hy => ?_) (fun hy => ?_)
        · refine word 1 (Or.inr rfl) w1 h1 hs1 hM1 g1 ?_
          intro h2 hs2 hM2 g2
          refine V_iload_n rfl rfl ?_
          -- at 45: .ifCond .ne 45
          refine V_if_ne rfl (fun hz => ?_) (fun hz => ?_)
          · have mnum := m_num (S := S) (dep := dep + 10) (D := 1) (lo := 0) (hi := 2) hb hs2 (by decide) (by decide) (by decide)
            rw [num_1] at mnum
            refine V_aload_n rfl rfl rfl ?_
            refine V_aload_n rfl rfl rfl ?_
            refine V_ic (v := nI 1) rfl rfl ?_
            refine V_ic (v := nI 0) rfl rfl ?_
            refine V_ic (v := nI 2) rfl rfl ?_
            -- at 95: .invokevirtual 173
            refine V_callV rfl rfl rfl rfl rfl (mnum) ?_
            rintro _ h3 ⟨⟨k, p', e3, hB, rfl⟩ | ⟨d, q1, e3, hs3, rfl, _⟩, f3⟩
            · rw [e3] at hX
              show V S (dep + 14) 187 98 [.ref 188, .int (nI 1), .null, .null, .null] [.int (nI 0), .ref 188] h3 _
              refine V_callV rfl rfl rfl rfl rfl (m_dkB hB) ?_
              rintro _ h4 ⟨rfl, eh⟩
              rw [eh]
              exact finB k p' h3 _ _ _ _ hX hB (g2.tr (f3.q (by decide) (by simp)))
            · rw [e3] at hX
              dsimp only at hX
              show V S (dep + 14) 187 98 [.ref 188, .int (nI 1), .null, .null, .null] [.int (nI d), .ref 188] h3 _
              have di := dig_ok e3 hel.2.1
              have hM3 := hM2.mf f3 (by simp)
              have g3 := g2.tr (f3.q (by decide) (by simp))
              refine V_callV rfl rfl rfl rfl rfl (m_dk (d := d) hb hs3 hM3 (by omega)) ?_
              rintro _ h4 ⟨rfl, ⟨k, p', e4, hB⟩ | ⟨s', q', e4, hs4, hM4⟩, f4⟩
              · rw [e4] at hX
                exact finB k p' h4 _ _ _ _ hX hB (g3.tr f4)
              · rw [e4] at hX
                exact finG s' q' h4 _ _ _ _ hX hs4 hM4 (g3.tr f4)
          · exact absurd (Decidable.of_not_not hz) (by decide)
        · exact absurd rfl hy
    · rw [if_neg w1] at hX
      have ew : wdv T N p ≠ nI 0 ∧ wdv T N p ≠ nI 1 := by
        unfold wdv
        rw [if_neg w0, if_neg w1]
        by_cases w2 : isW T N p 2 = true
        · rw [if_pos w2]; exact ⟨by decide, by decide⟩
        · rw [if_neg w2]; exact ⟨by decide, by decide⟩
      refine V_istore_n (L' := [_, _, _, _, _]) rfl rfl rfl ?_
      refine V_iload_n rfl rfl ?_
      -- at 6: .ifCond .eq 17
      refine V_if_eq rfl (fun hx => ?_) (fun hx => ?_)
      · exact absurd hx ew.1
      · refine V_iload_n rfl rfl ?_
        refine V_ic (v := nI 1) rfl rfl ?_
        -- at 11: .if_icmp .eq 12
        refine V_icmp_eq rfl (fun hy => ?_) (fun hy => ?_)
        · exact absurd hy ew.2
        · refine V_aload_n rfl rfl rfl ?_
          refine V_ic (v := nI 1) rfl rfl ?_
          refine V_aload_n rfl rfl rfl ?_
          refine V_gi 12 rfl rfl rfl ?_
          -- at 20: .invokevirtual 167
          rw [hs1.1.2.1]
          refine V_callV rfl rfl rfl rfl rfl (m_fls (k := 1) hs1 (by decide) (by decide) hle.2) ?_
          rintro _ h2 ⟨rfl, hB, _, f2⟩
          show V S (dep + 14) 187 23 [.ref 188, .int (wdv T N p), .null, .null, .null] [] h2 _
          refine V_aload_n rfl rfl rfl ?_
          refine V_gi 13 rfl rfl rfl ?_
          -- at 27: .ifCond .eq 4
          rw [hB.1]
          refine V_if_eq rfl (fun hz => ?_) (fun hz => ?_)
          · exact absurd hz (by decide)
          · refine V_return rfl rfl ?_
            rw [hQ]
            exact ⟨rfl, Or.inl ⟨1, p, hX, hB⟩, g1.tr (f2.q (by decide) (by simp))⟩
