/-! the class: tell -/
theorem c_begin {S : mScr} {dep N : Nat} {T : Nat → Int32} {h : Hp} (hT : ∀ i, i < 600 → h.1 3 i = T i) (hN : N ≤ 600) : Cal S (dep + 2) 105 [.ref 147, .int (nI N)] h (fun r h' => r = none ∧ RS h' T N 0 0 ∧ RSl h' s00 ∧ Fr rA h h') := by
  show V S (dep + 2) 105 0 [.ref 147, .int (nI N), .null] [] h _
  refine V_ic (v := nI 0) rfl rfl ?_
  refine V_istore_n (L' := [_, _, _]) rfl rfl rfl ?_
  -- at 2: .iload_n 2
  obtain ⟨Q, hQ⟩ : ∃ Q : Option Value → Hp → Prop, Q = (fun r h' => r = none ∧ RS h' T N 0 0 ∧ RSl h' s00 ∧ Fr rA h h') := ⟨_, rfl⟩
  rw [← hQ]
  have lp := loopUp (P := fun i => ∀ h1, (∀ j, j < i → NC h1 (152 + 2 * j) 0 0) → Fr rA h h1 → V S (dep + 2) 105 2 [.ref 147, .int (nI N), .int (nI i)] [] h1 Q) 6 ?_ ?_ 0 (Nat.zero_le _)
  · exact lp h (fun j hj => by omega) Fr.rf
  · intro h1 n1 f1
    refine V_iload_n rfl rfl ?_
    refine V_bi (v := nI 6) rfl rfl ?_
    -- at 5: .if_icmp .ge 19
    refine V_icmp_ge rfl (fun hc => ?_) (fun hc => ?_)
    · refine V_ic (v := nI 0) rfl rfl ?_
      refine V_istore_n (L' := [_, _, _]) rfl rfl rfl ?_
      -- at 26: .iload_n 2
      have lq := loopUp (P := fun i => ∀ h1, (∀ j, j < 6 → NC h1 (152 + 2 * j) 0 0) → (∀ j, j < i → DK h1 (164 + 2 * j) []) → Fr rA h h1 → V S (dep + 2) 105 26 [.ref 147, .int (nI N), .int (nI i)] [] h1 Q) 3 ?_ ?_ 0 (Nat.zero_le _)
      · exact lq h1 n1 (fun j hj => by omega) f1
      · intro h2 n2 d2 f2
        refine V_iload_n rfl rfl ?_
        refine V_ic (v := nI 3) rfl rfl ?_
        -- at 28: .if_icmp .ge 18
        refine V_icmp_ge rfl (fun hd => ?_) (fun hd => ?_)
        · refine V_aload_n rfl rfl rfl ?_
          refine V_ic (v := nI 0) rfl rfl ?_
          refine V_iload_n rfl rfl ?_
          refine V_aload_n rfl rfl rfl ?_
          refine V_getR (r := 3) rfl rfl ?_
          -- at 53: .arraylength
          refine V_alen (t := 1) (n := 600) rfl rfl rfl ?_
          show V S (dep + 2) 105 54 [.ref 147, .int (nI N), .int (nI 3)] [.int (nI 600), .int (nI N), .int (nI 0), .ref 147] h2 _
          refine V_min rfl rfl rfl ?_
          rw [nI_min (by omega) (by omega), show min N 600 = N by omega]
          refine V_max rfl rfl rfl ?_
          rw [nI_max (by omega) (by omega), show max 0 N = N by omega]
          refine V_pi 8 rfl rfl rfl rfl ?_
          refine V_aload_n rfl rfl rfl ?_
          refine V_ic (v := nI 0) rfl rfl ?_
          refine V_pi 2 rfl rfl rfl rfl ?_
          refine V_aload_n rfl rfl rfl ?_
          refine V_ic (v := -1) rfl rfl ?_
          refine V_pi 3 rfl rfl rfl rfl ?_
          refine V_aload_n rfl rfl rfl ?_
          refine V_ic (v := nI 0) rfl rfl ?_
          refine V_pi 4 rfl rfl rfl rfl ?_
          refine V_aload_n rfl rfl rfl ?_
          refine V_ic (v := nI 0) rfl rfl ?_
          refine V_pi 11 rfl rfl rfl rfl ?_
          refine V_aload_n rfl rfl rfl ?_
          -- at 84: .invokevirtual 97
          obtain ⟨h3, hh3⟩ : ∃ h3, h3 = wI (wI (wI (wI (wI h2 147 8 (nI N)) 147 2 (nI 0)) 147 3 (-1)) 147 4 (nI 0)) 147 11 (nI 0) := ⟨_, rfl⟩
          rw [← hh3]
          have f3 : Fr [147] h2 h3 := by rw [hh3]; exact (((((Fr.w (by simp)).tr (Fr.w (by simp))).tr (Fr.w (by simp))).tr (Fr.w (by simp))).tr (Fr.w (by simp)))
          have a3 : AS h3 T N 0 0 := by
            refine ⟨?_, ?_, ?_, ?_, ?_, fun i hi => ?_, hN⟩
            · rw [hh3, wI_ne (by omega), wI_ne (by omega), wI_ne (by omega), wI_ne (by omega), wI_same]
            · rw [hh3, wI_same]
            · rw [hh3, wI_ne (by omega), wI_ne (by omega), wI_ne (by omega), wI_same]
            · rw [hh3, wI_ne (by omega), wI_ne (by omega), wI_same]
            · rw [hh3, wI_ne (by omega), wI_same]
            · rw [f3.1 3 (by simp), f2.1 3 (by decide)]; exact hT i hi
          refine V_callV rfl rfl rfl rfl rfl (c_adv a3 (Nat.zero_le _)) ?_
          rintro _ h4 ⟨rfl, hR4, f4⟩
          show V S (dep + 2) 105 87 [.ref 147, .int (nI N), .int (nI 3)] [] h4 _
          refine V_return rfl rfl ?_
          rw [hQ]
          have hl : RSl h2 s00 := ⟨n2, d2⟩
          exact ⟨rfl, hR4, (hl.fr f3 (by simp)).fr f4 (by simp), (f2.tr (f3.rA (by simp))).tr (f4.rA (by simp))⟩
        · exact absurd (by decide) hd
      · intro i hi ih h2 n2 d2 f2
        have hni := isRD i hi
        have hb1 := deck_b hni
        refine V_iload_n rfl rfl ?_
        refine V_ic (v := nI 3) rfl rfl ?_
        -- at 28: .if_icmp .ge 18
        refine V_icmp_ge rfl (fun hd => ?_) (fun hd => ?_)
        · exact absurd (show nI 3 ≤ nI i from hd) (nI_ge hi (by omega))
        · refine V_aload_n rfl rfl rfl ?_
          refine V_getR (r := 149) rfl rfl ?_
          refine V_iload_n rfl rfl ?_
          refine V_a149 rfl (by first | omega | assumption) ?_
          -- at 37: .invokevirtual 86
          refine V_callV rfl rfl (by first | assumption | rfl) rfl rfl (c_dclear hni) ?_
          rintro _ h3 ⟨rfl, eh3⟩
          show V S (dep + 2) 105 40 [.ref 147, .int (nI N), .int (nI i)] [] h3 _
          have f3 : Fr [164 + 2 * i] h2 h3 := by rw [eh3]; exact Fr.w (by simp)
          refine V_iinc (L' := [_, _, _]) rfl rfl rfl ?_
          refine V_goto rfl ?_
          -- at 26: .iload_n 2
          rw [show Int32.ofInt 1 = nI 1 from rfl, nI_add]
          refine ih h3 (fun j hj => (n2 j hj).fr f3 (by simp; omega) (by simp; omega)) (fun j hj => ?_) (f2.tr (f3.rA (by simp; omega)))
          by_cases e : j = i
          · rw [e, eh3]; exact DK_nil hni
          · exact (d2 j (by omega)).fr f3 (by simp; omega) (by simp; omega)
    · exact absurd (by decide) hc
  · intro i hi ih h1 n1 f1
    have hni := isR i hi
    have hb1 := net_b hni
    refine V_iload_n rfl rfl ?_
    refine V_bi (v := nI 6) rfl rfl ?_
    -- at 5: .if_icmp .ge 19
    refine V_icmp_ge rfl (fun hc => ?_) (fun hc => ?_)
    · exact absurd (show nI 6 ≤ nI i from hc) (nI_ge hi (by omega))
    · refine V_aload_n rfl rfl rfl ?_
      refine V_getR (r := 148) rfl rfl ?_
      refine V_iload_n rfl rfl ?_
      refine V_a148 rfl (by first | omega | assumption) ?_
      refine V_ic (v := nI 0) rfl rfl ?_
      -- at 15: .invokevirtual 83
      refine V_callV rfl rfl (by first | assumption | rfl) rfl rfl (c_clear (m := 0) hni (by decide)) ?_
      rintro _ h2 ⟨rfl, hN2, f2⟩
      show V S (dep + 2) 105 18 [.ref 147, .int (nI N), .int (nI i)] [] h2 _
      refine V_iinc (L' := [_, _, _]) rfl rfl rfl ?_
      refine V_goto rfl ?_
      -- at 2: .iload_n 2
      rw [show Int32.ofInt 1 = nI 1 from rfl, nI_add]
      refine ih h2 (fun j hj => ?_) (f1.tr (f2.rA (by simp; omega)))
      by_cases e : j = i
      · rw [e]; exact hN2
      · exact (n1 j (by omega)).fr f2 (by simp; omega) (by simp; omega)
def mpj (F : Nat → Nat) (cs : List Nat) : Nat → List Nat
  | 0 => cs
  | j + 1 => (mpj F cs j).set j (F (cs.getD j 0))
theorem mpj_l (F : Nat → Nat) (cs : List Nat) : ∀ j, (mpj F cs j).length = cs.length
  | 0 => rfl
  | j + 1 => by rw [mpj, List.length_set]; exact mpj_l F cs j
theorem mpj_g (F : Nat → Nat) (cs : List Nat) : ∀ j i, i < cs.length → (mpj F cs j).getD i 0 = if i < j then F (cs.getD i 0) else cs.getD i 0 := by
  intro j
  induction j with
  | zero => intro i hi; rw [if_neg (by omega)]; rfl
  | succ j ih =>
    intro i hi
    rw [mpj, List.getD_eq_getElem?_getD, List.getElem?_set]
    by_cases e : j = i
    · subst e
      rw [if_pos rfl, if_pos (by rw [mpj_l]; exact hi), if_pos (by omega)]; rfl
    · rw [if_neg e, ← List.getD_eq_getElem?_getD, ih i hi]
      by_cases q : i < j
      · rw [if_pos q, if_pos (by omega)]
      · rw [if_neg q, if_neg (by omega)]
theorem mpj_all (F : Nat → Nat) (cs : List Nat) : mpj F cs cs.length = cs.map F := by
  refine list_eq (by rw [mpj_l, List.length_map]) (fun i hi => ?_)
  rw [mpj_l] at hi
  rw [mpj_g F cs _ i hi, if_pos hi, List.getD_eq_getElem?_getD, List.getD_eq_getElem?_getD, List.getElem?_map, List.getElem?_eq_getElem hi]
  rfl
theorem RSl.dec {A : List Nat} {h h' : Hp} {s s' : Sl} {d : Nat} (hs : RSl h s) (hd3 : d < 3) (e1 : s'.1 = s.1) (e2 : s'.2.1 = s.2.1) (e3 : ∀ e, e ≠ d → s'.2.2 e = s.2.2 e) (hD : DK h' (164 + 2 * d) (s'.2.2 d)) (hf : Fr A h h') (hA : ∀ a ∈ A, a < 152 ∨ a = 164 + 2 * d ∨ a = 165 + 2 * d) : RSl h' s' := by
  refine ⟨fun j hj => ?_, fun e he => ?_⟩
  · rw [e1, e2]
    exact (hs.1 j hj).fr hf (fun q => by have := hA _ q; omega) (fun q => by have := hA _ q; omega)
  · by_cases q : e = d
    · rw [q]; exact hD
    · rw [e3 e q]
      exact (hs.2 e he).fr hf (fun q => by have := hA _ q; omega) (fun q => by have := hA _ q; omega)
noncomputable def fnd3 (s : Sl) (d : Nat) : Sl := (s.1, s.2.1, fun e => if e < d then srt ((s.2.2 e).map (frm ((s.2.2 e).length - 1))) else s.2.2 e)
def rB : List Nat := 6 :: 7 :: 8 :: 9 :: rA
theorem c_sdk {S : mScr} {dep : Nat} {s : Sl} {h : Hp} (hl : RSl h s) (hw : RWf s) : Cal S (dep + 10) 106 [.ref 147] h (fun r h' => r = none ∧ RSl h' (fin s) ∧ h'.1 147 = h.1 147 ∧ Fr rB h h') := by
  obtain ⟨Q, hQ⟩ : ∃ Q : Option Value → Hp → Prop, Q = (fun r h' => r = none ∧ RSl h' (fin s) ∧ h'.1 147 = h.1 147 ∧ Fr rB h h') := ⟨_, rfl⟩
  rw [← hQ]
  show V S (dep + 10) 106 0 [.ref 147, .null, .null, .null] [] h _
  refine V_ic (v := nI 0) rfl rfl ?_
  refine V_istore_n (L' := [_, _, _, _]) rfl rfl rfl ?_
  -- at 2: .iload_n 1
  have lp := loopUp (P := fun d => ∀ h1 w1 w2, RSl h1 (fnd3 s d) → h1.1 147 = h.1 147 → Fr rB h h1 → V S (dep + 10) 106 2 [.ref 147, .int (nI d), w1, w2] [] h1 Q) 3 ?_ ?_ 0 (Nat.zero_le _)
  · refine lp h _ _ ?_ rfl Fr.rf
    have : fnd3 s 0 = s := by
      unfold fnd3
      obtain ⟨x, y, z⟩ := s
      refine congrArg (fun u => (x, y, u)) ?_
      funext e
      rw [if_neg (by omega)]
    rw [this]; exact hl
  · intro h1 w1 w2 l1 e1 f1
    refine V_iload_n rfl rfl ?_
    refine V_ic (v := nI 3) rfl rfl ?_
    -- at 4: .if_icmp .ge 72
    refine V_icmp_ge rfl (fun hc => ?_) (fun hc => ?_)
    · refine V_return rfl rfl ?_
      rw [hQ]
      refine ⟨rfl, ⟨l1.1, fun d hd => ?_⟩, e1, f1⟩
      have := l1.2 d hd
      unfold fnd3 at this
      dsimp only at this
      rw [if_pos hd] at this
      exact this
    · exact absurd (by decide) hc
  · intro d hd ih h1 w1 w2 l1 e1 f1
    have hni := isRD d hd
    have hb1 := deck_b hni
    have hb2 := deck_b1 hni
    obtain ⟨cs, hcs⟩ : ∃ cs, cs = s.2.2 d := ⟨_, rfl⟩
    have hD1 : DK h1 (164 + 2 * d) cs := by
      have := l1.2 d hd
      unfold fnd3 at this
      dsimp only at this
      rw [if_neg (by omega), ← hcs] at this
      exact this
    have h7 := hD1.2.1
    have hcb : ∀ x ∈ cs, x < 2 ^ tri (cs.length - 1) := by
      rcases hw.2 d hd with e | e
      · rw [hcs, e]; intro x hx; simp at hx
      · rw [hcs]; exact e.2.2
    obtain ⟨n, hn⟩ : ∃ n, n = cs.length - 1 := ⟨_, rfl⟩
    rw [← hn] at hcb
    refine V_iload_n rfl rfl ?_
    refine V_ic (v := nI 3) rfl rfl ?_
    -- at 4: .if_icmp .ge 72
    refine V_icmp_ge rfl (fun hc => ?_) (fun hc => ?_)
    · exact absurd (show nI 3 ≤ nI d from hc) (nI_ge hd (by omega))
    · refine V_aload_n rfl rfl rfl ?_
      refine V_getR (r := 149) rfl rfl ?_
      refine V_iload_n rfl rfl ?_
      refine V_a149 rfl (by first | omega | assumption) ?_
      refine V_astore_n (L' := [_, _, _, _]) rfl (by first | rfl | (rw [Bool.and_eq_true]; exact ⟨rfl, by first | assumption | rfl⟩)) rfl ?_
      refine V_ic (v := nI 0) rfl rfl ?_
      refine V_istore_n (L' := [_, _, _, _]) rfl rfl rfl ?_
      -- at 16: .iload_n 3
      have lq := loopUp (P := fun j => ∀ h2, DK h2 (164 + 2 * d) (mpj (frm n) cs j) → Fr [6, 7, 8, 9, 150, 151, 164 + 2 * d, 165 + 2 * d] h1 h2 → V S (dep + 10) 106 16 [.ref 147, .int (nI d), .ref (164 + 2 * d), .int (nI j)] [] h2 Q) cs.length ?_ ?_ 0 (Nat.zero_le _)
      · exact lq h1 hD1 Fr.rf
      · intro h2 hD2 f2
        rw [mpj_all] at hD2
        refine V_iload_n rfl rfl ?_
        refine V_aload_n rfl rfl (by first | assumption | rfl) ?_
        refine V_gi 0 rfl (deck_sz (by first | assumption | rfl)) rfl ?_
        -- at 21: .if_icmp .ge 45
        rw [hD2.2.2.1, List.length_map]
        refine V_icmp_ge rfl (fun he => ?_) (fun he => ?_)
        · refine V_aload_n rfl rfl (by first | assumption | rfl) ?_
          -- at 67: .invokevirtual 117
          refine V_callV rfl rfl (by first | assumption | rfl) rfl rfl (c_dsort hD2) ?_
          rintro _ h3 ⟨rfl, hD3, f3⟩
          show V S (dep + 10) 106 70 [.ref 147, .int (nI d), .ref (164 + 2 * d), .int (nI cs.length)] [] h3 _
          refine V_iinc (L' := [_, _, _, _]) rfl rfl rfl ?_
          refine V_goto rfl ?_
          -- at 2: .iload_n 1
          rw [show Int32.ofInt 1 = nI 1 from rfl, nI_add]
          have g3 : Fr [6, 7, 8, 9, 150, 151, 164 + 2 * d, 165 + 2 * d] h1 h3 := f2.tr (f3.mono (by simp; omega))
          refine ih h3 _ _ (l1.dec (s' := fnd3 s (d + 1)) hd rfl rfl (fun e he => ?_) ?_ g3 (by simp)) (by rw [g3.1 147 (by simp; omega)]; exact e1) (f1.tr (g3.mono (by simp [rB, rA]; omega)))
          · unfold fnd3
            dsimp only
            by_cases q : e < d
            · rw [if_pos q, if_pos (by omega)]
            · rw [if_neg q, if_neg (by omega)]
          · unfold fnd3
            dsimp only
            rw [if_pos (by omega), ← hcs, ← hn]
            exact hD3
        · exact absurd (nI_le (Nat.le_refl _) (by omega)) he
      · intro j hj ihj h2 hD2 f2
        have hjl := mpj_l (frm n) cs j
        have hjg : (mpj (frm n) cs j).getD j 0 = cs.getD j 0 := by rw [mpj_g _ _ _ _ hj, if_neg (by omega)]
        have hcj : cs.getD j 0 < 2 ^ tri n := hcb _ (by rw [List.getD_eq_getElem?_getD, List.getElem?_eq_getElem hj]; exact List.getElem_mem hj)
        have hvj := hD2.2.2.2.1 j (by omega)
        rw [hjg] at hvj
        refine V_iload_n rfl rfl ?_
        refine V_aload_n rfl rfl (by first | assumption | rfl) ?_
        refine V_gi 0 rfl (deck_sz (by first | assumption | rfl)) rfl ?_
        -- at 21: .if_icmp .ge 45
        rw [hD2.2.2.1, hjl]
        refine V_icmp_ge rfl (fun he => ?_) (fun he => ?_)
        · exact absurd he (nI_ge hj (by omega))
        · refine V_aload_n rfl rfl rfl ?_
          refine V_getR (r := 150) rfl rfl ?_
          refine V_aload_n rfl rfl (by first | assumption | rfl) ?_
          refine V_gi 0 rfl (deck_sz (by first | assumption | rfl)) rfl ?_
          -- at 32: .iconst 1
          rw [hD2.2.2.1, hjl]
          refine V_ic (v := nI 1) rfl rfl ?_
          refine V_isub rfl ?_
          -- at 34: .aload_n 2
          rw [nI_sub (by omega), ← hn]
          refine V_aload_n rfl rfl (by first | assumption | rfl) ?_
          refine V_getR rfl (deck_cd (by first | assumption | rfl)) ?_
          refine V_iload_n rfl rfl ?_
          refine V_al 7 rfl (deck_ar (by first | assumption | rfl)) (by first | with_reducible rfl | assumption | exact nI_sub (by omega) | exact nI_add _ _) (by first | omega | assumption) rfl ?_
          -- at 40: .invokevirtual 107
          rw [hvj]
          refine V_callV rfl rfl rfl rfl rfl (c_load (a := 150) rfl (by omega) hcj) ?_
          rintro _ h3 ⟨rfl, hN3, f3⟩
          show V S (dep + 10) 106 43 [.ref 147, .int (nI d), .ref (164 + 2 * d), .int (nI j)] [] h3 _
          refine V_aload_n rfl rfl (by first | assumption | rfl) ?_
          refine V_getR rfl (deck_cd (by first | assumption | rfl)) ?_
          refine V_iload_n rfl rfl ?_
          refine V_aload_n rfl rfl rfl ?_
          refine V_getR (r := 6) rfl rfl ?_
          refine V_aload_n rfl rfl rfl ?_
          refine V_getR (r := 150) rfl rfl ?_
          -- at 56: .invokevirtual 111
          refine V_callV rfl rfl rfl rfl rfl (c_frm hN3) ?_
          rintro _ h4 ⟨rfl, f4⟩
          show V S (dep + 10) 106 59 [.ref 147, .int (nI d), .ref (164 + 2 * d), .int (nI j)] [.int (nI (frm n (cs.getD j 0))), .int (nI j), .ref (164 + 2 * d + 1)] h4 _
          refine V_as 7 rfl (deck_ar (by first | assumption | rfl)) (by first | with_reducible rfl | assumption | exact nI_sub (by omega) | exact nI_add _ _) (by first | omega | assumption) rfl ?_
          -- at 60: .iinc 3 1
          have hD4 : DK h4 (164 + 2 * d) (mpj (frm n) cs j) := (hD2.fr f3 (by simp; omega) (by simp; omega)).fr f4 (by simp; omega) (by simp; omega)
          have hfl : frm n (cs.getD j 0) < 2 ^ 21 := c21 (by omega) (frm_lt (n := n) (by omega))
          refine V_iinc (L' := [_, _, _, _]) rfl rfl rfl ?_
          refine V_goto rfl ?_
          -- at 16: .iload_n 3
          rw [show Int32.ofInt 1 = nI 1 from rfl, nI_add]
          exact ihj _ (hD4.set hfl) (((f2.tr (f3.mono (by simp))).tr (f4.mono (by simp))).tr (Fr.w (by simp; omega)))
