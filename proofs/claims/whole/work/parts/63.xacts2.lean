/-! the class: acts on decks, undo -/
theorem dck_len (n C : Nat) : (dck n C).length = n := by unfold dck; rw [srt_len, crds_len]
theorem dck_WD {n C : Nat} (hn : n ≤ 7) (h2 : 2 ≤ n) : WD (dck n C) := by
  refine ⟨by rw [dck_len]; exact h2, by rw [dck_len]; exact hn, srt_srtd _, fun x hx => ?_⟩
  rw [dck_len]
  have hx := srt_mem.mp hx
  simp only [crds, List.mem_map, List.mem_range] at hx
  obtain ⟨v, hv, e⟩ := hx
  rw [← e]
  exact ⟨crd_lt hn, by unfold crd; exact frm_frm (by omega) (wot_lt hv)⟩
def aDeal (st : St) (x y : Int32) : Int32 × St := match ix 6 x, ix 3 y with
  | some i, some d => if st.1.1 i < 2 then (-5, st) else (nI (unl (dck (st.1.1 i) (st.1.2.1 i)) (st.1.1 i)), psh st (setD st.1 d (dck (st.1.1 i) (st.1.2.1 i))))
  | _, _ => (-2, st)
theorem x_deal {S : mScr} {dep : Nat} {x y : Int32} {st : St} {h : Hp} (hi : InvX h st) : Cal S (dep + 20) 128 [.ref 0, .int x, .int y] h (XR h (aDeal st x y)) := by
  obtain ⟨hs, hw, hx, _⟩ := id hi
  show V S (dep + 20) 128 0 [.ref 0, .int x, .int y] [] h _
  have bad : aDeal st x y = (-2, st) → V S (dep + 20) 128 14 [.ref 0, .int x, .int y] [] h (XR h (aDeal st x y)) := by
    intro e
    rw [e]
    refine V_bi (v := -2) rfl rfl ?_
    -- at 16: .ireturn
    refine V_iret rfl rfl ?_
    exact ⟨rfl, hi, FX.rf⟩
  refine V_iload_n rfl rfl ?_
  -- at 1: .invokestatic 143
  refine V_cS rfl rfl rfl rfl (c_noS) ?_
  refine V_if_ne rfl (fun hc => ?_) (fun hc => ?_)
  · have hc := ix_no hc
    exact bad (by unfold aDeal; rw [hc])
  · obtain ⟨i, e1, rfl, hi6⟩ := ix_yes (Decidable.of_not_not hc)
    refine V_iload_n rfl rfl ?_
    -- at 8: .invokestatic 170
    refine V_cS rfl rfl rfl rfl (c_noDN) ?_
    refine V_if_eq rfl (fun hd => ?_) (fun hd => ?_)
    · obtain ⟨d, e2, rfl, hd3⟩ := ix_yes hd
      have hn := isS i hi6
      have hb1 := net_b hn
      have hnd := isD d hd3
      have hb2 := deck_b hnd
      have hN := hs.1 i hi6
      have h7 := hN.1.2.1
      have ev : aDeal st (nI i) (nI d) = if st.1.1 i < 2 then (-5, st) else (nI (unl (dck (st.1.1 i) (st.1.2.1 i)) (st.1.1 i)), psh st (setD st.1 d (dck (st.1.1 i) (st.1.2.1 i)))) := by
        unfold aDeal; rw [e1, e2]
      rw [ev]
      refine V_aload_n rfl rfl rfl ?_
      refine V_getR (r := 1) rfl rfl ?_
      refine V_iload_n rfl rfl ?_
      refine V_a1 rfl (by first | omega | assumption) ?_
      refine V_gi 0 rfl (net_sz (by first | assumption | rfl)) rfl ?_
      refine V_ic (v := nI 2) rfl rfl ?_
      -- at 27: .if_icmp .ge 6
      rw [hN.1.2.2.1]
      refine V_icmp_ge rfl (fun he => ?_) (fun he => ?_)
      · have he := (nI_leI (by omega) (by omega)).mp he
        rw [if_neg (by omega)]
        refine V_aload_n rfl rfl rfl ?_
        refine V_getR (r := 4) rfl rfl ?_
        refine V_iload_n rfl rfl ?_
        refine V_aload_n rfl rfl rfl ?_
        refine V_getR (r := 2) rfl rfl ?_
        refine V_iload_n rfl rfl ?_
        refine V_a2 rfl (by first | omega | assumption) ?_
        -- at 44: .invokevirtual 173
        refine V_callV rfl rfl rfl rfl rfl (c_keepD hs hw hx hd3) ?_
        rintro _ h1 ⟨rfl, k1, k2⟩
        show V S (dep + 20) 128 47 [.ref 0, .int (nI i), .int (nI d)] [] h1 _
        have hN1 := hN.fr k1 (by simp; omega) (by simp; omega)
        refine V_aload_n rfl rfl rfl ?_
        refine V_getR (r := 20) rfl rfl ?_
        refine V_aload_n rfl rfl rfl ?_
        refine V_getR (r := 1) rfl rfl ?_
        refine V_iload_n rfl rfl ?_
        refine V_a1 rfl (by first | omega | assumption) ?_
        refine V_aload_n rfl rfl rfl ?_
        refine V_getR (r := 2) rfl rfl ?_
        refine V_iload_n rfl rfl ?_
        refine V_a2 rfl (by first | omega | assumption) ?_
        -- at 63: .invokevirtual 177
        refine V_callV rfl rfl rfl rfl rfl (c_deal hN1 (by omega) hnd) ?_
        rintro _ h2 ⟨rfl, hD2, k3⟩
        show V S (dep + 20) 128 66 [.ref 0, .int (nI i), .int (nI d)] [] h2 _
        refine V_aload_n rfl rfl rfl ?_
        refine V_getR (r := 2) rfl rfl ?_
        refine V_iload_n rfl rfl ?_
        refine V_a2 rfl (by first | omega | assumption) ?_
        -- at 72: .invokevirtual 181
        refine V_cV rfl rfl (by first | assumption | rfl) rfl rfl (c_unlC hD2) ?_
        rw [dck_len]
        refine V_iret rfl rfl ?_
        have := hi.actD hd3 k1 k2 k3 (by simp; exact ⟨Or.inl rfl, Or.inl rfl, Or.inl rfl, Or.inl rfl, Or.inl rfl, Or.inl rfl, Or.inr (by omega)⟩) hD2 (dck_WD h7 he)
        exact ⟨rfl, this.1, this.2⟩
      · have he : ¬ 2 ≤ st.1.1 i := fun q => he (nI_le q (by omega))
        rw [if_pos (by omega)]
        refine V_bi (v := -5) rfl rfl ?_
        -- at 32: .ireturn
        refine V_iret rfl rfl ?_
        exact ⟨rfl, hi, FX.rf⟩
    · have hd := ix_no hd
      exact bad (by unfold aDeal; rw [e1, hd])
theorem DK.set {h : Hp} {a k x : Nat} {cs : List Nat} (hD : DK h a cs) (hx : x < 2 ^ 21) : DK (wI h (a + 1) k (nI x)) a (cs.set k x) := by
  obtain ⟨h1, h2, h3, h4, h5⟩ := hD
  refine ⟨h1, by rw [List.length_set]; exact h2, by rw [wI_oth (by omega), List.length_set]; exact h3, fun i hi => ?_, fun y hy => ?_⟩
  · rw [List.length_set] at hi
    rw [List.getD_eq_getElem?_getD, List.getElem?_set]
    by_cases q : k = i
    · subst q; rw [if_pos rfl, if_pos hi, wI_same]; rfl
    · rw [if_neg q, wI_ne (by omega), ← List.getD_eq_getElem?_getD]; exact h4 i hi
  · rcases List.mem_or_eq_of_mem_set hy with q | q
    · exact h5 y q
    · rw [q]; exact hx
def rpl (cs : List Nat) (k x : Nat) : List Nat := srt (cs.set k x)
theorem rpl_WD {cs : List Nat} {k x : Nat} (hW : WD cs) (hx : x < 2 ^ tri (cs.length - 1)) (hf : frm (cs.length - 1) x = x) : WD (rpl cs k x) := by
  have hl : (rpl cs k x).length = cs.length := by unfold rpl; rw [srt_len, List.length_set]
  refine ⟨by rw [hl]; exact hW.1, by rw [hl]; exact hW.2.1, srt_srtd _, fun y hy => ?_⟩
  rw [hl]
  rcases List.mem_or_eq_of_mem_set (srt_mem.mp hy) with q | q
  · exact hW.2.2.2 y q
  · rw [q]; exact ⟨hx, hf⟩
def aRepl (st : St) (x y z : Int32) : Int32 × St := match ix (dln st.1 x) y, ix 6 z with
  | some k, some i => match ix 3 x with
    | none => (-2, st)
    | some d => if st.1.1 i + 1 = (st.1.2.2 d).length then (fstO (rpl (st.1.2.2 d) k (frm (st.1.1 i) (st.1.2.1 i))) (frm (st.1.1 i) (st.1.2.1 i)) (st.1.2.2 d).length, psh st (setD st.1 d (rpl (st.1.2.2 d) k (frm (st.1.1 i) (st.1.2.1 i))))) else (-5, st)
  | _, _ => (-2, st)
theorem dln_pos {s : Sl} {x : Int32} (h : 0 < dln s x) : ∃ d, ix 3 x = some d ∧ x = nI d ∧ d < 3 ∧ dln s x = (s.2.2 d).length := by
  unfold dln at h
  cases q : ix 3 x with
  | none => rw [q] at h; exact absurd h (Nat.lt_irrefl 0)
  | some d => exact ⟨d, rfl, (ix_some q).1, (ix_some q).2, by unfold dln; rw [q]⟩
theorem WF.wd {s : Sl} (hw : WF s) {d : Nat} (hd : d < 3) (h : 0 < (s.2.2 d).length) : WD (s.2.2 d) := by
  rcases hw.2 d hd with e | e
  · rw [e] at h; exact absurd h (Nat.lt_irrefl 0)
  · exact e
theorem x_repl {S : mScr} {dep : Nat} {x y z : Int32} {st : St} {h : Hp} (hi : InvX h st) : Cal S (dep + 20) 129 [.ref 0, .int x, .int y, .int z] h (XR h (aRepl st x y z)) := by
  obtain ⟨hs, hw, hx, _⟩ := id hi
  show V S (dep + 20) 129 0 [.ref 0, .int x, .int y, .int z, .null, .null] [] h _
  have bad : aRepl st x y z = (-2, st) → V S (dep + 20) 129 16 [.ref 0, .int x, .int y, .int z, .null, .null] [] h (XR h (aRepl st x y z)) := by
    intro e
    rw [e]
    refine V_bi (v := -2) rfl rfl ?_
    -- at 18: .ireturn
    refine V_iret rfl rfl ?_
    exact ⟨rfl, hi, FX.rf⟩
  refine V_aload_n rfl rfl rfl ?_
  refine V_iload_n rfl rfl ?_
  refine V_iload_n rfl rfl ?_
  -- at 3: .invokevirtual 184
  refine V_cV rfl rfl rfl rfl rfl (c_noC hs) ?_
  refine V_if_ne rfl (fun hc => ?_) (fun hc => ?_)
  · have hc := ix_no hc
    exact bad (by unfold aRepl; rw [hc])
  · obtain ⟨k, e1, rfl, hk⟩ := ix_yes (Decidable.of_not_not hc)
    obtain ⟨d, e3, rfl, hd3, e4⟩ := dln_pos (s := st.1) (x := x) (by omega)
    rw [e4] at hk
    refine V_iload_n rfl rfl ?_
    -- at 10: .invokestatic 143
    refine V_cS rfl rfl rfl rfl (c_noS) ?_
    refine V_if_eq rfl (fun hd => ?_) (fun hd => ?_)
    · obtain ⟨i, e2, rfl, hi6⟩ := ix_yes hd
      have hn := isS i hi6
      have hb1 := net_b hn
      have hnd := isD d hd3
      have hb2 := deck_b hnd
      have hb3 := deck_b1 hnd
      have hN := hs.1 i hi6
      have h7 := hN.1.2.1
      have hD := hs.2 d hd3
      have hWd := hw.wd hd3 (by omega)
      obtain ⟨cs, hcs⟩ : ∃ cs, cs = st.1.2.2 d := ⟨_, rfl⟩
      have ev : aRepl st (nI d) (nI k) (nI i) = if st.1.1 i + 1 = cs.length then (fstO (rpl cs k (frm (st.1.1 i) (st.1.2.1 i))) (frm (st.1.1 i) (st.1.2.1 i)) cs.length, psh st (setD st.1 d (rpl cs k (frm (st.1.1 i) (st.1.2.1 i))))) else (-5, st) := by
        unfold aRepl; rw [e1, e2]; dsimp only; rw [e3, hcs]
      rw [ev]
      rw [← hcs] at hD hWd hk
      have hw7 := hWd.2.1
      refine V_aload_n rfl rfl rfl ?_
      refine V_getR (r := 2) rfl rfl ?_
      refine V_iload_n rfl rfl ?_
      refine V_a2 rfl (by first | omega | assumption) ?_
      refine V_astore (L' := [_, _, _, _, _, _]) rfl (by first | rfl | (rw [Bool.and_eq_true]; exact ⟨rfl, by first | assumption | rfl⟩)) rfl ?_
      refine V_aload_n rfl rfl rfl ?_
      refine V_getR (r := 1) rfl rfl ?_
      refine V_iload_n rfl rfl ?_
      refine V_a1 rfl (by first | omega | assumption) ?_
      refine V_gi 0 rfl (net_sz (by first | assumption | rfl)) rfl ?_
      refine V_aload rfl rfl (by first | assumption | rfl) ?_
      refine V_gi 0 rfl (deck_sz (by first | assumption | rfl)) rfl ?_
      refine V_ic (v := nI 1) rfl rfl ?_
      refine V_isub rfl ?_
      -- at 43: .if_icmp .eq 6
      rw [hN.1.2.2.1, hD.2.2.1, nI_sub (by have := hWd.1; omega)]
      refine V_icmp_eq rfl (fun he => ?_) (fun he => ?_)
      · have he := nI_inj (by omega) (by omega) he
        have hw2 := hWd.1
        rw [if_pos (by omega)]
        refine V_aload_n rfl rfl rfl ?_
        refine V_getR (r := 6) rfl rfl ?_
        refine V_aload_n rfl rfl rfl ?_
        refine V_getR (r := 1) rfl rfl ?_
        refine V_iload_n rfl rfl ?_
        refine V_a1 rfl (by first | omega | assumption) ?_
        -- at 59: .invokevirtual 163
        refine V_callV rfl rfl rfl rfl rfl (c_frm hN) ?_
        rintro _ h0 ⟨rfl, k0⟩
        obtain ⟨f, hf⟩ : ∃ f, f = frm (st.1.1 i) (st.1.2.1 i) := ⟨_, rfl⟩
        rw [← hf]
        show V S (dep + 20) 129 62 [.ref 0, .int (nI d), .int (nI k), .int (nI i), .ref (182 + 2 * d), .null] [.int (nI f)] h0 _
        have hfl : f < 2 ^ tri (cs.length - 1) := by rw [hf, ← he]; exact frm_lt h7
        have hff : frm (cs.length - 1) f = f := by rw [hf, ← he]; exact frm_frm h7 hN.2
        have hf21 : f < 2 ^ 21 := by rw [hf]; exact frm21 h7
        have hi0 := hi.fr k0 (by simp; decide)
        obtain ⟨hs0, _, hx0, _⟩ := id hi0
        have fx0 : FX h h0 := k0.fo (by simp; decide)
        refine V_istore (L' := [_, _, _, _, _, _]) rfl rfl rfl ?_
        refine V_aload_n rfl rfl rfl ?_
        refine V_getR (r := 4) rfl rfl ?_
        refine V_iload_n rfl rfl ?_
        refine V_aload rfl rfl (by first | assumption | rfl) ?_
        -- at 71: .invokevirtual 173
        refine V_callV rfl rfl rfl rfl rfl (c_keepD hs0 hw hx0 hd3) ?_
        rintro _ h1 ⟨rfl, k1, k2⟩
        show V S (dep + 20) 129 74 [.ref 0, .int (nI d), .int (nI k), .int (nI i), .ref (182 + 2 * d), .int (nI f)] [] h1 _
        have hD1 := (hs0.2 d hd3).fr k1 (by simp; omega) (by simp; omega)
        rw [← hcs] at hD1
        have hD2 := hD1.set (k := k) hf21
        refine V_aload rfl rfl (by first | assumption | rfl) ?_
        refine V_getR rfl (deck_cd (by first | assumption | rfl)) ?_
        refine V_iload_n rfl rfl ?_
        refine V_iload rfl rfl ?_
        refine V_as 7 rfl (deck_ar (by first | assumption | rfl)) (by first | with_reducible rfl | assumption | exact nI_sub (by omega) | exact nI_add _ _) (by first | omega | assumption) rfl ?_
        refine V_aload rfl rfl (by first | assumption | rfl) ?_
        -- at 85: .invokevirtual 192
        refine V_callV rfl rfl (by first | assumption | rfl) rfl rfl (c_dsort hD2) ?_
        rintro _ h3 ⟨rfl, hD3, k3⟩
        show V S (dep + 20) 129 88 [.ref 0, .int (nI d), .int (nI k), .int (nI i), .ref (182 + 2 * d), .int (nI f)] [] h3 _
        refine V_aload rfl rfl (by first | assumption | rfl) ?_
        refine V_iload rfl rfl ?_
        -- at 92: .invokevirtual 195
        refine V_cV rfl rfl (by first | assumption | rfl) rfl rfl (c_fst hD3 hf21) ?_
        refine V_iret rfl rfl ?_
        have k4 : Fr [183 + 2 * d] h1 h3 := (Fr.w (A := [183 + 2 * d]) (by simp; omega)).tr (k3.mono (by simp; omega))
        have := hi0.actD hd3 k1 k2 k4 (by simp) hD3 (rpl_WD hWd hfl hff)
        refine ⟨?_, this.1, fx0.tr this.2⟩
        show some (Value.int (fstO (srt (cs.set k f)) f (srt (cs.set k f)).length)) = some (Value.int (fstO (rpl cs k f) f cs.length))
        rw [srt_len, List.length_set]; rfl
      · have he : ¬ st.1.1 i = cs.length - 1 := fun q => he (by rw [q])
        have := hWd.1
        rw [if_neg (by omega)]
        refine V_bi (v := -5) rfl rfl ?_
        -- at 48: .ireturn
        refine V_iret rfl rfl ?_
        exact ⟨rfl, hi, FX.rf⟩
    · have hd := ix_no hd
      exact bad (by unfold aRepl; rw [hd]; cases ix (dln st.1 (nI d)) (nI k) <;> rfl)
def aSolv (st : St) (x y : Int32) : Int32 × St := match ix 3 x, ix 6 y with
  | some d, some i => if (st.1.2.2 d).length = 0 then (-2, st) else if ansL (st.1.2.2 d) = [] then (-5, st) else (nI (pop ((ansL (st.1.2.2 d)).getD 0 0)), psh st (setN st.1 i (st.1.2.2 d).length ((ansL (st.1.2.2 d)).getD 0 0)))
  | _, _ => (-2, st)
theorem ans_len {cs : List Nat} (hW : WD cs) : (ansL cs).length ≤ 64 := Nat.le_trans (fnd_len cs _) (Nat.pow_le_pow_right (n := 2) (j := 6) (by decide) (by have := hW.2.1; omega))
theorem x_solv {S : mScr} {dep : Nat} {x y : Int32} {st : St} {h : Hp} (hi : InvX h st) : Cal S (dep + 20) 130 [.ref 0, .int x, .int y] h (XR h (aSolv st x y)) := by
  obtain ⟨hs, hw, hx, _⟩ := id hi
  show V S (dep + 20) 130 0 [.ref 0, .int x, .int y] [] h _
  have bad : aSolv st x y = (-2, st) → V S (dep + 20) 130 15 [.ref 0, .int x, .int y] [] h (XR h (aSolv st x y)) := by
    intro e
    rw [e]
    refine V_bi (v := -2) rfl rfl ?_
    -- at 17: .ireturn
    refine V_iret rfl rfl ?_
    exact ⟨rfl, hi, FX.rf⟩
  refine V_aload_n rfl rfl rfl ?_
  refine V_iload_n rfl rfl ?_
  -- at 2: .invokevirtual 199
  refine V_cV rfl rfl rfl rfl rfl (c_noD hs) ?_
  refine V_if_ne rfl (fun hc => ?_) (fun hc => ?_)
  · have hc := of_decide_eq_true (bI_nz.mp hc)
    refine bad ?_
    unfold aSolv
    cases q : ix 3 x with
    | none => rfl
    | some d =>
      have : dln st.1 x = (st.1.2.2 d).length := by unfold dln; rw [q]
      rw [this] at hc
      cases q2 : ix 6 y with
      | none => rfl
      | some i => dsimp only; rw [if_pos hc]
  · have hc := of_decide_eq_false (bI_z.mp (Decidable.of_not_not hc))
    obtain ⟨d, e3, rfl, hd3, e4⟩ := dln_pos (s := st.1) (x := x) (by omega)
    rw [e4] at hc
    refine V_iload_n rfl rfl ?_
    -- at 9: .invokestatic 143
    refine V_cS rfl rfl rfl rfl (c_noS) ?_
    refine V_if_eq rfl (fun hd => ?_) (fun hd => ?_)
    · obtain ⟨i, e2, rfl, hi6⟩ := ix_yes hd
      have hn := isS i hi6
      have hb1 := net_b hn
      have hnd := isD d hd3
      have hb2 := deck_b hnd
      have hD := hs.2 d hd3
      have hWd := hw.wd hd3 (by omega)
      obtain ⟨cs, hcs⟩ : ∃ cs, cs = st.1.2.2 d := ⟨_, rfl⟩
      have ev : aSolv st (nI d) (nI i) = if ansL cs = [] then (-5, st) else (nI (pop ((ansL cs).getD 0 0)), psh st (setN st.1 i cs.length ((ansL cs).getD 0 0))) := by
        unfold aSolv; rw [e3, e2]; dsimp only; rw [if_neg hc, hcs]
      rw [ev]
      rw [← hcs] at hD hWd
      have hal := ans_len hWd
      refine V_aload_n rfl rfl rfl ?_
      refine V_getR (r := 25) rfl rfl ?_
      refine V_aload_n rfl rfl rfl ?_
      refine V_getR (r := 2) rfl rfl ?_
      refine V_iload_n rfl rfl ?_
      refine V_a2 rfl (by first | omega | assumption) ?_
      -- at 28: .invokevirtual 202
      refine V_callV rfl rfl rfl rfl rfl (c_fndA hD hWd) ?_
      rintro _ h0 ⟨rfl, hF0, k0⟩
      show V S (dep + 20) 130 31 [.ref 0, .int (nI d), .int (nI i)] [.int (nI (ansL cs).length)] h0 _
      have hi0 := hi.fr k0 (by simp; decide)
      obtain ⟨hs0, _, hx0, _⟩ := id hi0
      have fx0 : FX h h0 := k0.fo (by simp; decide)
      refine V_if_ne rfl (fun he => ?_) (fun he => ?_)
      · have hne : ansL cs ≠ [] := fun q => he (by rw [q]; rfl)
        have hpos : 0 < (ansL cs).length := List.length_pos_iff.mpr hne
        rw [if_neg hne]
        refine V_aload_n rfl rfl rfl ?_
        refine V_getR (r := 4) rfl rfl ?_
        refine V_iload_n rfl rfl ?_
        refine V_aload_n rfl rfl rfl ?_
        refine V_getR (r := 1) rfl rfl ?_
        refine V_iload_n rfl rfl ?_
        refine V_a1 rfl (by first | omega | assumption) ?_
        -- at 48: .invokevirtual 131
        refine V_callV rfl rfl rfl rfl rfl (c_keepN hs0 hw hx0 hi6) ?_
        rintro _ h1 ⟨rfl, k1, k2⟩
        show V S (dep + 20) 130 51 [.ref 0, .int (nI d), .int (nI i)] [] h1 _
        have hD1 := (hs0.2 d hd3).fr k1 (by simp; omega) (by simp; omega)
        rw [← hcs] at hD1
        have hA1 := hF0.2.2.1.fr k1 (by simp)
        refine V_aload_n rfl rfl rfl ?_
        refine V_getR (r := 1) rfl rfl ?_
        refine V_iload_n rfl rfl ?_
        refine V_a1 rfl (by first | omega | assumption) ?_
        refine V_aload_n rfl rfl rfl ?_
        refine V_getR (r := 2) rfl rfl ?_
        refine V_iload_n rfl rfl ?_
        refine V_a2 rfl (by first | omega | assumption) ?_
        refine V_gi 0 rfl (deck_sz (by first | assumption | rfl)) rfl ?_
        refine V_aload_n rfl rfl rfl ?_
        refine V_getR (r := 25) rfl rfl ?_
        refine V_getR (r := 32) rfl rfl ?_
        refine V_ic (v := nI 0) rfl rfl ?_
        refine V_al 64 rfl rfl (by first | with_reducible rfl | assumption | exact nI_sub (by omega) | exact nI_add _ _) (by first | omega | assumption) rfl ?_
        -- at 75: .invokevirtual 167
        rw [hD1.2.2.1, hA1 0 hpos]
        have hal2 := ans_b hWd.2.1 _ (getD_mem hpos)
        refine V_callV rfl rfl (by first | assumption | rfl) rfl rfl (c_load hn hWd.2.1 hal2) ?_
        rintro _ h2 ⟨rfl, hN2, k3⟩
        show V S (dep + 20) 130 78 [.ref 0, .int (nI d), .int (nI i)] [] h2 _
        refine V_aload_n rfl rfl rfl ?_
        refine V_getR (r := 1) rfl rfl ?_
        refine V_iload_n rfl rfl ?_
        refine V_a1 rfl (by first | omega | assumption) ?_
        -- at 84: .invokevirtual 139
        refine V_cV rfl rfl (by first | assumption | rfl) rfl rfl (c_lc hN2.1) ?_
        rw [lsum_row hWd.2.1 hN2.2, Nat.mul_div_cancel_left _ (by decide)]
        refine V_iret rfl rfl ?_
        have := hi0.actN hi6 k1 k2 k3 (by simp; omega) hN2
        exact ⟨rfl, this.1, fx0.tr this.2⟩
      · have he := nI_inj (b := 0) (by omega) (by omega) (Decidable.of_not_not he)
        rw [if_pos (List.length_eq_zero_iff.mp he)]
        refine V_bi (v := -5) rfl rfl ?_
        -- at 36: .ireturn
        refine V_iret rfl rfl ?_
        exact ⟨rfl, hi0, fx0⟩
    · have hd := ix_no hd
      exact bad (by unfold aSolv; rw [e3, hd])
def aUndo (st : St) : Int32 × St := match st.2.1 with
  | [] => (-5, st)
  | t :: ts => (nI ts.length, (t, ts, st.2.2))
theorem x_undo {S : mScr} {dep : Nat} {st : St} {h : Hp} (hi : InvX h st) : Cal S (dep + 20) 131 [.ref 0] h (XR h (aUndo st)) := by
  obtain ⟨a1, a2, a3, a4, a5, a6, a7, a8, a9, a10⟩ := id hi
  show V S (dep + 20) 131 0 [.ref 0] [] h _
  refine V_aload_n rfl rfl rfl ?_
  refine V_getR (r := 4) rfl rfl ?_
  refine V_gi 2 rfl rfl rfl ?_
  -- at 7: .ifCond .ne 6
  rw [a3.2.2.1]
  have hl := a3.1
  refine V_if_ne rfl (fun hc => ?_) (fun hc => ?_)
  · cases q : st.2.1 with
    | nil => rw [q] at hc; exact absurd rfl hc
    | cons t ts =>
      have ev : aUndo st = (nI ts.length, (t, ts, st.2.2)) := by unfold aUndo; rw [q]
      rw [ev]
      rw [q] at a3
      refine V_aload_n rfl rfl rfl ?_
      refine V_getR (r := 4) rfl rfl ?_
      refine V_aload_n rfl rfl rfl ?_
      refine V_getR (r := 1) rfl rfl ?_
      refine V_aload_n rfl rfl rfl ?_
      refine V_getR (r := 2) rfl rfl ?_
      -- at 25: .invokevirtual 210
      refine V_callV rfl rfl rfl rfl rfl (c_rest a1 a3) ?_
      rintro _ h1 ⟨rfl, b1, b2, A, k1, hA⟩
      show V S (dep + 20) 131 28 [.ref 0] [] h1 _
      refine V_aload_n rfl rfl rfl ?_
      refine V_getR (r := 4) rfl rfl ?_
      refine V_gi 2 rfl rfl rfl ?_
      -- at 35: .ireturn
      rw [b2.2.2.1]
      refine V_iret rfl rfl ?_
      have no : ∀ b, b ≠ 4 → b < 170 → b ∉ A := fun b hb hb2 z => by have := hA b z; omega
      refine ⟨rfl, ⟨b1, a3.2.1 t (by simp), b2, fun i hi => ?_, ?_, a6, ?_, a8, ?_, ?_⟩, k1.fx (fun a ha => by have := hA a ha; omega)⟩
      · rw [k1.1 3 (no 3 (by decide) (by decide))]; exact a4 i hi
      · rw [k1.1 0 (no 0 (by decide) (by decide))]; exact a5
      · rw [k1.1 0 (no 0 (by decide) (by decide))]; exact a7
      · rw [k1.1 0 (no 0 (by decide) (by decide))]; exact a9
      · exact a10.fr k1 (no 33 (by decide) (by decide)) (fun a ha => by have := hA a ha; omega)
  · have hc := nI_inj (b := 0) (by omega) (by omega) (Decidable.of_not_not hc)
    have q := List.length_eq_zero_iff.mp hc
    have ev : aUndo st = (-5, st) := by unfold aUndo; rw [q]
    rw [ev]
    refine V_bi (v := -5) rfl rfl ?_
    -- at 12: .ireturn
    refine V_iret rfl rfl ?_
    exact ⟨rfl, hi, FX.rf⟩
