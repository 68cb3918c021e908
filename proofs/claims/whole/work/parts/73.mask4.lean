/-! the reference: told, common, toldTerm -/
theorem zJ_mul (x : Int) (k : Nat) : zJ x * zJ (k : Int) = zJ (x * k) := (Int64.ofInt_mul x k).symm
theorem zJ_sub (x y : Int) : zJ x - zJ y = zJ (x - y) := (Int64.ofInt_sub x y).symm
theorem lg_z {x : Int} (h : x.natAbs < 2 ^ 62) : lg_cmp (zJ x) 0 = 0 ↔ x = 0 := by
  have e := zJ_toInt (x := x) (by omega)
  have e0 : (0 : Int64).toInt = 0 := rfl
  unfold lg_cmp
  by_cases h1 : zJ x > 0
  · rw [if_pos h1]
    have := Int64.lt_iff_toInt_lt.mp h1
    refine ⟨fun q => absurd q (by decide), fun q => by omega⟩
  · rw [if_neg h1]
    by_cases h2 : zJ x = 0
    · rw [if_pos h2]
      refine ⟨fun _ => ?_, fun _ => rfl⟩
      rw [← e, h2]; rfl
    · rw [if_neg h2]
      refine ⟨fun q => absurd q (by decide), fun q => absurd ?_ h2⟩
      rw [q]; rfl
theorem y_tolt {S : mScr} {dep : Nat} {x y : Int32} {st : St} {h : Hp} (hi : InvM h st) : Cal S (dep + 20) 240 [.ref 188, .int x, .int y] h (MR h (aTolT st x y, st)) := by
  obtain ⟨hi0, fm0⟩ := hi.thr
  obtain ⟨h0, hh0⟩ : ∃ h0, h0 = wI h 188 4 (nI 0) := ⟨_, rfl⟩
  rw [← hh0] at hi0 fm0
  obtain ⟨hs, hw, _⟩ := id hi0
  have hdl := dln_le (x := x) hw
  show V S (dep + 20) 240 0 [.ref 188, .int x, .int y, .null, .null, .null, .null] [] h _
  refine V_aload_n rfl rfl rfl ?_
  refine V_ic (v := nI 0) rfl rfl ?_
  refine V_pi 4 rfl rfl rfl rfl ?_
  refine V_aload_n rfl rfl rfl ?_
  refine V_iload_n rfl rfl ?_
  -- at 7: .invokevirtual 209
  rw [← hh0]
  refine V_cV rfl rfl rfl rfl rfl (m_deckOf hs) ?_
  refine V_istore_n (L' := [_, _, _, _, _, _, _]) rfl rfl rfl ?_
  refine V_iload_n rfl rfl ?_
  -- at 12: .ifCond .ne 6
  refine V_if_ne rfl (fun hc => ?_) (fun hc => ?_)
  · obtain ⟨d, ed⟩ := dkO_yes (s := st.1) (x := x) (fun q => hc (by rw [q]; rfl))
    obtain ⟨_, rfl, hd3, e4, hpos⟩ := dkO_some ed
    have hWd := hw.wd hd3 hpos
    obtain ⟨cs, hcs⟩ : ∃ cs, cs = st.1.2.2 d := ⟨_, rfl⟩
    rw [e4, ← hcs]
    rw [← hcs] at hWd
    have hw7 := hWd.2.1
    have hw2 := hWd.1
    refine V_iload_n rfl rfl ?_
    refine V_i2l rfl ?_
    refine V_lc (v := 0) rfl rfl ?_
    refine V_iload_n rfl rfl ?_
    refine V_ic (v := nI 1) rfl rfl ?_
    refine V_isub rfl ?_
    refine V_i2l rfl ?_
    -- at 25: .invokestatic 134
    rw [nI_sub (by omega)]
    refine V_cS rfl rfl rfl rfl (m_isIn) ?_
    rw [Int32.toInt_toInt64, Int32.toInt_toInt64, show (0 : Int64).toInt = 0 from rfl, nI_toInt (by omega)]
    rw [show decide (0 ≤ y.toInt ∧ y.toInt ≤ ((cs.length - 1 : Nat) : Int)) = (ix cs.length y).isSome by rw [ix_is]; exact decide_eq_decide.mpr (by omega)]
    refine V_if_ne rfl (fun hd => ?_) (fun hd => ?_)
    · obtain ⟨k, e2⟩ := bI_som hd
      obtain ⟨rfl, hk⟩ := ix_some e2
      have ev : aTolT st (nI d) (nI k) = shZ (cfs cs k) (cs.length - k) := by
        unfold aTolT; rw [ed]; dsimp only; rw [← hcs, e2]
      rw [ev]
      have hsb := cfs_le hWd hk
      have htd := tdiv_bd (k := cs.length - k) hsb
      obtain ⟨F, hF⟩ : ∃ F : Nat → Int, F = fun i => cfZ (cs.length - 1) (cs.getD i 0) k := ⟨_, rfl⟩
      have hFs : sumZ F cs.length = cfs cs k := by rw [hF]; rfl
      refine V_lc (v := 0) rfl rfl ?_
      refine V_lstore (L' := [_, _, _, _, _, _, _]) rfl rfl rfl ?_
      refine V_ic (v := nI 0) rfl rfl ?_
      refine V_istore (L' := [_, _, _, _, _, _, _]) rfl rfl rfl ?_
      -- at 40: .iload 6
      have lp := loopUp (P := fun c => ∀ h1, JF [203, 204, 205] h0 h1 → V S (dep + 20) 240 40 [.ref 188, .int (nI d), .int (nI k), .int (nI cs.length), .long (zJ (sumZ F c)), .null, .int (nI c)] [] h1 (MR h (shZ (cfs cs k) (cs.length - k), st))) cs.length ?_ ?_ 0 (Nat.zero_le _)
      · exact lp h0 JF.rf
      · intro h1 f1
        rw [hFs]
        have hz := zJ_ne0 (k := cs.length - k) (by omega) (by omega)
        refine V_iload rfl rfl ?_
        refine V_iload_n rfl rfl ?_
        -- at 43: .if_icmp .ge 34
        refine V_icmp_ge rfl (fun he => ?_) (fun he => ?_)
        · refine V_lload rfl rfl ?_
          refine V_iload_n rfl rfl ?_
          refine V_iload_n rfl rfl ?_
          refine V_isub rfl ?_
          -- at 82: .i2l
          rw [nI_sub (by omega)]
          refine V_i2l rfl ?_
          -- at 83: .lrem
          rw [zJ_i2l (by omega)]
          refine V_lrem rfl hz ?_
          rw [zJ_div (by omega) (by omega), zJ_mul, zJ_sub]
          refine V_lc (v := 0) rfl rfl ?_
          refine V_lcmp rfl ?_
          -- at 86: .ifCond .eq 7
          refine V_if_eq rfl (fun hf => ?_) (fun hf => ?_)
          · have hf := (lg_z (by omega)).mp hf
            refine V_si (v := nI 10000) rfl rfl ?_
            refine V_lload rfl rfl ?_
            refine V_iload_n rfl rfl ?_
            refine V_iload_n rfl rfl ?_
            refine V_isub rfl ?_
            -- at 101: .i2l
            rw [nI_sub (by omega)]
            refine V_i2l rfl ?_
            -- at 102: .ldiv
            rw [zJ_i2l (by omega)]
            refine V_ldiv rfl hz ?_
            rw [zJ_div (by omega) (by omega)]
            refine V_l2i rfl ?_
            refine V_iadd rfl ?_
            -- at 105: .ireturn
            rw [zJ_l2i, Int32_add_comm]
            refine V_iret rfl rfl ?_
            refine ⟨?_, hi0.jf f1, fm0.tr (FM.jf f1 (by simp))⟩
            unfold shZ
            rw [if_pos hf]
          · have hf : ¬ cfs cs k - (cfs cs k).tdiv ((cs.length - k : Nat) : Int) * ((cs.length - k : Nat) : Int) = 0 := fun q => hf ((lg_z (by omega)).mpr q)
            refine V_ic (v := -1) rfl rfl ?_
            refine V_goto rfl ?_
            -- at 105: .ireturn
            refine V_iret rfl rfl ?_
            refine ⟨?_, hi0.jf f1, fm0.tr (FM.jf f1 (by simp))⟩
            unfold shZ
            rw [if_neg hf]
        · exact absurd (nI_le (Nat.le_refl _) (by omega)) he
      · intro c hcn ih h1 f1
        have hs1 := (hi0.jf f1).1
        rw [sumZ] at ih
        have hFc : F c = cfZ (cs.length - 1) (cs.getD c 0) k := by rw [hF]
        refine V_iload rfl rfl ?_
        refine V_iload_n rfl rfl ?_
        -- at 43: .if_icmp .ge 34
        refine V_icmp_ge rfl (fun he => ?_) (fun he => ?_)
        · exact absurd he (nI_ge hcn (by omega))
        · refine V_aload_n rfl rfl rfl ?_
          refine V_iload_n rfl rfl ?_
          refine V_ic (v := nI 1) rfl rfl ?_
          refine V_isub rfl ?_
          refine V_aload_n rfl rfl rfl ?_
          refine V_iload_n rfl rfl ?_
          refine V_iload rfl rfl ?_
          -- at 54: .invokevirtual 216
          rw [nI_sub (by omega)]
          refine V_cV rfl rfl rfl rfl rfl (m_cardOf hs1 hd3 (by omega)) ?_
          rw [← hcs]
          refine V_callV rfl rfl rfl rfl rfl (m_terms (by omega) (hWd.at hcn)) ?_
          rintro _ h2 ⟨rfl, f2, t2⟩
          show V S (dep + 20) 240 60 [.ref 188, .int (nI d), .int (nI k), .int (nI cs.length), .long (zJ (sumZ F c)), .null, .int (nI c)] [] h2 _
          refine V_lload rfl rfl ?_
          refine V_aload_n rfl rfl rfl ?_
          refine V_getR (r := 203) rfl rfl ?_
          refine V_iload_n rfl rfl ?_
          refine V_ll 8 rfl rfl (by first | with_reducible rfl | assumption | exact nI_sub (by omega) | exact nI_add _ _) (by first | omega | assumption) rfl ?_
          -- at 68: .ladd
          rw [t2 k (by omega)]
          refine V_ladd rfl ?_
          -- at 69: .lstore 4
          rw [zJ_add, ← hFc]
          refine V_lstore (L' := [_, _, _, _, _, _, _]) rfl rfl rfl ?_
          refine V_iinc (L' := [_, _, _, _, _, _, _]) rfl rfl rfl ?_
          refine V_goto rfl ?_
          -- at 40: .iload 6
          rw [show Int32.ofInt 1 = nI 1 from rfl, nI_add]
          exact ih h2 (f1.tr f2)
    · have hd := bI_non (Decidable.of_not_not hd)
      have ev : aTolT st (nI d) y = -3 := by unfold aTolT; rw [ed]; dsimp only; rw [← hcs, hd]
      rw [ev]
      refine V_bi (v := -3) rfl rfl ?_
      -- at 33: .ireturn
      refine V_iret rfl rfl ?_
      exact mq0 hi0 fm0
  · have hc := dkO_no (nI_inj (b := 0) (by omega) (by omega) (Decidable.of_not_not hc))
    have ev : aTolT st x y = -2 := by unfold aTolT; rw [hc]
    rw [ev]
    refine V_bi (v := -2) rfl rfl ?_
    -- at 17: .ireturn
    refine V_iret rfl rfl ?_
    exact mq0 hi0 fm0
/-- what merging counts from places a and b on -/
def mrg (c o : List Nat) : Nat → Nat → Nat → Nat
  | 0, _, _ => 0
  | f + 1, a, b => if a < c.length ∧ b < c.length then (if c.getD a 0 = o.getD b 0 then 1 + mrg c o f (a + 1) (b + 1) else if c.getD a 0 < o.getD b 0 then mrg c o f (a + 1) b else mrg c o f a (b + 1)) else 0
theorem mrg_adv {c o : List Nat} (hl : c.length = o.length) : ∀ f t m a, o.length ≤ t + f → a < c.length → o.length - t ≤ f → f + (c.length - a) ≤ m → mrg c o (m) a t = mrg c o (m - (adv o (c.getD a 0) f t - t)) a (adv o (c.getD a 0) f t) ∧ t ≤ adv o (c.getD a 0) f t := by
  intro f
  induction f with
  | zero => intro t m a h1 h2 h3 h4; rw [adv, Nat.sub_self]; exact ⟨rfl, Nat.le_refl _⟩
  | succ f ih =>
    intro t m a h1 h2 h3 h4
    rw [adv]
    by_cases q : t < o.length ∧ o.getD t 0 < c.getD a 0
    · rw [if_pos q]
      obtain ⟨m', rfl⟩ : ∃ m', m = m' + 1 := ⟨m - 1, by omega⟩
      obtain ⟨i1, i2⟩ := ih (t + 1) m' a (by omega) h2 (by omega) (by omega)
      refine ⟨?_, by omega⟩
      rw [mrg, if_pos ⟨h2, by omega⟩, if_neg (by omega), if_neg (by omega), i1]
      congr 1
      omega
    · rw [if_neg q, Nat.sub_self]; exact ⟨rfl, Nat.le_refl _⟩
theorem mrg_stop {c o : List Nat} (m a b : Nat) (h : ¬ (a < c.length ∧ b < c.length)) : mrg c o m a b = 0 := by
  cases m with
  | zero => rfl
  | succ m => rw [mrg, if_neg h]
theorem adv_stop {o : List Nat} {x : Nat} : ∀ f t, o.length ≤ t + f → ¬ (adv o x f t < o.length ∧ o.getD (adv o x f t) 0 < x) := by
  intro f
  induction f with
  | zero => intro t h; rw [adv]; omega
  | succ f ih =>
    intro t h
    rw [adv]
    by_cases q : t < o.length ∧ o.getD t 0 < x
    · rw [if_pos q]; exact ih (t + 1) (by omega)
    · rw [if_neg q]; exact q
theorem mrg_shr {c o : List Nat} (hl : c.length = o.length) : ∀ i, i ≤ c.length → ∀ m, 2 * c.length ≤ m → ∃ m', c.length - i + (c.length - (shr c o i).2) ≤ m' ∧ mrg c o m 0 0 = (shr c o i).1 + mrg c o m' i (shr c o i).2 := by
  intro i
  induction i with
  | zero => intro _ m hm; exact ⟨m, by rw [shr]; omega, by show mrg c o m 0 0 = 0 + mrg c o m 0 0; omega⟩
  | succ i ih =>
    intro hi m hm
    obtain ⟨m', h1, h2⟩ := ih (by omega) m hm
    have hle := (shr_le c o i).1
    obtain ⟨s, t, hst⟩ : ∃ s t, shr c o i = (s, t) := ⟨_, _, rfl⟩
    rw [hst] at h1 h2 hle
    have h1 : c.length - i + (c.length - t) ≤ m' := h1
    have h2 : mrg c o m 0 0 = s + mrg c o m' i t := h2
    have hle : t ≤ o.length := hle
    have ef : adv o (c.getD i 0) o.length t = adv o (c.getD i 0) (o.length - t) t := adv_fuel _ _ t (by omega) (by omega)
    obtain ⟨a1, a2⟩ := mrg_adv hl (o.length - t) t m' i (by omega) (by omega) (by omega) (by omega)
    have a3 := adv_stop (o := o) (x := c.getD i 0) (o.length - t) t (by omega)
    have a4 := adv_le (o := o) (x := c.getD i 0) (o.length - t) t hle
    rw [shr, hst]
    dsimp only
    rw [ef]
    generalize adv o (c.getD i 0) (o.length - t) t = u at a1 a2 a3 a4
    have hm2 : c.length - i + (c.length - u) ≤ m' - (u - t) := by omega
    generalize m' - (u - t) = m2 at a1 hm2
    obtain ⟨m3, rfl⟩ : ∃ m3, m2 = m3 + 1 := ⟨m2 - 1, by omega⟩
    by_cases q : u < o.length ∧ o.getD u 0 = c.getD i 0
    · rw [if_pos q]
      refine ⟨m3, by show c.length - (i + 1) + (c.length - (u + 1)) ≤ m3; omega, ?_⟩
      show mrg c o m 0 0 = s + 1 + mrg c o m3 (i + 1) (u + 1)
      rw [h2, a1, mrg, if_pos ⟨by omega, by omega⟩, if_pos q.2.symm]; omega
    · rw [if_neg q]
      by_cases q2 : u < o.length
      · refine ⟨m3, by show c.length - (i + 1) + (c.length - u) ≤ m3; omega, ?_⟩
        show mrg c o m 0 0 = s + mrg c o m3 (i + 1) u
        rw [h2, a1, mrg, if_pos ⟨by omega, by omega⟩, if_neg (by omega), if_pos (by omega)]
      · refine ⟨m3 + 1, by show c.length - (i + 1) + (c.length - u) ≤ m3 + 1; omega, ?_⟩
        show mrg c o m 0 0 = s + mrg c o (m3 + 1) (i + 1) u
        rw [h2, a1, mrg_stop _ _ _ (by omega), mrg_stop _ _ _ (by omega)]
theorem mrg_all {c o : List Nat} (hl : c.length = o.length) {m : Nat} (hm : 2 * c.length ≤ m) : mrg c o m 0 0 = (shr c o c.length).1 := by
  obtain ⟨m', _, h⟩ := mrg_shr hl c.length (Nat.le_refl _) m hm
  rw [h, mrg_stop _ _ _ (by omega), Nat.add_zero]
theorem y_comm {S : mScr} {dep : Nat} {x y : Int32} {st : St} {h : Hp} (hi : InvM h st) : Cal S (dep + 20) 243 [.ref 188, .int x, .int y] h (MR h (aComm st x y, st)) := by
  obtain ⟨hi0, fm0⟩ := hi.thr
  obtain ⟨h0, hh0⟩ : ∃ h0, h0 = wI h 188 4 (nI 0) := ⟨_, rfl⟩
  rw [← hh0] at hi0 fm0
  obtain ⟨hs, hw, _⟩ := id hi0
  have hdl := dln_le (x := x) hw
  have hdl2 := dln_le (x := y) hw
  show V S (dep + 20) 243 0 [.ref 188, .int x, .int y, .null, .null, .null, .null, .null] [] h _
  have bad : aComm st x y = -2 → V S (dep + 20) 243 21 [.ref 188, .int x, .int y, .null, .null, .null, .null, .null] [] h0 (MR h (aComm st x y, st)) := by
    intro e
    rw [e]
    refine V_bi (v := -2) rfl rfl ?_
    -- at 23: .ireturn
    refine V_iret rfl rfl ?_
    exact mq0 hi0 fm0
  refine V_aload_n rfl rfl rfl ?_
  refine V_ic (v := nI 0) rfl rfl ?_
  refine V_pi 4 rfl rfl rfl rfl ?_
  refine V_aload_n rfl rfl rfl ?_
  refine V_iload_n rfl rfl ?_
  -- at 7: .invokevirtual 209
  rw [← hh0]
  refine V_cV rfl rfl rfl rfl rfl (m_deckOf hs) ?_
  refine V_if_eq rfl (fun hc => ?_) (fun hc => ?_)
  · have hc := dkO_no (nI_inj (b := 0) (by omega) (by omega) hc)
    exact bad (by unfold aComm; rw [hc])
  · obtain ⟨d, ed⟩ := dkO_yes (s := st.1) (x := x) (fun q => hc (by rw [q]; rfl))
    obtain ⟨_, rfl, hd3, e4, hpos⟩ := dkO_some ed
    refine V_aload_n rfl rfl rfl ?_
    refine V_iload_n rfl rfl ?_
    -- at 15: .invokevirtual 209
    refine V_cV rfl rfl rfl rfl rfl (m_deckOf hs) ?_
    refine V_if_ne rfl (fun hd => ?_) (fun hd => ?_)
    · obtain ⟨e, ee⟩ := dkO_yes (s := st.1) (x := y) (fun q => hd (by rw [q]; rfl))
      obtain ⟨_, rfl, he3, e5, hpos2⟩ := dkO_some ee
      have hWd := hw.wd hd3 hpos
      have hWe := hw.wd he3 hpos2
      obtain ⟨c, hcs⟩ : ∃ c, c = st.1.2.2 d := ⟨_, rfl⟩
      obtain ⟨o, hos⟩ : ∃ o, o = st.1.2.2 e := ⟨_, rfl⟩
      have ev : aComm st (nI d) (nI e) = nI (if c.length = o.length then (shr c o c.length).1 else 0) := by unfold aComm; rw [ed, ee, hcs, hos]
      rw [ev]
      rw [← hcs] at hWd
      rw [← hos] at hWe
      have hw7 := hWd.2.1
      have hb1 : ∀ x ∈ c, x < 2 ^ 21 := fun x hx => c21 (by omega) (hWd.2.2.2 x hx).1
      have hb2 : ∀ x ∈ o, x < 2 ^ 21 := fun x hx => c21 (by have := hWe.2.1; omega) (hWe.2.2.2 x hx).1
      refine V_aload_n rfl rfl rfl ?_
      refine V_iload_n rfl rfl ?_
      -- at 26: .invokevirtual 209
      refine V_cV rfl rfl rfl rfl rfl (m_deckOf hs) ?_
      refine V_aload_n rfl rfl rfl ?_
      refine V_iload_n rfl rfl ?_
      -- at 31: .invokevirtual 209
      refine V_cV rfl rfl rfl rfl rfl (m_deckOf hs) ?_
      rw [dln_nI hd3, dln_nI he3, ← hcs, ← hos]
      refine V_icmp_eq rfl (fun hf => ?_) (fun hf => ?_)
      · have hf := nI_inj (by omega) (by have := hWe.2.1; omega) hf
        rw [if_pos hf, ← mrg_all hf (Nat.le_refl _)]
        refine V_ic (v := nI 0) rfl rfl ?_
        refine V_istore_n (L' := [_, _, _, _, _, _, _, _]) rfl rfl rfl ?_
        refine V_ic (v := nI 0) rfl rfl ?_
        refine V_istore (L' := [_, _, _, _, _, _, _, _]) rfl rfl rfl ?_
        refine V_ic (v := nI 0) rfl rfl ?_
        refine V_istore (L' := [_, _, _, _, _, _, _, _]) rfl rfl rfl ?_
        -- at 47: .iload 4
        have lp : ∀ f a b n v6 v7, c.length - a + (c.length - b) ≤ f → a ≤ c.length → b ≤ c.length → n + mrg c o f a b = mrg c o (2 * c.length) 0 0 → V S (dep + 20) 243 47 [.ref 188, .int (nI d), .int (nI e), .int (nI n), .int (nI a), .int (nI b), v6, v7] [] h0 (MR h (nI (mrg c o (2 * c.length) 0 0), st)) := by
          intro f
          induction f with
          | zero =>
            intro a b n v6 v7 h1 h2 h3 h4
            rw [mrg, Nat.add_zero] at h4
            rw [← h4]
            refine V_iload rfl rfl ?_
            refine V_aload_n rfl rfl rfl ?_
            refine V_iload_n rfl rfl ?_
            -- at 51: .invokevirtual 209
            refine V_cV rfl rfl rfl rfl rfl (m_deckOf hs) ?_
            rw [dln_nI hd3, ← hcs]
            refine V_icmp_ge rfl (fun hg => ?_) (fun hg => ?_)
            · refine V_iload_n rfl rfl ?_
              -- at 138: .ireturn
              refine V_iret rfl rfl ?_
              exact mq0 hi0 fm0
            · exact absurd (nI_le (by omega) (by omega)) hg
          | succ f ihf =>
            intro a b n v6 v7 h1 h2 h3 h4
            have out : ¬ (a < c.length ∧ b < c.length) → V S (dep + 20) 243 137 [.ref 188, .int (nI d), .int (nI e), .int (nI n), .int (nI a), .int (nI b), v6, v7] [] h0 (MR h (nI (mrg c o (2 * c.length) 0 0), st)) := by
              intro q
              rw [mrg, if_neg q, Nat.add_zero] at h4
              rw [← h4]
              refine V_iload_n rfl rfl ?_
              -- at 138: .ireturn
              refine V_iret rfl rfl ?_
              exact mq0 hi0 fm0
            refine V_iload rfl rfl ?_
            refine V_aload_n rfl rfl rfl ?_
            refine V_iload_n rfl rfl ?_
            -- at 51: .invokevirtual 209
            refine V_cV rfl rfl rfl rfl rfl (m_deckOf hs) ?_
            rw [dln_nI hd3, ← hcs]
            refine V_icmp_ge rfl (fun hg => ?_) (fun hg => ?_)
            · exact out (fun q => by have := (nI_leI (by omega) (by omega)).mp hg; omega)
            · have hg := nI_ngt (by omega) (by omega) hg
              refine V_iload rfl rfl ?_
              refine V_aload_n rfl rfl rfl ?_
              refine V_iload_n rfl rfl ?_
              -- at 61: .invokevirtual 209
              refine V_cV rfl rfl rfl rfl rfl (m_deckOf hs) ?_
              rw [dln_nI hd3, ← hcs]
              refine V_icmp_ge rfl (fun hk => ?_) (fun hk => ?_)
              · exact out (fun q => by have := (nI_leI (by omega) (by omega)).mp hk; omega)
              · have hk := nI_ngt (by omega) (by omega) hk
                have x1 : c.getD a 0 < 2 ^ 21 := hb1 _ (getD_mem hg)
                have x2 : o.getD b 0 < 2 ^ 21 := hb2 _ (getD_mem (by omega))
                rw [mrg, if_pos ⟨hg, hk⟩] at h4
                refine V_aload_n rfl rfl rfl ?_
                refine V_iload_n rfl rfl ?_
                refine V_iload rfl rfl ?_
                -- at 71: .invokevirtual 216
                refine V_cV rfl rfl rfl rfl rfl (m_cardOf hs hd3 (by omega)) ?_
                rw [← hcs]
                refine V_istore (L' := [_, _, _, _, _, _, _, _]) rfl rfl rfl ?_
                refine V_aload_n rfl rfl rfl ?_
                refine V_iload_n rfl rfl ?_
                refine V_iload rfl rfl ?_
                -- at 80: .invokevirtual 216
                refine V_cV rfl rfl rfl rfl rfl (m_cardOf hs he3 (by omega)) ?_
                rw [← hos]
                refine V_istore (L' := [_, _, _, _, _, _, _, _]) rfl rfl rfl ?_
                refine V_iload_n rfl rfl ?_
                refine V_iload rfl rfl ?_
                refine V_iload rfl rfl ?_
                -- at 90: .if_icmp .ne 7
                obtain ⟨u, hu⟩ : ∃ u, u = c.getD a 0 := ⟨_, rfl⟩
                obtain ⟨w, hw0⟩ : ∃ w, w = o.getD b 0 := ⟨_, rfl⟩
                rw [← hu] at h4 x1
                rw [← hw0] at h4 x2
                rw [← hu, ← hw0]
                have st3 : ∀ n' a' db, n' + mrg c o f a' (b + db) = mrg c o (2 * c.length) 0 0 → a ≤ a' → a' ≤ c.length → b + db ≤ c.length → c.length - a' + (c.length - (b + db)) ≤ f → V S (dep + 20) 243 131 [.ref 188, .int (nI d), .int (nI e), .int (nI n'), .int (nI a'), .int (nI b), .int (nI u), .int (nI w)] [.int (nI db), .int (nI b)] h0 (MR h (nI (mrg c o (2 * c.length) 0 0), st)) := by
                  intro n' a' db q1 q2 q3 q4 q5
                  refine V_iadd rfl ?_
                  -- at 132: .istore 5
                  rw [nI_add]
                  refine V_istore (L' := [_, _, _, _, _, _, _, _]) rfl rfl rfl ?_
                  refine V_goto rfl ?_
                  -- at 47: .iload 4
                  exact ihf a' (b + db) n' _ _ q5 q3 q4 q1
                rcases (by omega : u = w ∨ u < w ∨ w < u) with q | q | q
                · rw [if_pos q] at h4
                  refine V_icmp_ne rfl (fun hz => ?_) (fun hz => ?_)
                  · exact absurd (by rw [q]) hz
                  · refine V_ic (v := nI 1) rfl rfl ?_
                    refine V_goto rfl ?_
                    refine V_iadd rfl ?_
                    -- at 99: .istore_n 3
                    rw [nI_add]
                    refine V_istore_n (L' := [_, _, _, _, _, _, _, _]) rfl rfl rfl ?_
                    refine V_iload rfl rfl ?_
                    refine V_iload rfl rfl ?_
                    refine V_iload rfl rfl ?_
                    -- at 106: .if_icmp .gt 7
                    refine V_icmp_gt rfl (fun hz2 => ?_) (fun hz2 => ?_)
                    · exact absurd hz2 (nI_nlt (by omega) (by omega))
                    · refine V_ic (v := nI 1) rfl rfl ?_
                      refine V_goto rfl ?_
                      refine V_iadd rfl ?_
                      -- at 115: .istore 4
                      rw [nI_add]
                      refine V_istore (L' := [_, _, _, _, _, _, _, _]) rfl rfl rfl ?_
                      refine V_iload rfl rfl ?_
                      refine V_iload rfl rfl ?_
                      refine V_iload rfl rfl ?_
                      -- at 123: .if_icmp .gt 7
                      refine V_icmp_gt rfl (fun hz3 => ?_) (fun hz3 => ?_)
                      · exact absurd hz3 (nI_nlt (by omega) (by omega))
                      · refine V_ic (v := nI 1) rfl rfl ?_
                        refine V_goto rfl ?_
                        -- at 131: .iadd
                        exact st3 (n + 1) (a + 1) 1 (by omega) (by omega) (by omega) (by omega) (by omega)
                · rw [if_neg (by omega), if_pos q] at h4
                  refine V_icmp_ne rfl (fun hz => ?_) (fun hz => ?_)
                  · refine V_ic (v := nI 0) rfl rfl ?_
                    refine V_iadd rfl ?_
                    -- at 99: .istore_n 3
                    rw [nI_add, Nat.add_zero]
                    refine V_istore_n (L' := [_, _, _, _, _, _, _, _]) rfl rfl rfl ?_
                    refine V_iload rfl rfl ?_
                    refine V_iload rfl rfl ?_
                    refine V_iload rfl rfl ?_
                    -- at 106: .if_icmp .gt 7
                    refine V_icmp_gt rfl (fun hz2 => ?_) (fun hz2 => ?_)
                    · exact absurd hz2 (nI_nlt (by omega) (by omega))
                    · refine V_ic (v := nI 1) rfl rfl ?_
                      refine V_goto rfl ?_
                      refine V_iadd rfl ?_
                      -- at 115: .istore 4
                      rw [nI_add]
                      refine V_istore (L' := [_, _, _, _, _, _, _, _]) rfl rfl rfl ?_
                      refine V_iload rfl rfl ?_
                      refine V_iload rfl rfl ?_
                      refine V_iload rfl rfl ?_
                      -- at 123: .if_icmp .gt 7
                      refine V_icmp_gt rfl (fun hz3 => ?_) (fun hz3 => ?_)
                      · refine V_ic (v := nI 0) rfl rfl ?_
                        -- at 131: .iadd
                        exact st3 n (a + 1) 0 (by rw [Nat.add_zero]; exact h4) (by omega) (by omega) (by omega) (by omega)
                      · exact absurd (nI_lt q (by omega)) hz3
                  · exact absurd (nI_inj (by omega) (by omega) (Decidable.of_not_not hz)) (by omega)
                · rw [if_neg (by omega), if_neg (by omega)] at h4
                  refine V_icmp_ne rfl (fun hz => ?_) (fun hz => ?_)
                  · refine V_ic (v := nI 0) rfl rfl ?_
                    refine V_iadd rfl ?_
                    -- at 99: .istore_n 3
                    rw [nI_add, Nat.add_zero]
                    refine V_istore_n (L' := [_, _, _, _, _, _, _, _]) rfl rfl rfl ?_
                    refine V_iload rfl rfl ?_
                    refine V_iload rfl rfl ?_
                    refine V_iload rfl rfl ?_
                    -- at 106: .if_icmp .gt 7
                    refine V_icmp_gt rfl (fun hz2 => ?_) (fun hz2 => ?_)
                    · refine V_ic (v := nI 0) rfl rfl ?_
                      refine V_iadd rfl ?_
                      -- at 115: .istore 4
                      rw [nI_add, Nat.add_zero]
                      refine V_istore (L' := [_, _, _, _, _, _, _, _]) rfl rfl rfl ?_
                      refine V_iload rfl rfl ?_
                      refine V_iload rfl rfl ?_
                      refine V_iload rfl rfl ?_
                      -- at 123: .if_icmp .gt 7
                      refine V_icmp_gt rfl (fun hz3 => ?_) (fun hz3 => ?_)
                      · exact absurd hz3 (nI_nlt (by omega) (by omega))
                      · refine V_ic (v := nI 1) rfl rfl ?_
                        refine V_goto rfl ?_
                        -- at 131: .iadd
                        exact st3 n a 1 h4 (by omega) (by omega) (by omega) (by omega)
                    · exact absurd (nI_lt q (by omega)) hz2
                  · exact absurd (nI_inj (by omega) (by omega) (Decidable.of_not_not hz)) (by omega)
        exact lp (2 * c.length) 0 0 0 _ _ (by omega) (by omega) (by omega) (by omega)
      · rw [if_neg (fun q => hf (by rw [q]))]
        refine V_ic (v := nI 0) rfl rfl ?_
        -- at 38: .ireturn
        refine V_iret rfl rfl ?_
        exact mq0 hi0 fm0
    · have hd := dkO_no (nI_inj (b := 0) (by omega) (by omega) (Decidable.of_not_not hd))
      exact bad (by unfold aComm; rw [ed, hd])
