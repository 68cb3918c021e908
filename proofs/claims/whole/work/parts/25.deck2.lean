/-! decks (Deck, LineDeck) -/
def DK (h : Hp) (a : Nat) (cs : List Nat) : Prop := isDeck a = true ∧ cs.length ≤ 7 ∧ h.1 a 0 = nI cs.length ∧ AL h (a + 1) cs ∧ ∀ x ∈ cs, x < 2 ^ 21
def LDK (h : Hp) (a : Nat) (cs : List Nat) : Prop := isLD a = true ∧ cs.length ≤ 21 ∧ h.1 a 0 = nI cs.length ∧ AL h (a + 1) cs ∧ ∀ x ∈ cs, x < 2 ^ 21
theorem DK.fr {A : List Nat} {h h' : Hp} {a : Nat} {cs : List Nat} (hN : DK h a cs) (hf : Fr A h h') (h1 : a ∉ A) (h2 : a + 1 ∉ A) : DK h' a cs := by
  obtain ⟨ha, hn, h0, hg, hb⟩ := hN
  exact ⟨ha, hn, by rw [hf.1 a h1]; exact h0, hg.fr hf h2, hb⟩
theorem LDK.fr {A : List Nat} {h h' : Hp} {a : Nat} {cs : List Nat} (hN : LDK h a cs) (hf : Fr A h h') (h1 : a ∉ A) (h2 : a + 1 ∉ A) : LDK h' a cs := by
  obtain ⟨ha, hn, h0, hg, hb⟩ := hN
  exact ⟨ha, hn, by rw [hf.1 a h1]; exact h0, hg.fr hf h2, hb⟩
theorem getD_lt {xs : List Nat} {i B : Nat} (hb : ∀ x ∈ xs, x < B) (hB : 0 < B) : xs.getD i 0 < B := by
  rcases Nat.lt_or_ge i xs.length with q | q
  · exact hb _ (getD_mem q)
  · rw [List.getD_eq_getElem?_getD, List.getElem?_eq_none q]; exact hB
theorem nI_rem {x y : Nat} (hx : x < 2 ^ 31) (hy : 0 < y) (hy2 : y < 2 ^ 31) : nI x - nI x / nI y * nI y = nI (x % y) := by
  rw [nI_div2 hx hy hy2, nI_mul, nI_sub (Nat.div_mul_le_self x y)]
  congr 1
  have := Nat.mod_add_div x y
  rw [Nat.mul_comm] at this
  omega
theorem c_dcopy {S : mScr} {dep a b : Nat} {cs : List Nat} {h : Hp} (hD : DK h b cs) (ha : isDeck a = true) (hab : a ≠ b) (hab1 : b + 1 ≠ a) (hab2 : a + 1 ≠ b) : Cal S (dep + 1) 8 [.ref a, .ref b] h (fun r h' => r = none ∧ DK h' a cs ∧ Fr [a, a + 1] h h') := by
  obtain ⟨hbn, hn, h0, hg, hb⟩ := id hD
  have hb1 := deck_b ha
  have hb2 := deck_b hbn
  show V S (dep + 1) 8 0 [.ref a, .ref b] [] h _
  refine V_aload_n rfl rfl hb1 ?_
  refine V_aload_n rfl rfl hb2 ?_
  refine V_gi 0 rfl (deck_sz hbn) rfl ?_
  refine V_pi 0 rfl (deck_sz ha) rfl rfl ?_
  refine V_aload_n rfl rfl hb2 ?_
  refine V_getR rfl (deck_cd hbn) ?_
  refine V_ic (v := nI 0) rfl rfl ?_
  refine V_aload_n rfl rfl hb1 ?_
  refine V_getR rfl (deck_cd ha) ?_
  refine V_ic (v := nI 0) rfl rfl ?_
  refine V_bi (v := nI 7) rfl rfl ?_
  refine V_copy rfl (deck_ar hbn) (deck_ar ha) (by decide) (by decide) (by decide) (by decide) (by decide) rfl rfl ?_
  refine V_return rfl rfl ?_
  refine ⟨rfl, ⟨ha, hn, ?_, ?_, hb⟩, (Fr.w (by simp)).tr (Fr.wr (by simp))⟩
  · rw [wA_oth (by omega), wI_same]; exact h0
  · intro v hv
    rw [wA_row, wI_oth (by omega)]
    show va_cpy _ _ (nI 0).toNatClampNeg (nI 0).toNatClampNeg (nI 7).toNatClampNeg v = _
    rw [show (nI 0).toNatClampNeg = 0 from rfl, show (nI 7).toNatClampNeg = 7 from rfl]
    unfold va_cpy
    rw [if_pos (by omega), show 0 + (v - 0) = v by omega]
    exact hg v hv
theorem c_lcopy {S : mScr} {dep a b : Nat} {cs : List Nat} {h : Hp} (hD : LDK h b cs) (ha : isLD a = true) (hab : a ≠ b) (hab1 : b + 1 ≠ a) (hab2 : a + 1 ≠ b) : Cal S (dep + 1) 52 [.ref a, .ref b] h (fun r h' => r = none ∧ LDK h' a cs ∧ Fr [a, a + 1] h h') := by
  obtain ⟨hbn, hn, h0, hg, hb⟩ := id hD
  have hb1 := ld_b ha
  have hb2 := ld_b hbn
  show V S (dep + 1) 52 0 [.ref a, .ref b] [] h _
  refine V_aload_n rfl rfl hb1 ?_
  refine V_aload_n rfl rfl hb2 ?_
  refine V_gi 0 rfl (ld_sz hbn) rfl ?_
  refine V_pi 0 rfl (ld_sz ha) rfl rfl ?_
  refine V_aload_n rfl rfl hb2 ?_
  refine V_getR rfl (ld_fm hbn) ?_
  refine V_ic (v := nI 0) rfl rfl ?_
  refine V_aload_n rfl rfl hb1 ?_
  refine V_getR rfl (ld_fm ha) ?_
  refine V_ic (v := nI 0) rfl rfl ?_
  refine V_bi (v := nI 21) rfl rfl ?_
  refine V_copy rfl (ld_ar hbn) (ld_ar ha) (by decide) (by decide) (by decide) (by decide) (by decide) rfl rfl ?_
  refine V_return rfl rfl ?_
  refine ⟨rfl, ⟨ha, hn, ?_, ?_, hb⟩, (Fr.w (by simp)).tr (Fr.wr (by simp))⟩
  · rw [wA_oth (by omega), wI_same]; exact h0
  · intro v hv
    rw [wA_row, wI_oth (by omega)]
    show va_cpy _ _ (nI 0).toNatClampNeg (nI 0).toNatClampNeg (nI 21).toNatClampNeg v = _
    rw [show (nI 0).toNatClampNeg = 0 from rfl, show (nI 21).toNatClampNeg = 21 from rfl]
    unfold va_cpy
    rw [if_pos (by omega), show 0 + (v - 0) = v by omega]
    exact hg v hv
theorem c_dclear {S : mScr} {dep a : Nat} {h : Hp} (ha : isDeck a = true) : Cal S dep 9 [.ref a] h (fun r h' => r = none ∧ h' = wI h a 0 (nI 0)) := by
  have hb1 := deck_b ha
  show V S dep 9 0 [.ref a] [] h _
  refine V_aload_n rfl rfl (by first | assumption | rfl) ?_
  refine V_ic (v := nI 0) rfl rfl ?_
  refine V_pi 0 rfl (deck_sz (by first | assumption | rfl)) rfl rfl ?_
  -- at 5: .return_
  refine V_return rfl rfl ?_
  exact ⟨rfl, rfl⟩
theorem DK_nil {h : Hp} {a : Nat} (ha : isDeck a = true) : DK (wI h a 0 (nI 0)) a [] := ⟨ha, by simp, wI_same, fun i hi => by simp at hi, fun x hx => by simp at hx⟩
theorem c_lclear {S : mScr} {dep a : Nat} {h : Hp} (ha : isLD a = true) : Cal S dep 48 [.ref a] h (fun r h' => r = none ∧ LDK h' a [] ∧ Fr [a] h h') := by
  have hb1 := ld_b ha
  show V S dep 48 0 [.ref a] [] h _
  refine V_aload_n rfl rfl (by first | assumption | rfl) ?_
  refine V_ic (v := nI 0) rfl rfl ?_
  refine V_pi 0 rfl (ld_sz (by first | assumption | rfl)) rfl rfl ?_
  -- at 5: .return_
  refine V_return rfl rfl ?_
  exact ⟨rfl, ⟨ha, by simp, wI_same, fun i hi => by simp at hi, fun x hx => by simp at hx⟩, Fr.w (by simp)⟩
theorem c_dsort {S : mScr} {dep a : Nat} {cs : List Nat} {h : Hp} (hD : DK h a cs) : Cal S (dep + 1) 10 [.ref a] h (fun r h' => r = none ∧ DK h' a (srt cs) ∧ Fr [a + 1] h h') := by
  obtain ⟨ha, hn, h0, hg, hb⟩ := id hD
  have hb1 := deck_b ha
  show V S (dep + 1) 10 0 [.ref a] [] h _
  refine V_aload_n rfl rfl (by first | assumption | rfl) ?_
  refine V_getR rfl (deck_cd (by first | assumption | rfl)) ?_
  refine V_aload_n rfl rfl (by first | assumption | rfl) ?_
  refine V_gi 0 rfl (deck_sz (by first | assumption | rfl)) rfl ?_
  -- at 8: .invokestatic 25
  rw [h0]
  refine V_callS rfl rfl rfl rfl (c_srt (deck_ar ha) (deck_b1 ha) rfl hg hn (fun x hx => Nat.lt_trans (hb x hx) (by decide))) ?_
  rintro _ h1 ⟨rfl, k1, k2, k3⟩
  show V S (dep + 1) 10 11 _ [] h1 _
  refine V_return rfl rfl ?_
  exact ⟨rfl, ⟨ha, by rw [srt_len]; exact hn, by rw [k3.1 a (by simp), srt_len]; exact h0, k1, fun x hx => hb x (srt_mem.mp hx)⟩, k3⟩
theorem c_lsort {S : mScr} {dep a : Nat} {cs : List Nat} {h : Hp} (hD : LDK h a cs) : Cal S (dep + 1) 50 [.ref a] h (fun r h' => r = none ∧ LDK h' a (srt cs) ∧ Fr [a + 1] h h') := by
  obtain ⟨ha, hn, h0, hg, hb⟩ := id hD
  have hb1 := ld_b ha
  show V S (dep + 1) 50 0 [.ref a] [] h _
  refine V_aload_n rfl rfl (by first | assumption | rfl) ?_
  refine V_getR rfl (ld_fm (by first | assumption | rfl)) ?_
  refine V_aload_n rfl rfl (by first | assumption | rfl) ?_
  refine V_gi 0 rfl (ld_sz (by first | assumption | rfl)) rfl ?_
  -- at 8: .invokestatic 19
  rw [h0]
  refine V_callS rfl rfl rfl rfl (c_srt (ld_ar ha) (ld_b1 ha) rfl hg hn (fun x hx => Nat.lt_trans (hb x hx) (by decide))) ?_
  rintro _ h1 ⟨rfl, k1, k2, k3⟩
  show V S (dep + 1) 50 11 _ [] h1 _
  refine V_return rfl rfl ?_
  exact ⟨rfl, ⟨ha, by rw [srt_len]; exact hn, by rw [k3.1 a (by simp), srt_len]; exact h0, k1, fun x hx => hb x (srt_mem.mp hx)⟩, k3⟩
/-- how many unlike ones stand in a sorted row -/
def unl (xs : List Nat) : Nat → Nat
  | 0 => 0
  | k + 1 => unl xs k + (if k = 0 ∨ xs.getD k 0 ≠ xs.getD (k - 1) 0 then 1 else 0)
theorem c_unl {S : mScr} {dep r N : Nat} {xs : List Nat} {h : Hp} (hs : shA r 0 N = true) (hr : Nat.blt r 1020 = true) (hN : Nat.blt N 2147483648 = true) (hx : AL h r xs) (hl : xs.length ≤ N) (hbd : ∀ x ∈ xs, x < 2 ^ 21) : Cal S dep 12 [.ref r, .int (nI xs.length)] h (Rt (nI (unl xs xs.length)) h) := by
  have hN2 := blt_l hN
  have hgd : ∀ i, xs.getD i 0 < 2 ^ 31 := fun i => Nat.lt_trans (getD_lt hbd (by decide)) (by decide)
  show V S dep 12 0 [.ref r, .int (nI xs.length), .null, .null] [] h _
  refine V_ic (v := nI 0) rfl rfl ?_
  refine V_istore_n (L' := [_, _, _, _]) rfl rfl rfl ?_
  refine V_ic (v := nI 0) rfl rfl ?_
  refine V_istore_n (L' := [_, _, _, _]) rfl rfl rfl ?_
  -- at 4: .iload_n 3
  refine loopUp (P := fun j => V S dep 12 4 [.ref r, .int (nI xs.length), .int (nI (unl xs j)), .int (nI j)] [] h (Rt (nI (unl xs xs.length)) h)) xs.length ?_ ?_ 0 (Nat.zero_le _)
  · refine V_iload_n rfl rfl ?_
    refine V_iload_n rfl rfl ?_
    -- at 6: .if_icmp .ge 33
    refine V_icmp_ge rfl (fun hc => ?_) (fun hc => ?_)
    · refine V_iload_n rfl rfl ?_
      -- at 40: .ireturn
      refine V_iret rfl rfl ?_
      exact Rt.rf
    · exact absurd (nI_le (Nat.le_refl _) (by omega)) hc
  · intro j hj ih
    have up : V S dep 12 33 [.ref r, .int (nI xs.length), .int (nI (unl xs (j + 1))), .int (nI j)] [] h (Rt (nI (unl xs xs.length)) h) := by
      refine V_iinc (L' := [_, _, _, _]) rfl rfl rfl ?_
      refine V_goto rfl ?_
      -- at 4: .iload_n 3
      refine V_L ?_ ih
      rw [nI_succ]; rfl
    refine V_iload_n rfl rfl ?_
    refine V_iload_n rfl rfl ?_
    -- at 6: .if_icmp .ge 33
    refine V_icmp_ge rfl (fun hc => ?_) (fun hc => ?_)
    · exact absurd hc (nI_ge hj (by omega))
    · refine V_iload_n rfl rfl ?_
      refine V_aload_n rfl rfl (by first | assumption | rfl) ?_
      refine V_alen (n := _) rfl (by assumption) rfl ?_
      -- at 12: .if_icmp .ge 27
      refine V_icmp_ge rfl (fun hd => ?_) (fun hd => ?_)
      · exact absurd hd (nI_ge (show j < N by omega) (by omega))
      · refine V_iload_n rfl rfl ?_
        -- at 16: .ifCond .eq 14
        refine V_if_eq rfl (fun he => ?_) (fun he => ?_)
        · have he : j = 0 := nI_inj (by omega) (by decide) he
          refine V_iinc (L' := [_, _, _, _]) rfl rfl rfl ?_
          -- at 33: .iinc 3 1
          rw [show unl xs (j + 1) = unl xs j + 1 by rw [unl, if_pos (Or.inl he)], nI_succ] at up
          exact up
        · have he : j ≠ 0 := fun q => he (by rw [q]; rfl)
          refine V_aload_n rfl rfl (by first | assumption | rfl) ?_
          refine V_iload_n rfl rfl ?_
          refine V_al _ rfl (by assumption) (by first | with_reducible rfl | assumption | exact nI_sub (by omega) | exact nI_add _ _) (by first | omega | assumption) (by first | rfl | assumption) ?_
          refine V_aload_n rfl rfl (by first | assumption | rfl) ?_
          refine V_iload_n rfl rfl ?_
          refine V_ic (v := nI 1) rfl rfl ?_
          refine V_isub rfl ?_
          refine V_al _ rfl (by assumption) (by first | with_reducible rfl | assumption | exact nI_sub (by omega) | exact nI_add _ _) (by first | omega | assumption) (by first | rfl | assumption) ?_
          -- at 27: .if_icmp .eq 6
          rw [hx j hj, hx (j - 1) (by omega)]
          refine V_icmp_eq rfl (fun hf => ?_) (fun hf => ?_)
          · have hf := nI_inj (hgd _) (hgd _) hf
            rw [show unl xs (j + 1) = unl xs j by rw [unl, if_neg (by rintro (q | q) <;> omega)]; rfl] at up
            exact up
          · have hf : xs.getD j 0 ≠ xs.getD (j - 1) 0 := fun q => hf (by rw [q])
            refine V_iinc (L' := [_, _, _, _]) rfl rfl rfl ?_
            -- at 33: .iinc 3 1
            rw [show unl xs (j + 1) = unl xs j + 1 by rw [unl, if_pos (Or.inr hf)], nI_succ] at up
            exact up
theorem c_unlC {S : mScr} {dep a : Nat} {cs : List Nat} {h : Hp} (hD : DK h a cs) : Cal S (dep + 1) 13 [.ref a] h (Rt (nI (unl cs cs.length)) h) := by
  obtain ⟨ha, hn, h0, hg, hb⟩ := id hD
  have hb1 := deck_b ha
  show V S (dep + 1) 13 0 [.ref a] [] h _
  refine V_aload_n rfl rfl (by first | assumption | rfl) ?_
  refine V_getR rfl (deck_cd (by first | assumption | rfl)) ?_
  refine V_aload_n rfl rfl (by first | assumption | rfl) ?_
  refine V_gi 0 rfl (deck_sz (by first | assumption | rfl)) rfl ?_
  -- at 8: .invokestatic 29
  rw [h0]
  refine V_cS rfl rfl rfl rfl (c_unl (deck_ar ha) (deck_b1 ha) rfl hg hn hb) ?_
  refine V_iret rfl rfl ?_
  exact Rt.rf
theorem c_unlF {S : mScr} {dep a : Nat} {cs : List Nat} {h : Hp} (hD : LDK h a cs) : Cal S (dep + 1) 51 [.ref a] h (Rt (nI (unl cs cs.length)) h) := by
  obtain ⟨ha, hn, h0, hg, hb⟩ := id hD
  have hb1 := ld_b ha
  show V S (dep + 1) 51 0 [.ref a] [] h _
  refine V_aload_n rfl rfl (by first | assumption | rfl) ?_
  refine V_getR rfl (ld_fm (by first | assumption | rfl)) ?_
  refine V_aload_n rfl rfl (by first | assumption | rfl) ?_
  refine V_gi 0 rfl (ld_sz (by first | assumption | rfl)) rfl ?_
  -- at 8: .invokestatic 25
  rw [h0]
  refine V_cS rfl rfl rfl rfl (c_unl (ld_ar ha) (ld_b1 ha) rfl hg hn hb) ?_
  refine V_iret rfl rfl ?_
  exact Rt.rf
/-- the first place of x, none -/
def fstO (xs : List Nat) (x : Nat) : Nat → Int32
  | 0 => -1
  | k + 1 => if xs.getD (xs.length - (k + 1)) 0 = x then nI (xs.length - (k + 1)) else fstO xs x k
theorem c_fst {S : mScr} {dep a x : Nat} {cs : List Nat} {h : Hp} (hD : DK h a cs) (hx : x < 2 ^ 21) : Cal S dep 14 [.ref a, .int (nI x)] h (Rt (fstO cs x cs.length) h) := by
  obtain ⟨ha, hn, h0, hg, hb⟩ := id hD
  have hb1 := deck_b ha
  show V S dep 14 0 [.ref a, .int (nI x), .null] [] h _
  refine V_ic (v := nI 0) rfl rfl ?_
  refine V_istore_n (L' := [_, _, _]) rfl rfl rfl ?_
  -- at 2: .iload_n 2
  have lp := loopUp (P := fun j => fstO cs x (cs.length - j) = fstO cs x cs.length → V S dep 14 2 [.ref a, .int (nI x), .int (nI j)] [] h (Rt (fstO cs x cs.length) h)) cs.length ?_ ?_ 0 (Nat.zero_le _)
  · exact lp rfl
  · intro hq
    refine V_iload_n rfl rfl ?_
    refine V_aload_n rfl rfl (by first | assumption | rfl) ?_
    refine V_gi 0 rfl (deck_sz (by first | assumption | rfl)) rfl ?_
    -- at 7: .if_icmp .ge 21
    refine V_icmp_ge rfl (fun hc => ?_) (fun hc => ?_)
    · refine V_ic (v := -1) rfl rfl ?_
      -- at 29: .ireturn
      refine V_iret rfl rfl ?_
      rw [← hq, Nat.sub_self]
      exact Rt.rf
    · exact absurd (by rw [h0]; exact nI_le (Nat.le_refl _) (by omega)) hc
  · intro j hj ih hq
    obtain ⟨d, hd⟩ : ∃ d, cs.length - j = d + 1 := ⟨cs.length - j - 1, by omega⟩
    rw [hd, fstO, show cs.length - (d + 1) = j by omega] at hq
    refine V_iload_n rfl rfl ?_
    refine V_aload_n rfl rfl (by first | assumption | rfl) ?_
    refine V_gi 0 rfl (deck_sz (by first | assumption | rfl)) rfl ?_
    -- at 7: .if_icmp .ge 21
    refine V_icmp_ge rfl (fun hc => ?_) (fun hc => ?_)
    · exact absurd hc (by rw [h0]; exact nI_ge hj (by omega))
    · refine V_aload_n rfl rfl (by first | assumption | rfl) ?_
      refine V_getR rfl (deck_cd (by first | assumption | rfl)) ?_
      refine V_iload_n rfl rfl ?_
      refine V_al 7 rfl (deck_ar (by first | assumption | rfl)) (by first | with_reducible rfl | assumption | exact nI_sub (by omega) | exact nI_add _ _) (by first | omega | assumption) rfl ?_
      refine V_iload_n rfl rfl ?_
      -- at 17: .if_icmp .ne 5
      rw [hg j hj]
      refine V_icmp_ne rfl (fun he => ?_) (fun he => ?_)
      · have he : ¬ cs.getD j 0 = x := fun q => he (by rw [q])
        rw [if_neg he] at hq
        refine V_iinc (L' := [_, _, _]) rfl rfl rfl ?_
        refine V_goto rfl ?_
        -- at 2: .iload_n 2
        rw [show Int32.ofInt 1 = nI 1 from rfl, nI_add]
        exact ih (by rw [show cs.length - (j + 1) = d by omega]; exact hq)
      · have he : nI (cs.getD j 0) = nI x := Decidable.of_not_not he
        have he := nI_inj (Nat.lt_trans (getD_lt hb (by decide)) (by decide)) (by omega) he
        rw [if_pos he] at hq
        refine V_iload_n rfl rfl ?_
        -- at 21: .ireturn
        refine V_iret rfl rfl ?_
        rw [← hq]
        exact Rt.rf
/-- two sorted rows: the class's way through them -/
def adv (o : List Nat) (x : Nat) : Nat → Nat → Nat
  | 0, t => t
  | f + 1, t => if t < o.length ∧ o.getD t 0 < x then adv o x f (t + 1) else t
def shr (c o : List Nat) : Nat → Nat × Nat
  | 0 => (0, 0)
  | i + 1 => if adv o (c.getD i 0) o.length (shr c o i).2 < o.length ∧ o.getD (adv o (c.getD i 0) o.length (shr c o i).2) 0 = c.getD i 0 then ((shr c o i).1 + 1, adv o (c.getD i 0) o.length (shr c o i).2 + 1) else ((shr c o i).1, adv o (c.getD i 0) o.length (shr c o i).2)
theorem adv_fuel {o : List Nat} {x : Nat} : ∀ f g t, o.length ≤ t + f → o.length ≤ t + g → adv o x f t = adv o x g t := by
  intro f
  induction f with
  | zero =>
    intro g t h1 h2
    cases g with
    | zero => rfl
    | succ g => rw [adv, adv, if_neg (by omega)]
  | succ f ih =>
    intro g t h1 h2
    cases g with
    | zero => rw [adv, adv, if_neg (by omega)]
    | succ g =>
      rw [adv, adv]
      split
      · exact ih g (t + 1) (by omega) (by omega)
      · rfl
theorem adv_le {o : List Nat} {x : Nat} : ∀ f t, t ≤ o.length → adv o x f t ≤ o.length := by
  intro f
  induction f with
  | zero => intro t h; exact h
  | succ f ih =>
    intro t h
    rw [adv]
    split
    · exact ih _ (by omega)
    · exact h
theorem shr_le (c o : List Nat) (i : Nat) : (shr c o i).2 ≤ o.length ∧ (shr c o i).1 ≤ i := by
  induction i with
  | zero => simp [shr]
  | succ i ih =>
    rw [shr]
    have := adv_le (x := c.getD i 0) o.length _ ih.1
    split
    · exact ⟨by omega, by simpa using ih.2⟩
    · exact ⟨this, Nat.le_succ_of_le ih.2⟩
theorem c_shr {S : mScr} {dep a b : Nat} {cs os : List Nat} {h : Hp} (hD : DK h a cs) (hO : DK h b os) : Cal S dep 15 [.ref a, .ref b] h (Rt (nI (if cs.length = os.length then (shr cs os cs.length).1 else 0)) h) := by
  obtain ⟨ha, hn, h0, hg, hb⟩ := id hD
  obtain ⟨ha', hn', h0', hg', hb'⟩ := id hO
  have hb1 := deck_b ha
  have hb2 := deck_b ha'
  have hgd : ∀ i, cs.getD i 0 < 2 ^ 31 := fun i => Nat.lt_trans (getD_lt hb (by decide)) (by decide)
  have hgo : ∀ i, os.getD i 0 < 2 ^ 31 := fun i => Nat.lt_trans (getD_lt hb' (by decide)) (by decide)
  show V S dep 15 0 [.ref a, .ref b, .null, .null, .null] [] h _
  refine V_aload_n rfl rfl hb1 ?_
  refine V_gi 0 rfl (deck_sz ha) rfl ?_
  refine V_aload_n rfl rfl hb2 ?_
  refine V_gi 0 rfl (deck_sz ha') rfl ?_
  rw [h0, h0']
  refine V_icmp_eq rfl (fun hc => ?_) (fun hc => ?_)
  · have hc := nI_inj (by omega) (by omega) hc
    rw [if_pos hc]
    refine V_ic (v := nI 0) rfl rfl ?_
    refine V_istore_n (L' := [_, _, _, _, _]) rfl rfl rfl ?_
    refine V_ic (v := nI 0) rfl rfl ?_
    refine V_istore_n (L' := [_, _, _, _, _]) rfl rfl rfl ?_
    refine V_ic (v := nI 0) rfl rfl ?_
    refine V_istore (L' := [_, _, _, _, _]) rfl rfl rfl ?_
    -- at 20: .iload 4
    refine loopUp (P := fun j => V S dep 15 20 [.ref a, .ref b, .int (nI (shr cs os j).1), .int (nI (shr cs os j).2), .int (nI j)] [] h (Rt (nI (shr cs os cs.length).1) h)) cs.length ?_ ?_ 0 (Nat.zero_le _)
    · refine V_iload rfl rfl ?_
      refine V_aload_n rfl rfl hb1 ?_
      refine V_gi 0 rfl (deck_sz ha) rfl ?_
      refine V_icmp_ge rfl (fun hd => ?_) (fun hd => ?_)
      · refine V_iload_n rfl rfl ?_
        -- at 96: .ireturn
        refine V_iret rfl rfl ?_
        exact Rt.rf
      · exact absurd (by rw [h0]; exact nI_le (Nat.le_refl _) (by omega)) hd
    · intro j hj ih
      have hle := (shr_le cs os j).1
      refine V_iload rfl rfl ?_
      refine V_aload_n rfl rfl hb1 ?_
      refine V_gi 0 rfl (deck_sz ha) rfl ?_
      refine V_icmp_ge rfl (fun hd => ?_) (fun hd => ?_)
      · exact absurd hd (by rw [h0]; exact nI_ge hj (by omega))
      · have fin : ∀ t, t ≤ os.length → t = adv os (cs.getD j 0) os.length (shr cs os j).2 → V S dep 15 59 [.ref a, .ref b, .int (nI (shr cs os j).1), .int (nI t), .int (nI j)] [] h (Rt (nI (shr cs os cs.length).1) h) := by
          intro t ht hte
          have no : ¬ (t < os.length ∧ os.getD t 0 = cs.getD j 0) → V S dep 15 89 [.ref a, .ref b, .int (nI (shr cs os j).1), .int (nI t), .int (nI j)] [] h (Rt (nI (shr cs os cs.length).1) h) := by
            intro hno
            refine V_iinc (L' := [_, _, _, _, _]) rfl rfl rfl ?_
            refine V_goto rfl ?_
            -- at 20: .iload 4
            refine V_L ?_ ih
            rw [shr, ← hte, if_neg hno, nI_succ]; rfl
          refine V_iload_n rfl rfl ?_
          refine V_aload_n rfl rfl hb1 ?_
          refine V_gi 0 rfl (deck_sz ha) rfl ?_
          rw [h0]
          refine V_icmp_ge rfl (fun he => ?_) (fun he => ?_)
          · exact no (fun q => absurd he (nI_ge (show t < cs.length by omega) (by omega)))
          · have he := nI_ngt (by omega) (by omega) he
            refine V_aload_n rfl rfl hb2 ?_
            refine V_getR rfl (deck_cd ha') ?_
            refine V_iload_n rfl rfl ?_
            refine V_al 7 rfl (deck_ar ha') rfl (by omega) rfl ?_
            refine V_aload_n rfl rfl hb1 ?_
            refine V_getR rfl (deck_cd ha) ?_
            refine V_iload rfl rfl ?_
            refine V_al 7 rfl (deck_ar ha) rfl (by omega) rfl ?_
            rw [hg j hj, hg' t (by omega)]
            refine V_icmp_ne rfl (fun hf => ?_) (fun hf => ?_)
            · exact no (fun q => hf (by rw [q.2]))
            · have hf := nI_inj (hgo _) (hgd _) (Decidable.of_not_not hf)
              refine V_iinc (L' := [_, _, _, _, _]) rfl rfl rfl ?_
              refine V_iinc (L' := [_, _, _, _, _]) rfl rfl rfl ?_
              refine V_iinc (L' := [_, _, _, _, _]) rfl rfl rfl ?_
              refine V_goto rfl ?_
              -- at 20: .iload 4
              refine V_L ?_ ih
              rw [shr, ← hte, if_pos ⟨by omega, hf⟩, nI_succ, nI_succ, nI_succ]; rfl
        have lq : ∀ f t, t ≤ os.length → os.length ≤ t + f → adv os (cs.getD j 0) f t = adv os (cs.getD j 0) os.length (shr cs os j).2 → V S dep 15 29 [.ref a, .ref b, .int (nI (shr cs os j).1), .int (nI t), .int (nI j)] [] h (Rt (nI (shr cs os cs.length).1) h) := by
          intro f
          induction f with
          | zero =>
            intro t ht htf hte
            refine V_iload_n rfl rfl ?_
            refine V_aload_n rfl rfl hb1 ?_
            refine V_gi 0 rfl (deck_sz ha) rfl ?_
            rw [h0]
            refine V_icmp_ge rfl (fun he => ?_) (fun he => ?_)
            · exact fin t ht hte
            · exact absurd (nI_le (show cs.length ≤ t by omega) (by omega)) he
          | succ f ihf =>
            intro t ht htf hte
            refine V_iload_n rfl rfl ?_
            refine V_aload_n rfl rfl hb1 ?_
            refine V_gi 0 rfl (deck_sz ha) rfl ?_
            rw [h0]
            refine V_icmp_ge rfl (fun he => ?_) (fun he => ?_)
            · have he : cs.length ≤ t := (nI_leI (by omega) (by omega)).mp he
              rw [adv, if_neg (by omega)] at hte
              exact fin t ht hte
            · have he := nI_ngt (by omega) (by omega) he
              refine V_aload_n rfl rfl hb2 ?_
              refine V_getR rfl (deck_cd ha') ?_
              refine V_iload_n rfl rfl ?_
              refine V_al 7 rfl (deck_ar ha') rfl (by omega) rfl ?_
              refine V_aload_n rfl rfl hb1 ?_
              refine V_getR rfl (deck_cd ha) ?_
              refine V_iload rfl rfl ?_
              refine V_al 7 rfl (deck_ar ha) rfl (by omega) rfl ?_
              rw [hg j hj, hg' t (by omega)]
              refine V_icmp_ge rfl (fun hf => ?_) (fun hf => ?_)
              · have hf := (nI_leI (hgd _) (hgo _)).mp hf
                rw [adv, if_neg (by omega)] at hte
                exact fin t ht hte
              · have hf := nI_ngt (hgd _) (hgo _) hf
                rw [adv, if_pos ⟨by omega, hf⟩] at hte
                refine V_iinc (L' := [_, _, _, _, _]) rfl rfl rfl ?_
                refine V_goto rfl ?_
                -- at 29: .iload_n 3
                rw [show Int32.ofInt 1 = nI 1 from rfl, nI_add]
                exact ihf (t + 1) (by omega) (by omega) hte
        exact lq os.length _ hle (by omega) rfl
  · have hc : ¬ cs.length = os.length := fun q => hc (by rw [q])
    rw [if_neg hc]
    refine V_ic (v := nI 0) rfl rfl ?_
    -- at 12: .ireturn
    refine V_iret rfl rfl ?_
    exact Rt.rf
