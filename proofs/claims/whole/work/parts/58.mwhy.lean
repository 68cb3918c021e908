/-! the reference: what cards tell, answers, reasons -/
theorem m_toldL {S : mScr} {dep : Nat} {cs : List Nat} {h : Hp} (hA : AL h 195 cs) (hW : WD cs) : Cal S (dep + 2) 244 [.ref 188, .int (nI cs.length)] h (Rt (oI (tldL cs)) h) := by
  obtain ⟨hw2, hw7, hws, hwx⟩ := id hW
  have hb : ∀ x ∈ cs, x < 2 ^ 21 := fun x hx => c21 (by omega) (hwx x hx).1
  have hsl := sumL_le hb cs.length
  have hsl2 : 21 * cs.length ≤ 21 * 7 := Nat.mul_le_mul_left _ hw7
  show V S (dep + 2) 244 0 [.ref 188, .int (nI cs.length), .null, .null] [] h _
  refine V_ic (v := nI 0) rfl rfl ?_
  refine V_istore_n (L' := [_, _, _, _]) rfl rfl rfl ?_
  refine V_ic (v := nI 0) rfl rfl ?_
  refine V_istore_n (L' := [_, _, _, _]) rfl rfl rfl ?_
  -- at 4: .iload_n 3
  have lp := loopUp (P := fun k => V S (dep + 2) 244 4 [.ref 188, .int (nI cs.length), .int (nI (sumL cs k)), .int (nI k)] [] h (Rt (oI (tldL cs)) h)) cs.length ?_ ?_ 0 (Nat.zero_le _)
  · exact lp
  · refine V_iload_n rfl rfl ?_
    refine V_iload_n rfl rfl ?_
    -- at 6: .if_icmp .ge 21
    refine V_icmp_ge rfl (fun hc => ?_) (fun hc => ?_)
    · refine V_iload_n rfl rfl ?_
      refine V_ic (v := nI 2) rfl rfl ?_
      -- at 29: .if_icmp .eq 11
      refine V_icmp_eq rfl (fun hd => ?_) (fun hd => ?_)
      · have hd := nI_inj (by omega) (by omega) hd
        refine V_ic (v := -1) rfl rfl ?_
        refine V_goto rfl ?_
        -- at 49: .ireturn
        refine V_iret rfl rfl ?_
        exact Rt.of (by unfold tldL; rw [if_pos (by omega)]; rfl)
      · have hd : ¬ cs.length = 2 := fun q => hd (by rw [q])
        have hz : ¬ nI (cs.length - 2) = 0 := nI_ne0 (by omega) (by omega)
        have hml := Nat.mod_lt (sumL cs cs.length) (show 0 < cs.length - 2 by omega)
        refine V_iload_n rfl rfl ?_
        refine V_iload_n rfl rfl ?_
        refine V_ic (v := nI 2) rfl rfl ?_
        refine V_isub rfl ?_
        -- at 36: .irem
        rw [nI_sub (by omega)]
        refine V_irem rfl (by first | assumption | decide | omega) ?_
        -- at 37: .ifCond .eq 7
        rw [nI_rem (by omega) (by omega) (by omega)]
        refine V_if_eq rfl (fun he => ?_) (fun he => ?_)
        · have he := nI_inj (b := 0) (by omega) (by omega) he
          refine V_iload_n rfl rfl ?_
          refine V_iload_n rfl rfl ?_
          refine V_ic (v := nI 2) rfl rfl ?_
          refine V_isub rfl ?_
          -- at 48: .idiv
          rw [nI_sub (by omega)]
          refine V_idiv rfl (by first | assumption | decide | omega) ?_
          -- at 49: .ireturn
          rw [nI_div2 (by omega) (by omega) (by omega)]
          refine V_iret rfl rfl ?_
          exact Rt.of (by unfold tldL; rw [if_neg (by omega), if_pos he]; rfl)
        · have he : ¬ sumL cs cs.length % (cs.length - 2) = 0 := fun q => he (by rw [q]; rfl)
          refine V_ic (v := -1) rfl rfl ?_
          refine V_goto rfl ?_
          -- at 49: .ireturn
          refine V_iret rfl rfl ?_
          exact Rt.of (by unfold tldL; rw [if_neg (by omega), if_neg he]; rfl)
    · exact absurd (nI_le (Nat.le_refl _) (by omega)) hc
  · intro k hk ih
    rw [sumL] at ih
    have h1 : cs.getD k 0 < 2 ^ 21 := hb _ (getD_mem hk)
    refine V_iload_n rfl rfl ?_
    refine V_iload_n rfl rfl ?_
    -- at 6: .if_icmp .ge 21
    refine V_icmp_ge rfl (fun hc => ?_) (fun hc => ?_)
    · exact absurd hc (nI_ge hk (by omega))
    · refine V_iload_n rfl rfl ?_
      refine V_aload_n rfl rfl rfl ?_
      refine V_getR (r := 195) rfl rfl ?_
      refine V_iload_n rfl rfl ?_
      refine V_al 7 rfl rfl (by first | with_reducible rfl | assumption | exact nI_sub (by omega) | exact nI_add _ _) (by first | omega | assumption) rfl ?_
      -- at 16: .invokestatic 232
      rw [hA k hk]
      refine V_cS rfl rfl rfl rfl (m_lines (by omega)) ?_
      refine V_iadd rfl ?_
      -- at 20: .istore_n 2
      rw [nI_add]
      refine V_istore_n (L' := [_, _, _, _]) rfl rfl rfl ?_
      refine V_iinc (L' := [_, _, _, _]) rfl rfl rfl ?_
      refine V_goto rfl ?_
      -- at 4: .iload_n 3
      rw [show Int32.ofInt 1 = nI 1 from rfl, nI_add]
      exact ih
theorem m_toldO {S : mScr} {dep m p : Nat} {cs : List Nat} {h : Hp} (hA : AL h 195 cs) (hW : WD cs) (hm : m < cs.length) (hp : p < 2 ^ 21) : Cal S (dep + 13) 245 [.ref 188, .int (nI cs.length), .int (nI m), .int (nI p)] h (fun q h' => q = some (.int (oI (shO (pts cs m p) (cs.length - m)))) ∧ MF [6, 7] [192, 193] h h') := by
  obtain ⟨hw2, hw7, hws, hwx⟩ := id hW
  obtain ⟨F, hF⟩ : ∃ F : Nat → Nat, F = fun i => prt m p (cs.length - 1) (cs.getD i 0) := ⟨_, rfl⟩
  have hFb : sumN F cs.length ≤ cs.length * 128 := sumN_le (fun i hi => by rw [hF]; exact prt_le (by omega))
  have hFb2 : cs.length * 128 ≤ 7 * 128 := Nat.mul_le_mul_right _ hw7
  unfold pts
  rw [← hF]
  show V S (dep + 13) 245 0 [.ref 188, .int (nI cs.length), .int (nI m), .int (nI p), .null, .null] [] h _
  refine V_ic (v := nI 0) rfl rfl ?_
  refine V_istore (L' := [_, _, _, _, _, _]) rfl rfl rfl ?_
  refine V_ic (v := nI 0) rfl rfl ?_
  refine V_istore (L' := [_, _, _, _, _, _]) rfl rfl rfl ?_
  -- at 6: .iload 5
  have lp := loopUp (P := fun k => ∀ h1, MF [6, 7] [192, 193] h h1 → V S (dep + 13) 245 6 [.ref 188, .int (nI cs.length), .int (nI m), .int (nI p), .int (nI (sumN F k)), .int (nI k)] [] h1 (fun q h' => q = some (.int (oI (shO (sumN F cs.length) (cs.length - m)))) ∧ MF [6, 7] [192, 193] h h')) cs.length ?_ ?_ 0 (Nat.zero_le _)
  · exact lp h MF.rf
  · intro h1 f1
    have hz : ¬ nI (cs.length - m) = 0 := nI_ne0 (by omega) (by omega)
    have hml := Nat.mod_lt (sumN F cs.length) (show 0 < cs.length - m by omega)
    refine V_iload rfl rfl ?_
    refine V_iload_n rfl rfl ?_
    -- at 9: .if_icmp .ge 30
    refine V_icmp_ge rfl (fun hc => ?_) (fun hc => ?_)
    · refine V_iload rfl rfl ?_
      refine V_iload_n rfl rfl ?_
      refine V_iload_n rfl rfl ?_
      refine V_isub rfl ?_
      -- at 44: .irem
      rw [nI_sub (by omega)]
      refine V_irem rfl (by first | assumption | decide | omega) ?_
      -- at 45: .ifCond .eq 7
      rw [nI_rem (by omega) (by omega) (by omega)]
      refine V_if_eq rfl (fun hd => ?_) (fun hd => ?_)
      · have hd := nI_inj (b := 0) (by omega) (by omega) hd
        refine V_iload rfl rfl ?_
        refine V_iload_n rfl rfl ?_
        refine V_iload_n rfl rfl ?_
        refine V_isub rfl ?_
        -- at 57: .idiv
        rw [nI_sub (by omega)]
        refine V_idiv rfl (by first | assumption | decide | omega) ?_
        -- at 58: .ireturn
        rw [nI_div2 (by omega) (by omega) (by omega)]
        refine V_iret rfl rfl ?_
        exact ⟨by unfold shO; rw [if_pos hd]; rfl, f1⟩
      · have hd : ¬ sumN F cs.length % (cs.length - m) = 0 := fun q => hd (by rw [q]; rfl)
        refine V_ic (v := -1) rfl rfl ?_
        refine V_goto rfl ?_
        -- at 58: .ireturn
        refine V_iret rfl rfl ?_
        exact ⟨by unfold shO; rw [if_neg hd]; rfl, f1⟩
    · exact absurd (nI_le (Nat.le_refl _) (by omega)) hc
  · intro k hk ih h1 f1
    rw [sumN] at ih
    have hFk : F k = prt m p (cs.length - 1) (cs.getD k 0) := by rw [hF]
    have hA1 := hA.mf f1 (by simp) (by decide)
    refine V_iload rfl rfl ?_
    refine V_iload_n rfl rfl ?_
    -- at 9: .if_icmp .ge 30
    refine V_icmp_ge rfl (fun hc => ?_) (fun hc => ?_)
    · exact absurd hc (nI_ge hk (by omega))
    · refine V_iload rfl rfl ?_
      refine V_aload_n rfl rfl rfl ?_
      refine V_iload_n rfl rfl ?_
      refine V_iload_n rfl rfl ?_
      refine V_iload_n rfl rfl ?_
      refine V_ic (v := nI 1) rfl rfl ?_
      refine V_isub rfl ?_
      refine V_aload_n rfl rfl rfl ?_
      refine V_getR (r := 195) rfl rfl ?_
      refine V_iload rfl rfl ?_
      refine V_al 7 rfl rfl (by first | with_reducible rfl | assumption | exact nI_sub (by omega) | exact nI_add _ _) (by first | omega | assumption) rfl ?_
      -- at 27: .invokevirtual 271
      rw [nI_sub (by omega), hA1 k hk]
      refine V_callV rfl rfl rfl rfl rfl (m_prt (by omega) (hW.at hk) (by omega) hp) ?_
      rintro _ h2 ⟨rfl, f2⟩
      show V S (dep + 13) 245 30 [.ref 188, .int (nI cs.length), .int (nI m), .int (nI p), .int (nI (sumN F k)), .int (nI k)] [.int (nI (prt m p (cs.length - 1) (cs.getD k 0))), .int (nI (sumN F k))] h2 _
      refine V_iadd rfl ?_
      -- at 31: .istore 4
      rw [nI_add, ← hFk]
      refine V_istore (L' := [_, _, _, _, _, _]) rfl rfl rfl ?_
      refine V_iinc (L' := [_, _, _, _, _, _]) rfl rfl rfl ?_
      refine V_goto rfl ?_
      -- at 6: .iload 5
      rw [show Int32.ofInt 1 = nI 1 from rfl, nI_add]
      exact ih h2 (f1.tr f2)
def mfd (cs : List Nat) : Nat → List Nat
  | 0 => []
  | j + 1 => if okA cs j = true ∧ frm cs.length (acd cs j) ∉ mfd cs j then mfd cs j ++ [frm cs.length (acd cs j)] else mfd cs j
theorem mfd_len (cs : List Nat) : ∀ j, (mfd cs j).length ≤ j := by
  intro j
  induction j with
  | zero => exact Nat.le_refl _
  | succ j ih =>
    rw [mfd]
    split
    · rw [List.length_append]; exact Nat.succ_le_succ ih
    · omega
theorem fnd_ss (cs : List Nat) : ∀ j, SSrt (fnd cs j) := by
  intro j
  induction j with
  | zero => exact List.Pairwise.nil
  | succ j ih =>
    rw [fnd]; split
    · exact insU_ss ih
    · exact ih
theorem mfd_nd (cs : List Nat) : ∀ j, (mfd cs j).Nodup := by
  intro j
  induction j with
  | zero => exact List.nodup_nil
  | succ j ih =>
    rw [mfd]; split
    · rename_i h
      exact (List.perm_append_singleton _ _).nodup_iff.mpr (List.nodup_cons.mpr ⟨h.2, ih⟩)
    · exact ih
theorem mfd_mem (cs : List Nat) : ∀ j z, z ∈ mfd cs j ↔ z ∈ fnd cs j := by
  intro j
  induction j with
  | zero => intro z; exact Iff.rfl
  | succ j ih =>
    intro z
    rw [mfd, fnd]
    cases ho : okA cs j with
    | false => simp; exact ih z
    | true =>
      rw [if_pos rfl, insU_mem, ← ih]
      by_cases q : frm cs.length (acd cs j) ∈ mfd cs j
      · rw [if_neg (fun z => z.2 q)]
        exact ⟨Or.inr, fun h => h.elim (fun e => e ▸ q) id⟩
      · rw [if_pos ⟨rfl, q⟩, List.mem_append]
        simp
        exact ⟨fun h => h.elim Or.inr Or.inl, fun h => h.elim Or.inr Or.inl⟩
theorem mfd_ans (cs : List Nat) : srt (mfd cs (2 ^ (cs.length - 1))) = ansL cs := (srt_eq (ss_srtd (fnd_ss cs _))).mpr (nodup_perm (mfd_nd cs _) (ss_nodup (fnd_ss cs _)) (mfd_mem cs _))
theorem mfd_b {cs : List Nat} (h7 : cs.length ≤ 7) : ∀ j, ∀ x ∈ mfd cs j, x < 2 ^ tri cs.length := by
  intro j
  induction j with
  | zero => intro x hx; simp [mfd] at hx
  | succ j ih =>
    intro x hx
    rw [mfd] at hx
    split at hx
    · rw [List.mem_append] at hx
      rcases hx with h | h
      · exact ih x h
      · simp at h; rw [h]; exact frm_lt h7
    · exact ih x hx
theorem ans_b {cs : List Nat} (h7 : cs.length ≤ 7) : ∀ x ∈ ansL cs, x < 2 ^ tri cs.length := fun x hx => mfd_b h7 _ x ((mfd_mem cs _ x).mpr hx)
theorem m_ans {S : mScr} {dep : Nat} {cs : List Nat} {h : Hp} (hA : AL h 195 cs) (hW : WD cs) : Cal S (dep + 13) 247 [.ref 188, .int (nI cs.length)] h (fun q h' => q = some (.int (nI (ansL cs).length)) ∧ AL h' 206 (ansL cs) ∧ MF [6, 7] [192, 193, 206, 207] h h') := by
  obtain ⟨hw2, hw7, hws, hwx⟩ := id hW
  have hb : ∀ x ∈ cs, x < 2 ^ 21 := fun x hx => c21 (by omega) (hwx x hx).1
  have hL : (2 : Nat) ^ (cs.length - 1) ≤ 64 := Nat.pow_le_pow_right (n := 2) (j := 6) (by decide) (by omega)
  obtain ⟨Q, hQ⟩ : ∃ Q : Option Value → Hp → Prop, Q = fun q h' => q = some (.int (nI (ansL cs).length)) ∧ AL h' 206 (ansL cs) ∧ MF [6, 7] [192, 193, 206, 207] h h' := ⟨_, rfl⟩
  rw [← hQ]
  show V S (dep + 13) 247 0 [.ref 188, .int (nI cs.length), .null, .null, .null, .null, .null, .null, .null] [] h _
  refine V_ic (v := nI 0) rfl rfl ?_
  refine V_istore_n (L' := [_, _, _, _, _, _, _, _, _]) rfl rfl rfl ?_
  refine V_ic (v := nI 0) rfl rfl ?_
  refine V_istore_n (L' := [_, _, _, _, _, _, _, _, _]) rfl rfl rfl ?_
  -- at 4: .iload_n 3
  have lp := loopUp (P := fun j => ∀ h1 v4 v5 v6 v7 v8, MF [6, 7] [192, 193, 206, 207] h h1 → AL h1 206 (mfd cs j) → Nat.beq v4.category 1 = true → Nat.beq v5.category 1 = true → Nat.beq v6.category 1 = true → Nat.beq v7.category 1 = true → V S (dep + 13) 247 4 [.ref 188, .int (nI cs.length), .int (nI (mfd cs j).length), .int (nI j), v4, v5, v6, v7, v8] [] h1 Q) (2 ^ (cs.length - 1)) ?_ ?_ 0 (Nat.zero_le _)
  · exact lp h _ _ _ _ _ MF.rf (fun i hi => by simp [mfd] at hi) rfl rfl rfl rfl
  · intro h1 v4 v5 v6 v7 v8 f1 e1 _ _ _ _
    have hml := mfd_len cs (2 ^ (cs.length - 1))
    refine V_iload_n rfl rfl ?_
    refine V_ic (v := nI 1) rfl rfl ?_
    refine V_iload_n rfl rfl ?_
    refine V_ic (v := nI 1) rfl rfl ?_
    refine V_isub rfl ?_
    refine V_ishl rfl ?_
    -- at 10: .if_icmp .ge 165
    rw [nI_sub (by omega), nI_2p _ (by omega)]
    refine V_icmp_ge rfl (fun hc => ?_) (fun hc => ?_)
    · refine V_aload_n rfl rfl rfl ?_
      refine V_getR (r := 206) rfl rfl ?_
      refine V_iload_n rfl rfl ?_
      -- at 180: .invokestatic 212
      refine V_callS rfl rfl rfl rfl (m_srt (r := 206) (N := 64) rfl rfl rfl e1 (by omega) (fun x hx => Nat.lt_trans (c21 hw7 (mfd_b hw7 _ x hx)) (by decide))) ?_
      rintro _ h2 ⟨rfl, hA2, _, f2⟩
      show V S (dep + 13) 247 183 [.ref 188, .int (nI cs.length), .int (nI (mfd cs (2 ^ (cs.length - 1))).length), .int (nI (2 ^ (cs.length - 1))), v4, v5, v6, v7, v8] [] h2 _
      refine V_iload_n rfl rfl ?_
      -- at 184: .ireturn
      refine V_iret rfl rfl ?_
      rw [hQ]
      rw [mfd_ans] at hA2
      refine ⟨?_, hA2, f1.tr (MF.of f2 (by simp) (by decide))⟩
      rw [← mfd_ans, srt_len]
    · exact absurd (nI_le (Nat.le_refl _) (by omega)) hc
  · intro j hj ih h1 v4 v5 v6 v7 v8 f1 e1 c4 c5 c6 c7
    have hml := mfd_len cs j
    have hA1 := hA.mf f1 (by simp) (by decide)
    have next : ∀ h2 l v5 v6 v7 v8, l = mfd cs (j + 1) → MF [6, 7] [192, 193, 206, 207] h h2 → AL h2 206 l → Nat.beq v5.category 1 = true → Nat.beq v6.category 1 = true → Nat.beq v7.category 1 = true → V S (dep + 13) 247 169 [.ref 188, .int (nI cs.length), .int (nI l.length), .int (nI j), .int (nI (acd cs j)), v5, v6, v7, v8] [] h2 Q := by
      intro h2 l v5 v6 v7 v8 e f2 e2 c5 c6 c7
      rw [e] at e2 ⊢
      refine V_iinc (L' := [_, _, _, _, _, _, _, _, _]) rfl rfl rfl ?_
      refine V_goto rfl ?_
      -- at 4: .iload_n 3
      rw [show Int32.ofInt 1 = nI 1 from rfl, nI_add]
      exact ih h2 _ _ _ _ _ f2 e2 rfl c5 c6 c7
    refine V_iload_n rfl rfl ?_
    refine V_ic (v := nI 1) rfl rfl ?_
    refine V_iload_n rfl rfl ?_
    refine V_ic (v := nI 1) rfl rfl ?_
    refine V_isub rfl ?_
    refine V_ishl rfl ?_
    -- at 10: .if_icmp .ge 165
    rw [nI_sub (by omega), nI_2p _ (by omega)]
    refine V_icmp_ge rfl (fun hc => ?_) (fun hc => ?_)
    · exact absurd hc (nI_ge hj (by omega))
    · refine V_aload_n rfl rfl rfl ?_
      refine V_getR (r := 195) rfl rfl ?_
      refine V_ic (v := nI 0) rfl rfl ?_
      refine V_al 7 rfl rfl (by first | with_reducible rfl | assumption | exact nI_sub (by omega) | exact nI_add _ _) (by first | omega | assumption) rfl ?_
      refine V_iload_n rfl rfl ?_
      refine V_iload_n rfl rfl ?_
      refine V_ic (v := nI 1) rfl rfl ?_
      refine V_isub rfl ?_
      refine V_iload_n rfl rfl ?_
      refine V_ic (v := nI 2) rfl rfl ?_
      refine V_isub rfl ?_
      refine V_imul rfl ?_
      refine V_ic (v := nI 2) rfl rfl ?_
      refine V_idiv rfl (by first | assumption | decide | omega) ?_
      -- at 29: .ishl
      rw [hA1 0 (by omega), show nI cs.length - nI 2 = nI (cs.length - 1) - nI 1 by rw [nI_sub (by omega), nI_sub (by omega)]; rfl, nI_sub (show 1 ≤ cs.length by omega), triI (by omega)]
      have htl := tri_le (n := cs.length - 1) (by omega)
      refine V_ishl rfl ?_
      refine V_ior rfl ?_
      -- at 31: .istore 4
      rw [nI_shl (by omega), nI_or]
      have hcl := acd_lt hW hj
      refine V_istore (L' := [.ref 188, .int (nI cs.length), .int (nI (mfd cs j).length), .int (nI j), .int (nI (acd cs j)), v5, v6, v7, v8]) rfl rfl rfl ?_
      refine V_aload_n rfl rfl rfl ?_
      refine V_iload_n rfl rfl ?_
      refine V_iload rfl rfl ?_
      refine V_aload_n rfl rfl rfl ?_
      refine V_getR (r := 207) rfl rfl ?_
      -- at 41: .invokevirtual 241
      refine V_callV rfl rfl rfl rfl rfl (m_deals (r := 207) hw7 (by omega) hcl rfl rfl (by decide) (by decide) (by decide)) ?_
      rintro _ h2 ⟨rfl, hT2, f2⟩
      show V S (dep + 13) 247 44 [.ref 188, .int (nI cs.length), .int (nI (mfd cs j).length), .int (nI j), .int (nI (acd cs j)), v5, v6, v7, v8] [] h2 _
      have e2 := e1.mf f2 (by simp) (by decide)
      have f2 : MF [6, 7] [192, 193, 206, 207] h h2 := f1.tr (f2.mono (by simp) (by simp))
      have hA2 := hA.mf f2 (by simp) (by decide)
      have hdl : (dck cs.length (acd cs j)).length = cs.length := by unfold dck; rw [srt_len, crds_len]
      have hdb : ∀ x ∈ dck cs.length (acd cs j), x < 2 ^ 21 := fun x hx => crds21 hw7 (srt_mem.mp hx)
      obtain ⟨E, hE⟩ : ∃ E : Nat → Bool, E = fun k => decide ((dck cs.length (acd cs j)).getD k 0 = cs.getD k 0) := ⟨_, rfl⟩
      have hok : allB E cs.length = okA cs j := by
        unfold okA
        rw [Bool.eq_iff_iff, allB_iff, decide_eq_true_eq]
        constructor
        · intro q
          exact list_eq_getD hdl (fun i hi => by have := q i (by omega); rw [hE] at this; exact of_decide_eq_true this)
        · intro q i hi
          rw [hE]; exact decide_eq_true (by rw [q])
      refine V_ic (v := nI 1) rfl rfl ?_
      refine V_istore (L' := [_, _, _, _, _, _, _, _, _]) rfl rfl rfl ?_
      refine V_ic (v := nI 0) rfl rfl ?_
      refine V_istore (L' := [_, _, _, _, _, _, _, _, _]) rfl rfl rfl ?_
      -- at 50: .iload 6
      have lq := loopUp (P := fun k => V S (dep + 13) 247 50 [.ref 188, .int (nI cs.length), .int (nI (mfd cs j).length), .int (nI j), .int (nI (acd cs j)), .int (bI (allB E k)), .int (nI k), v7, v8] [] h2 Q) cs.length ?_ ?_ 0 (Nat.zero_le _)
      · exact lq
      · refine V_iload rfl rfl ?_
        refine V_iload_n rfl rfl ?_
        -- at 53: .if_icmp .ge 38
        refine V_icmp_ge rfl (fun hd => ?_) (fun hd => ?_)
        · rw [hok]
          refine V_iload rfl rfl ?_
          -- at 93: .ifCond .ne 6
          refine V_if_ne rfl (fun he => ?_) (fun he => ?_)
          · have he := bI_nz.mp he
            refine V_aload_n rfl rfl rfl ?_
            refine V_iload_n rfl rfl ?_
            refine V_iload rfl rfl ?_
            -- at 103: .invokevirtual 115
            refine V_callV rfl rfl rfl rfl rfl (m_frm hw7 hcl) ?_
            rintro _ h3 ⟨rfl, f3⟩
            obtain ⟨x, hx⟩ : ∃ x, x = frm cs.length (acd cs j) := ⟨_, rfl⟩
            rw [← hx]
            show V S (dep + 13) 247 106 [.ref 188, .int (nI cs.length), .int (nI (mfd cs j).length), .int (nI j), .int (nI (acd cs j)), .int (bI (okA cs j)), .int (nI cs.length), v7, v8] [.int (nI x)] h3 _
            have hxl : x < 2 ^ 21 := by rw [hx]; exact frm21 hw7
            have e3 := e2.mf f3 (by simp) (by decide)
            have f3 : MF [6, 7] [192, 193, 206, 207] h h3 := f2.tr (f3.mono (by simp) (by simp))
            refine V_istore (L' := [_, _, _, _, _, _, _, _, _]) rfl rfl rfl ?_
            refine V_ic (v := nI 1) rfl rfl ?_
            refine V_istore (L' := [_, _, _, _, _, _, _, _, _]) rfl rfl rfl ?_
            refine V_ic (v := nI 0) rfl rfl ?_
            refine V_istore (L' := [_, _, _, _, _, _, _, _, _]) rfl rfl rfl ?_
            -- at 114: .iload 8
            obtain ⟨G, hG⟩ : ∃ G : Nat → Bool, G = fun k => !decide ((mfd cs j).getD k 0 = x) := ⟨_, rfl⟩
            have lr := loopUp (P := fun k => V S (dep + 13) 247 114 [.ref 188, .int (nI cs.length), .int (nI (mfd cs j).length), .int (nI j), .int (nI (acd cs j)), .int (bI (okA cs j)), .int (nI x), .int (bI (allB G k)), .int (nI k)] [] h3 Q) (mfd cs j).length ?_ ?_ 0 (Nat.zero_le _)
            · exact lr
            · have hGm : allB G (mfd cs j).length = true ↔ x ∉ mfd cs j := by
                rw [allB_iff]
                constructor
                · intro q z
                  obtain ⟨i, hi, ei⟩ := List.mem_iff_getElem.mp z
                  have e4 : (mfd cs j).getD i 0 = x := by rw [List.getD_eq_getElem?_getD, List.getElem?_eq_getElem hi]; exact ei
                  have e5 : G i = !decide ((mfd cs j).getD i 0 = x) := by rw [hG]
                  rw [decide_eq_true e4, q i hi] at e5
                  exact Bool.noConfusion e5
                · intro q i hi
                  rw [hG]
                  have : ¬ (mfd cs j).getD i 0 = x := fun z => q (z ▸ getD_mem hi)
                  simp only [this, decide_false, Bool.not_false]
              refine V_iload rfl rfl ?_
              refine V_iload_n rfl rfl ?_
              -- at 117: .if_icmp .ge 33
              refine V_icmp_ge rfl (fun hf => ?_) (fun hf => ?_)
              · refine V_iload rfl rfl ?_
                -- at 152: .ifCond .ne 6
                refine V_if_ne rfl (fun hl => ?_) (fun hl => ?_)
                · have hl := bI_nz.mp hl
                  have hnm := hGm.mp hl
                  refine V_aload_n rfl rfl rfl ?_
                  refine V_getR (r := 206) rfl rfl ?_
                  refine V_iload_n rfl rfl ?_
                  refine V_iload rfl rfl ?_
                  refine V_as 64 rfl rfl (by first | with_reducible rfl | assumption | exact nI_sub (by omega) | exact nI_add _ _) (by first | omega | assumption) rfl ?_
                  refine V_iinc (L' := [_, _, _, _, _, _, _, _, _]) rfl rfl rfl ?_
                  -- at 169: .iinc 3 1
                  rw [show Int32.ofInt 1 = nI 1 from rfl, nI_add]
                  have := next (wI h3 206 (mfd cs j).length (nI x)) (mfd cs j ++ [x]) (.int (bI (okA cs j))) (.int (nI x)) (.int (bI (allB G (mfd cs j).length))) (.int (nI (mfd cs j).length)) (by rw [mfd, ← hx, if_pos ⟨he, hnm⟩]) (f3.tr (MF.w (by simp) (by decide))) (fun i hi => by
                    rw [List.length_append] at hi
                    have hi : i < (mfd cs j).length + 1 := hi
                    by_cases q : i = (mfd cs j).length
                    · rw [q, wI_same, List.getD_eq_getElem?_getD, List.getElem?_append_right (Nat.le_refl _)]; simp
                    · rw [wI_ne (by omega), List.getD_eq_getElem?_getD, List.getElem?_append_left (by omega), ← List.getD_eq_getElem?_getD]
                      exact e3 i (by omega)) rfl rfl rfl
                  rw [List.length_append] at this
                  exact this
                · have hl := bI_z.mp (Decidable.of_not_not hl)
                  have hmm : x ∈ mfd cs j := Classical.byContradiction (fun q => by rw [hGm.mpr q] at hl; exact Bool.noConfusion hl)
                  refine V_goto rfl ?_
                  -- at 169: .iinc 3 1
                  exact next h3 _ _ _ _ _ (by rw [mfd, ← hx, if_neg (fun q => q.2 hmm)]) f3 e3 rfl rfl rfl
              · exact absurd (nI_le (Nat.le_refl _) (by omega)) hf
            · intro k hk ih2
              have hmk : (mfd cs j).getD k 0 < 2 ^ 21 := c21 hw7 (mfd_b hw7 j _ (getD_mem hk))
              have hGk : G k = !decide ((mfd cs j).getD k 0 = x) := by rw [hG]
              have st : ∀ b : Bool, b = allB G (k + 1) → V S (dep + 13) 247 142 [.ref 188, .int (nI cs.length), .int (nI (mfd cs j).length), .int (nI j), .int (nI (acd cs j)), .int (bI (okA cs j)), .int (nI x), .int (bI (allB G k)), .int (nI k)] [.int (bI b)] h3 Q := by
                intro b e
                refine V_istore (L' := [_, _, _, _, _, _, _, _, _]) rfl rfl rfl ?_
                refine V_iinc (L' := [_, _, _, _, _, _, _, _, _]) rfl rfl rfl ?_
                refine V_goto rfl ?_
                -- at 114: .iload 8
                rw [show Int32.ofInt 1 = nI 1 from rfl, nI_add, e]
                exact ih2
              refine V_iload rfl rfl ?_
              refine V_iload_n rfl rfl ?_
              -- at 117: .if_icmp .ge 33
              refine V_icmp_ge rfl (fun hf => ?_) (fun hf => ?_)
              · exact absurd hf (nI_ge hk (by omega))
              · refine V_iload rfl rfl ?_
                -- at 122: .ifCond .eq 19
                refine V_if_eq rfl (fun hl => ?_) (fun hl => ?_)
                · have hl := bI_z.mp hl
                  refine V_ic (v := nI 0) rfl rfl ?_
                  -- at 142: .istore 7
                  exact st false (by rw [allB, hl]; rfl)
                · have hl := bI_nz.mp hl
                  refine V_aload_n rfl rfl rfl ?_
                  refine V_getR (r := 206) rfl rfl ?_
                  refine V_iload rfl rfl ?_
                  refine V_al 64 rfl rfl (by first | with_reducible rfl | assumption | exact nI_sub (by omega) | exact nI_add _ _) (by first | omega | assumption) rfl ?_
                  refine V_iload rfl rfl ?_
                  -- at 134: .if_icmp .eq 7
                  rw [e3 k hk]
                  refine V_icmp_eq rfl (fun hp => ?_) (fun hp => ?_)
                  · have hp := nI_inj (by omega) (by omega) hp
                    refine V_ic (v := nI 0) rfl rfl ?_
                    -- at 142: .istore 7
                    exact st false (by rw [allB, hl, hGk, decide_eq_true hp]; rfl)
                  · refine V_ic (v := nI 1) rfl rfl ?_
                    refine V_goto rfl ?_
                    -- at 142: .istore 7
                    exact st true (by rw [allB, hl, hGk, decide_eq_false (fun q => hp (by rw [q]))]; rfl)
          · have he := bI_z.mp (Decidable.of_not_not he)
            refine V_goto rfl ?_
            -- at 169: .iinc 3 1
            exact next h2 _ _ _ _ _ (by rw [mfd, he]; simp) f2 e2 rfl rfl c7
        · exact absurd (nI_le (Nat.le_refl _) (by omega)) hd
      · intro k hk ih2
        have h1k : (dck cs.length (acd cs j)).getD k 0 < 2 ^ 21 := hdb _ (getD_mem (by omega))
        have h2k : cs.getD k 0 < 2 ^ 21 := hb _ (getD_mem hk)
        have hEk : E k = decide ((dck cs.length (acd cs j)).getD k 0 = cs.getD k 0) := by rw [hE]
        have st : ∀ b : Bool, b = allB E (k + 1) → V S (dep + 13) 247 83 [.ref 188, .int (nI cs.length), .int (nI (mfd cs j).length), .int (nI j), .int (nI (acd cs j)), .int (bI (allB E k)), .int (nI k), v7, v8] [.int (bI b)] h2 Q := by
          intro b e
          refine V_istore (L' := [_, _, _, _, _, _, _, _, _]) rfl rfl rfl ?_
          refine V_iinc (L' := [_, _, _, _, _, _, _, _, _]) rfl rfl rfl ?_
          refine V_goto rfl ?_
          -- at 50: .iload 6
          rw [show Int32.ofInt 1 = nI 1 from rfl, nI_add, e]
          exact ih2
        refine V_iload rfl rfl ?_
        refine V_iload_n rfl rfl ?_
        -- at 53: .if_icmp .ge 38
        refine V_icmp_ge rfl (fun hd => ?_) (fun hd => ?_)
        · exact absurd hd (nI_ge hk (by omega))
        · refine V_iload rfl rfl ?_
          -- at 58: .ifCond .eq 24
          refine V_if_eq rfl (fun hl => ?_) (fun hl => ?_)
          · have hl := bI_z.mp hl
            refine V_ic (v := nI 0) rfl rfl ?_
            -- at 83: .istore 5
            exact st false (by rw [allB, hl]; rfl)
          · have hl := bI_nz.mp hl
            refine V_aload_n rfl rfl rfl ?_
            refine V_getR (r := 207) rfl rfl ?_
            refine V_iload rfl rfl ?_
            refine V_al 7 rfl rfl (by first | with_reducible rfl | assumption | exact nI_sub (by omega) | exact nI_add _ _) (by first | omega | assumption) rfl ?_
            refine V_aload_n rfl rfl rfl ?_
            refine V_getR (r := 195) rfl rfl ?_
            refine V_iload rfl rfl ?_
            refine V_al 7 rfl rfl (by first | with_reducible rfl | assumption | exact nI_sub (by omega) | exact nI_add _ _) (by first | omega | assumption) rfl ?_
            -- at 75: .if_icmp .ne 7
            rw [hT2 k (by omega), hA2 k hk]
            refine V_icmp_ne rfl (fun hp => ?_) (fun hp => ?_)
            · refine V_ic (v := nI 0) rfl rfl ?_
              -- at 83: .istore 5
              exact st false (by rw [allB, hl, hEk, decide_eq_false (fun q => hp (by rw [q]))]; rfl)
            · have hp := nI_inj (by omega) (by omega) (Decidable.of_not_not hp)
              refine V_ic (v := nI 1) rfl rfl ?_
              refine V_goto rfl ?_
              -- at 83: .istore 5
              exact st true (by rw [allB, hl, hEk, decide_eq_true hp]; rfl)
