/-! the reference: reasons -/
def rsnF (cs : List Nat) : Nat := if rsn cs ≠ 0 then rsn cs else if ansL cs = [] then 4 else 0
theorem mosL_iff {cs : List Nat} {t : Nat} : ∀ k, t < mosL cs k ↔ ∃ i, i < k ∧ t < pop (cs.getD i 0) := by
  intro k
  induction k with
  | zero => exact ⟨fun h => absurd h (Nat.not_lt_zero _), fun ⟨i, hi, _⟩ => by omega⟩
  | succ k ih =>
    rw [mosL]
    constructor
    · intro h
      by_cases q : t < mosL cs k
      · obtain ⟨i, hi, h2⟩ := ih.mp q
        exact ⟨i, by omega, h2⟩
      · exact ⟨k, by omega, by omega⟩
    · rintro ⟨i, hi, h⟩
      by_cases q : i = k
      · subst q; omega
      · have := ih.mpr ⟨i, by omega, h⟩; omega
theorem fewL_iff {cs : List Nat} {t m : Nat} : ∀ k, (fewL cs k + m < t ↔ 21 + m < t ∨ ∃ i, i < k ∧ pop (cs.getD i 0) + m < t) := by
  intro k
  induction k with
  | zero => exact ⟨Or.inl, fun h => h.elim id (fun ⟨i, hi, _⟩ => by omega)⟩
  | succ k ih =>
    rw [fewL]
    constructor
    · intro h
      by_cases q : fewL cs k + m < t
      · rcases ih.mp q with e | ⟨i, hi, e⟩
        · exact Or.inl e
        · exact Or.inr ⟨i, by omega, e⟩
      · exact Or.inr ⟨k, by omega, by omega⟩
    · intro h
      have : fewL cs k + m < t ∨ pop (cs.getD k 0) + m < t := by
        rcases h with e | ⟨i, hi, e⟩
        · exact Or.inl (ih.mpr (Or.inl e))
        · by_cases q : i = k
          · subst q; exact Or.inr e
          · exact Or.inl (ih.mpr (Or.inr ⟨i, by omega, e⟩))
      omega
theorem pts_tsm {cs : List Nat} {p : Nat} (hW : WD cs) (hp : p < 8) (hf : frm 3 p = p) : pts cs 3 p = tsm cs (pop p) cs.length := by
  unfold pts tsm
  exact sumN_ext (fun i hi => prt_t3 (by have := hW.2.1; omega) hp hf)
theorem form3 : ∀ l, l < 4 → ∃ p, p < 8 ∧ frm 3 p = p ∧ pop p = l := by
  intro l hl
  rcases (by omega : l = 0 ∨ l = 1 ∨ l = 2 ∨ l = 3) with rfl | rfl | rfl | rfl
  · exact ⟨0, by decide, by decide +kernel, by decide⟩
  · exact ⟨1, by decide, by decide +kernel, by decide⟩
  · exact ⟨3, by decide, by decide +kernel, by decide⟩
  · exact ⟨7, by decide, by decide +kernel, by decide⟩
theorem shO_none {s k : Nat} : shO s k = none ↔ ¬ s % k = 0 := by
  unfold shO
  by_cases q : s % k = 0
  · rw [if_pos q]; simp [q]
  · rw [if_neg q]; simp [q]
theorem hwt_iff {cs : List Nat} (hW : WD cs) : hwt cs = true ↔ ∀ p, p < 8 → frm 3 p = p → shO (pts cs 3 p) (cs.length - 3) ≠ none := by
  unfold hwt
  rw [allB_iff]
  constructor
  · intro h p hp hf q
    have hpop : pop p < 4 := by
      have := pop_le (x := p) (n := 3) hp (by decide)
      omega
    have := of_decide_eq_true (h (pop p) hpop)
    rw [shO_none, pts_tsm hW hp hf] at q
    exact q this
  · intro h l hl
    obtain ⟨p, hp, hf, e⟩ := form3 l hl
    have := h p hp hf
    rw [Ne, shO_none, pts_tsm hW hp hf, e] at this
    exact decide_eq_true (Decidable.of_not_not this)
theorem shO_le {s k t : Nat} (h : shO s k = some t) : t ≤ s := by
  unfold shO at h
  split at h
  · cases h; exact Nat.div_le_self _ _
  · cases h
theorem pts_le {cs : List Nat} {m p : Nat} (hW : WD cs) : pts cs m p ≤ 7 * 128 := by
  unfold pts
  exact Nat.le_trans (sumN_le (B := 128) (fun i hi => prt_le (by have := hW.2.1; omega))) (Nat.mul_le_mul_right _ hW.2.1)
theorem dif_toInt {t p : Nat} (ht : t < 2 ^ 30) (hp : p < 2 ^ 30) : (nI t - nI p).toInt = (t : Int) - p := by
  rw [Int32.toInt_sub, nI_toInt (by omega), nI_toInt (by omega)]
  exact Int.bmod_eq_of_le (by omega) (by omega)
theorem m_why {S : mScr} {dep : Nat} {cs : List Nat} {h : Hp} (hA : AL h 195 cs) (hW : WD cs) : Cal S (dep + 14) 246 [.ref 188, .int (nI cs.length)] h (fun q h' => q = some (.int (nI (rsnF cs))) ∧ MF [6, 7] [192, 193, 206, 207] h h') := by
  obtain ⟨hw2, hw7, hws, hwx⟩ := id hW
  have hb : ∀ x ∈ cs, x < 2 ^ 21 := fun x hx => c21 (by omega) (hwx x hx).1
  obtain ⟨Q, hQ⟩ : ∃ Q : Option Value → Hp → Prop, Q = fun q h' => q = some (.int (nI (rsnF cs))) ∧ MF [6, 7] [192, 193, 206, 207] h h' := ⟨_, rfl⟩
  rw [← hQ]
  show V S (dep + 14) 246 0 [.ref 188, .int (nI cs.length), .null, .null] [] h _
  have late : rsn cs = 0 → ∀ h1 v2 v3, MF [6, 7] [192, 193, 206, 207] h h1 → V S (dep + 14) 246 98 [.ref 188, .int (nI cs.length), v2, v3] [] h1 Q := by
    intro hr h1 v2 v3 f1
    have hA1 := hA.mf f1 (by simp) (by decide)
    refine V_aload_n rfl rfl rfl ?_
    refine V_iload_n rfl rfl ?_
    -- at 100: .invokevirtual 255
    refine V_callV rfl rfl rfl rfl rfl (m_ans hA1 hW) ?_
    rintro _ h2 ⟨rfl, _, f2⟩
    show V S (dep + 14) 246 103 [.ref 188, .int (nI cs.length), v2, v3] [.int (nI (ansL cs).length)] h2 _
    have hlen : (ansL cs).length ≤ 2 ^ (cs.length - 1) := fnd_len cs _
    have hL : (2 : Nat) ^ (cs.length - 1) ≤ 64 := Nat.pow_le_pow_right (n := 2) (j := 6) (by decide) (by omega)
    refine V_if_ne rfl (fun hc => ?_) (fun hc => ?_)
    · have hc : ¬ ansL cs = [] := fun q => hc (by rw [q]; rfl)
      refine V_ic (v := nI 0) rfl rfl ?_
      -- at 111: .ireturn
      refine V_iret rfl rfl ?_
      rw [hQ]
      exact ⟨by unfold rsnF; rw [hr, if_neg (by simp), if_neg hc], f1.tr f2⟩
    · have hc := nI_inj (b := 0) (by omega) (by omega) (Decidable.of_not_not hc)
      refine V_ic (v := nI 4) rfl rfl ?_
      refine V_goto rfl ?_
      -- at 111: .ireturn
      refine V_iret rfl rfl ?_
      rw [hQ]
      exact ⟨by unfold rsnF; rw [hr, if_neg (by simp), if_pos (List.length_eq_zero_iff.mp hc)], f1.tr f2⟩
  have mid : (rsn cs = if 4 ≤ cs.length ∧ hwt cs = false then 3 else 0) → ∀ v2 v3, V S (dep + 14) 246 56 [.ref 188, .int (nI cs.length), v2, v3] [] h Q := by
    intro hr v2 v3
    refine V_ic (v := nI 0) rfl rfl ?_
    refine V_istore_n (L' := [_, _, _, _]) rfl rfl rfl ?_
    -- at 58: .iload_n 2
    have lp := loopUp (P := fun p => (∀ q, q < p → 4 ≤ cs.length → frm 3 q = q → shO (pts cs 3 q) (cs.length - 3) ≠ none) → ∀ h1, MF [6, 7] [192, 193, 206, 207] h h1 → V S (dep + 14) 246 58 [.ref 188, .int (nI cs.length), .int (nI p), v3] [] h1 Q) 8 ?_ ?_ 0 (Nat.zero_le _)
    · exact lp (fun q hq => by omega) h MF.rf
    · intro hall h1 f1
      refine V_iload_n rfl rfl ?_
      refine V_bi (v := nI 8) rfl rfl ?_
      -- at 61: .if_icmp .ge 37
      refine V_icmp_ge rfl (fun hc => ?_) (fun hc => ?_)
      · refine late ?_ h1 _ _ f1
        rw [hr, if_neg]
        rintro ⟨q1, q2⟩
        have := (hwt_iff hW).mpr (fun p hp hf => hall p hp q1 hf)
        rw [q2] at this
        exact Bool.noConfusion this
      · exact absurd (by decide) hc
    · intro p hp ih hall h1 f1
      have hA1 := hA.mf f1 (by simp) (by decide)
      refine V_iload_n rfl rfl ?_
      refine V_bi (v := nI 8) rfl rfl ?_
      -- at 61: .if_icmp .ge 37
      refine V_icmp_ge rfl (fun hc => ?_) (fun hc => ?_)
      · exact absurd hc (nI_ge hp (by decide))
      · refine V_iload_n rfl rfl ?_
        refine V_ic (v := nI 3) rfl rfl ?_
        -- at 66: .if_icmp .le 32
        refine V_icmp_le rfl (fun hd => ?_) (fun hd => ?_)
        · have hd := (nI_leI (by omega) (by omega)).mp hd
          refine late ?_ h1 _ _ f1
          rw [hr, if_neg (by omega)]
        · have hd := nI_ngt (by omega) (by omega) hd
          have next : ∀ h2, MF [6, 7] [192, 193, 206, 207] h h2 → (frm 3 p = p → shO (pts cs 3 p) (cs.length - 3) ≠ none) → V S (dep + 14) 246 92 [.ref 188, .int (nI cs.length), .int (nI p), v3] [] h2 Q := by
            intro h2 f2 hn
            refine V_iinc (L' := [_, _, _, _]) rfl rfl rfl ?_
            refine V_goto rfl ?_
            -- at 58: .iload_n 2
            rw [show Int32.ofInt 1 = nI 1 from rfl, nI_add]
            refine ih (fun q hq h4 hf => ?_) h2 f2
            by_cases e : q = p
            · subst e; exact hn hf
            · exact hall q (by omega) h4 hf
          refine V_aload_n rfl rfl rfl ?_
          refine V_ic (v := nI 3) rfl rfl ?_
          refine V_iload_n rfl rfl ?_
          -- at 72: .invokevirtual 115
          refine V_callV rfl rfl rfl rfl rfl (m_frm (n := 3) (by decide) hp) ?_
          rintro _ h2 ⟨rfl, f2⟩
          show V S (dep + 14) 246 75 [.ref 188, .int (nI cs.length), .int (nI p), v3] [.int (nI (frm 3 p))] h2 _
          have hfl := frm21 (n := 3) (C := p) (by decide)
          have f2 : MF [6, 7] [192, 193, 206, 207] h h2 := f1.tr (f2.mono (by simp) (by simp))
          have hA2 := hA.mf f2 (by simp) (by decide)
          refine V_iload_n rfl rfl ?_
          -- at 76: .if_icmp .ne 16
          refine V_icmp_ne rfl (fun he => ?_) (fun he => ?_)
          · exact next h2 f2 (fun q => absurd (by rw [q]) he)
          · have he := nI_inj (by omega) (by omega) (Decidable.of_not_not he)
            refine V_aload_n rfl rfl rfl ?_
            refine V_iload_n rfl rfl ?_
            refine V_ic (v := nI 3) rfl rfl ?_
            refine V_iload_n rfl rfl ?_
            -- at 83: .invokevirtual 319
            refine V_callV rfl rfl rfl rfl rfl (m_toldO hA2 hW (by omega) (by omega)) ?_
            rintro _ h3 ⟨rfl, f3⟩
            show V S (dep + 14) 246 86 [.ref 188, .int (nI cs.length), .int (nI p), v3] [.int (oI (shO (pts cs 3 p) (cs.length - 3)))] h3 _
            have f3 : MF [6, 7] [192, 193, 206, 207] h h3 := f2.tr (f3.mono (by simp) (by simp))
            have hoi := oI_none (o := shO (pts cs 3 p) (cs.length - 3)) (fun x hx => by have := shO_le hx; have := pts_le (m := 3) (p := p) hW; omega)
            refine V_ic (v := -1) rfl rfl ?_
            -- at 87: .if_icmp .ne 5
            refine V_icmp_ne rfl (fun hf => ?_) (fun hf => ?_)
            · exact next h3 f3 (fun _ q => hf (hoi.mpr q))
            · have hf := hoi.mp (Decidable.of_not_not hf)
              refine V_ic (v := nI 3) rfl rfl ?_
              -- at 91: .ireturn
              refine V_iret rfl rfl ?_
              rw [hQ]
              refine ⟨?_, f3⟩
              have hwf : hwt cs = false := bfalse (fun q => (hwt_iff hW).mp q p hp he hf)
              rw [if_pos ⟨by omega, hwf⟩] at hr
              unfold rsnF
              rw [hr]
              rfl
  refine V_iload_n rfl rfl ?_
  refine V_ic (v := nI 2) rfl rfl ?_
  -- at 2: .if_icmp .le 54
  refine V_icmp_le rfl (fun hc => ?_) (fun hc => ?_)
  · have hc := (nI_leI (by omega) (by omega)).mp hc
    refine mid ?_ _ _
    unfold rsn
    rw [if_pos (by omega), if_neg (by omega)]
  · have hc := nI_ngt (by omega) (by omega) hc
    refine V_aload_n rfl rfl rfl ?_
    refine V_iload_n rfl rfl ?_
    -- at 7: .invokevirtual 316
    refine V_cV rfl rfl rfl rfl rfl (m_toldL hA hW) ?_
    refine V_istore_n (L' := [_, _, _, _]) rfl rfl rfl ?_
    refine V_iload_n rfl rfl ?_
    refine V_ic (v := -1) rfl rfl ?_
    -- at 13: .if_icmp .ne 5
    refine V_icmp_ne rfl (fun hd => ?_) (fun hd => ?_)
    · obtain ⟨t, ht⟩ : ∃ t, tldL cs = some t := by
        cases q : tldL cs with
        | none => rw [q] at hd; exact absurd rfl hd
        | some t => exact ⟨t, rfl⟩
      have htl := tldL_le hb hw7 ht
      have hrs : rsn cs = if t < mosL cs cs.length ∨ fewL cs cs.length + (cs.length - 1) < t then 2 else if 4 ≤ cs.length ∧ hwt cs = false then 3 else 0 := by
        unfold rsn; rw [if_neg (by omega), ht]
      rw [ht]
      show V S (dep + 14) 246 18 [.ref 188, .int (nI cs.length), .int (nI t), .null] [] h _
      refine V_ic (v := nI 0) rfl rfl ?_
      refine V_istore_n (L' := [_, _, _, _]) rfl rfl rfl ?_
      -- at 20: .iload_n 3
      have lp := loopUp (P := fun k => (∀ i, i < k → pop (cs.getD i 0) ≤ t ∧ t ≤ pop (cs.getD i 0) + (cs.length - 1)) → V S (dep + 14) 246 20 [.ref 188, .int (nI cs.length), .int (nI t), .int (nI k)] [] h Q) cs.length ?_ ?_ 0 (Nat.zero_le _)
      · exact lp (fun i hi => by omega)
      · intro hall
        refine V_iload_n rfl rfl ?_
        refine V_iload_n rfl rfl ?_
        -- at 22: .if_icmp .ge 34
        refine V_icmp_ge rfl (fun he => ?_) (fun he => ?_)
        · refine mid ?_ _ _
          rw [hrs, if_neg]
          rintro (q | q)
          · obtain ⟨i, hi, h2⟩ := (mosL_iff cs.length).mp q
            have := hall i hi; omega
          · rcases (fewL_iff cs.length).mp q with e | ⟨i, hi, h2⟩
            · have h0 := hall 0 (by omega)
              have h1 : pop (cs.getD 0 0) ≤ 21 := pop21 (hb _ (getD_mem (by omega)))
              omega
            · have := hall i hi; omega
        · exact absurd (nI_le (Nat.le_refl _) (by omega)) he
      · intro k hk ih hall
        have hck : cs.getD k 0 < 2 ^ 21 := hb _ (getD_mem hk)
        have hpk := pop21 hck
        refine V_iload_n rfl rfl ?_
        refine V_iload_n rfl rfl ?_
        -- at 22: .if_icmp .ge 34
        refine V_icmp_ge rfl (fun he => ?_) (fun he => ?_)
        · exact absurd he (nI_ge hk (by omega))
        · refine V_iload_n rfl rfl ?_
          refine V_aload_n rfl rfl rfl ?_
          refine V_getR (r := 195) rfl rfl ?_
          refine V_iload_n rfl rfl ?_
          refine V_al 7 rfl rfl (by first | with_reducible rfl | assumption | exact nI_sub (by omega) | exact nI_add _ _) (by first | omega | assumption) rfl ?_
          -- at 32: .invokestatic 232
          rw [hA k hk]
          refine V_cS rfl rfl rfl rfl (m_lines (by omega)) ?_
          refine V_isub rfl ?_
          refine V_i2l rfl ?_
          refine V_lc (v := 0) rfl rfl ?_
          refine V_iload_n rfl rfl ?_
          refine V_ic (v := nI 1) rfl rfl ?_
          refine V_isub rfl ?_
          refine V_i2l rfl ?_
          -- at 42: .invokestatic 134
          rw [nI_sub (show 1 ≤ cs.length by omega)]
          refine V_cS rfl rfl rfl rfl (m_isIn) ?_
          rw [Int32.toInt_toInt64, Int32.toInt_toInt64, show (0 : Int64).toInt = 0 from rfl, dif_toInt (by omega) (by omega), nI_toInt (by omega)]
          refine V_if_ne rfl (fun hf => ?_) (fun hf => ?_)
          · have hf := of_decide_eq_true (bI_nz.mp hf)
            refine V_iinc (L' := [_, _, _, _]) rfl rfl rfl ?_
            refine V_goto rfl ?_
            -- at 20: .iload_n 3
            rw [show Int32.ofInt 1 = nI 1 from rfl, nI_add]
            refine ih (fun i hi => ?_)
            by_cases e : i = k
            · subst e; omega
            · exact hall i (by omega)
          · have hf := of_decide_eq_false (bI_z.mp (Decidable.of_not_not hf))
            refine V_ic (v := nI 2) rfl rfl ?_
            -- at 49: .ireturn
            refine V_iret rfl rfl ?_
            rw [hQ]
            refine ⟨?_, MF.rf⟩
            have hor : t < mosL cs cs.length ∨ fewL cs cs.length + (cs.length - 1) < t := by
              by_cases q : t < pop (cs.getD k 0)
              · exact Or.inl ((mosL_iff _).mpr ⟨k, hk, q⟩)
              · exact Or.inr ((fewL_iff _).mpr (Or.inr ⟨k, hk, by omega⟩))
            rw [if_pos hor] at hrs
            unfold rsnF
            rw [hrs]; rfl
    · have hno : tldL cs = none := by
        cases q : tldL cs with
        | none => rfl
        | some t =>
          have htl := tldL_le hb hw7 q
          rw [q] at hd
          have := (oI_none (o := some t) (fun x hx => by cases hx; omega)).mp (Decidable.of_not_not hd)
          cases this
      refine V_ic (v := nI 1) rfl rfl ?_
      -- at 17: .ireturn
      refine V_iret rfl rfl ?_
      rw [hQ]
      refine ⟨?_, MF.rf⟩
      have : rsn cs = 1 := by unfold rsn; rw [if_neg (by omega), hno]
      unfold rsnF
      rw [this]; rfl
