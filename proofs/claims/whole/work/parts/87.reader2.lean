/-! the class: words, digits, pairs -/
theorem ib {b : Bool} : bI b = bI true ∨ bI b = bI false := by cases b <;> simp
theorem c_isw {S : mScr} {dep N m q t : Nat} {T : Nat → Int32} {h : Hp} (hs : RS h T N m q) (ht : t < 3) : Cal S (dep + 4) 116 [.ref 147, .ref (1010 + t)] h (Rt (bI (isW T N (sk T N q) t)) h) := by
  have hle := hs.le
  obtain ⟨⟨a1, a2, a3, a4, a5, a6, a7⟩, b1, b2, b3⟩ := hs
  have ha : (Nat.ble 1010 (1010 + t) && Nat.ble (1010 + t) 1013) = true := by rcases (by omega : t = 0 ∨ t = 1 ∨ t = 2) with rfl | rfl | rfl <;> rfl
  have hb : Nat.blt (1010 + t) 1020 = true := blt_t (by omega)
  have hl := (wds_l t (by omega)).2
  have hk := kd_le T N (sk T N q)
  obtain ⟨p, hp⟩ : ∃ p, p = sk T N q := ⟨_, rfl⟩
  rw [← hp] at hle a2 b1 b2 hk
  rw [← hp]
  have no : isW T N p t = false → V S (dep + 4) 116 24 [.ref 147, .ref (1010 + t), .null] [] h (Rt (bI (isW T N p t)) h) := by
    intro e
    rw [e]
    refine V_ic (v := nI 0) rfl rfl ?_
    -- at 25: .ireturn
    refine V_zret rfl rfl (by first | exact Or.inl rfl | exact Or.inr rfl | assumption) ?_
    exact Rt.rf
  show V S (dep + 4) 116 0 [.ref 147, .ref (1010 + t), .null] [] h _
  refine V_aload_n rfl rfl rfl ?_
  refine V_gi 9 rfl rfl rfl ?_
  refine V_ic (v := nI 2) rfl rfl ?_
  -- at 5: .if_icmp .ne 19
  rw [b2]
  refine V_icmp_ne rfl (fun hc => ?_) (fun hc => ?_)
  · exact no (by unfold isW; exact decide_eq_false (fun w => hc (by rw [w.1])))
  · have hc := nI_inj (by omega) (by omega) (Decidable.of_not_not hc)
    refine V_aload_n rfl rfl rfl ?_
    refine V_gi 11 rfl rfl rfl ?_
    refine V_aload_n rfl rfl rfl ?_
    refine V_gi 10 rfl rfl rfl ?_
    refine V_isub rfl ?_
    -- at 17: .aload_n 1
    rw [a2, b1, nI_sub (by omega)]
    refine V_aload_n rfl rfl (by first | assumption | rfl) ?_
    -- at 18: .invokevirtual 157
    refine V_cT rfl rfl (by first | rfl | assumption) rfl rfl (c_sln (by omega)) ?_
    refine V_icmp_eq rfl (fun hd => ?_) (fun hd => ?_)
    · have hd := nI_inj (by omega) (by omega) hd
      refine V_ic (v := nI 0) rfl rfl ?_
      refine V_istore_n (L' := [_, _, _]) rfl rfl rfl ?_
      -- at 28: .iload_n 2
      have lp := loopUp (P := fun i => (∀ j, j < i → T (p + j) = nI ((wds t).getD j 0)) → V S (dep + 4) 116 28 [.ref 147, .ref (1010 + t), .int (nI i)] [] h (Rt (bI (isW T N p t)) h)) (wds t).length ?_ ?_ 0 (Nat.zero_le _)
      · exact lp (fun j hj => by omega)
      · intro hj
        refine V_iload_n rfl rfl ?_
        refine V_aload_n rfl rfl (by first | assumption | rfl) ?_
        -- at 30: .invokevirtual 157
        refine V_cT rfl rfl (by first | rfl | assumption) rfl rfl (c_sln (by omega)) ?_
        refine V_icmp_ge rfl (fun he => ?_) (fun he => ?_)
        · have e : isW T N p t = true := by unfold isW; exact decide_eq_true ⟨hc, hd, hj⟩
          rw [e]
          refine V_ic (v := nI 1) rfl rfl ?_
          -- at 64: .ireturn
          refine V_zret rfl rfl (by first | exact Or.inl rfl | exact Or.inr rfl | assumption) ?_
          exact Rt.rf
        · exact absurd (nI_le (Nat.le_refl _) (by omega)) he
      · intro i hi ih hj
        refine V_iload_n rfl rfl ?_
        refine V_aload_n rfl rfl (by first | assumption | rfl) ?_
        -- at 30: .invokevirtual 157
        refine V_cT rfl rfl (by first | rfl | assumption) rfl rfl (c_sln (by omega)) ?_
        refine V_icmp_ge rfl (fun he => ?_) (fun he => ?_)
        · exact absurd he (nI_ge hi (by omega))
        · refine V_aload_n rfl rfl rfl ?_
          refine V_getR (r := 3) rfl rfl ?_
          refine V_aload_n rfl rfl rfl ?_
          refine V_gi 10 rfl rfl rfl ?_
          refine V_iload_n rfl rfl ?_
          refine V_iadd rfl ?_
          -- at 46: .baload
          rw [b1]
          refine V_bl 600 rfl rfl (by first | with_reducible rfl | assumption | exact nI_sub (by omega) | exact nI_add _ _) (by first | omega | assumption) rfl ?_
          -- at 47: .aload_n 1
          rw [a6 _ (by omega)]
          refine V_aload_n rfl rfl (by first | assumption | rfl) ?_
          refine V_iload_n rfl rfl ?_
          -- at 49: .invokevirtual 161
          refine V_cT rfl rfl (by first | rfl | assumption) rfl rfl (c_sat (by omega) hi) ?_
          refine V_icmp_eq rfl (fun hf => ?_) (fun hf => ?_)
          · refine V_iinc (L' := [_, _, _]) rfl rfl rfl ?_
            refine V_goto rfl ?_
            -- at 28: .iload_n 2
            rw [show Int32.ofInt 1 = nI 1 from rfl, nI_add]
            refine ih (fun j h1 => ?_)
            by_cases q : j = i
            · rw [q]; exact hf
            · exact hj j (by omega)
          · have e : isW T N p t = false := by unfold isW; exact decide_eq_false (fun w => hf (w.2.2 i hi))
            rw [e]
            refine V_ic (v := nI 0) rfl rfl ?_
            -- at 56: .ireturn
            refine V_zret rfl rfl (by first | exact Or.inl rfl | exact Or.inr rfl | assumption) ?_
            exact Rt.rf
    · exact no (by unfold isW; exact decide_eq_false (fun w => hd (by rw [w.2.1])))
theorem eol_3 {T : Nat → Int32} {N q : Nat} : eol T N q = true ↔ kd T N (sk T N q) = 3 ∧ T (sk T N q) = nI 59 := by
  unfold eol
  rw [decide_eq_true_iff]
  have hd : dgB (nI 59) = false := by decide
  have hl : leB (nI 59) = false := by decide
  constructor
  · rintro ⟨h1, h2⟩
    refine ⟨?_, h2⟩
    unfold kd
    rw [if_pos h1, h2, hd, hl]; rfl
  · rintro ⟨h1, h2⟩
    refine ⟨?_, h2⟩
    rcases Nat.lt_or_ge (sk T N q) N with q | q
    · exact q
    · rw [kd_0.mpr q] at h1; omega
theorem c_isle {S : mScr} {dep N m q : Nat} {T : Nat → Int32} {h : Hp} (hs : RS h T N m q) : Cal S (dep + 4) 115 [.ref 147] h (Rt (bI (eol T N q)) h) := by
  have hle := hs.le
  obtain ⟨⟨a1, a2, a3, a4, a5, a6, a7⟩, b1, b2, b3⟩ := hs
  have hk := kd_le T N (sk T N q)
  have e3 := eol_3 (T := T) (N := N) (q := q)
  obtain ⟨p, hp⟩ : ∃ p, p = sk T N q := ⟨_, rfl⟩
  rw [← hp] at hle a2 b1 b2 hk e3
  have no : ¬ eol T N q = true → V S (dep + 4) 115 26 [.ref 147] [] h (Rt (bI (eol T N q)) h) := by
    intro e
    rw [show eol T N q = false from by cases he : eol T N q with | true => exact absurd he e | false => rfl]
    refine V_ic (v := nI 0) rfl rfl ?_
    -- at 27: .ireturn
    refine V_zret rfl rfl (by first | exact Or.inl rfl | exact Or.inr rfl | assumption) ?_
    exact Rt.rf
  show V S (dep + 4) 115 0 [.ref 147] [] h _
  refine V_aload_n rfl rfl rfl ?_
  refine V_gi 9 rfl rfl rfl ?_
  refine V_ic (v := nI 3) rfl rfl ?_
  -- at 5: .if_icmp .ne 21
  rw [b2]
  refine V_icmp_ne rfl (fun hc => ?_) (fun hc => ?_)
  · exact no (fun w => hc (by rw [(e3.mp w).1]))
  · have hc := nI_inj (by omega) (by omega) (Decidable.of_not_not hc)
    have hpN : p < N := by
      rcases Nat.lt_or_ge p N with q | q
      · exact q
      · rw [kd_0.mpr q] at hc; omega
    refine V_aload_n rfl rfl rfl ?_
    refine V_getR (r := 3) rfl rfl ?_
    refine V_aload_n rfl rfl rfl ?_
    refine V_gi 10 rfl rfl rfl ?_
    refine V_bl 600 rfl rfl (by first | with_reducible rfl | assumption | exact nI_sub (by omega) | exact nI_add _ _) (by first | omega | assumption) rfl ?_
    refine V_bi (v := nI 59) rfl rfl ?_
    -- at 19: .if_icmp .ne 7
    rw [a6 _ (by omega)]
    refine V_icmp_ne rfl (fun hd => ?_) (fun hd => ?_)
    · exact no (fun w => hd (e3.mp w).2)
    · rw [e3.mpr ⟨hc, Decidable.of_not_not hd⟩]
      refine V_ic (v := nI 1) rfl rfl ?_
      refine V_goto rfl ?_
      -- at 27: .ireturn
      refine V_zret rfl rfl (by first | exact Or.inl rfl | exact Or.inr rfl | assumption) ?_
      exact Rt.rf
theorem c_refu {S : mScr} {dep N m q k : Nat} {T : Nat → Int32} {h : Hp} (hs : RS h T N m q) (h0 : 0 < k) (h4 : k ≤ 4) : Cal S dep 114 [.ref 147, .int (nI k)] h (fun r h' => r = none ∧ BD h' N k (sk T N q) ∧ Fr [147] h h') := by
  have hle := hs.le
  obtain ⟨⟨a1, a2, a3, a4, a5, a6, a7⟩, b1, b2, b3⟩ := hs
  show V S dep 114 0 [.ref 147, .int (nI k)] [] h _
  refine V_aload_n rfl rfl rfl ?_
  refine V_iload_n rfl rfl ?_
  refine V_pi 2 rfl rfl rfl rfl ?_
  refine V_aload_n rfl rfl rfl ?_
  refine V_aload_n rfl rfl rfl ?_
  refine V_gi 10 rfl rfl rfl ?_
  -- at 10: .putfield 27
  rw [wI_ne (by omega), b1]
  refine V_pi 3 rfl rfl rfl rfl ?_
  -- at 13: .return_
  refine V_return rfl rfl ?_
  exact ⟨rfl, ⟨by rw [wI_ne (by omega), wI_same], wI_same, h0, h4, hle.1, a7⟩, (Fr.w (by simp)).tr (Fr.w (by simp))⟩
/-- what a reading gives -/
def RO {α : Type} (h : Hp) (T : Nat → Int32) (N m : Nat) (r : RP α) (h' : Hp) (P : α → Hp → Prop) : Prop := (∃ k p, r = .inl (k, p) ∧ BD h' N k p) ∨ (∃ a q, r = .inr (a, q) ∧ RS h' T N m q ∧ P a h')
theorem c_rle {S : mScr} {dep N m q : Nat} {T : Nat → Int32} {α : Type} {a : α} {P : α → Hp → Prop} {h : Hp} (hs : RS h T N m q) (hP : ∀ h', Fr [147] h h' → P a h') : Cal S (dep + 5) 113 [.ref 147] h (fun r h' => r = none ∧ RO h T N m (eop T N a q) h' P ∧ Fr [147] h h') := by
  have hle := hs.le
  show V S (dep + 5) 113 0 [.ref 147] [] h _
  refine V_aload_n rfl rfl rfl ?_
  refine V_gi 2 rfl rfl rfl ?_
  -- at 4: .ifCond .eq 4
  rw [hs.1.2.2.1]
  refine V_if_eq rfl (fun hc => ?_) (fun hc => ?_)
  · refine V_aload_n rfl rfl rfl ?_
    -- at 9: .invokevirtual 135
    refine V_cV rfl rfl rfl rfl rfl (c_isle hs) ?_
    refine V_if_eq rfl (fun hd => ?_) (fun hd => ?_)
    · have hd := bI_z.mp hd
      refine V_aload_n rfl rfl rfl ?_
      refine V_ic (v := nI 1) rfl rfl ?_
      -- at 24: .invokevirtual 77
      refine V_callV rfl rfl rfl rfl rfl (c_refu (k := 1) hs (by decide) (by decide)) ?_
      rintro _ h1 ⟨rfl, hB, f1⟩
      show V S (dep + 5) 113 27 [.ref 147] [] h1 _
      refine V_return rfl rfl ?_
      refine ⟨rfl, Or.inl ⟨1, sk T N q, ?_, hB⟩, f1⟩
      unfold eop
      rw [if_neg (by rw [hd]; decide)]
    · have hd := bI_nz.mp hd
      have e3 := (eol_3.mp hd).1
      refine V_aload_n rfl rfl rfl ?_
      -- at 16: .invokevirtual 97
      refine V_callV rfl rfl rfl rfl rfl (c_adv hs.1 hle.2.1) ?_
      rintro _ h1 ⟨rfl, hR, f1⟩
      show V S (dep + 5) 113 19 [.ref 147] [] h1 _
      refine V_goto rfl ?_
      -- at 27: .return_
      refine V_return rfl rfl ?_
      rw [en_3 e3] at hR
      refine ⟨rfl, Or.inr ⟨a, sk T N q + 1, ?_, hR, hP _ f1⟩, f1⟩
      unfold eop
      rw [if_pos hd]
  · exact absurd rfl hc
theorem c_rdg {S : mScr} {dep N m q lo hi : Nat} {T : Nat → Int32} {h : Hp} (hs : RS h T N m q) (hlo : lo < 10) (hhi : hi < 10) : Cal S (dep + 5) 112 [.ref 147, .int (nI lo), .int (nI hi)] h (fun r h' => ((∃ k p, dig T N lo hi q = .inl (k, p) ∧ BD h' N k p ∧ r = some (.int (nI lo))) ∨ (∃ v q', dig T N lo hi q = .inr (v, q') ∧ RS h' T N m q' ∧ r = some (.int (nI v)) ∧ lo ≤ v ∧ v ≤ hi ∧ q < q')) ∧ Fr [147] h h') := by
  have hle := hs.le
  obtain ⟨⟨a1, a2, a3, a4, a5, a6, a7⟩, b1, b2, b3⟩ := id hs
  have hk := kd_le T N (sk T N q)
  obtain ⟨p, hp⟩ : ∃ p, p = sk T N q := ⟨_, rfl⟩
  rw [← hp] at hle a2 b1 b2 hk
  have bad : ∀ w, ¬ (rn T N dgB p - p = 1 ∧ lo ≤ dv T p ∧ dv T p ≤ hi) → kd T N p = 1 → V S (dep + 5) 112 60 [.ref 147, .int (nI lo), .int (nI hi), w] [] h (fun r h' => ((∃ k p, dig T N lo hi q = .inl (k, p) ∧ BD h' N k p ∧ r = some (.int (nI lo))) ∨ (∃ v q', dig T N lo hi q = .inr (v, q') ∧ RS h' T N m q' ∧ r = some (.int (nI v)) ∧ lo ≤ v ∧ v ≤ hi ∧ q < q')) ∧ Fr [147] h h') := by
    intro w hno k1
    refine V_aload_n rfl rfl rfl ?_
    refine V_ic (v := nI 2) rfl rfl ?_
    -- at 62: .invokevirtual 77
    refine V_callV rfl rfl rfl rfl rfl (c_refu (k := 2) hs (by decide) (by decide)) ?_
    rintro _ h1 ⟨rfl, hB, f1⟩
    show V S (dep + 5) 112 65 [.ref 147, .int (nI lo), .int (nI hi), w] [] h1 _
    refine V_iload_n rfl rfl ?_
    -- at 66: .ireturn
    refine V_iret rfl rfl ?_
    refine ⟨Or.inl ⟨2, p, ?_, by rw [hp]; exact hB, rfl⟩, f1⟩
    unfold dig
    rw [← hp, if_pos k1, if_neg hno]
  show V S (dep + 5) 112 0 [.ref 147, .int (nI lo), .int (nI hi), .null] [] h _
  refine V_aload_n rfl rfl rfl ?_
  refine V_gi 2 rfl rfl rfl ?_
  -- at 4: .ifCond .eq 5
  rw [a3]
  refine V_if_eq rfl (fun hc => ?_) (fun hc => ?_)
  · refine V_aload_n rfl rfl rfl ?_
    refine V_gi 9 rfl rfl rfl ?_
    refine V_ic (v := nI 1) rfl rfl ?_
    -- at 14: .if_icmp .eq 10
    rw [b2]
    refine V_icmp_eq rfl (fun hd => ?_) (fun hd => ?_)
    · have k1 := nI_inj (by omega) (by omega) hd
      have hpd := kd_1.mp k1
      obtain ⟨ev, ev9⟩ := dv_eq hpd.2
      have ee := en_1 k1
      refine V_aload_n rfl rfl rfl ?_
      refine V_getR (r := 3) rfl rfl ?_
      refine V_aload_n rfl rfl rfl ?_
      refine V_gi 10 rfl rfl rfl ?_
      refine V_bl 600 rfl rfl (by first | with_reducible rfl | assumption | exact nI_sub (by omega) | exact nI_add _ _) (by first | omega | assumption) rfl ?_
      refine V_bi (v := nI 48) rfl rfl ?_
      -- at 35: .isub
      rw [a6 _ (by omega), ev]
      refine V_isub rfl ?_
      -- at 36: .istore_n 3
      rw [nI_sub (by omega), show 48 + dv T p - 48 = dv T p by omega]
      refine V_istore_n (L' := [_, _, _, _]) rfl rfl rfl ?_
      refine V_aload_n rfl rfl rfl ?_
      refine V_gi 11 rfl rfl rfl ?_
      refine V_aload_n rfl rfl rfl ?_
      refine V_gi 10 rfl rfl rfl ?_
      refine V_isub rfl ?_
      -- at 46: .iconst 1
      rw [a2, b1, nI_sub (by omega), ee]
      rw [ee] at hle
      refine V_ic (v := nI 1) rfl rfl ?_
      -- at 47: .if_icmp .ne 13
      refine V_icmp_ne rfl (fun he => ?_) (fun he => ?_)
      · exact bad _ (fun w => he (by rw [w.1])) k1
      · have he := nI_inj (by omega) (by omega) (Decidable.of_not_not he)
        refine V_iload_n rfl rfl ?_
        refine V_iload_n rfl rfl ?_
        -- at 52: .if_icmp .lt 8
        refine V_icmp_lt rfl (fun hf => ?_) (fun hf => ?_)
        · have hf := (nI_ltI (by omega) (by omega)).mp hf
          exact bad _ (by omega) k1
        · have hf := Nat.le_of_not_lt (fun z => hf (nI_lt z (by omega)))
          refine V_iload_n rfl rfl ?_
          refine V_iload_n rfl rfl ?_
          -- at 57: .if_icmp .le 10
          refine V_icmp_le rfl (fun hg => ?_) (fun hg => ?_)
          · have hg := (nI_leI (by omega) (by omega)).mp hg
            refine V_aload_n rfl rfl rfl ?_
            -- at 68: .invokevirtual 97
            have := c_adv (S := S) (dep := dep + 3) hs.1 (by rw [← hp, ee]; exact hle.2.1)
            rw [← hp, ee] at this
            refine V_callV rfl rfl rfl rfl rfl (this) ?_
            rintro _ h1 ⟨rfl, hR, f1⟩
            show V S (dep + 5) 112 71 [.ref 147, .int (nI lo), .int (nI hi), .int (nI (dv T p))] [] h1 _
            refine V_iload_n rfl rfl ?_
            -- at 72: .ireturn
            refine V_iret rfl rfl ?_
            refine ⟨Or.inr ⟨dv T p, rn T N dgB p, ?_, hR, rfl, hf, hg, ?_⟩, f1⟩
            · unfold dig
              rw [← hp, if_pos k1, if_pos ⟨he, hf, hg⟩]
            · have := rn_st hpd
              omega
          · have hg := nI_ngt (by omega) (by omega) hg
            exact bad _ (by omega) k1
    · have k1 : ¬ kd T N p = 1 := fun w => hd (by rw [w])
      refine V_aload_n rfl rfl rfl ?_
      refine V_ic (v := nI 1) rfl rfl ?_
      -- at 19: .invokevirtual 77
      refine V_callV rfl rfl rfl rfl rfl (c_refu (k := 1) hs (by decide) (by decide)) ?_
      rintro _ h1 ⟨rfl, hB, f1⟩
      show V S (dep + 5) 112 22 [.ref 147, .int (nI lo), .int (nI hi), .null] [] h1 _
      refine V_iload_n rfl rfl ?_
      -- at 23: .ireturn
      refine V_iret rfl rfl ?_
      refine ⟨Or.inl ⟨1, p, ?_, by rw [hp]; exact hB, rfl⟩, f1⟩
      unfold dig
      rw [← hp, if_neg k1]
  · exact absurd rfl hc
theorem c_rdgB {S : mScr} {dep N k p : Nat} {lo hi : Int32} {h : Hp} (hB : BD h N k p) : Cal S (dep + 5) 112 [.ref 147, .int lo, .int hi] h (Rt lo h) := by
  show V S (dep + 5) 112 0 [.ref 147, .int lo, .int hi, .null] [] h _
  have h0 := hB.2.2.1
  have h4 := hB.2.2.2.1
  refine V_aload_n rfl rfl rfl ?_
  refine V_gi 2 rfl rfl rfl ?_
  -- at 4: .ifCond .eq 5
  rw [hB.1]
  refine V_if_eq rfl (fun hc => ?_) (fun hc => ?_)
  · exact absurd (nI_inj (b := 0) (by omega) (by omega) hc) (by omega)
  · refine V_iload_n rfl rfl ?_
    -- at 8: .ireturn
    refine V_iret rfl rfl ?_
    exact Rt.rf
theorem xor_or2 {C b : Nat} (h : C.testBit b = false) : C ^^^ 2 ^ b = C ||| 2 ^ b := by
  apply Nat.eq_of_testBit_eq
  intro i
  rw [Nat.testBit_xor, Nat.testBit_or, Nat.testBit_two_pow]
  by_cases e : b = i
  · rw [← e, h, decide_eq_true rfl]; rfl
  · rw [decide_eq_false e]; simp
theorem c_rpr {S : mScr} {dep N m q a n C : Nat} {T : Nat → Int32} {h : Hp} (hs : RS h T N m q) (k1 : kd T N (sk T N q) = 1) (hN : NC h a n C) (ha : 147 ≠ a) (ha1 : 147 ≠ a + 1) (ha3 : 3 ≠ a + 1) : Cal S (dep + 6) 111 [.ref 147, .ref a] h (fun r h' => r = none ∧ ((rn T N dgB (sk T N q) - sk T N q ≠ 2 ∧ BD h' N 2 (sk T N q)) ∨ (rn T N dgB (sk T N q) - sk T N q = 2 ∧ prOk T n C (sk T N q) = false ∧ BD h' N 3 (sk T N q)) ∨ (rn T N dgB (sk T N q) - sk T N q = 2 ∧ prOk T n C (sk T N q) = true ∧ RS h' T N m (rn T N dgB (sk T N q)) ∧ NC h' a n (C ||| 2 ^ bt (dv T (sk T N q)) (dv T (sk T N q + 1))))) ∧ Fr [147, a + 1] h h') := by
  have hle := hs.le
  have hnb := hN.1.1
  have hb1 := net_b hnb
  have h7 := hN.1.2.1
  obtain ⟨⟨a1, a2, a3, a4, a5, a6, a7⟩, b1, b2, b3⟩ := id hs
  obtain ⟨p, hp⟩ : ∃ p, p = sk T N q := ⟨_, rfl⟩
  rw [← hp] at hle a2 b1 b2 k1
  have hpd := kd_1.mp k1
  obtain ⟨ev, ev9⟩ := dv_eq hpd.2
  have ee := en_1 k1
  rw [ee] at hle a2
  rw [← hp]
  obtain ⟨Q, hQ⟩ : ∃ Q : Option Value → Hp → Prop, Q = (fun r h' => r = none ∧ ((rn T N dgB p - p ≠ 2 ∧ BD h' N 2 p) ∨ (rn T N dgB p - p = 2 ∧ prOk T n C p = false ∧ BD h' N 3 p) ∨ (rn T N dgB p - p = 2 ∧ prOk T n C p = true ∧ RS h' T N m (rn T N dgB p) ∧ NC h' a n (C ||| 2 ^ bt (dv T p) (dv T (p + 1))))) ∧ Fr [147, a + 1] h h') := ⟨_, rfl⟩
  rw [← hQ]
  show V S (dep + 6) 111 0 [.ref 147, .ref a, .null, .null] [] h _
  refine V_aload_n rfl rfl rfl ?_
  refine V_gi 11 rfl rfl rfl ?_
  refine V_aload_n rfl rfl rfl ?_
  refine V_gi 10 rfl rfl rfl ?_
  refine V_isub rfl ?_
  -- at 9: .iconst 2
  rw [a2, b1, nI_sub (by omega)]
  refine V_ic (v := nI 2) rfl rfl ?_
  -- at 10: .if_icmp .eq 9
  refine V_icmp_eq rfl (fun hc => ?_) (fun hc => ?_)
  · have hc := nI_inj (by omega) (by omega) hc
    have hal := rn_all (T := T) (N := N) (c := dgB) (p := p) (i := p + 1) (by omega) (by omega)
    obtain ⟨ew, ew9⟩ := dv_eq hal.2
    refine V_aload_n rfl rfl rfl ?_
    refine V_getR (r := 3) rfl rfl ?_
    refine V_aload_n rfl rfl rfl ?_
    refine V_gi 10 rfl rfl rfl ?_
    refine V_bl 600 rfl rfl (by first | with_reducible rfl | assumption | exact nI_sub (by omega) | exact nI_add _ _) (by first | omega | assumption) rfl ?_
    refine V_bi (v := nI 48) rfl rfl ?_
    -- at 30: .isub
    rw [a6 _ (by omega), ev]
    refine V_isub rfl ?_
    -- at 31: .istore_n 2
    rw [nI_sub (by omega), show 48 + dv T p - 48 = dv T p by omega]
    refine V_istore_n (L' := [_, _, _, _]) rfl rfl rfl ?_
    refine V_aload_n rfl rfl rfl ?_
    refine V_getR (r := 3) rfl rfl ?_
    refine V_aload_n rfl rfl rfl ?_
    refine V_gi 10 rfl rfl rfl ?_
    refine V_ic (v := nI 1) rfl rfl ?_
    -- at 41: .iadd
    rw [b1]
    refine V_iadd rfl ?_
    -- at 42: .baload
    rw [nI_add]
    refine V_bl 600 rfl rfl (by first | with_reducible rfl | assumption | exact nI_sub (by omega) | exact nI_add _ _) (by first | omega | assumption) rfl ?_
    refine V_bi (v := nI 48) rfl rfl ?_
    -- at 45: .isub
    rw [a6 _ (by omega), ew]
    refine V_isub rfl ?_
    -- at 46: .istore_n 3
    rw [nI_sub (by omega), show 48 + dv T (p + 1) - 48 = dv T (p + 1) by omega]
    refine V_istore_n (L' := [_, _, _, _]) rfl rfl rfl ?_
    refine V_iload_n rfl rfl ?_
    refine V_iload_n rfl rfl ?_
    -- at 49: .if_icmp .eq 28
    have bad : ∀ w1 w2, prOk T n C p = false → V S (dep + 6) 111 77 [.ref 147, .ref a, w1, w2] [] h Q := by
      intro w1 w2 hno
      refine V_aload_n rfl rfl rfl ?_
      refine V_ic (v := nI 3) rfl rfl ?_
      -- at 79: .invokevirtual 77
      refine V_callV rfl rfl rfl rfl rfl (c_refu (k := 3) hs (by decide) (by decide)) ?_
      rintro _ h1 ⟨rfl, hB, f1⟩
      rw [← hp] at hB
      show V S (dep + 6) 111 82 [.ref 147, .ref a, w1, w2] [] h1 _
      refine V_return rfl rfl ?_
      rw [hQ]
      exact ⟨rfl, Or.inr (Or.inl ⟨hc, hno, hB⟩), f1.mono (by simp)⟩
    refine V_icmp_eq rfl (fun hd => ?_) (fun hd => ?_)
    · have hd := nI_inj (by omega) (by omega) hd
      exact bad _ _ (by unfold prOk; exact decide_eq_false (fun w => w.2.2.1 hd))
    · have hd : dv T p ≠ dv T (p + 1) := fun w => hd (by rw [w])
      refine V_aload_n rfl rfl (by first | assumption | rfl) ?_
      refine V_iload_n rfl rfl ?_
      -- at 54: .invokevirtual 146
      refine V_cV rfl rfl (by first | assumption | rfl) rfl rfl (c_hn' hN.1 (by omega)) ?_
      refine V_if_eq rfl (fun he => ?_) (fun he => ?_)
      · have he := of_decide_eq_false (bI_z.mp he)
        exact bad _ _ (by unfold prOk; exact decide_eq_false (fun w => he w.1))
      · have he := of_decide_eq_true (bI_nz.mp he)
        refine V_aload_n rfl rfl (by first | assumption | rfl) ?_
        refine V_iload_n rfl rfl ?_
        -- at 62: .invokevirtual 146
        refine V_cV rfl rfl (by first | assumption | rfl) rfl rfl (c_hn' hN.1 (by omega)) ?_
        refine V_if_eq rfl (fun hf => ?_) (fun hf => ?_)
        · have hf := of_decide_eq_false (bI_z.mp hf)
          exact bad _ _ (by unfold prOk; exact decide_eq_false (fun w => hf w.2.1))
        · have hf := of_decide_eq_true (bI_nz.mp hf)
          refine V_aload_n rfl rfl (by first | assumption | rfl) ?_
          refine V_iload_n rfl rfl ?_
          refine V_iload_n rfl rfl ?_
          -- at 71: .invokevirtual 150
          refine V_cV rfl rfl (by first | assumption | rfl) rfl rfl (c_ajC hN he hf) ?_
          refine V_if_eq rfl (fun hg => ?_) (fun hg => ?_)
          · have hg := bI_z.mp hg
            refine V_aload_n rfl rfl (by first | assumption | rfl) ?_
            refine V_iload_n rfl rfl ?_
            refine V_iload_n rfl rfl ?_
            -- at 86: .invokevirtual 154
            refine V_callV rfl rfl (by first | assumption | rfl) rfl rfl (c_flip hN he hf hd) ?_
            rintro _ h1 ⟨rfl, hN1, f1⟩
            show V S (dep + 6) 111 89 [.ref 147, .ref a, .int (nI (dv T p)), .int (nI (dv T (p + 1)))] [] h1 _
            have hs1 : RS h1 T N m q := hs.fr f1 (by simp; omega) (by simp; omega)
            have := c_adv (S := S) (dep := dep + 4) hs1.1 (by rw [← hp, ee]; exact hle.2.1)
            rw [← hp, ee] at this
            refine V_aload_n rfl rfl rfl ?_
            -- at 90: .invokevirtual 97
            refine V_callV rfl rfl rfl rfl rfl (this) ?_
            rintro _ h2 ⟨rfl, hR, f2⟩
            show V S (dep + 6) 111 93 [.ref 147, .ref a, .int (nI (dv T p)), .int (nI (dv T (p + 1)))] [] h2 _
            refine V_return rfl rfl ?_
            rw [hQ]
            have hb : C.testBit (bt (dv T p) (dv T (p + 1))) = false := by
              unfold adj at hg
              rw [decide_eq_true hd, Bool.true_and] at hg
              exact hg
            rw [xor_or2 hb] at hN1
            exact ⟨rfl, Or.inr (Or.inr ⟨hc, by unfold prOk; exact decide_eq_true ⟨he, hf, hd, hg⟩, hR, hN1.fr f2 (by simp; omega) (by simp; omega)⟩), (f1.mono (by simp)).tr (f2.mono (by simp))⟩
          · have hg := bI_nz.mp hg
            exact bad _ _ (by unfold prOk; exact decide_eq_false (fun w => by rw [hg] at w; exact Bool.noConfusion w.2.2.2))
  · have hc : rn T N dgB p - p ≠ 2 := fun w => hc (by rw [w])
    refine V_aload_n rfl rfl rfl ?_
    refine V_ic (v := nI 2) rfl rfl ?_
    -- at 15: .invokevirtual 77
    refine V_callV rfl rfl rfl rfl rfl (c_refu (k := 2) hs (by decide) (by decide)) ?_
    rintro _ h1 ⟨rfl, hB, f1⟩
    rw [← hp] at hB
    show V S (dep + 6) 111 18 [.ref 147, .ref a, .null, .null] [] h1 _
    refine V_return rfl rfl ?_
    rw [hQ]
    exact ⟨rfl, Or.inl ⟨hc, hB⟩, f1.mono (by simp)⟩
