/-! the reference: reading a text -/
def byB (c : Int32) : Prop := -128 ≤ c.toInt ∧ c.toInt ≤ 127
theorem pk_p : ∀ k, k < 128 → nI k &&& nI 255 = nI k := by decide +kernel
theorem pk_n : ∀ k, k < 128 → dgB (Int32.ofInt (-(k + 1 : Nat)) &&& nI 255) = false ∧ leB (Int32.ofInt (-(k + 1 : Nat)) &&& nI 255) = false ∧ ¬ (Int32.ofInt (-(k + 1 : Nat)) &&& nI 255) = nI 59 ∧ ¬ (Int32.ofInt (-(k + 1 : Nat)) &&& nI 255) = -1 ∧ dgB (Int32.ofInt (-(k + 1 : Nat))) = false ∧ leB (Int32.ofInt (-(k + 1 : Nat))) = false ∧ ¬ Int32.ofInt (-(k + 1 : Nat)) = nI 59 := by decide +kernel
theorem pk_m : ∀ k, k < 128 → ¬ nI k = (-1 : Int32) := by decide +kernel
theorem pk_all {c : Int32} (h : byB c) : dgB (c &&& nI 255) = dgB c ∧ leB (c &&& nI 255) = leB c ∧ ((c &&& nI 255) = nI 59 ↔ c = nI 59) ∧ ¬ (c &&& nI 255) = -1 := by
  unfold byB at h
  by_cases q : 0 ≤ c.toInt
  · have e : c = nI c.toInt.toNat := by
      apply Int32.toInt_inj.mp
      rw [nI_toNat (by omega)]
      omega
    have a := pk_p c.toInt.toNat (by omega)
    have b := pk_m c.toInt.toNat (by omega)
    rw [← e] at a b
    rw [a]
    exact ⟨rfl, rfl, Iff.rfl, b⟩
  · have e : c = Int32.ofInt (-((-c.toInt - 1).toNat + 1 : Nat)) := by
      apply Int32.toInt_inj.mp
      rw [Int32.toInt_ofInt_of_le (by omega) (by omega)]
      omega
    have a := pk_n (-c.toInt - 1).toNat (by omega)
    rw [← e] at a
    obtain ⟨a1, a2, a3, a4, a5, a6, a7⟩ := a
    exact ⟨by rw [a1, a5], by rw [a2, a6], ⟨fun z => absurd z a3, fun z => absurd z a7⟩, a4⟩
def BT (T : Nat → Int32) : Prop := ∀ i, i < 600 → byB (T i)
def pkv (T : Nat → Int32) (N p : Nat) : Int32 := if p < N then T p &&& nI 255 else -1
theorem pkv_d {T : Nat → Int32} {N p : Nat} (hb : BT T) (hN : N ≤ 600) : dgB (pkv T N p) = decide (kd T N p = 1) := by
  unfold pkv
  by_cases h : p < N
  · rw [if_pos h, (pk_all (hb p (by omega))).1]
    by_cases e : dgB (T p) = true
    · rw [e, decide_eq_true (kd_1.mpr ⟨h, e⟩)]
    · rw [show dgB (T p) = false from by cases z : dgB (T p) with | true => exact absurd z e | false => rfl, decide_eq_false (fun z => e (kd_1.mp z).2)]
  · rw [if_neg h, decide_eq_false (fun z => h (kd_1.mp z).1)]; decide
theorem pkv_l {T : Nat → Int32} {N p : Nat} (hb : BT T) (hN : N ≤ 600) : leB (pkv T N p) = decide (kd T N p = 2) := by
  unfold pkv
  by_cases h : p < N
  · rw [if_pos h, (pk_all (hb p (by omega))).2.1]
    by_cases e : leB (T p) = true
    · rw [e, decide_eq_true (kd_2.mpr ⟨h, e⟩)]
    · rw [show leB (T p) = false from by cases z : leB (T p) with | true => exact absurd z e | false => rfl, decide_eq_false (fun z => e (kd_2.mp z).2)]
  · rw [if_neg h, decide_eq_false (fun z => h (kd_2.mp z).1)]; decide
theorem pkv_e {T : Nat → Int32} {N q : Nat} (hb : BT T) (hN : N ≤ 600) : pkv T N (sk T N q) = nI 59 ↔ eol T N q = true := by
  unfold pkv eol
  rw [decide_eq_true_iff]
  by_cases h : sk T N q < N
  · rw [if_pos h, (pk_all (hb _ (by omega))).2.2.1]
    exact ⟨fun z => ⟨h, z⟩, fun z => z.2⟩
  · rw [if_neg h]
    exact ⟨fun z => absurd z (by decide), fun z => absurd z.1 h⟩
theorem pkv_n {T : Nat → Int32} {N p : Nat} (hb : BT T) (hN : N ≤ 600) : pkv T N p = -1 ↔ ¬ p < N := by
  unfold pkv
  by_cases h : p < N
  · rw [if_pos h]
    exact ⟨fun z => absurd z (pk_all (hb p (by omega))).2.2.2, fun z => absurd h z⟩
  · rw [if_neg h]
    exact ⟨fun _ => h, fun _ => rfl⟩
def TM (h : Hp) (T : Nat → Int32) (N q : Nat) : Prop := h.1 188 11 = nI N ∧ h.1 188 12 = nI q ∧ (∀ i, i < 600 → h.1 194 i = T i) ∧ q ≤ N ∧ N ≤ 600
def RM (h : Hp) (T : Nat → Int32) (N q : Nat) : Prop := TM h T N q ∧ h.1 188 13 = nI 0 ∧ h.1 188 14 = -1
def WB (h : Hp) (N k p : Nat) : Prop := h.1 188 13 = nI k ∧ h.1 188 14 = nI p ∧ 0 < k ∧ k ≤ 4 ∧ p ≤ N ∧ N ≤ 600
theorem TM.mf {fs A : List Nat} {h h' : Hp} {T : Nat → Int32} {N q : Nat} (hs : TM h T N q) (f : MF fs A h h') (h1 : 11 ∉ fs) (h2 : 12 ∉ fs) (h3 : 194 ∉ A) : TM h' T N q := ⟨by rw [f.2.2 11 h1]; exact hs.1, by rw [f.2.2 12 h2]; exact hs.2.1, fun i hi => by rw [f.2.1 194 (by decide) h3]; exact hs.2.2.1 i hi, hs.2.2.2⟩
theorem RM.mf {fs A : List Nat} {h h' : Hp} {T : Nat → Int32} {N q : Nat} (hs : RM h T N q) (f : MF fs A h h') (h1 : 11 ∉ fs) (h2 : 12 ∉ fs) (h3 : 194 ∉ A) (h4 : 13 ∉ fs) (h5 : 14 ∉ fs) : RM h' T N q := ⟨hs.1.mf f h1 h2 h3, by rw [f.2.2 13 h4]; exact hs.2.1, by rw [f.2.2 14 h5]; exact hs.2.2⟩
theorem WB.mf {fs A : List Nat} {h h' : Hp} {N k p : Nat} (hs : WB h N k p) (f : MF fs A h h') (h4 : 13 ∉ fs) (h5 : 14 ∉ fs) : WB h' N k p := ⟨by rw [f.2.2 13 h4]; exact hs.1, by rw [f.2.2 14 h5]; exact hs.2.1, hs.2.2⟩
theorem TM.to {h : Hp} {T : Nat → Int32} {N q q' : Nat} (hs : TM h T N q) (hq : q' ≤ N) : TM (wI h 188 12 (nI q')) T N q' := ⟨by rw [wI_ne (by omega)]; exact hs.1, wI_same, fun i hi => by rw [wI_oth (by decide)]; exact hs.2.2.1 i hi, hq, hs.2.2.2.2⟩
theorem RM.to {h h' : Hp} {T : Nat → Int32} {N q q' : Nat} (hs : RM h T N q) (ht : TM h' T N q') (f : MF [12] [] h h') : RM h' T N q' := ⟨ht, by rw [f.2.2 13 (by simp)]; exact hs.2.1, by rw [f.2.2 14 (by simp)]; exact hs.2.2⟩
theorem m_peek {S : mScr} {dep N q : Nat} {T : Nat → Int32} {h : Hp} (hs : TM h T N q) : Cal S dep 179 [.ref 188] h (fun r h' => r = some (.int (pkv T N (sk T N q))) ∧ TM h' T N (sk T N q) ∧ MF [12] [] h h') := by
  obtain ⟨Q, hQ⟩ : ∃ Q : Option Value → Hp → Prop, Q = (fun r h' => r = some (.int (pkv T N (sk T N q))) ∧ TM h' T N (sk T N q) ∧ MF [12] [] h h') := ⟨_, rfl⟩
  rw [← hQ]
  have hle := sk_le (T := T) hs.2.2.2.1
  have h600 := hs.2.2.2.2
  show V S dep 179 0 [.ref 188] [] h _
  have lp := loopUp (P := fun j => q ≤ j → ∀ h1, TM h1 T N j → MF [12] [] h h1 → V S dep 179 0 [.ref 188] [] h1 Q) (sk T N q) ?_ ?_ q hle.1
  · exact lp (Nat.le_refl _) h hs MF.rf
  · intro _ h1 t1 f1
    obtain ⟨p, hp⟩ : ∃ p, p = sk T N q := ⟨_, rfl⟩
    rw [← hp] at t1 hle
    obtain ⟨a1, a2, a3, a4, a5⟩ := id t1
    have hen : ¬ (p < N ∧ spB (T p) = true) := by rw [hp]; exact rn_end q
    have go : V S dep 179 38 [.ref 188] [] h1 Q := by
      refine V_aload_n rfl rfl rfl ?_
      refine V_gi 12 rfl rfl rfl ?_
      refine V_aload_n rfl rfl rfl ?_
      refine V_gi 11 rfl rfl rfl ?_
      -- at 46: .if_icmp .ge 19
      rw [a2, a1]
      refine V_icmp_ge rfl (fun hc => ?_) (fun hc => ?_)
      · have hc := (nI_leI (by omega) (by omega)).mp hc
        refine V_ic (v := -1) rfl rfl ?_
        -- at 66: .ireturn
        refine V_iret rfl rfl ?_
        rw [hQ, ← hp]
        refine ⟨?_, t1, f1⟩
        unfold pkv
        rw [if_neg (by omega)]
      · have hc := nI_ngt (by omega) (by omega) hc
        refine V_aload_n rfl rfl rfl ?_
        refine V_getR (r := 194) rfl rfl ?_
        refine V_aload_n rfl rfl rfl ?_
        refine V_gi 12 rfl rfl rfl ?_
        refine V_bl 600 rfl rfl (by first | with_reducible rfl | assumption | exact nI_sub (by omega) | exact nI_add _ _) (by first | omega | assumption) rfl ?_
        refine V_si (v := nI 255) rfl rfl ?_
        -- at 61: .iand
        rw [a3 p (by omega)]
        refine V_iand rfl ?_
        refine V_goto rfl ?_
        -- at 66: .ireturn
        refine V_iret rfl rfl ?_
        rw [hQ, ← hp]
        refine ⟨?_, t1, f1⟩
        unfold pkv
        rw [if_pos hc]
    refine V_aload_n rfl rfl rfl ?_
    refine V_gi 12 rfl rfl rfl ?_
    refine V_aload_n rfl rfl rfl ?_
    refine V_gi 11 rfl rfl rfl ?_
    -- at 8: .if_icmp .ge 30
    rw [a2, a1]
    refine V_icmp_ge rfl (fun hc => ?_) (fun hc => ?_)
    · exact go
    · have hc := nI_ngt (by omega) (by omega) hc
      refine V_aload_n rfl rfl rfl ?_
      refine V_getR (r := 194) rfl rfl ?_
      refine V_aload_n rfl rfl rfl ?_
      refine V_gi 12 rfl rfl rfl ?_
      refine V_bl 600 rfl rfl (by first | with_reducible rfl | assumption | exact nI_sub (by omega) | exact nI_add _ _) (by first | omega | assumption) rfl ?_
      refine V_bi (v := nI 32) rfl rfl ?_
      -- at 22: .if_icmp .ne 16
      rw [a3 p (by omega)]
      refine V_icmp_ne rfl (fun hd => ?_) (fun hd => ?_)
      · exact go
      · exact absurd ⟨hc, by unfold spB; exact decide_eq_true (Decidable.of_not_not hd)⟩ hen
  · intro j hj ih hqj h1 t1 f1
    obtain ⟨a1, a2, a3, a4, a5⟩ := id t1
    have hall := rn_all hqj hj
    have hsp : T j = nI 32 := by have := hall.2; unfold spB at this; exact of_decide_eq_true this
    refine V_aload_n rfl rfl rfl ?_
    refine V_gi 12 rfl rfl rfl ?_
    refine V_aload_n rfl rfl rfl ?_
    refine V_gi 11 rfl rfl rfl ?_
    -- at 8: .if_icmp .ge 30
    rw [a2, a1]
    refine V_icmp_ge rfl (fun hc => ?_) (fun hc => ?_)
    · exact absurd hc (nI_ge (by omega) (by omega))
    · refine V_aload_n rfl rfl rfl ?_
      refine V_getR (r := 194) rfl rfl ?_
      refine V_aload_n rfl rfl rfl ?_
      refine V_gi 12 rfl rfl rfl ?_
      refine V_bl 600 rfl rfl (by first | with_reducible rfl | assumption | exact nI_sub (by omega) | exact nI_add _ _) (by first | omega | assumption) rfl ?_
      refine V_bi (v := nI 32) rfl rfl ?_
      -- at 22: .if_icmp .ne 16
      rw [a3 j (by omega), hsp]
      refine V_icmp_ne rfl (fun hd => ?_) (fun hd => ?_)
      · exact absurd rfl hd
      · refine V_aload_n rfl rfl rfl ?_
        refine V_dup rfl rfl ?_
        refine V_gi 12 rfl rfl rfl ?_
        refine V_ic (v := nI 1) rfl rfl ?_
        refine V_iadd rfl ?_
        -- at 32: .putfield 121
        rw [a2, nI_add]
        refine V_pi 12 rfl rfl rfl rfl ?_
        refine V_goto rfl ?_
        -- at 0: .aload_n 0
        exact ih (by omega) _ (t1.to (by omega)) (f1.tr (MF.f (by simp)))
theorem m_peekR {S : mScr} {dep N q : Nat} {T : Nat → Int32} {h : Hp} (hs : RM h T N q) : Cal S dep 179 [.ref 188] h (fun r h' => r = some (.int (pkv T N (sk T N q))) ∧ RM h' T N (sk T N q) ∧ MF [12] [] h h') := by
  obtain ⟨n, r, h', e, a, b, c⟩ := m_peek (S := S) (dep := dep) hs.1
  exact ⟨n, r, h', e, a, hs.to b c, c⟩
theorem m_fls {S : mScr} {dep N q k p : Nat} {T : Nat → Int32} {h : Hp} (hs : RM h T N q) (h0 : 0 < k) (h4 : k ≤ 4) (hp : p ≤ N) : Cal S dep 180 [.ref 188, .int (nI k), .int (nI p)] h (fun r h' => r = none ∧ WB h' N k p ∧ TM h' T N q ∧ MF [13, 14] [] h h') := by
  show V S dep 180 0 [.ref 188, .int (nI k), .int (nI p)] [] h _
  refine V_aload_n rfl rfl rfl ?_
  refine V_gi 13 rfl rfl rfl ?_
  -- at 4: .ifCond .eq 4
  rw [hs.2.1]
  refine V_if_eq rfl (fun hc => ?_) (fun hc => ?_)
  · refine V_aload_n rfl rfl rfl ?_
    refine V_iload_n rfl rfl ?_
    refine V_pi 13 rfl rfl rfl rfl ?_
    refine V_aload_n rfl rfl rfl ?_
    refine V_iload_n rfl rfl ?_
    refine V_pi 14 rfl rfl rfl rfl ?_
    -- at 18: .return_
    refine V_return rfl rfl ?_
    have f : MF [13, 14] [] h (wI (wI h 188 13 (nI k)) 188 14 (nI p)) := (MF.f (by simp)).tr (MF.f (by simp))
    exact ⟨rfl, ⟨by rw [wI_ne (by omega), wI_same], wI_same, h0, h4, hp, hs.1.2.2.2.2⟩, hs.1.mf f (by simp) (by simp) (by simp), f⟩
  · exact absurd rfl hc
theorem m_flsB {S : mScr} {dep N k p : Nat} {x y : Int32} {h : Hp} (hs : WB h N k p) : Cal S dep 180 [.ref 188, .int x, .int y] h (fun r h' => r = none ∧ h' = h) := by
  have h0 := hs.2.2.1
  have h4 := hs.2.2.2.1
  show V S dep 180 0 [.ref 188, .int x, .int y] [] h _
  refine V_aload_n rfl rfl rfl ?_
  refine V_gi 13 rfl rfl rfl ?_
  -- at 4: .ifCond .eq 4
  rw [hs.1]
  refine V_if_eq rfl (fun hc => ?_) (fun hc => ?_)
  · exact absurd (nI_inj (b := 0) (by omega) (by omega) hc) (by omega)
  · refine V_return rfl rfl ?_
    exact ⟨rfl, rfl⟩
theorem m_isL {S : mScr} {dep : Nat} {c : Int32} {h : Hp} : Cal S (dep + 1) 181 [.int c] h (Rt (bI (leB c)) h) := by
  show V S (dep + 1) 181 0 [.int c] [] h _
  refine V_iload_n rfl rfl ?_
  refine V_i2l rfl ?_
  refine V_l2 (v := 97) rfl rfl ?_
  refine V_l2 (v := 122) rfl rfl ?_
  -- at 8: .invokestatic 134
  refine V_cS rfl rfl rfl rfl (m_isIn) ?_
  rw [Int32.toInt_toInt64, show (97 : Int64).toInt = 97 from rfl, show (122 : Int64).toInt = 122 from rfl]
  have hb := bI_01 (decide (97 ≤ c.toInt ∧ c.toInt ≤ 122))
  refine V_zret rfl rfl (by first | exact Or.inl rfl | exact Or.inr rfl | assumption) ?_
  exact Rt.rf
theorem m_isDg {S : mScr} {dep : Nat} {c : Int32} {h : Hp} : Cal S (dep + 1) 182 [.int c] h (Rt (bI (dgB c)) h) := by
  show V S (dep + 1) 182 0 [.int c] [] h _
  refine V_iload_n rfl rfl ?_
  refine V_i2l rfl ?_
  refine V_l2 (v := 48) rfl rfl ?_
  refine V_l2 (v := 57) rfl rfl ?_
  -- at 8: .invokestatic 134
  refine V_cS rfl rfl rfl rfl (m_isIn) ?_
  rw [Int32.toInt_toInt64, show (48 : Int64).toInt = 48 from rfl, show (57 : Int64).toInt = 57 from rfl]
  have hb := bI_01 (decide (48 ≤ c.toInt ∧ c.toInt ≤ 57))
  refine V_zret rfl rfl (by first | exact Or.inl rfl | exact Or.inr rfl | assumption) ?_
  exact Rt.rf
theorem m_lets {S : mScr} {dep N q : Nat} {T : Nat → Int32} {h : Hp} (hs : TM h T N q) : Cal S (dep + 2) 183 [.ref 188] h (Rt (nI (rn T N leB q - q)) h) := by
  obtain ⟨a1, a2, a3, a4, a5⟩ := hs
  have hge := rn_ge (T := T) (N := N) (c := leB) q
  have hle := rn_le (T := T) (N := N) (c := leB) a4
  show V S (dep + 2) 183 0 [.ref 188, .null] [] h _
  refine V_ic (v := nI 0) rfl rfl ?_
  refine V_istore_n (L' := [_, _]) rfl rfl rfl ?_
  -- at 2: .aload_n 0
  have lp := loopUp (P := fun j => V S (dep + 2) 183 2 [.ref 188, .int (nI j)] [] h (Rt (nI (rn T N leB q - q)) h)) (rn T N leB q - q) ?_ ?_ 0 (Nat.zero_le _)
  · exact lp
  · have hen := rn_end (T := T) (N := N) (c := leB) q
    obtain ⟨e, he⟩ : ∃ e, e = rn T N leB q := ⟨_, rfl⟩
    rw [← he] at hge hle hen
    rw [← he]
    refine V_aload_n rfl rfl rfl ?_
    refine V_gi 12 rfl rfl rfl ?_
    refine V_iload_n rfl rfl ?_
    refine V_iadd rfl ?_
    -- at 8: .aload_n 0
    rw [a2, nI_add, show q + (e - q) = e by omega]
    refine V_aload_n rfl rfl rfl ?_
    refine V_gi 11 rfl rfl rfl ?_
    -- at 12: .if_icmp .ge 26
    rw [a1]
    refine V_icmp_ge rfl (fun hc => ?_) (fun hc => ?_)
    · refine V_iload_n rfl rfl ?_
      -- at 39: .ireturn
      refine V_iret rfl rfl ?_
      exact Rt.rf
    · have hc := nI_ngt (by omega) (by omega) hc
      refine V_aload_n rfl rfl rfl ?_
      refine V_getR (r := 194) rfl rfl ?_
      refine V_aload_n rfl rfl rfl ?_
      refine V_gi 12 rfl rfl rfl ?_
      refine V_iload_n rfl rfl ?_
      refine V_iadd rfl ?_
      -- at 25: .baload
      rw [a2, nI_add, show q + (e - q) = e by omega]
      refine V_bl 600 rfl rfl (by first | with_reducible rfl | assumption | exact nI_sub (by omega) | exact nI_add _ _) (by first | omega | assumption) rfl ?_
      -- at 26: .invokestatic 142
      rw [a3 e (by omega)]
      refine V_cS rfl rfl rfl rfl (m_isL) ?_
      refine V_if_eq rfl (fun hd => ?_) (fun hd => ?_)
      · refine V_iload_n rfl rfl ?_
        -- at 39: .ireturn
        refine V_iret rfl rfl ?_
        exact Rt.rf
      · exact absurd ⟨hc, bI_nz.mp hd⟩ hen
  · intro j hj ih
    have hall := rn_all (T := T) (N := N) (c := leB) (p := q) (i := q + j) (by omega) (by omega)
    refine V_aload_n rfl rfl rfl ?_
    refine V_gi 12 rfl rfl rfl ?_
    refine V_iload_n rfl rfl ?_
    refine V_iadd rfl ?_
    -- at 8: .aload_n 0
    rw [a2, nI_add]
    refine V_aload_n rfl rfl rfl ?_
    refine V_gi 11 rfl rfl rfl ?_
    -- at 12: .if_icmp .ge 26
    rw [a1]
    refine V_icmp_ge rfl (fun hc => ?_) (fun hc => ?_)
    · exact absurd hc (nI_ge hall.1 (by omega))
    · refine V_aload_n rfl rfl rfl ?_
      refine V_getR (r := 194) rfl rfl ?_
      refine V_aload_n rfl rfl rfl ?_
      refine V_gi 12 rfl rfl rfl ?_
      refine V_iload_n rfl rfl ?_
      refine V_iadd rfl ?_
      -- at 25: .baload
      rw [a2, nI_add]
      refine V_bl 600 rfl rfl (by first | with_reducible rfl | assumption | exact nI_sub (by omega) | exact nI_add _ _) (by first | omega | assumption) rfl ?_
      -- at 26: .invokestatic 142
      rw [a3 _ (by omega)]
      refine V_cS rfl rfl rfl rfl (m_isL) ?_
      refine V_if_eq rfl (fun hd => ?_) (fun hd => ?_)
      · rw [hall.2] at hd
        exact absurd hd (by decide)
      · refine V_iinc (L' := [_, _]) rfl rfl rfl ?_
        refine V_goto rfl ?_
        -- at 2: .aload_n 0
        rw [show Int32.ofInt 1 = nI 1 from rfl, nI_add]
        exact ih
