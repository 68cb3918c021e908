/-! the class: reading a text -/
def kof (c : Int32) : Nat := if dgB c = true then 1 else if leB c = true then 2 else 3
theorem kof_le (c : Int32) : 1 ≤ kof c ∧ kof c ≤ 3 := by
  unfold kof
  split
  · decide
  · split <;> decide
theorem kd_kof {T : Nat → Int32} {N p : Nat} (h : p < N) : kd T N p = kof (T p) := by unfold kd kof; rw [if_pos h]
theorem kof_1 {c : Int32} : kof c = 1 ↔ dgB c = true := by
  unfold kof
  by_cases h2 : dgB c = true
  · simp [h2]
  · by_cases h3 : leB c = true <;> simp [h2, h3]
theorem kof_2 {c : Int32} : kof c = 2 ↔ leB c = true := by
  unfold kof
  by_cases h2 : dgB c = true
  · have := dl_no h2
    simp [h2, this]
  · by_cases h3 : leB c = true <;> simp [h2, h3]
theorem en_1 {T : Nat → Int32} {N p : Nat} (h : kd T N p = 1) : en T N p = rn T N dgB p := by unfold en; rw [if_pos h]
theorem en_3 {T : Nat → Int32} {N p : Nat} (h : kd T N p = 3) : en T N p = p + 1 := by unfold en; rw [if_neg (by omega), if_neg (by omega), if_pos h]
theorem en_2 {T : Nat → Int32} {N p : Nat} (h : kd T N p = 2) : en T N p = rn T N leB p := by unfold en; rw [if_neg (by omega), if_pos h]
theorem en_0 {T : Nat → Int32} {N p : Nat} (h : kd T N p = 0) : en T N p = p := by unfold en; rw [if_neg (by omega), if_neg (by omega), if_neg (by omega)]
theorem en_all {T : Nat → Int32} {N p i : Nat} (hp : p < N) (hk : kof (T p) ≠ 3) (h1 : p ≤ i) (h2 : i < en T N p) : i < N ∧ kof (T i) = kof (T p) := by
  have hb := kof_le (T p)
  have hkd := kd_kof (T := T) hp
  rcases (by omega : kof (T p) = 1 ∨ kof (T p) = 2) with e | e
  · rw [en_1 (by omega)] at h2
    have := rn_all h1 h2
    exact ⟨this.1, by rw [e]; exact kof_1.mpr this.2⟩
  · rw [en_2 (by omega)] at h2
    have := rn_all h1 h2
    exact ⟨this.1, by rw [e]; exact kof_2.mpr this.2⟩
theorem en_end {T : Nat → Int32} {N p : Nat} (hp : p < N) (hk : kof (T p) ≠ 3) (h1 : en T N p < N) : kof (T (en T N p)) ≠ kof (T p) := by
  have hb := kof_le (T p)
  have hkd := kd_kof (T := T) hp
  rcases (by omega : kof (T p) = 1 ∨ kof (T p) = 2) with e | e
  · rw [en_1 (by omega)] at h1 ⊢
    intro q
    exact rn_end p ⟨h1, kof_1.mp (by rw [q]; exact e)⟩
  · rw [en_2 (by omega)] at h1 ⊢
    intro q
    exact rn_end p ⟨h1, kof_2.mp (by rw [q]; exact e)⟩
theorem c_kof {S : mScr} {dep : Nat} {c : Int32} {h : Hp} : Cal S dep 118 [.int c] h (Rt (nI (kof c)) h) := by
  have k1 : (nI 48).toInt = 48 := rfl
  have k2 : (nI 57).toInt = 57 := rfl
  have k3 : (nI 97).toInt = 97 := rfl
  have k4 : (nI 122).toInt = 122 := rfl
  have lt : ∀ x y : Int32, x < y ↔ x.toInt < y.toInt := fun x y => Int32.lt_iff_toInt_lt
  have go : dgB c = false → V S dep 118 14 [.int c] [] h (Rt (nI (kof c)) h) := by
    intro hd
    have nd : ¬ dgB c = true := by rw [hd]; decide
    refine V_iload_n rfl rfl ?_
    refine V_bi (v := nI 97) rfl rfl ?_
    -- at 17: .if_icmp .lt 13
    refine V_icmp_lt rfl (fun h1 => ?_) (fun h1 => ?_)
    · rw [lt, k3] at h1
      have e : kof c = 3 := by unfold kof; rw [if_neg nd, if_neg (by unfold leB; rw [decide_eq_false (by omega)]; decide)]
      rw [e]
      refine V_ic (v := nI 3) rfl rfl ?_
      -- at 31: .ireturn
      refine V_iret rfl rfl ?_
      exact Rt.rf
    · rw [lt, k3] at h1
      refine V_iload_n rfl rfl ?_
      refine V_bi (v := nI 122) rfl rfl ?_
      -- at 23: .if_icmp .gt 7
      refine V_icmp_gt rfl (fun h2 => ?_) (fun h2 => ?_)
      · rw [lt, k4] at h2
        have e : kof c = 3 := by unfold kof; rw [if_neg nd, if_neg (by unfold leB; rw [decide_eq_false (by omega)]; decide)]
        rw [e]
        refine V_ic (v := nI 3) rfl rfl ?_
        -- at 31: .ireturn
        refine V_iret rfl rfl ?_
        exact Rt.rf
      · rw [lt, k4] at h2
        have e : kof c = 2 := by unfold kof; rw [if_neg nd, if_pos (by unfold leB; exact decide_eq_true (by omega))]
        rw [e]
        refine V_ic (v := nI 2) rfl rfl ?_
        refine V_goto rfl ?_
        -- at 31: .ireturn
        refine V_iret rfl rfl ?_
        exact Rt.rf
  show V S dep 118 0 [.int c] [] h _
  refine V_iload_n rfl rfl ?_
  refine V_bi (v := nI 48) rfl rfl ?_
  -- at 3: .if_icmp .lt 11
  refine V_icmp_lt rfl (fun h1 => ?_) (fun h1 => ?_)
  · rw [lt, k1] at h1
    exact go (by unfold dgB; exact decide_eq_false (by omega))
  · rw [lt, k1] at h1
    refine V_iload_n rfl rfl ?_
    refine V_bi (v := nI 57) rfl rfl ?_
    -- at 9: .if_icmp .gt 5
    refine V_icmp_gt rfl (fun h2 => ?_) (fun h2 => ?_)
    · rw [lt, k2] at h2
      exact go (by unfold dgB; exact decide_eq_false (by omega))
    · rw [lt, k2] at h2
      have e : kof c = 1 := by unfold kof; rw [if_pos (by unfold dgB; exact decide_eq_true (by omega))]
      rw [e]
      refine V_ic (v := nI 1) rfl rfl ?_
      -- at 13: .ireturn
      refine V_iret rfl rfl ?_
      exact Rt.rf
def AS (h : Hp) (T : Nat → Int32) (N m e : Nat) : Prop := h.1 147 8 = nI N ∧ h.1 147 11 = nI e ∧ h.1 147 2 = nI 0 ∧ h.1 147 3 = -1 ∧ h.1 147 4 = nI m ∧ (∀ i, i < 600 → h.1 3 i = T i) ∧ N ≤ 600
def RS (h : Hp) (T : Nat → Int32) (N m q : Nat) : Prop := AS h T N m (en T N (sk T N q)) ∧ h.1 147 10 = nI (sk T N q) ∧ h.1 147 9 = nI (kd T N (sk T N q)) ∧ q ≤ N
def BD (h : Hp) (N k p : Nat) : Prop := h.1 147 2 = nI k ∧ h.1 147 3 = nI p ∧ 0 < k ∧ k ≤ 4 ∧ p ≤ N ∧ N ≤ 600
theorem AS.wr {h : Hp} {T : Nat → Int32} {N m e f : Nat} {v : Int32} (ha : AS h T N m e) (hf : f = 10 ∨ f = 9) : AS (wI h 147 f v) T N m e := by
  obtain ⟨a1, a2, a3, a4, a5, a6, a7⟩ := ha
  refine ⟨?_, ?_, ?_, ?_, ?_, fun i hi => ?_, a7⟩
  · rw [wI_ne (by omega)]; exact a1
  · rw [wI_ne (by omega)]; exact a2
  · rw [wI_ne (by omega)]; exact a3
  · rw [wI_ne (by omega)]; exact a4
  · rw [wI_ne (by omega)]; exact a5
  · rw [wI_oth (by decide)]; exact a6 i hi
theorem AS.w11 {h : Hp} {T : Nat → Int32} {N m e e' : Nat} (ha : AS h T N m e) : AS (wI h 147 11 (nI e')) T N m e' := by
  obtain ⟨a1, a2, a3, a4, a5, a6, a7⟩ := ha
  refine ⟨?_, wI_same, ?_, ?_, ?_, fun i hi => ?_, a7⟩
  · rw [wI_ne (by omega)]; exact a1
  · rw [wI_ne (by omega)]; exact a3
  · rw [wI_ne (by omega)]; exact a4
  · rw [wI_ne (by omega)]; exact a5
  · rw [wI_oth (by decide)]; exact a6 i hi
theorem AS.fr {A : List Nat} {h h' : Hp} {T : Nat → Int32} {N m e : Nat} (ha : AS h T N m e) (f : Fr A h h') (h1 : 147 ∉ A) (h2 : 3 ∉ A) : AS h' T N m e := by
  obtain ⟨a1, a2, a3, a4, a5, a6, a7⟩ := ha
  have e1 := f.1 147 h1
  have e2 := f.1 3 h2
  exact ⟨by rw [e1]; exact a1, by rw [e1]; exact a2, by rw [e1]; exact a3, by rw [e1]; exact a4, by rw [e1]; exact a5, fun i hi => by rw [e2]; exact a6 i hi, a7⟩
theorem RS.fr {A : List Nat} {h h' : Hp} {T : Nat → Int32} {N m q : Nat} (ha : RS h T N m q) (f : Fr A h h') (h1 : 147 ∉ A) (h2 : 3 ∉ A) : RS h' T N m q := ⟨ha.1.fr f h1 h2, by rw [f.1 147 h1]; exact ha.2.1, by rw [f.1 147 h1]; exact ha.2.2.1, ha.2.2.2⟩
theorem BD.fr {A : List Nat} {h h' : Hp} {N k p : Nat} (ha : BD h N k p) (f : Fr A h h') (h1 : 147 ∉ A) : BD h' N k p := ⟨by rw [f.1 147 h1]; exact ha.1, by rw [f.1 147 h1]; exact ha.2.1, ha.2.2⟩
theorem RS.le {h : Hp} {T : Nat → Int32} {N m q : Nat} (ha : RS h T N m q) : sk T N q ≤ N ∧ en T N (sk T N q) ≤ N ∧ sk T N q ≤ en T N (sk T N q) ∧ q ≤ sk T N q := by
  have h1 : sk T N q ≤ N := rn_le ha.2.2.2
  have := en_le (T := T) h1
  exact ⟨h1, this.2.1, this.1, rn_ge q⟩
theorem c_adv {S : mScr} {dep N m e : Nat} {T : Nat → Int32} {h : Hp} (ha : AS h T N m e) (he : e ≤ N) : Cal S (dep + 1) 117 [.ref 147] h (fun r h' => r = none ∧ RS h' T N m e ∧ Fr [147] h h') := by
  obtain ⟨Q, hQ⟩ : ∃ Q : Option Value → Hp → Prop, Q = (fun r h' => r = none ∧ RS h' T N m e ∧ Fr [147] h h') := ⟨_, rfl⟩
  rw [← hQ]
  have hN6 := ha.2.2.2.2.2.2
  have hse : e ≤ sk T N e := rn_ge e
  have hsN : sk T N e ≤ N := rn_le he
  show V S (dep + 1) 117 0 [.ref 147] [] h _
  refine V_aload_n rfl rfl rfl ?_
  refine V_aload_n rfl rfl rfl ?_
  refine V_gi 11 rfl rfl rfl ?_
  refine V_pi 10 rfl rfl rfl rfl ?_
  -- at 8: .aload_n 0
  rw [ha.2.1]
  have a0 : AS (wI h 147 10 (nI e)) T N m e := ha.wr (Or.inl rfl)
  have lp := loopUp (P := fun j => e ≤ j → ∀ h1, AS h1 T N m e → h1.1 147 10 = nI j → Fr [147] h h1 → V S (dep + 1) 117 8 [.ref 147] [] h1 Q) (sk T N e) ?_ ?_ e hse
  · exact lp (Nat.le_refl _) _ a0 wI_same (Fr.w (by simp))
  · intro _ h1 a1 e1 f1
    obtain ⟨p, hp⟩ : ∃ p, p = sk T N e := ⟨_, rfl⟩
    rw [← hp] at e1 hse hsN
    have hen : ¬ (p < N ∧ spB (T p) = true) := by rw [hp]; exact rn_end e
    have go : V S (dep + 1) 117 46 [.ref 147] [] h1 Q := by
      refine V_aload_n rfl rfl rfl ?_
      refine V_gi 10 rfl rfl rfl ?_
      refine V_aload_n rfl rfl rfl ?_
      refine V_gi 8 rfl rfl rfl ?_
      -- at 54: .if_icmp .lt 17
      rw [e1, a1.1]
      refine V_icmp_lt rfl (fun hc => ?_) (fun hc => ?_)
      · have hc : p < N := (nI_ltI (by omega) (by omega)).mp hc
        have hkd := kd_kof (T := T) hc
        have hk3 := kof_le (T p)
        have hel := en_le (T := T) hsN
        refine V_aload_n rfl rfl rfl ?_
        refine V_aload_n rfl rfl rfl ?_
        refine V_getR (r := 3) rfl rfl ?_
        refine V_aload_n rfl rfl rfl ?_
        refine V_gi 10 rfl rfl rfl ?_
        refine V_bl 600 rfl rfl (by first | with_reducible rfl | assumption | exact nI_sub (by omega) | exact nI_add _ _) (by first | omega | assumption) rfl ?_
        -- at 81: .invokestatic 165
        rw [a1.2.2.2.2.2.1 p (by omega)]
        refine V_cS rfl rfl rfl rfl (c_kof) ?_
        refine V_pi 9 rfl rfl rfl rfl ?_
        refine V_aload_n rfl rfl rfl ?_
        refine V_aload_n rfl rfl rfl ?_
        refine V_gi 10 rfl rfl rfl ?_
        refine V_ic (v := nI 1) rfl rfl ?_
        -- at 93: .iadd
        rw [wI_ne (by omega), e1]
        refine V_iadd rfl ?_
        -- at 94: .putfield 47
        rw [nI_add]
        refine V_pi 11 rfl rfl rfl rfl ?_
        -- at 97: .aload_n 0
        obtain ⟨h2, hh2⟩ : ∃ h2, h2 = wI (wI h1 147 9 (nI (kof (T p)))) 147 11 (nI (p + 1)) := ⟨_, rfl⟩
        rw [← hh2]
        have a2 : AS h2 T N m (p + 1) := by rw [hh2]; exact (a1.wr (Or.inr rfl)).w11
        have e29 : h2.1 147 9 = nI (kof (T p)) := by rw [hh2, wI_ne (by omega), wI_same]
        have e2a : h2.1 147 10 = nI p := by rw [hh2, wI_ne (by omega), wI_ne (by omega)]; exact e1
        have f2 : Fr [147] h h2 := by rw [hh2]; exact (f1.tr (Fr.w (by simp))).tr (Fr.w (by simp))
        have fin : ∀ h3, AS h3 T N m (en T N p) → h3.1 147 9 = nI (kof (T p)) → h3.1 147 10 = nI p → Fr [147] h h3 → V S (dep + 1) 117 148 [.ref 147] [] h3 Q := by
          intro h3 a3 e39 e3a f3
          refine V_return rfl rfl ?_
          rw [hQ]
          refine ⟨rfl, ⟨?_, ?_, ?_, he⟩, f3⟩
          · rw [← hp]; exact a3
          · rw [← hp]; exact e3a
          · rw [← hp, hkd]; exact e39
        by_cases k3 : kof (T p) = 3
        · refine V_aload_n rfl rfl rfl ?_
          refine V_gi 9 rfl rfl rfl ?_
          refine V_ic (v := nI 3) rfl rfl ?_
          -- at 102: .if_icmp .eq 46
          rw [e29, k3]
          refine V_icmp_eq rfl (fun hd => ?_) (fun hd => ?_)
          · exact fin h2 (by rw [en_3 (by omega)]; exact a2) e29 e2a f2
          · exact absurd rfl hd
        · have lq := loopUp (P := fun j => p < j → ∀ h3, AS h3 T N m j → h3.1 147 9 = nI (kof (T p)) → h3.1 147 10 = nI p → Fr [147] h h3 → V S (dep + 1) 117 97 [.ref 147] [] h3 Q) (en T N p) ?_ ?_ (p + 1) (hel.2.2 hc)
          · exact lq (by omega) h2 a2 e29 e2a f2
          · intro _ h3 a3 e39 e3a f3
            have ee := fin h3 a3 e39 e3a f3
            have e3b := a3.2.1
            refine V_aload_n rfl rfl rfl ?_
            refine V_gi 9 rfl rfl rfl ?_
            refine V_ic (v := nI 3) rfl rfl ?_
            -- at 102: .if_icmp .eq 46
            rw [e39]
            refine V_icmp_eq rfl (fun hd => ?_) (fun hd => ?_)
            · exact ee
            · refine V_aload_n rfl rfl rfl ?_
              refine V_gi 11 rfl rfl rfl ?_
              refine V_aload_n rfl rfl rfl ?_
              refine V_gi 8 rfl rfl rfl ?_
              -- at 113: .if_icmp .ge 35
              rw [a3.2.1, a3.1]
              refine V_icmp_ge rfl (fun hf => ?_) (fun hf => ?_)
              · exact ee
              · have hf := nI_ngt (by omega) (by omega) hf
                refine V_aload_n rfl rfl rfl ?_
                refine V_getR (r := 3) rfl rfl ?_
                refine V_aload_n rfl rfl rfl ?_
                refine V_gi 11 rfl rfl rfl ?_
                refine V_bl 600 rfl rfl (by first | with_reducible rfl | assumption | exact nI_sub (by omega) | exact nI_add _ _) (by first | omega | assumption) rfl ?_
                -- at 125: .invokestatic 165
                rw [a3.2.2.2.2.2.1 _ (by omega)]
                refine V_cS rfl rfl rfl rfl (c_kof) ?_
                refine V_aload_n rfl rfl rfl ?_
                refine V_gi 9 rfl rfl rfl ?_
                -- at 132: .if_icmp .ne 16
                rw [e39]
                refine V_icmp_ne rfl (fun hg => ?_) (fun hg => ?_)
                · exact ee
                · have hkx := kof_le (T (en T N p))
                  have hg := nI_inj (by omega) (by omega) (Decidable.of_not_not hg)
                  exact absurd hg (en_end hc k3 hf)
          · intro j hj ih hpj h3 a3 e39 e3a f3
            have hall := en_all hc k3 (by omega : p ≤ j) hj
            have e3b := a3.2.1
            refine V_aload_n rfl rfl rfl ?_
            refine V_gi 9 rfl rfl rfl ?_
            refine V_ic (v := nI 3) rfl rfl ?_
            -- at 102: .if_icmp .eq 46
            rw [e39]
            refine V_icmp_eq rfl (fun hd => ?_) (fun hd => ?_)
            · exact absurd (nI_inj (by omega) (by omega) hd) k3
            · refine V_aload_n rfl rfl rfl ?_
              refine V_gi 11 rfl rfl rfl ?_
              refine V_aload_n rfl rfl rfl ?_
              refine V_gi 8 rfl rfl rfl ?_
              -- at 113: .if_icmp .ge 35
              rw [a3.2.1, a3.1]
              refine V_icmp_ge rfl (fun hf => ?_) (fun hf => ?_)
              · exact absurd hf (nI_ge (by omega) (by omega))
              · refine V_aload_n rfl rfl rfl ?_
                refine V_getR (r := 3) rfl rfl ?_
                refine V_aload_n rfl rfl rfl ?_
                refine V_gi 11 rfl rfl rfl ?_
                refine V_bl 600 rfl rfl (by first | with_reducible rfl | assumption | exact nI_sub (by omega) | exact nI_add _ _) (by first | omega | assumption) rfl ?_
                -- at 125: .invokestatic 165
                rw [a3.2.2.2.2.2.1 _ (by omega)]
                refine V_cS rfl rfl rfl rfl (c_kof) ?_
                refine V_aload_n rfl rfl rfl ?_
                refine V_gi 9 rfl rfl rfl ?_
                -- at 132: .if_icmp .ne 16
                rw [e39, hall.2]
                refine V_icmp_ne rfl (fun hg => ?_) (fun hg => ?_)
                · exact absurd rfl hg
                · refine V_aload_n rfl rfl rfl ?_
                  refine V_dup rfl rfl ?_
                  refine V_gi 11 rfl rfl rfl ?_
                  refine V_ic (v := nI 1) rfl rfl ?_
                  refine V_iadd rfl ?_
                  -- at 142: .putfield 47
                  rw [a3.2.1, nI_add]
                  refine V_pi 11 rfl rfl rfl rfl ?_
                  refine V_goto rfl ?_
                  -- at 97: .aload_n 0
                  exact ih (by omega) _ a3.w11 (by rw [wI_ne (by omega)]; exact e39) (by rw [wI_ne (by omega)]; exact e3a) (f3.tr (Fr.w (by simp)))
      · have hc : N ≤ p := Nat.le_of_not_lt (fun q => hc (nI_lt q (by omega)))
        have k0 : kd T N p = 0 := kd_0.mpr hc
        refine V_aload_n rfl rfl rfl ?_
        refine V_ic (v := nI 0) rfl rfl ?_
        refine V_pi 9 rfl rfl rfl rfl ?_
        refine V_aload_n rfl rfl rfl ?_
        refine V_aload_n rfl rfl rfl ?_
        refine V_gi 10 rfl rfl rfl ?_
        -- at 67: .putfield 47
        rw [wI_ne (by omega), e1]
        refine V_pi 11 rfl rfl rfl rfl ?_
        -- at 70: .return_
        refine V_return rfl rfl ?_
        rw [hQ]
        refine ⟨rfl, ⟨?_, ?_, ?_, he⟩, (f1.tr (Fr.w (by simp))).tr (Fr.w (by simp))⟩
        · rw [← hp, en_0 k0]; exact (a1.wr (Or.inr rfl)).w11
        · rw [← hp, wI_ne (by omega), wI_ne (by omega)]; exact e1
        · rw [← hp, k0, wI_ne (by omega), wI_same]
    refine V_aload_n rfl rfl rfl ?_
    refine V_gi 10 rfl rfl rfl ?_
    refine V_aload_n rfl rfl rfl ?_
    refine V_gi 8 rfl rfl rfl ?_
    -- at 16: .if_icmp .ge 30
    rw [e1, a1.1]
    refine V_icmp_ge rfl (fun hc => ?_) (fun hc => ?_)
    · exact go
    · have hc := nI_ngt (by omega) (by omega) hc
      refine V_aload_n rfl rfl rfl ?_
      refine V_getR (r := 3) rfl rfl ?_
      refine V_aload_n rfl rfl rfl ?_
      refine V_gi 10 rfl rfl rfl ?_
      refine V_bl 600 rfl rfl (by first | with_reducible rfl | assumption | exact nI_sub (by omega) | exact nI_add _ _) (by first | omega | assumption) rfl ?_
      refine V_bi (v := nI 32) rfl rfl ?_
      -- at 30: .if_icmp .ne 16
      rw [a1.2.2.2.2.2.1 p (by omega)]
      refine V_icmp_ne rfl (fun hd => ?_) (fun hd => ?_)
      · exact go
      · exact absurd ⟨hc, by unfold spB; exact decide_eq_true (Decidable.of_not_not hd)⟩ hen
  · intro j hj ih hej h1 a1 e1 f1
    have hall := rn_all hej hj
    have hs : T j = nI 32 := by have := hall.2; unfold spB at this; exact of_decide_eq_true this
    refine V_aload_n rfl rfl rfl ?_
    refine V_gi 10 rfl rfl rfl ?_
    refine V_aload_n rfl rfl rfl ?_
    refine V_gi 8 rfl rfl rfl ?_
    -- at 16: .if_icmp .ge 30
    rw [e1, a1.1]
    refine V_icmp_ge rfl (fun hc => ?_) (fun hc => ?_)
    · exact absurd hc (nI_ge (by omega) (by omega))
    · refine V_aload_n rfl rfl rfl ?_
      refine V_getR (r := 3) rfl rfl ?_
      refine V_aload_n rfl rfl rfl ?_
      refine V_gi 10 rfl rfl rfl ?_
      refine V_bl 600 rfl rfl (by first | with_reducible rfl | assumption | exact nI_sub (by omega) | exact nI_add _ _) (by first | omega | assumption) rfl ?_
      refine V_bi (v := nI 32) rfl rfl ?_
      -- at 30: .if_icmp .ne 16
      rw [a1.2.2.2.2.2.1 j (by omega), hs]
      refine V_icmp_ne rfl (fun hd => ?_) (fun hd => ?_)
      · exact absurd rfl hd
      · refine V_aload_n rfl rfl rfl ?_
        refine V_dup rfl rfl ?_
        refine V_gi 10 rfl rfl rfl ?_
        refine V_ic (v := nI 1) rfl rfl ?_
        refine V_iadd rfl ?_
        -- at 40: .putfield 44
        rw [e1, nI_add]
        refine V_pi 10 rfl rfl rfl rfl ?_
        refine V_goto rfl ?_
        -- at 8: .aload_n 0
        exact ih (by omega) _ (a1.wr (Or.inl rfl)) wI_same (f1.tr (Fr.w (by simp)))
