/-! nets: closing up, pieces, distances -/
def rk (s v : Nat) : Nat := cnt s.testBit v
def sel (s i : Nat) : Nat := ((List.range 7).filter s.testBit).getD i 7
theorem sel_rk {s v : Nat} (hs : s < 128) (hv : v < 7) (h : s.testBit v = true) : sel s (rk s v) = v := by
  have : ∀ s, s < 128 → ∀ v, v < 7 → s.testBit v = true → sel s (rk s v) = v := by decide +kernel
  exact this s hs v hv h
theorem rk_sel {s i n : Nat} (hs : s < 128) (hn : n ≤ 7) (hi : i < rk s n) : sel s i < n ∧ s.testBit (sel s i) = true ∧ rk s (sel s i) = i := by
  have : ∀ s, s < 128 → ∀ n, n < 8 → ∀ i, i < rk s n → sel s i < n ∧ s.testBit (sel s i) = true ∧ rk s (sel s i) = i := by decide +kernel
  exact this s hs n (by omega) i hi
theorem rk_mono {s u v : Nat} (h : u ≤ v) : rk s u ≤ rk s v := by
  unfold rk
  obtain ⟨d, rfl⟩ : ∃ d, v = u + d := ⟨v - u, by omega⟩
  rw [cnt_add]; omega
theorem rk_lt {s u v : Nat} (h : u < v) (hu : s.testBit u = true) : rk s u < rk s v := by
  have h1 : rk s (u + 1) = rk s u + 1 := by unfold rk; rw [cnt, if_pos hu]
  have := rk_mono (s := s) (show u + 1 ≤ v by omega)
  omega
theorem rk_le (s v : Nat) : rk s v ≤ v := cnt_le _ _
theorem sel_lt {s i j n : Nat} (hs : s < 128) (hn : n ≤ 7) (hij : i < j) (hj : j < rk s n) : sel s i < sel s j := by
  obtain ⟨a1, a2, a3⟩ := rk_sel hs hn (show i < rk s n by omega)
  obtain ⟨b1, b2, b3⟩ := rk_sel hs hn hj
  rcases Nat.lt_or_ge (sel s i) (sel s j) with q | q
  · exact q
  · have := rk_mono (s := s) q
    omega
def clu (x s : Nat) : Nat → Nat
  | 0 => 0
  | v + 1 => if s.testBit v = true then clu x s v ||| (x >>> v &&& 1) <<< rk s v else clu x s v
theorem bit1 (x v : Nat) : x >>> v &&& 1 = if x.testBit v = true then 1 else 0 := by
  rw [Nat.testBit, Nat.and_comm, Nat.one_and_eq_mod_two]
  rcases Nat.mod_two_eq_zero_or_one (x >>> v) with h | h <;> simp [h]
theorem clu_tb {x s : Nat} (hs : s < 128) : ∀ n, n ≤ 7 → ∀ i, (clu x s n).testBit i = (decide (i < rk s n) && x.testBit (sel s i)) := by
  intro n
  induction n with
  | zero => intro _ i; simp [clu, rk, cnt]
  | succ n ih =>
    intro hn i
    rw [clu]
    by_cases h : s.testBit n = true
    · have e1 : rk s (n + 1) = rk s n + 1 := by unfold rk; rw [cnt, if_pos h]
      rw [if_pos h, Nat.testBit_or, ih (by omega), Nat.testBit_shiftLeft, bit1, e1]
      by_cases hi : i = rk s n
      · subst hi
        rw [sel_rk hs (by omega) h]
        by_cases hx : x.testBit n = true <;> simp [hx]
      · by_cases hi2 : i < rk s n
        · have : ¬ rk s n ≤ i := by omega
          simp [hi2, this, show i < rk s n + 1 by omega]
        · have h2 : ¬ i < rk s n + 1 := by omega
          have h3 : i - rk s n ≠ 0 := by omega
          have h4 : (if x.testBit n = true then 1 else 0 : Nat).testBit (i - rk s n) = false := by
            obtain ⟨d, hd⟩ : ∃ d, i - rk s n = d + 1 := ⟨i - rk s n - 1, by omega⟩
            rw [hd, Nat.testBit_succ]
            split <;> simp
          rw [h4]
          simp [hi2, h2]
    · have e1 : rk s (n + 1) = rk s n := by unfold rk; rw [cnt, if_neg h]; rfl
      rw [if_neg h, ih (by omega), e1]
theorem clu_lt {x s n : Nat} (hs : s < 128) (hn : n ≤ 7) : clu x s n < 128 := by
  apply Nat.lt_pow_two_of_testBit (n := 7)
  intro i hi
  rw [clu_tb hs n hn]
  have := rk_le s n
  simp [show ¬ i < rk s n by omega]
theorem c_clu {S : mScr} {dep x s n : Nat} {h : Hp} (hx : x < 128) (hs : s < 128) (hn : n ≤ 7) : Cal S dep 69 [.int (nI x), .int (nI s), .int (nI n)] h (Rt (nI (clu x s n)) h) := by
  show V S dep 69 0 [.int (nI x), .int (nI s), .int (nI n), .null, .null, .null] [] h _
  refine V_ic (v := nI 0) rfl rfl ?_
  refine V_istore_n (L' := [_, _, _, _, _, _]) rfl rfl rfl ?_
  refine V_ic (v := nI 0) rfl rfl ?_
  refine V_istore (L' := [_, _, _, _, _, _]) rfl rfl rfl ?_
  refine V_ic (v := nI 0) rfl rfl ?_
  refine V_istore (L' := [_, _, _, _, _, _]) rfl rfl rfl ?_
  -- at 8: .iload 5
  refine loopUp (P := fun j => V S dep 69 8 [.int (nI x), .int (nI s), .int (nI n), .int (nI (clu x s j)), .int (nI (rk s j)), .int (nI j)] [] h (Rt (nI (clu x s n)) h)) n ?_ ?_ 0 (Nat.zero_le _)
  · refine V_iload rfl rfl ?_
    refine V_iload_n rfl rfl ?_
    -- at 11: .if_icmp .ge 33
    refine V_icmp_ge rfl (fun hc => ?_) (fun hc => ?_)
    · refine V_iload_n rfl rfl ?_
      -- at 45: .ireturn
      refine V_iret rfl rfl ?_
      exact Rt.rf
    · exact absurd (nI_le (Nat.le_refl n) (by omega)) hc
  · intro j hj ih
    have hr := rk_le s j
    refine V_iload rfl rfl ?_
    refine V_iload_n rfl rfl ?_
    -- at 11: .if_icmp .ge 33
    refine V_icmp_ge rfl (fun hc => ?_) (fun hc => ?_)
    · exact absurd hc (nI_ge hj (by omega))
    · refine V_iload_n rfl rfl ?_
      refine V_iload rfl rfl ?_
      refine V_ishr rfl ?_
      refine V_ic (v := nI 1) rfl rfl ?_
      refine V_iand rfl ?_
      -- at 20: .ifCond .eq 18
      refine V_if_eq rfl (fun hd => ?_) (fun hd => ?_)
      · have e := (tb_z (by omega) (by omega)).mp hd
        refine V_iinc (L' := [_, _, _, _, _, _]) rfl rfl rfl ?_
        refine V_goto rfl ?_
        -- at 8: .iload 5
        refine V_L ?_ ih
        have e1 : rk s (j + 1) = rk s j := by unfold rk; rw [cnt, if_neg (by simp [e])]; rfl
        rw [clu, if_neg (by simp [e]), e1, nI_succ]; rfl
      · have e := (tb_nz (by omega) (by omega)).mp hd
        refine V_iload_n rfl rfl ?_
        refine V_iload_n rfl rfl ?_
        refine V_iload rfl rfl ?_
        refine V_ishr rfl ?_
        refine V_ic (v := nI 1) rfl rfl ?_
        refine V_iand rfl ?_
        refine V_iload rfl rfl ?_
        refine V_ishl rfl ?_
        refine V_ior rfl ?_
        refine V_istore_n (L' := [_, _, _, _, _, _]) rfl rfl rfl ?_
        refine V_iinc (L' := [_, _, _, _, _, _]) rfl rfl rfl ?_
        refine V_iinc (L' := [_, _, _, _, _, _]) rfl rfl rfl ?_
        refine V_goto rfl ?_
        -- at 8: .iload 5
        refine V_L ?_ ih
        have e1 : rk s (j + 1) = rk s j + 1 := by unfold rk; rw [cnt, if_pos e]
        rw [clu, if_pos e, e1, nI_shr (by omega) (by omega), nI_and, nI_shl (by omega), nI_or, nI_succ, nI_succ]; rfl
/-- the net of some nodes -/
def wth (n C s : Nat) : Nat := codeOf (rk s n) (fun x y => adj C (sel s x) (sel s y))
theorem wth_row {n C s i : Nat} (hn : n ≤ 7) (hs : s < 128) (hi : i < rk s n) : rowOf (rk s n) (wth n C s) i = clu (rowOf n C (sel s i)) s n := by
  have hk := rk_le s n
  apply Nat.eq_of_testBit_eq
  intro u
  rw [rowOf_tb, clu_tb hs n hn]
  by_cases hu : u < rk s n
  · obtain ⟨a1, a2, a3⟩ := rk_sel hs hn hi
    obtain ⟨b1, b2, b3⟩ := rk_sel hs hn hu
    rw [rowOf_tb]
    by_cases hui : u = i
    · subst hui; simp [adj_self]
    · unfold wth
      rw [adj_codeOf (by omega) hu hi hui (fun x y => adj_comm C _ _)]
      simp [hu, hi, a1, b1]
  · simp [hu]
theorem wth_lt (n C s : Nat) : wth n C s < 2 ^ tri (rk s n) := codeOf_lt _ _
theorem c_keep {S : mScr} {dep a b n C s : Nat} {h : Hp} (hN : NC h b n C) (ha : isNet a = true) (hs : s < 128) (hab1 : b + 1 ≠ a) (hab2 : a + 1 ≠ b) : Cal S (dep + 1) 68 [.ref a, .ref b, .int (nI s)] h (fun r h' => r = none ∧ NC h' a (rk s n) (wth n C s) ∧ Fr [a, a + 1] h h') := by
  obtain ⟨⟨hbn, hn, h0, hg, hb⟩, hC⟩ := id hN
  have hb1 := net_b ha
  have hb2 := net_b hbn
  have hkn := rk_le s n
  show V S (dep + 1) 68 0 [.ref a, .ref b, .int (nI s), .null, .null, .null] [] h _
  refine V_aload_n rfl rfl hb2 ?_
  refine V_gi 0 rfl (net_sz hbn) rfl ?_
  rw [h0]
  refine V_istore_n (L' := [_, _, _, _, _, _]) rfl rfl rfl ?_
  refine V_ic (v := nI 0) rfl rfl ?_
  refine V_istore (L' := [_, _, _, _, _, _]) rfl rfl rfl ?_
  refine V_ic (v := nI 0) rfl rfl ?_
  refine V_istore (L' := [_, _, _, _, _, _]) rfl rfl rfl ?_
  -- at 11: .iload 5
  have lp := loopUp (P := fun j => ∀ h1, h1.1 b 0 = nI n → (∀ i, i < rk s j → h1.1 (a + 1) i = nI (clu (rowOf n C (sel s i)) s n)) → (∀ v, j ≤ v → v < 7 → h1.1 (b + 1) v = nI (rowOf n C v)) → Fr [a, a + 1] h h1 → V S (dep + 1) 68 11 [.ref a, .ref b, .int (nI s), .int (nI n), .int (nI (rk s j)), .int (nI j)] [] h1 (fun r h' => r = none ∧ NC h' a (rk s n) (wth n C s) ∧ Fr [a, a + 1] h h')) n ?_ ?_ 0 (Nat.zero_le _)
  · exact lp h h0 (fun i hi => by simp [rk, cnt] at hi) (fun v _ hv => hg v hv) Fr.rf
  · intro h1 g1 g2 g3 hF
    refine V_iload rfl rfl ?_
    refine V_iload_n rfl rfl ?_
    -- at 14: .if_icmp .ge 40
    refine V_icmp_ge rfl (fun hd => ?_) (fun hd => ?_)
    · refine V_aload_n rfl rfl hb1 ?_
      refine V_iload rfl rfl ?_
      -- at 57: .putfield 9
      refine V_pi 0 rfl (net_sz ha) rfl rfl ?_
      refine V_iload rfl rfl ?_
      refine V_istore (L' := [_, _, _, _, _, _]) rfl rfl rfl ?_
      -- at 64: .iload 5
      have lq := loopUp (P := fun j => rk s n ≤ j → ∀ h2, h2.1 a 0 = nI (rk s n) → (∀ i, i < rk s n → h2.1 (a + 1) i = nI (clu (rowOf n C (sel s i)) s n)) → (∀ v, rk s n ≤ v → v < j → h2.1 (a + 1) v = nI 0) → Fr [a, a + 1] h h2 → V S (dep + 1) 68 64 [.ref a, .ref b, .int (nI s), .int (nI n), .int (nI (rk s n)), .int (nI j)] [] h2 (fun r h' => r = none ∧ NC h' a (rk s n) (wth n C s) ∧ Fr [a, a + 1] h h')) 7 ?_ ?_ (rk s n) (by omega) (Nat.le_refl _)
      · refine lq _ wI_same (fun i hi => ?_) (fun v h1 h2 => by omega) (hF.tr (Fr.w (by simp)))
        rw [wI_ne (by omega)]; exact g2 i hi
      · intro _ h2 k1 k2 k3 hF2
        refine V_iload rfl rfl ?_
        refine V_bi (v := nI 7) rfl rfl ?_
        -- at 68: .if_icmp .ge 17
        refine V_icmp_ge rfl (fun he => ?_) (fun he => ?_)
        · refine V_return rfl rfl ?_
          refine ⟨rfl, ⟨⟨ha, by omega, k1, fun v hv => ?_, fun v => rowOf_lt (by omega)⟩, wth_lt n C s⟩, hF2⟩
          by_cases hv2 : v < rk s n
          · rw [wth_row hn hs hv2]; exact k2 v hv2
          · rw [k3 v (by omega) hv]
            unfold rowOf
            rw [if_neg hv2]
        · exact absurd (nI_le (Nat.le_refl 7) (by decide)) he
      · intro j hj ih hjr h2 k1 k2 k3 hF2
        refine V_iload rfl rfl ?_
        refine V_bi (v := nI 7) rfl rfl ?_
        -- at 68: .if_icmp .ge 17
        refine V_icmp_ge rfl (fun he => ?_) (fun he => ?_)
        · exact absurd he (nI_ge hj (by decide))
        · refine V_aload_n rfl rfl hb1 ?_
          refine V_getR rfl (net_nr ha) ?_
          refine V_iload rfl rfl ?_
          refine V_ic (v := nI 0) rfl rfl ?_
          -- at 78: .iastore
          refine V_as 7 rfl (net_ar ha) rfl hj rfl ?_
          refine V_iinc (L' := [_, _, _, _, _, _]) rfl rfl rfl ?_
          refine V_goto rfl ?_
          -- at 64: .iload 5
          rw [show Int32.ofInt 1 = nI 1 from rfl, nI_add]
          refine ih (by omega) _ (by rw [wI_ne (by omega)]; exact k1) (fun i hi => by rw [wI_ne (by omega)]; exact k2 i hi) (fun v hv1 hv2 => ?_) (hF2.tr (Fr.w (by simp)))
          by_cases hv3 : v = j
          · subst hv3; exact wI_same
          · rw [wI_ne (by omega)]; exact k3 v hv1 (by omega)
    · exact absurd (nI_le (Nat.le_refl n) (by omega)) hd
  · intro j hj ih h1 g1 g2 g3 hF
    have hr := rk_le s j
    refine V_iload rfl rfl ?_
    refine V_iload_n rfl rfl ?_
    -- at 14: .if_icmp .ge 40
    refine V_icmp_ge rfl (fun hd => ?_) (fun hd => ?_)
    · exact absurd hd (nI_ge hj (by omega))
    · refine V_iload_n rfl rfl ?_
      refine V_iload rfl rfl ?_
      refine V_ishr rfl ?_
      refine V_ic (v := nI 1) rfl rfl ?_
      refine V_iand rfl ?_
      -- at 23: .ifCond .eq 25
      refine V_if_eq rfl (fun he => ?_) (fun he => ?_)
      · have e := (tb_z (by omega) (by omega)).mp he
        have e1 : rk s (j + 1) = rk s j := by unfold rk; rw [cnt, if_neg (by simp [e])]; rfl
        refine V_iinc (L' := [_, _, _, _, _, _]) rfl rfl rfl ?_
        refine V_goto rfl ?_
        -- at 11: .iload 5
        rw [show Int32.ofInt 1 = nI 1 from rfl, nI_add, ← e1]
        exact ih h1 g1 (by rw [e1]; exact g2) (fun v hv => g3 v (by omega)) hF
      · have e := (tb_nz (by omega) (by omega)).mp he
        have e1 : rk s (j + 1) = rk s j + 1 := by unfold rk; rw [cnt, if_pos e]
        refine V_aload_n rfl rfl hb1 ?_
        refine V_getR rfl (net_nr ha) ?_
        refine V_iload rfl rfl ?_
        -- at 32: .aload_n 1
        refine V_aload_n rfl rfl hb2 ?_
        refine V_getR rfl (net_nr hbn) ?_
        refine V_iload rfl rfl ?_
        -- at 38: .iaload
        refine V_al 7 rfl (net_ar hbn) rfl (by omega) rfl ?_
        rw [g3 j (Nat.le_refl j) (by omega)]
        refine V_iload_n rfl rfl ?_
        refine V_iload_n rfl rfl ?_
        -- at 41: .invokestatic 59
        refine V_cS rfl rfl rfl rfl (c_clu (hb j) hs hn) ?_
        refine V_as 7 rfl (net_ar ha) rfl (by omega) rfl ?_
        refine V_iinc (L' := [_, _, _, _, _, _]) rfl rfl rfl ?_
        refine V_iinc (L' := [_, _, _, _, _, _]) rfl rfl rfl ?_
        refine V_goto rfl ?_
        -- at 11: .iload 5
        rw [show Int32.ofInt 1 = nI 1 from rfl, nI_add, nI_add, ← e1]
        refine ih _ (by rw [wI_ne (by omega)]; exact g1) (fun i hi => ?_) (fun v hv hv7 => ?_) (hF.tr (Fr.w (by simp)))
        · by_cases hi2 : i = rk s j
          · subst hi2
            rw [wI_same, sel_rk hs (by omega) e]
          · rw [wI_ne (by omega)]; exact g2 i (by omega)
        · rw [wI_ne (by omega)]; exact g3 v (by omega) hv7
theorem wnb_lt {g : Nat → Nat} (hb : ∀ v, g v < 128) {s : Nat} (hs : s < 128) (n : Nat) : wnb g s n < 128 := by
  induction n with
  | zero => exact hs
  | succ n ih =>
    rw [wnb]
    split
    · exact Nat.or_lt_two_pow (n := 7) ih (hb n)
    · exact ih
def wnI (g : Nat → Nat) (n s : Nat) : Nat → Nat
  | 0 => s
  | j + 1 => wnb g (wnI g n s j) n
theorem wnI_lt {g : Nat → Nat} (hb : ∀ v, g v < 128) {n s : Nat} (hs : s < 128) (j : Nat) : wnI g n s j < 128 := by
  induction j with
  | zero => exact hs
  | succ j ih => exact wnb_lt hb ih n
def pcO (g : Nat → Nat) (n v : Nat) : Nat := wnI g n (2 ^ v) (n - 1)
theorem c_pcO {S : mScr} {dep a n v : Nat} {g : Nat → Nat} {h : Hp} (hN : NA h a n g) (hv : v < n) : Cal S (dep + 1) 71 [.ref a, .int (nI v)] h (Rt (nI (pcO g n v)) h) := by
  obtain ⟨ha, hn, h0, hg, hb⟩ := id hN
  have hb1 := net_b ha
  have hv2 : 2 ^ v < 128 := Nat.lt_of_le_of_lt (Nat.pow_le_pow_right (by decide) (show v ≤ 6 by omega)) (by decide)
  show V S (dep + 1) 71 0 [.ref a, .int (nI v), .null, .null] [] h _
  refine V_ic (v := nI 1) rfl rfl ?_
  refine V_iload_n rfl rfl ?_
  refine V_ishl rfl ?_
  -- at 3: .istore_n 2
  rw [nI_2p _ (by omega)]
  refine V_istore_n (L' := [_, _, _, _]) rfl rfl rfl ?_
  refine V_ic (v := nI 1) rfl rfl ?_
  refine V_istore_n (L' := [_, _, _, _]) rfl rfl rfl ?_
  -- at 6: .iload_n 3
  have lp := loopUp (P := fun j => 1 ≤ j → V S (dep + 1) 71 6 [.ref a, .int (nI v), .int (nI (wnI g n (2 ^ v) (j - 1))), .int (nI j)] [] h (Rt (nI (pcO g n v)) h)) n ?_ ?_ 1 (by omega) (Nat.le_refl _)
  · exact lp
  · intro _
    refine V_iload_n rfl rfl ?_
    refine V_aload_n rfl rfl (by first | assumption | rfl) ?_
    refine V_gi 0 rfl (net_sz (by first | assumption | rfl)) rfl ?_
    -- at 11: .if_icmp .ge 15
    refine V_icmp_ge rfl (fun hc => ?_) (fun hc => ?_)
    · refine V_iload_n rfl rfl ?_
      -- at 27: .ireturn
      refine V_iret rfl rfl ?_
      exact Rt.rf
    · exact absurd (by rw [h0]; exact nI_le (Nat.le_refl n) (by omega)) hc
  · intro j hj ih hj1
    refine V_iload_n rfl rfl ?_
    refine V_aload_n rfl rfl (by first | assumption | rfl) ?_
    refine V_gi 0 rfl (net_sz (by first | assumption | rfl)) rfl ?_
    -- at 11: .if_icmp .ge 15
    refine V_icmp_ge rfl (fun hc => ?_) (fun hc => ?_)
    · exact absurd hc (by rw [h0]; exact nI_ge hj (by omega))
    · refine V_aload_n rfl rfl (by first | assumption | rfl) ?_
      refine V_iload_n rfl rfl ?_
      -- at 16: .invokevirtual 63
      refine V_cV rfl rfl (by first | assumption | rfl) rfl rfl (c_wnb hN (wnI_lt hb hv2 _)) ?_
      refine V_istore_n (L' := [_, _, _, _]) rfl rfl rfl ?_
      refine V_iinc (L' := [_, _, _, _]) rfl rfl rfl ?_
      refine V_goto rfl ?_
      -- at 6: .iload_n 3
      refine V_L ?_ (ih (by omega))
      obtain ⟨i, rfl⟩ : ∃ i, j = i + 1 := ⟨j - 1, by omega⟩
      rw [show i + 1 + 1 - 1 = (i + 1 - 1) + 1 by omega, wnI, nI_succ (i + 1)]; rfl
def pcs (g : Nat → Nat) (n : Nat) : Nat → Nat × Nat
  | 0 => (0, 0)
  | v + 1 => if (pcs g n v).1.testBit v = true then pcs g n v else ((pcs g n v).1 ||| pcO g n v, (pcs g n v).2 + 1)
theorem pcs_lt {g : Nat → Nat} (hb : ∀ v, g v < 128) {n : Nat} : ∀ v, v ≤ 7 → (pcs g n v).1 < 128 ∧ (pcs g n v).2 ≤ v := by
  intro v
  induction v with
  | zero => intro _; simp [pcs]
  | succ v ih =>
    intro hv
    have h1 := ih (by omega)
    have hv2 : 2 ^ v < 128 := Nat.lt_of_le_of_lt (Nat.pow_le_pow_right (by decide) (show v ≤ 6 by omega)) (by decide)
    rw [pcs]
    split
    · exact ⟨h1.1, by omega⟩
    · exact ⟨Nat.or_lt_two_pow (n := 7) h1.1 (wnI_lt hb hv2 _), by simpa using h1.2⟩
theorem c_pcs {S : mScr} {dep a n : Nat} {g : Nat → Nat} {h : Hp} (hN : NA h a n g) : Cal S (dep + 2) 72 [.ref a] h (Rt (nI (pcs g n n).2) h) := by
  obtain ⟨ha, hn, h0, hg, hb⟩ := id hN
  have hb1 := net_b ha
  show V S (dep + 2) 72 0 [.ref a, .null, .null, .null] [] h _
  refine V_ic (v := nI 0) rfl rfl ?_
  refine V_istore_n (L' := [_, _, _, _]) rfl rfl rfl ?_
  refine V_ic (v := nI 0) rfl rfl ?_
  refine V_istore_n (L' := [_, _, _, _]) rfl rfl rfl ?_
  refine V_ic (v := nI 0) rfl rfl ?_
  refine V_istore_n (L' := [_, _, _, _]) rfl rfl rfl ?_
  -- at 6: .iload_n 3
  refine loopUp (P := fun j => V S (dep + 2) 72 6 [.ref a, .int (nI (pcs g n j).1), .int (nI (pcs g n j).2), .int (nI j)] [] h (Rt (nI (pcs g n n).2) h)) n ?_ ?_ 0 (Nat.zero_le _)
  · refine V_iload_n rfl rfl ?_
    refine V_aload_n rfl rfl (by first | assumption | rfl) ?_
    refine V_gi 0 rfl (net_sz (by first | assumption | rfl)) rfl ?_
    -- at 11: .if_icmp .ge 28
    refine V_icmp_ge rfl (fun hc => ?_) (fun hc => ?_)
    · refine V_iload_n rfl rfl ?_
      -- at 40: .ireturn
      refine V_iret rfl rfl ?_
      exact Rt.rf
    · exact absurd (by rw [h0]; exact nI_le (Nat.le_refl n) (by omega)) hc
  · intro j hj ih
    have hl := pcs_lt (n := n) hb j (by omega)
    refine V_iload_n rfl rfl ?_
    refine V_aload_n rfl rfl (by first | assumption | rfl) ?_
    refine V_gi 0 rfl (net_sz (by first | assumption | rfl)) rfl ?_
    -- at 11: .if_icmp .ge 28
    refine V_icmp_ge rfl (fun hc => ?_) (fun hc => ?_)
    · exact absurd hc (by rw [h0]; exact nI_ge hj (by omega))
    · refine V_iload_n rfl rfl ?_
      refine V_iload_n rfl rfl ?_
      refine V_ishr rfl ?_
      refine V_ic (v := nI 1) rfl rfl ?_
      refine V_iand rfl ?_
      -- at 19: .ifCond .ne 14
      refine V_if_ne rfl (fun hd => ?_) (fun hd => ?_)
      · have e := (tb_nz (by omega) (by omega)).mp hd
        refine V_iinc (L' := [_, _, _, _]) rfl rfl rfl ?_
        refine V_goto rfl ?_
        -- at 6: .iload_n 3
        refine V_L ?_ ih
        rw [pcs, if_pos e, nI_succ]; rfl
      · have e : (pcs g n j).1.testBit j = false := (tb_z (by omega) (by omega)).mp (by simpa using hd)
        refine V_iload_n rfl rfl ?_
        refine V_aload_n rfl rfl (by first | assumption | rfl) ?_
        refine V_iload_n rfl rfl ?_
        -- at 25: .invokevirtual 66
        refine V_cV rfl rfl (by first | assumption | rfl) rfl rfl (c_pcO hN hj) ?_
        refine V_ior rfl ?_
        refine V_istore_n (L' := [_, _, _, _]) rfl rfl rfl ?_
        refine V_iinc (L' := [_, _, _, _]) rfl rfl rfl ?_
        refine V_iinc (L' := [_, _, _, _]) rfl rfl rfl ?_
        refine V_goto rfl ?_
        -- at 6: .iload_n 3
        refine V_L ?_ ih
        rw [pcs, if_neg (by simp [e]), nI_or, nI_succ, nI_succ]; rfl
def dst (g : Nat → Nat) (n y : Nat) : Nat → Nat → Int32
  | _, 0 => -1
  | s, j + 1 => if s.testBit y = true then nI (n - (j + 1)) else dst g n y (wnb g s n) j
theorem c_dst {S : mScr} {dep a n x y : Nat} {g : Nat → Nat} {h : Hp} (hN : NA h a n g) (hx : x < n) (hy : y < n) : Cal S (dep + 1) 73 [.ref a, .int (nI x), .int (nI y)] h (Rt (dst g n y (2 ^ x) n) h) := by
  obtain ⟨ha, hn, h0, hg, hb⟩ := id hN
  have hb1 := net_b ha
  have hv2 : 2 ^ x < 128 := Nat.lt_of_le_of_lt (Nat.pow_le_pow_right (by decide) (show x ≤ 6 by omega)) (by decide)
  show V S (dep + 1) 73 0 [.ref a, .int (nI x), .int (nI y), .null, .null] [] h _
  refine V_ic (v := nI 1) rfl rfl ?_
  refine V_iload_n rfl rfl ?_
  refine V_ishl rfl ?_
  -- at 3: .istore_n 3
  rw [nI_2p _ (by omega)]
  refine V_istore_n (L' := [_, _, _, _, _]) rfl rfl rfl ?_
  refine V_ic (v := nI 0) rfl rfl ?_
  refine V_istore (L' := [_, _, _, _, _]) rfl rfl rfl ?_
  -- at 7: .iload 4
  have lp := loopUp (P := fun j => ∀ s, s < 128 → dst g n y s (n - j) = dst g n y (2 ^ x) n → V S (dep + 1) 73 7 [.ref a, .int (nI x), .int (nI y), .int (nI s), .int (nI j)] [] h (Rt (dst g n y (2 ^ x) n) h)) n ?_ ?_ 0 (Nat.zero_le _)
  · exact lp _ hv2 rfl
  · intro s hs hq
    refine V_iload rfl rfl ?_
    refine V_aload_n rfl rfl (by first | assumption | rfl) ?_
    refine V_gi 0 rfl (net_sz (by first | assumption | rfl)) rfl ?_
    -- at 13: .if_icmp .ge 26
    refine V_icmp_ge rfl (fun hc => ?_) (fun hc => ?_)
    · refine V_ic (v := -1) rfl rfl ?_
      -- at 40: .ireturn
      refine V_iret rfl rfl ?_
      rw [← hq, Nat.sub_self]
      exact Rt.rf
    · exact absurd (by rw [h0]; exact nI_le (Nat.le_refl n) (by omega)) hc
  · intro j hj ih s hs hq
    refine V_iload rfl rfl ?_
    refine V_aload_n rfl rfl (by first | assumption | rfl) ?_
    refine V_gi 0 rfl (net_sz (by first | assumption | rfl)) rfl ?_
    -- at 13: .if_icmp .ge 26
    refine V_icmp_ge rfl (fun hc => ?_) (fun hc => ?_)
    · exact absurd hc (by rw [h0]; exact nI_ge hj (by omega))
    · obtain ⟨d, hd⟩ : ∃ d, n - j = d + 1 := ⟨n - j - 1, by omega⟩
      rw [hd, dst] at hq
      refine V_iload_n rfl rfl ?_
      refine V_iload_n rfl rfl ?_
      refine V_ishr rfl ?_
      refine V_ic (v := nI 1) rfl rfl ?_
      refine V_iand rfl ?_
      -- at 21: .ifCond .eq 6
      refine V_if_eq rfl (fun he => ?_) (fun he => ?_)
      · have e := (tb_z (by omega) (by omega)).mp he
        rw [if_neg (by simp [e])] at hq
        refine V_aload_n rfl rfl (by first | assumption | rfl) ?_
        refine V_iload_n rfl rfl ?_
        -- at 29: .invokevirtual 63
        refine V_cV rfl rfl (by first | assumption | rfl) rfl rfl (c_wnb hN hs) ?_
        refine V_istore_n (L' := [_, _, _, _, _]) rfl rfl rfl ?_
        refine V_iinc (L' := [_, _, _, _, _]) rfl rfl rfl ?_
        refine V_goto rfl ?_
        -- at 7: .iload 4
        rw [show Int32.ofInt 1 = nI 1 from rfl, nI_add]
        exact ih _ (wnb_lt hb hs n) (by rw [show n - (j + 1) = d by omega]; exact hq)
      · have e := (tb_nz (by omega) (by omega)).mp he
        rw [if_pos e] at hq
        refine V_iload rfl rfl ?_
        -- at 26: .ireturn
        refine V_iret rfl rfl ?_
        rw [← hq, show n - (d + 1) = j by omega]
        exact Rt.rf
