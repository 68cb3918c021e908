/-! feeding the tape -/
def byt (x : Int32) (s : Nat) : Int32 := vp_nar .byte (x >>> (nI s &&& 31)).toInt8.toInt32
theorem byt8 (x : Int32) {s : Nat} (hs : s = 24 ∨ s = 16 ∨ s = 8 ∨ s = 0) : (x.toUInt32 >>> ((nI s).toUInt32 &&& Int32.toUInt32 31)).toInt32.toInt8 = (x >>> (nI s &&& 31)).toInt8 := by
  apply Int8.toBitVec_inj.mp
  have a1 : ((nI s).toUInt32 &&& Int32.toUInt32 31).toBitVec % 32 = BitVec.ofNat 32 s := by rcases hs with rfl | rfl | rfl | rfl <;> rfl
  have a2 : (nI s &&& 31).toBitVec.smod 32 = BitVec.ofNat 32 s := by rcases hs with rfl | rfl | rfl | rfl <;> rfl
  rw [Int32.toBitVec_toInt8, Int32.toBitVec_toInt8, UInt32.toBitVec_toInt32, UInt32.toBitVec_shiftRight, Int32.toBitVec_shiftRight, a1, a2, Int32.toBitVec_toUInt32]
  apply BitVec.eq_of_getLsbD_eq
  intro i hi
  have hz : (BitVec.ofNat 32 s).toNat = s := by rcases hs with rfl | rfl | rfl | rfl <;> rfl
  rw [BitVec.getLsbD_signExtend, BitVec.getLsbD_signExtend, if_pos (by omega), if_pos (by omega)]
  show (_ && (x.toBitVec >>> (BitVec.ofNat 32 s).toNat).getLsbD i) = (_ && (x.toBitVec.sshiftRight (BitVec.ofNat 32 s).toNat).getLsbD i)
  rw [hz, BitVec.getLsbD_ushiftRight, BitVec.getLsbD_sshiftRight, if_pos (by omega), decide_eq_false (by omega : ¬ 32 ≤ i)]
  rfl
def shj (j : Nat) : Int32 := Int32.ofInt (24 - 8 * (j : Int))
theorem shj_f : ∀ j, j < 4 → ¬ shj j < 0 ∧ shj j + Int32.ofInt (-8) = shj (j + 1) ∧ shj j = nI (24 - 8 * j) := by decide
theorem s4 : ∀ j, j < 4 → (24 - 8 * j = 24 ∨ 24 - 8 * j = 16 ∨ 24 - 8 * j = 8 ∨ 24 - 8 * j = 0) := by decide
def fiv (a b c d e : Int32) (k : Nat) : Int32 := if k < 4 then a else if k < 8 then b else if k < 12 then c else if k < 16 then d else e
def fdv (a b c d e : Int32) (k : Nat) : Int32 := byt (fiv a b c d e k) (24 - 8 * (k % 4))
def TP (ta oa fi : Nat) (h h' : Hp) (t n : Nat) (g : Nat → Int32) : Prop := h'.1 oa fi = nI (t + n) ∧ (∀ i, h'.1 ta i = if t ≤ i ∧ i < t + n then g (i - t) else h.1 ta i) ∧ (∀ a, a ≠ oa → a ≠ ta → h'.1 a = h.1 a) ∧ (∀ i, i ≠ fi → h'.1 oa i = h.1 oa i) ∧ h'.2 = h.2
theorem TP.rf {ta oa fi : Nat} {h : Hp} {t : Nat} {g : Nat → Int32} (h0 : h.1 oa fi = nI t) : TP ta oa fi h h t 0 g := ⟨h0, fun i => by rw [if_neg (by omega)], fun _ _ _ => rfl, fun _ _ => rfl, rfl⟩
theorem TP.st {ta oa fi : Nat} {h h1 : Hp} {t n : Nat} {g : Nat → Int32} {v : Int32} (hne : ta ≠ oa) (hT : TP ta oa fi h h1 t n g) (hv : v = g n) : TP ta oa fi h (wI (wI h1 ta (t + n) v) oa fi (nI (t + (n + 1)))) t (n + 1) g := by
  obtain ⟨a1, a2, a3, a4, a5⟩ := hT
  refine ⟨wI_same, fun i => ?_, fun a h1 h2 => ?_, fun i hi => ?_, a5⟩
  · rw [wI_oth hne]
    by_cases e : i = t + n
    · rw [e, wI_same, if_pos (by omega), hv, show t + n - t = n by omega]
    · rw [wI_ne (fun q => e q.2), a2]
      by_cases q : t ≤ i ∧ i < t + n
      · rw [if_pos q, if_pos (by omega)]
      · rw [if_neg q, if_neg (by omega)]
  · rw [wI_oth h1, wI_oth h2]; exact a3 a h1 h2
  · rw [wI_ne (fun q => hi q.2), wI_oth (Ne.symm hne)]; exact a4 i hi
theorem c_fb {S : mScr} {dep t c : Nat} {x : Int32} {g : Nat → Int32} {h0 h : Hp} (hT : TP 3 0 3 h0 h t c g) (h6 : t + c + 4 ≤ 600) (hg : ∀ j, j < 4 → byt x (24 - 8 * j) = g (c + j)) : Cal S (dep + 1) 160 [.ref 0, .int x] h (fun q h' => q = none ∧ TP 3 0 3 h0 h' t (c + 4) g) := by
  show V S (dep + 1) 160 0 [.ref 0, .int x, .null] [] h _
  refine V_bi (v := nI 24) rfl rfl ?_
  refine V_istore_n (L' := [_, _, _]) rfl rfl rfl ?_
  -- at 3: .iload_n 2
  have lp := loopUp (P := fun j => ∀ h1, TP 3 0 3 h0 h1 t (c + j) g → V S (dep + 1) 160 3 [.ref 0, .int x, .int (shj j)] [] h1 (fun q h' => q = none ∧ TP 3 0 3 h0 h' t (c + 4) g)) 4 ?_ ?_ 0 (Nat.zero_le _)
  · exact lp h hT
  · intro h1 hT1
    refine V_iload_n rfl rfl ?_
    -- at 4: .ifCond .lt 42
    refine V_if_lt rfl (fun hc => ?_) (fun hc => ?_)
    · refine V_return rfl rfl ?_
      exact ⟨rfl, hT1⟩
    · exact absurd (by decide) hc
  · intro j hj ih h1 hT1
    obtain ⟨e1, e2, e3⟩ := shj_f j hj
    refine V_iload_n rfl rfl ?_
    -- at 4: .ifCond .lt 42
    refine V_if_lt rfl (fun hc => ?_) (fun hc => ?_)
    · exact absurd hc e1
    · refine V_aload_n rfl rfl rfl ?_
      refine V_gi 3 rfl rfl rfl ?_
      refine V_si (v := nI 600) rfl rfl ?_
      -- at 14: .if_icmp .ge 32
      rw [hT1.1]
      refine V_icmp_ge rfl (fun hd => ?_) (fun hd => ?_)
      · exact absurd (show nI 600 ≤ nI (t + (c + j)) from hd) (nI_ge (by omega) (by omega))
      · refine V_aload_n rfl rfl rfl ?_
        refine V_getR (r := 3) rfl rfl ?_
        refine V_aload_n rfl rfl rfl ?_
        refine V_gi 3 rfl rfl rfl ?_
        refine V_iload_n rfl rfl ?_
        refine V_iload_n rfl rfl ?_
        -- at 27: .iushr
        rw [e3]
        refine V_iushr rfl ?_
        -- at 28: .i2b
        refine V_i2b rfl ?_
        -- at 29: .bastore
        rw [byt8 x (s4 j hj), hT1.1]
        refine V_bs 600 rfl rfl (by first | with_reducible rfl | assumption | exact nI_sub (by omega) | exact nI_add _ _) (by first | omega | assumption) rfl ?_
        refine V_aload_n rfl rfl rfl ?_
        refine V_dup rfl rfl ?_
        refine V_gi 3 rfl rfl rfl ?_
        refine V_ic (v := nI 1) rfl rfl ?_
        -- at 36: .iadd
        rw [wI_oth (by decide), hT1.1]
        refine V_iadd rfl ?_
        -- at 37: .putfield 25
        rw [nI_add]
        refine V_pi 3 rfl rfl rfl rfl ?_
        -- at 40: .iinc 2 (-8)
        have hT2 := hT1.st (v := byt x (24 - 8 * j)) (by decide) (hg j hj)
        obtain ⟨h2, hh2⟩ : ∃ h2, h2 = wI (wI h1 3 (t + (c + j)) (byt x (24 - 8 * j))) 0 3 (nI (t + (c + j) + 1)) := ⟨_, rfl⟩
        show V S (dep + 1) 160 40 [.ref 0, .int x, .int (nI (24 - 8 * j))] [] (wI (wI h1 3 (t + (c + j)) (byt x (24 - 8 * j))) 0 3 (nI (t + (c + j) + 1))) _
        have hT2 : TP 3 0 3 h0 h2 t (c + (j + 1)) g := by rw [hh2]; exact hT2
        rw [← hh2]
        refine V_iinc (L' := [_, _, _]) rfl rfl rfl ?_
        refine V_goto rfl ?_
        -- at 3: .iload_n 2
        rw [← e3, e2]
        exact ih _ hT2
def aFeed (st : St) (a b c d e : Int32) : Int32 × St := if 580 < st.2.2.2.1 then (-4, st) else (nI (st.2.2.2.1 + 20), (st.1, st.2.1, (fun i => if st.2.2.2.1 ≤ i ∧ i < st.2.2.2.1 + 20 then fdv a b c d e (i - st.2.2.2.1) else st.2.2.1 i), st.2.2.2.1 + 20, st.2.2.2.2))
theorem fdv_j {a b c d e : Int32} {m j : Nat} (hj : j < 4) : fdv a b c d e (4 * m + j) = byt (fiv a b c d e (4 * m)) (24 - 8 * j) := by
  unfold fdv fiv
  rw [show (4 * m + j) % 4 = j by omega]
  congr 1
  by_cases h1 : 4 * m < 4
  · rw [if_pos h1, if_pos (by omega)]
  · rw [if_neg h1, if_neg (by omega)]
    by_cases h2 : 4 * m < 8
    · rw [if_pos h2, if_pos (by omega)]
    · rw [if_neg h2, if_neg (by omega)]
      by_cases h3 : 4 * m < 12
      · rw [if_pos h3, if_pos (by omega)]
      · rw [if_neg h3, if_neg (by omega)]
        by_cases h4 : 4 * m < 16
        · rw [if_pos h4, if_pos (by omega)]
        · rw [if_neg h4, if_neg (by omega)]
theorem InvX.feed {h h' : Hp} {st : St} {g : Nat → Int32} (hi : InvX h st) (h6 : st.2.2.2.1 + 20 ≤ 600) (hT : TP 3 0 3 h h' st.2.2.2.1 20 g) : InvX h' (st.1, st.2.1, (fun i => if st.2.2.2.1 ≤ i ∧ i < st.2.2.2.1 + 20 then g (i - st.2.2.2.1) else st.2.2.1 i), st.2.2.2.1 + 20, st.2.2.2.2) ∧ FX h h' := by
  obtain ⟨a1, a2, a3, a4, a5, a6, a7, a8, a9, a10⟩ := hi
  obtain ⟨b1, b2, b3, b4, b5⟩ := hT
  have hf : Fr [0, 3] h h' := ⟨fun a ha => b3 a (fun q => ha (by rw [q]; simp)) (fun q => ha (by rw [q]; simp)), b5⟩
  refine ⟨⟨a1.fr hf (by simp), a2, a3.fr hf (by simp) (by simp), fun i hi => ?_, b1, h6, by rw [b4 4 (by decide)]; exact a7, a8, by rw [b4 5 (by decide)]; exact a9, a10.fr hf (by simp) (by simp)⟩, hf.fx (by simp)⟩
  rw [b2]
  dsimp only
  by_cases q : st.2.2.2.1 ≤ i ∧ i < st.2.2.2.1 + 20
  · rw [if_pos q, if_pos q]
  · rw [if_neg q, if_neg q]; exact a4 i hi
theorem x_feed {S : mScr} {dep : Nat} {a b c d e : Int32} {st : St} {h : Hp} (hi : InvX h st) : Cal S (dep + 20) 120 [.ref 0, .int a, .int b, .int c, .int d, .int e] h (XR h (aFeed st a b c d e)) := by
  obtain ⟨_, _, _, _, ht, h6, _⟩ := id hi
  obtain ⟨t, ht'⟩ : ∃ t, t = st.2.2.2.1 := ⟨_, rfl⟩
  rw [← ht'] at ht h6
  show V S (dep + 20) 120 0 [.ref 0, .int a, .int b, .int c, .int d, .int e] [] h _
  refine V_aload_n rfl rfl rfl ?_
  refine V_gi 3 rfl rfl rfl ?_
  refine V_bi (v := nI 20) rfl rfl ?_
  -- at 6: .iadd
  rw [ht]
  refine V_iadd rfl ?_
  -- at 7: .sipush 600
  rw [nI_add]
  refine V_si (v := nI 600) rfl rfl ?_
  -- at 10: .if_icmp .le 6
  refine V_icmp_le rfl (fun hc => ?_) (fun hc => ?_)
  · have hc := (nI_leI (a := t + 20) (b := 600) (by omega) (by omega)).mp hc
    have ev : aFeed st a b c d e = (nI (t + 20), (st.1, st.2.1, (fun i => if t ≤ i ∧ i < t + 20 then fdv a b c d e (i - t) else st.2.2.1 i), t + 20, st.2.2.2.2)) := by unfold aFeed; rw [← ht', if_neg (by omega)]
    rw [ev]
    have T0 : TP 3 0 3 h h t 0 (fdv a b c d e) := TP.rf ht
    refine V_aload_n rfl rfl rfl ?_
    refine V_iload_n rfl rfl ?_
    -- at 18: .invokevirtual 101
    refine V_callV rfl rfl rfl rfl rfl (c_fb T0 (by omega) (fun j hj => (fdv_j (m := 0) hj).symm)) ?_
    rintro _ h1 ⟨rfl, T1⟩
    show V S (dep + 20) 120 21 [.ref 0, .int a, .int b, .int c, .int d, .int e] [] h1 _
    refine V_aload_n rfl rfl rfl ?_
    refine V_iload_n rfl rfl ?_
    -- at 23: .invokevirtual 101
    refine V_callV rfl rfl rfl rfl rfl (c_fb T1 (by omega) (fun j hj => (fdv_j (m := 1) hj).symm)) ?_
    rintro _ h2 ⟨rfl, T2⟩
    show V S (dep + 20) 120 26 [.ref 0, .int a, .int b, .int c, .int d, .int e] [] h2 _
    refine V_aload_n rfl rfl rfl ?_
    refine V_iload_n rfl rfl ?_
    -- at 28: .invokevirtual 101
    refine V_callV rfl rfl rfl rfl rfl (c_fb T2 (by omega) (fun j hj => (fdv_j (m := 2) hj).symm)) ?_
    rintro _ h3 ⟨rfl, T3⟩
    show V S (dep + 20) 120 31 [.ref 0, .int a, .int b, .int c, .int d, .int e] [] h3 _
    refine V_aload_n rfl rfl rfl ?_
    refine V_iload rfl rfl ?_
    -- at 34: .invokevirtual 101
    refine V_callV rfl rfl rfl rfl rfl (c_fb T3 (by omega) (fun j hj => (fdv_j (m := 3) hj).symm)) ?_
    rintro _ h4 ⟨rfl, T4⟩
    show V S (dep + 20) 120 37 [.ref 0, .int a, .int b, .int c, .int d, .int e] [] h4 _
    refine V_aload_n rfl rfl rfl ?_
    refine V_iload rfl rfl ?_
    -- at 40: .invokevirtual 101
    refine V_callV rfl rfl rfl rfl rfl (c_fb T4 (by omega) (fun j hj => (fdv_j (m := 4) hj).symm)) ?_
    rintro _ h5 ⟨rfl, T5⟩
    show V S (dep + 20) 120 43 [.ref 0, .int a, .int b, .int c, .int d, .int e] [] h5 _
    refine V_aload_n rfl rfl rfl ?_
    refine V_gi 3 rfl rfl rfl ?_
    -- at 47: .ireturn
    rw [T5.1]
    refine V_iret rfl rfl ?_
    have := hi.feed (by rw [← ht']; omega) (by rw [← ht']; exact T5)
    rw [← ht'] at this
    exact ⟨rfl, this.1, this.2⟩
  · have hc := nI_ngt (a := t + 20) (b := 600) (by omega) (by omega) hc
    have ev : aFeed st a b c d e = (-4, st) := by unfold aFeed; rw [← ht', if_pos (by omega)]
    rw [ev]
    refine V_bi (v := -4) rfl rfl ?_
    -- at 15: .ireturn
    refine V_iret rfl rfl ?_
    exact xq0 hi
theorem InvM.feed {h h' : Hp} {st : St} {g : Nat → Int32} (hi : InvM h st) (h6 : st.2.2.2.1 + 20 ≤ 600) (hT : TP 194 188 10 h h' st.2.2.2.1 20 g) : InvM h' (st.1, st.2.1, (fun i => if st.2.2.2.1 ≤ i ∧ i < st.2.2.2.1 + 20 then g (i - st.2.2.2.1) else st.2.2.1 i), st.2.2.2.1 + 20, st.2.2.2.2) ∧ FM h h' := by
  obtain ⟨a0, b0, a1, a2, a3, a4, a5, a6, a7, a8⟩ := hi
  obtain ⟨b1, b2, b3, b4, b5⟩ := hT
  have hf : MF [10] [194] h h' := ⟨b5, fun a h1 h2 => b3 a h1 (fun q => h2 (by rw [q]; simp)), fun i hi => b4 i (fun q => hi (by rw [q]; simp))⟩
  refine ⟨⟨a0.mf hf (by simp), b0, a1.eq (b4 3 (by decide)) (b3 191 (by decide) (by decide)), fun i hi => ?_, b1, h6, by rw [b4 13 (by decide)]; exact a5, a6, by rw [b4 14 (by decide)]; exact a7, a8.eq (b4 24 (by decide)) (b4 23 (by decide)) (b3 198 (by decide) (by decide)) (b3 199 (by decide) (by decide))⟩, hf.fm (by simp)⟩
  rw [b2]
  dsimp only
  by_cases q : st.2.2.2.1 ≤ i ∧ i < st.2.2.2.1 + 20
  · rw [if_pos q, if_pos q]
  · rw [if_neg q, if_neg q]; exact a2 i hi
theorem y_feed {S : mScr} {dep : Nat} {a b c d e : Int32} {st : St} {h : Hp} (hi : InvM h st) : Cal S (dep + 20) 178 [.ref 188, .int a, .int b, .int c, .int d, .int e] h (MR h (aFeed st a b c d e)) := by
  obtain ⟨hi0, fm0⟩ := hi.thr
  obtain ⟨h0, hh0⟩ : ∃ h0, h0 = wI h 188 4 (nI 0) := ⟨_, rfl⟩
  rw [← hh0] at hi0 fm0
  obtain ⟨_, _, _, _, ht, h6, _⟩ := id hi0
  obtain ⟨t, ht'⟩ : ∃ t, t = st.2.2.2.1 := ⟨_, rfl⟩
  rw [← ht'] at ht h6
  show V S (dep + 20) 178 0 [.ref 188, .int a, .int b, .int c, .int d, .int e, .null, .null] [] h _
  refine V_aload_n rfl rfl rfl ?_
  refine V_ic (v := nI 0) rfl rfl ?_
  refine V_pi 4 rfl rfl rfl rfl ?_
  -- at 5: .aload_n 0
  rw [← hh0]
  refine V_aload_n rfl rfl rfl ?_
  refine V_gi 10 rfl rfl rfl ?_
  refine V_bi (v := nI 20) rfl rfl ?_
  -- at 11: .iadd
  rw [ht]
  refine V_iadd rfl ?_
  -- at 12: .sipush 600
  rw [nI_add]
  refine V_si (v := nI 600) rfl rfl ?_
  -- at 15: .if_icmp .le 6
  refine V_icmp_le rfl (fun hc => ?_) (fun hc => ?_)
  · have hc := (nI_leI (a := t + 20) (b := 600) (by omega) (by omega)).mp hc
    have ev : aFeed st a b c d e = (nI (t + 20), (st.1, st.2.1, (fun i => if t ≤ i ∧ i < t + 20 then fdv a b c d e (i - t) else st.2.2.1 i), t + 20, st.2.2.2.2)) := by unfold aFeed; rw [← ht', if_neg (by omega)]
    rw [ev]
    obtain ⟨Q, hQ⟩ : ∃ Q, Q = MR h (nI (t + 20), (st.1, st.2.1, (fun i => if t ≤ i ∧ i < t + 20 then fdv a b c d e (i - t) else st.2.2.1 i), t + 20, st.2.2.2.2)) := ⟨_, rfl⟩
    rw [← hQ]
    refine V_ic (v := nI 0) rfl rfl ?_
    refine V_istore (L' := [_, _, _, _, _, _, _, _]) rfl rfl rfl ?_
    -- at 24: .iload 6
    have lp := loopUp (P := fun j => ∀ h1 w, TP 194 188 10 h0 h1 t j (fdv a b c d e) → V S (dep + 20) 178 24 [.ref 188, .int a, .int b, .int c, .int d, .int e, .int (nI j), w] [] h1 Q) 20 ?_ ?_ 0 (Nat.zero_le _)
    · exact lp h0 _ (TP.rf ht)
    · intro h1 w T1
      refine V_iload rfl rfl ?_
      refine V_bi (v := nI 20) rfl rfl ?_
      -- at 28: .if_icmp .ge 90
      refine V_icmp_ge rfl (fun hd => ?_) (fun hd => ?_)
      · refine V_aload_n rfl rfl rfl ?_
        refine V_gi 10 rfl rfl rfl ?_
        -- at 122: .ireturn
        rw [T1.1]
        refine V_iret rfl rfl ?_
        have := hi0.feed (by rw [← ht']; omega) (by rw [← ht']; exact T1)
        rw [← ht'] at this
        rw [hQ]
        exact ⟨rfl, this.1, fm0.tr this.2⟩
      · exact absurd (by decide) hd
    · intro j hj ih h1 w T1
      have go : V S (dep + 20) 178 77 [.ref 188, .int a, .int b, .int c, .int d, .int e, .int (nI j), w] [.int (fiv a b c d e j)] h1 Q := by
        refine V_istore (L' := [_, _, _, _, _, _, _, _]) rfl rfl rfl ?_
        refine V_aload_n rfl rfl rfl ?_
        refine V_getR (r := 194) rfl rfl ?_
        refine V_aload_n rfl rfl rfl ?_
        refine V_gi 10 rfl rfl rfl ?_
        refine V_iload rfl rfl ?_
        refine V_bi (v := nI 24) rfl rfl ?_
        refine V_bi (v := nI 8) rfl rfl ?_
        refine V_iload rfl rfl ?_
        refine V_ic (v := nI 4) rfl rfl ?_
        refine V_irem rfl (by first | assumption | decide | omega) ?_
        -- at 97: .imul
        rw [T1.1, nI_rem (by omega) (by decide) (by decide)]
        refine V_imul rfl ?_
        -- at 98: .isub
        rw [nI_mul]
        refine V_isub rfl ?_
        -- at 99: .ishr
        rw [nI_sub (by omega)]
        refine V_ishr rfl ?_
        refine V_i2b rfl ?_
        refine V_bs 600 rfl rfl (by first | with_reducible rfl | assumption | exact nI_sub (by omega) | exact nI_add _ _) (by first | omega | assumption) rfl ?_
        refine V_aload_n rfl rfl rfl ?_
        refine V_dup rfl rfl ?_
        refine V_gi 10 rfl rfl rfl ?_
        refine V_ic (v := nI 1) rfl rfl ?_
        -- at 108: .iadd
        rw [wI_oth (by decide), T1.1]
        refine V_iadd rfl ?_
        -- at 109: .putfield 118
        rw [nI_add]
        refine V_pi 10 rfl rfl rfl rfl ?_
        -- at 112: .iinc 6 1
        have T2 := T1.st (v := fdv a b c d e j) (by decide) rfl
        refine V_iinc (L' := [_, _, _, _, _, _, _, _]) rfl rfl rfl ?_
        refine V_goto rfl ?_
        -- at 24: .iload 6
        rw [show Int32.ofInt 1 = nI 1 from rfl, nI_add]
        exact ih _ _ T2
      refine V_iload rfl rfl ?_
      refine V_bi (v := nI 20) rfl rfl ?_
      -- at 28: .if_icmp .ge 90
      refine V_icmp_ge rfl (fun hd => ?_) (fun hd => ?_)
      · exact absurd (show nI 20 ≤ nI j from hd) (nI_ge hj (by omega))
      · refine V_iload rfl rfl ?_
        refine V_ic (v := nI 4) rfl rfl ?_
        -- at 34: .if_icmp .ge 7
        refine V_icmp_ge rfl (fun he => ?_) (fun he => ?_)
        · have he := (nI_leI (a := 4) (by omega) (by omega)).mp he
          refine V_iload rfl rfl ?_
          refine V_bi (v := nI 8) rfl rfl ?_
          -- at 45: .if_icmp .ge 7
          refine V_icmp_ge rfl (fun hf => ?_) (fun hf => ?_)
          · have hf := (nI_leI (a := 8) (by omega) (by omega)).mp hf
            refine V_iload rfl rfl ?_
            refine V_bi (v := nI 12) rfl rfl ?_
            -- at 56: .if_icmp .ge 7
            refine V_icmp_ge rfl (fun hg => ?_) (fun hg => ?_)
            · have hg := (nI_leI (a := 12) (by omega) (by omega)).mp hg
              refine V_iload rfl rfl ?_
              refine V_bi (v := nI 16) rfl rfl ?_
              -- at 67: .if_icmp .ge 8
              refine V_icmp_ge rfl (fun hk => ?_) (fun hk => ?_)
              · have hk := (nI_leI (a := 16) (by omega) (by omega)).mp hk
                have ef : fiv a b c d e j = e := by unfold fiv; rw [if_neg (by omega), if_neg (by omega), if_neg (by omega), if_neg (by omega)]
                rw [ef] at go
                refine V_iload rfl rfl ?_
                -- at 77: .istore 7
                exact go
              · have hk := nI_ngt (a := 16) (by omega) (by omega) hk
                have ef : fiv a b c d e j = d := by unfold fiv; rw [if_neg (by omega), if_neg (by omega), if_neg (by omega), if_pos (by omega)]
                rw [ef] at go
                refine V_iload rfl rfl ?_
                refine V_goto rfl ?_
                -- at 77: .istore 7
                exact go
            · have hg := nI_ngt (a := 12) (by omega) (by omega) hg
              have ef : fiv a b c d e j = c := by unfold fiv; rw [if_neg (by omega), if_neg (by omega), if_pos (by omega)]
              rw [ef] at go
              refine V_iload_n rfl rfl ?_
              refine V_goto rfl ?_
              -- at 77: .istore 7
              exact go
          · have hf := nI_ngt (a := 8) (by omega) (by omega) hf
            have ef : fiv a b c d e j = b := by unfold fiv; rw [if_neg (by omega), if_pos (by omega)]
            rw [ef] at go
            refine V_iload_n rfl rfl ?_
            refine V_goto rfl ?_
            -- at 77: .istore 7
            exact go
        · have he := nI_ngt (a := 4) (by omega) (by omega) he
          have ef : fiv a b c d e j = a := by unfold fiv; rw [if_pos (by omega)]
          rw [ef] at go
          refine V_iload_n rfl rfl ?_
          refine V_goto rfl ?_
          -- at 77: .istore 7
          exact go
  · have hc := nI_ngt (a := t + 20) (b := 600) (by omega) (by omega) hc
    have ev : aFeed st a b c d e = (-4, st) := by unfold aFeed; rw [← ht', if_pos (by omega)]
    rw [ev]
    refine V_bi (v := -4) rfl rfl ?_
    -- at 20: .ireturn
    refine V_iret rfl rfl ?_
    exact mq0 hi0 fm0
