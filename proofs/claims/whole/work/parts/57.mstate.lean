/-! the reference: its state -/
abbrev Sl : Type := (Nat → Nat) × (Nat → Nat) × (Nat → List Nat)
def enc (s : Sl) (k : Nat) : Int32 := if k < 12 then (if k % 2 = 0 then nI (s.1 (k / 2)) else nI (s.2.1 (k / 2))) else if (k - 12) % 8 = 0 then nI (s.2.2 ((k - 12) / 8)).length else nI ((s.2.2 ((k - 12) / 8)).getD ((k - 12) % 8 - 1) 0)
theorem enc_n {s : Sl} {i : Nat} (h : i < 6) : enc s (2 * i) = nI (s.1 i) := by
  unfold enc
  rw [if_pos (by omega), if_pos (by omega), show 2 * i / 2 = i by omega]
theorem enc_c {s : Sl} {i : Nat} (h : i < 6) : enc s (2 * i + 1) = nI (s.2.1 i) := by
  unfold enc
  rw [if_pos (by omega), if_neg (by omega), show (2 * i + 1) / 2 = i by omega]
theorem enc_d {s : Sl} {d : Nat} : enc s (12 + 8 * d) = nI (s.2.2 d).length := by
  unfold enc
  rw [if_neg (by omega), if_pos (by omega), show (12 + 8 * d - 12) / 8 = d by omega]
theorem enc_k {s : Sl} {d k : Nat} (h : k < 7) : enc s (12 + 8 * d + 1 + k) = nI ((s.2.2 d).getD k 0) := by
  unfold enc
  rw [if_neg (by omega), if_neg (by omega), show (12 + 8 * d + 1 + k - 12) / 8 = d by omega, show (12 + 8 * d + 1 + k - 12) % 8 - 1 = k by omega]
def MSt (h : Hp) (s : Sl) : Prop := ∀ k, k < 36 → h.1 189 k = enc s k
def WF (s : Sl) : Prop := (∀ i, i < 6 → s.1 i ≤ 7 ∧ s.2.1 i < 2 ^ tri (s.1 i)) ∧ ∀ d, d < 3 → s.2.2 d = [] ∨ WD (s.2.2 d)
def ix (n : Nat) (x : Int32) : Option Nat := if 0 ≤ x.toInt ∧ x.toInt < (n : Int) then some x.toInt.toNat else none
theorem ix_some {n j : Nat} {x : Int32} (h : ix n x = some j) : x = nI j ∧ j < n := by
  unfold ix at h
  split at h
  · rename_i q
    cases h
    refine ⟨?_, by omega⟩
    apply Int32.toInt_inj.mp
    rw [nI_toInt (by have := Int32.toInt_lt x; omega)]
    omega
  · cases h
theorem ix_nI {n j : Nat} (hj : j < 2 ^ 31) : ix n (nI j) = if j < n then some j else none := by
  unfold ix
  rw [nI_toInt hj]
  by_cases q : j < n
  · rw [if_pos q, if_pos (by omega)]; rfl
  · rw [if_neg q, if_neg (by omega)]
theorem ix_is {n : Nat} {x : Int32} : (ix n x).isSome = decide (0 ≤ x.toInt ∧ x.toInt < (n : Int)) := by
  unfold ix
  by_cases q : 0 ≤ x.toInt ∧ x.toInt < (n : Int)
  · rw [if_pos q, decide_eq_true q]; rfl
  · rw [if_neg q, decide_eq_false q]; rfl
theorem m_isSlot {S : mScr} {dep : Nat} {x : Int32} {h : Hp} : Cal S (dep + 1) 191 [.int x] h (Rt (bI (ix 6 x).isSome) h) := by
  show V S (dep + 1) 191 0 [.int x] [] h _
  refine V_iload_n rfl rfl ?_
  refine V_i2l rfl ?_
  refine V_lc (v := 0) rfl rfl ?_
  refine V_l2 (v := 5) rfl rfl ?_
  -- at 6: .invokestatic 134
  refine V_cS rfl rfl rfl rfl (m_isIn) ?_
  rw [Int32.toInt_toInt64, show (0 : Int64).toInt = 0 from rfl, show (5 : Int64).toInt = 5 from rfl]
  have := bI_01 (decide (0 ≤ x.toInt ∧ x.toInt ≤ 5))
  refine V_zret rfl rfl (by first | exact Or.inl rfl | exact Or.inr rfl | assumption) ?_
  refine Rt.of (congrArg bI ?_)
  rw [ix_is]
  exact decide_eq_decide.mpr (by omega)
theorem m_isClass {S : mScr} {dep : Nat} {x : Int32} {h : Hp} : Cal S (dep + 1) 233 [.int x] h (Rt (bI (ix 6 x).isSome) h) := by
  show V S (dep + 1) 233 0 [.int x] [] h _
  refine V_iload_n rfl rfl ?_
  refine V_i2l rfl ?_
  refine V_lc (v := 0) rfl rfl ?_
  refine V_l2 (v := 5) rfl rfl ?_
  -- at 6: .invokestatic 134
  refine V_cS rfl rfl rfl rfl (m_isIn) ?_
  rw [Int32.toInt_toInt64, show (0 : Int64).toInt = 0 from rfl, show (5 : Int64).toInt = 5 from rfl]
  have := bI_01 (decide (0 ≤ x.toInt ∧ x.toInt ≤ 5))
  refine V_zret rfl rfl (by first | exact Or.inl rfl | exact Or.inr rfl | assumption) ?_
  refine Rt.of (congrArg bI ?_)
  rw [ix_is]
  exact decide_eq_decide.mpr (by omega)
theorem m_nodes {S : mScr} {dep i : Nat} {s : Sl} {h : Hp} (hs : MSt h s) (hi : i < 6) : Cal S dep 192 [.ref 188, .int (nI i)] h (Rt (nI (s.1 i)) h) := by
  show V S dep 192 0 [.ref 188, .int (nI i)] [] h _
  refine V_aload_n rfl rfl rfl ?_
  refine V_getR (r := 189) rfl rfl ?_
  refine V_ic (v := nI 2) rfl rfl ?_
  refine V_iload_n rfl rfl ?_
  refine V_imul rfl ?_
  -- at 7: .iaload
  rw [nI_mul]
  refine V_al 36 rfl rfl (by first | with_reducible rfl | assumption | exact nI_sub (by omega) | exact nI_add _ _) (by first | omega | assumption) rfl ?_
  -- at 8: .ireturn
  rw [hs _ (by omega), enc_n hi]
  refine V_iret rfl rfl ?_
  exact Rt.rf
theorem m_code {S : mScr} {dep i : Nat} {s : Sl} {h : Hp} (hs : MSt h s) (hi : i < 6) : Cal S dep 193 [.ref 188, .int (nI i)] h (Rt (nI (s.2.1 i)) h) := by
  show V S dep 193 0 [.ref 188, .int (nI i)] [] h _
  refine V_aload_n rfl rfl rfl ?_
  refine V_getR (r := 189) rfl rfl ?_
  refine V_ic (v := nI 2) rfl rfl ?_
  refine V_iload_n rfl rfl ?_
  refine V_imul rfl ?_
  refine V_ic (v := nI 1) rfl rfl ?_
  refine V_iadd rfl ?_
  -- at 9: .iaload
  rw [nI_mul, nI_add]
  refine V_al 36 rfl rfl (by first | with_reducible rfl | assumption | exact nI_sub (by omega) | exact nI_add _ _) (by first | omega | assumption) rfl ?_
  -- at 10: .ireturn
  rw [hs _ (by omega), enc_c hi]
  refine V_iret rfl rfl ?_
  exact Rt.rf
theorem m_fof {S : mScr} {dep i : Nat} {s : Sl} {h : Hp} (hs : MSt h s) (hw : WF s) (hi : i < 6) : Cal S (dep + 12) 194 [.ref 188, .int (nI i)] h (fun q h' => q = some (.int (nI (frm (s.1 i) (s.2.1 i)))) ∧ MF [6, 7] [192, 193] h h') := by
  show V S (dep + 12) 194 0 [.ref 188, .int (nI i)] [] h _
  refine V_aload_n rfl rfl rfl ?_
  refine V_aload_n rfl rfl rfl ?_
  refine V_iload_n rfl rfl ?_
  -- at 3: .invokevirtual 201
  refine V_cV rfl rfl rfl rfl rfl (m_nodes hs hi) ?_
  refine V_aload_n rfl rfl rfl ?_
  refine V_iload_n rfl rfl ?_
  -- at 8: .invokevirtual 204
  refine V_cV rfl rfl rfl rfl rfl (m_code hs hi) ?_
  refine V_callV rfl rfl rfl rfl rfl (m_frm (hw.1 i hi).1 (hw.1 i hi).2) ?_
  rintro _ h3 ⟨rfl, f3⟩
  refine V_iret rfl rfl ?_
  exact ⟨rfl, f3⟩
theorem m_isNode {S : mScr} {dep i : Nat} {x : Int32} {s : Sl} {h : Hp} (hs : MSt h s) (hw : WF s) (hi : i < 6) : Cal S (dep + 1) 195 [.ref 188, .int (nI i), .int x] h (Rt (bI (ix (s.1 i) x).isSome) h) := by
  have h7 := (hw.1 i hi).1
  show V S (dep + 1) 195 0 [.ref 188, .int (nI i), .int x] [] h _
  refine V_iload_n rfl rfl ?_
  refine V_i2l rfl ?_
  refine V_lc (v := 0) rfl rfl ?_
  refine V_aload_n rfl rfl rfl ?_
  refine V_iload_n rfl rfl ?_
  -- at 5: .invokevirtual 201
  refine V_cV rfl rfl rfl rfl rfl (m_nodes hs hi) ?_
  refine V_ic (v := nI 1) rfl rfl ?_
  refine V_isub rfl ?_
  refine V_i2l rfl ?_
  -- at 11: .invokestatic 134
  refine V_cS rfl rfl rfl rfl (m_isIn) ?_
  have e : (nI (s.1 i) - nI 1).toInt = (s.1 i : Int) - 1 := by
    rcases Nat.eq_zero_or_pos (s.1 i) with q | q
    · rw [q]; rfl
    · rw [nI_sub q, nI_toInt (by omega)]; omega
  rw [Int32.toInt_toInt64, Int32.toInt_toInt64, show (0 : Int64).toInt = 0 from rfl, e]
  have := bI_01 (decide (0 ≤ x.toInt ∧ x.toInt ≤ (s.1 i : Int) - 1))
  refine V_zret rfl rfl (by first | exact Or.inl rfl | exact Or.inr rfl | assumption) ?_
  refine Rt.of (congrArg bI ?_)
  rw [ix_is]
  exact decide_eq_decide.mpr (by omega)
def setN (s : Sl) (i n C : Nat) : Sl := (updN s.1 i n, updN s.2.1 i C, s.2.2)
def setD (s : Sl) (d : Nat) (cs : List Nat) : Sl := (s.1, s.2.1, fun e => if e = d then cs else s.2.2 e)
theorem enc_setN {s : Sl} {i n C k : Nat} (hi : i < 6) (hk : k < 36) : enc (setN s i n C) k = if k = 2 * i then nI n else if k = 2 * i + 1 then nI C else enc s k := by
  unfold enc setN updN
  dsimp only
  by_cases h1 : k < 12
  · rw [if_pos h1, if_pos h1]
    by_cases h2 : k % 2 = 0
    · rw [if_pos h2, if_pos h2]
      by_cases h3 : k / 2 = i
      · rw [if_pos h3, if_pos (by omega)]
      · rw [if_neg h3, if_neg (by omega), if_neg (by omega)]
    · rw [if_neg h2, if_neg h2]
      by_cases h3 : k / 2 = i
      · rw [if_pos h3, if_neg (by omega), if_pos (by omega)]
      · rw [if_neg h3, if_neg (by omega), if_neg (by omega)]
  · rw [if_neg h1, if_neg h1, if_neg (show ¬ k = 2 * i by omega), if_neg (show ¬ k = 2 * i + 1 by omega)]
theorem m_becomes {S : mScr} {dep i n C : Nat} {s : Sl} {h : Hp} (hs : MSt h s) (hi : i < 6) : Cal S dep 196 [.ref 188, .int (nI i), .int (nI n), .int (nI C)] h (fun q h' => q = none ∧ MSt h' (setN s i n C) ∧ MF [] [189] h h') := by
  show V S dep 196 0 [.ref 188, .int (nI i), .int (nI n), .int (nI C)] [] h _
  refine V_aload_n rfl rfl rfl ?_
  refine V_getR (r := 189) rfl rfl ?_
  refine V_ic (v := nI 2) rfl rfl ?_
  refine V_iload_n rfl rfl ?_
  refine V_imul rfl ?_
  -- at 7: .iload_n 2
  rw [nI_mul]
  refine V_iload_n rfl rfl ?_
  refine V_as 36 rfl rfl (by first | with_reducible rfl | assumption | exact nI_sub (by omega) | exact nI_add _ _) (by first | omega | assumption) rfl ?_
  refine V_aload_n rfl rfl rfl ?_
  refine V_getR (r := 189) rfl rfl ?_
  refine V_ic (v := nI 2) rfl rfl ?_
  refine V_iload_n rfl rfl ?_
  refine V_imul rfl ?_
  refine V_ic (v := nI 1) rfl rfl ?_
  refine V_iadd rfl ?_
  -- at 18: .iload_n 3
  rw [nI_mul, nI_add]
  refine V_iload_n rfl rfl ?_
  refine V_as 36 rfl rfl (by first | with_reducible rfl | assumption | exact nI_sub (by omega) | exact nI_add _ _) (by first | omega | assumption) rfl ?_
  -- at 20: .return_
  refine V_return rfl rfl ?_
  refine ⟨rfl, fun k hk => ?_, (MF.w (by simp) (by decide)).tr (MF.w (by simp) (by decide))⟩
  rw [enc_setN hi hk]
  by_cases q1 : k = 2 * i
  · rw [if_pos q1, wI_ne (by omega), q1, wI_same]
  · rw [if_neg q1]
    by_cases q2 : k = 2 * i + 1
    · rw [if_pos q2, q2, wI_same]
    · rw [if_neg q2, wI_ne (by omega), wI_ne (by omega)]; exact hs k hk
def dln (s : Sl) (x : Int32) : Nat := match ix 3 x with
  | some d => (s.2.2 d).length
  | none => 0
theorem WF.dl {s : Sl} (hw : WF s) {d : Nat} (hd : d < 3) : (s.2.2 d).length ≤ 7 := by
  rcases hw.2 d hd with e | e
  · rw [e]; simp
  · exact e.2.1
theorem dln_le {s : Sl} {x : Int32} (hw : WF s) : dln s x ≤ 7 := by
  unfold dln
  split
  · rename_i d h
    exact hw.dl (ix_some h).2
  · omega
theorem m_deckOf {S : mScr} {dep : Nat} {x : Int32} {s : Sl} {h : Hp} (hs : MSt h s) : Cal S (dep + 1) 197 [.ref 188, .int x] h (Rt (nI (dln s x)) h) := by
  show V S (dep + 1) 197 0 [.ref 188, .int x] [] h _
  refine V_iload_n rfl rfl ?_
  refine V_i2l rfl ?_
  refine V_lc (v := 0) rfl rfl ?_
  refine V_l2 (v := 2) rfl rfl ?_
  -- at 6: .invokestatic 134
  refine V_cS rfl rfl rfl rfl (m_isIn) ?_
  rw [Int32.toInt_toInt64, show (0 : Int64).toInt = 0 from rfl, show (2 : Int64).toInt = 2 from rfl]
  have e : decide (0 ≤ x.toInt ∧ x.toInt ≤ 2) = (ix 3 x).isSome := by
    rw [ix_is]; exact decide_eq_decide.mpr (by omega)
  rw [e]
  refine V_if_eq rfl (fun hc => ?_) (fun hc => ?_)
  · have hc := bI_z.mp hc
    refine V_ic (v := nI 0) rfl rfl ?_
    -- at 28: .ireturn
    refine V_iret rfl rfl ?_
    have : ix 3 x = none := by
      cases q : ix 3 x with
      | none => rfl
      | some d => rw [q] at hc; exact Bool.noConfusion hc
    exact Rt.of (by unfold dln; rw [this])
  · have hc := bI_nz.mp hc
    obtain ⟨d, hd⟩ := Option.isSome_iff_exists.mp hc
    obtain ⟨rfl, hd3⟩ := ix_some hd
    refine V_aload_n rfl rfl rfl ?_
    refine V_getR (r := 189) rfl rfl ?_
    refine V_bi (v := nI 12) rfl rfl ?_
    refine V_bi (v := nI 8) rfl rfl ?_
    refine V_iload_n rfl rfl ?_
    refine V_imul rfl ?_
    refine V_iadd rfl ?_
    -- at 23: .iaload
    rw [nI_mul, nI_add]
    refine V_al 36 rfl rfl (by first | with_reducible rfl | assumption | exact nI_sub (by omega) | exact nI_add _ _) (by first | omega | assumption) rfl ?_
    refine V_goto rfl ?_
    -- at 28: .ireturn
    rw [hs _ (by omega), enc_d]
    refine V_iret rfl rfl ?_
    exact Rt.of (by unfold dln; rw [hd])
theorem dln_nI {s : Sl} {d : Nat} (hd : d < 3) : dln s (nI d) = (s.2.2 d).length := by
  unfold dln
  rw [ix_nI (by omega), if_pos hd]
theorem m_cardOf {S : mScr} {dep d k : Nat} {s : Sl} {h : Hp} (hs : MSt h s) (hd : d < 3) (hk : k < 7) : Cal S dep 198 [.ref 188, .int (nI d), .int (nI k)] h (Rt (nI ((s.2.2 d).getD k 0)) h) := by
  show V S dep 198 0 [.ref 188, .int (nI d), .int (nI k)] [] h _
  refine V_aload_n rfl rfl rfl ?_
  refine V_getR (r := 189) rfl rfl ?_
  refine V_bi (v := nI 12) rfl rfl ?_
  refine V_bi (v := nI 8) rfl rfl ?_
  refine V_iload_n rfl rfl ?_
  refine V_imul rfl ?_
  refine V_iadd rfl ?_
  refine V_ic (v := nI 1) rfl rfl ?_
  refine V_iadd rfl ?_
  refine V_iload_n rfl rfl ?_
  refine V_iadd rfl ?_
  -- at 15: .iaload
  rw [nI_mul, nI_add, nI_add, nI_add]
  refine V_al 36 rfl rfl (by first | with_reducible rfl | assumption | exact nI_sub (by omega) | exact nI_add _ _) (by first | omega | assumption) rfl ?_
  -- at 16: .ireturn
  rw [hs _ (by omega), enc_k hk]
  refine V_iret rfl rfl ?_
  exact Rt.rf
theorem m_isCard {S : mScr} {dep : Nat} {x y : Int32} {s : Sl} {h : Hp} (hs : MSt h s) (hw : WF s) : Cal S (dep + 2) 199 [.ref 188, .int x, .int y] h (Rt (bI (ix (dln s x) y).isSome) h) := by
  have h7 := dln_le (x := x) hw
  show V S (dep + 2) 199 0 [.ref 188, .int x, .int y] [] h _
  refine V_iload_n rfl rfl ?_
  refine V_i2l rfl ?_
  refine V_lc (v := 0) rfl rfl ?_
  refine V_aload_n rfl rfl rfl ?_
  refine V_iload_n rfl rfl ?_
  -- at 5: .invokevirtual 209
  refine V_cV rfl rfl rfl rfl rfl (m_deckOf hs) ?_
  refine V_ic (v := nI 1) rfl rfl ?_
  refine V_isub rfl ?_
  refine V_i2l rfl ?_
  -- at 11: .invokestatic 134
  refine V_cS rfl rfl rfl rfl (m_isIn) ?_
  have e : (nI (dln s x) - nI 1).toInt = (dln s x : Int) - 1 := by
    rcases Nat.eq_zero_or_pos (dln s x) with q | q
    · rw [q]; rfl
    · rw [nI_sub q, nI_toInt (by omega)]; omega
  rw [Int32.toInt_toInt64, Int32.toInt_toInt64, show (0 : Int64).toInt = 0 from rfl, e]
  have := bI_01 (decide (0 ≤ y.toInt ∧ y.toInt ≤ (dln s x : Int) - 1))
  refine V_zret rfl rfl (by first | exact Or.inl rfl | exact Or.inr rfl | assumption) ?_
  refine Rt.of (congrArg bI ?_)
  rw [ix_is]
  exact decide_eq_decide.mpr (by omega)
theorem m_takes {S : mScr} {dep d : Nat} {s : Sl} {h : Hp} (hs : MSt h s) (hw : WF s) (hd : d < 3) : Cal S (dep + 2) 202 [.ref 188, .int (nI d)] h (fun q h' => q = none ∧ AL h' 195 (s.2.2 d) ∧ MF [] [195] h h') := by
  have h7 := hw.dl hd
  show V S (dep + 2) 202 0 [.ref 188, .int (nI d), .null] [] h _
  refine V_ic (v := nI 0) rfl rfl ?_
  refine V_istore_n (L' := [_, _, _]) rfl rfl rfl ?_
  -- at 2: .iload_n 2
  have lp := loopUp (P := fun k => ∀ h1, MF [] [195] h h1 → (∀ j, j < k → h1.1 195 j = nI ((s.2.2 d).getD j 0)) → V S (dep + 2) 202 2 [.ref 188, .int (nI d), .int (nI k)] [] h1 (fun q h' => q = none ∧ AL h' 195 (s.2.2 d) ∧ MF [] [195] h h')) (s.2.2 d).length ?_ ?_ 0 (Nat.zero_le _)
  · exact lp h MF.rf (fun j hj => by omega)
  · intro h1 f1 e1
    have hs1 : MSt h1 s := fun k hk => by rw [f1.2.1 189 (by decide) (by simp)]; exact hs k hk
    refine V_iload_n rfl rfl ?_
    refine V_aload_n rfl rfl rfl ?_
    refine V_iload_n rfl rfl ?_
    -- at 5: .invokevirtual 209
    refine V_cV rfl rfl rfl rfl rfl (m_deckOf hs1) ?_
    rw [dln_nI hd]
    refine V_icmp_ge rfl (fun hc => ?_) (fun hc => ?_)
    · refine V_return rfl rfl ?_
      exact ⟨rfl, e1, f1⟩
    · exact absurd (nI_le (Nat.le_refl _) (by omega)) hc
  · intro k hk ih h1 f1 e1
    have hs1 : MSt h1 s := fun k hk => by rw [f1.2.1 189 (by decide) (by simp)]; exact hs k hk
    refine V_iload_n rfl rfl ?_
    refine V_aload_n rfl rfl rfl ?_
    refine V_iload_n rfl rfl ?_
    -- at 5: .invokevirtual 209
    refine V_cV rfl rfl rfl rfl rfl (m_deckOf hs1) ?_
    rw [dln_nI hd]
    refine V_icmp_ge rfl (fun hc => ?_) (fun hc => ?_)
    · exact absurd hc (nI_ge hk (by omega))
    · refine V_aload_n rfl rfl rfl ?_
      refine V_getR (r := 195) rfl rfl ?_
      refine V_iload_n rfl rfl ?_
      refine V_aload_n rfl rfl rfl ?_
      refine V_iload_n rfl rfl ?_
      refine V_iload_n rfl rfl ?_
      -- at 19: .invokevirtual 216
      refine V_cV rfl rfl rfl rfl rfl (m_cardOf hs1 hd (by omega)) ?_
      refine V_as 7 rfl rfl (by first | with_reducible rfl | assumption | exact nI_sub (by omega) | exact nI_add _ _) (by first | omega | assumption) rfl ?_
      refine V_iinc (L' := [_, _, _]) rfl rfl rfl ?_
      refine V_goto rfl ?_
      -- at 2: .iload_n 2
      rw [show Int32.ofInt 1 = nI 1 from rfl, nI_add]
      refine ih _ (f1.tr (MF.w (by simp) (by decide))) (fun j hj => ?_)
      by_cases q : j = k
      · rw [q, wI_same]
      · rw [wI_ne (by omega)]; exact e1 j (by omega)
theorem enc_setD {s : Sl} {d k : Nat} {cs : List Nat} (hd : d < 3) (hk : k < 36) : enc (setD s d cs) k = if k = 12 + 8 * d then nI cs.length else if 12 + 8 * d < k ∧ k < 12 + 8 * d + 8 then nI (cs.getD (k - (12 + 8 * d) - 1) 0) else enc s k := by
  unfold enc setD
  dsimp only
  by_cases h1 : k < 12
  · rw [if_pos h1, if_pos h1, if_neg (show ¬ k = 12 + 8 * d by omega), if_neg (show ¬ (12 + 8 * d < k ∧ k < 12 + 8 * d + 8) by omega)]
  · rw [if_neg h1, if_neg h1]
    by_cases h2 : (k - 12) % 8 = 0
    · rw [if_pos h2, if_pos h2]
      by_cases h3 : (k - 12) / 8 = d
      · rw [if_pos h3, if_pos (by omega)]
      · rw [if_neg h3, if_neg (by omega), if_neg (by omega)]
    · rw [if_neg h2, if_neg h2]
      by_cases h3 : (k - 12) / 8 = d
      · rw [if_pos h3, if_neg (by omega), if_pos (by omega), show (k - 12) % 8 - 1 = k - (12 + 8 * d) - 1 by omega]
      · rw [if_neg h3, if_neg (by omega), if_neg (by omega)]
theorem m_lays {S : mScr} {dep d : Nat} {cs : List Nat} {s : Sl} {h : Hp} (hs : MSt h s) (hd : d < 3) (hA : AL h 195 cs) (hl : cs.length ≤ 7) (hb : ∀ x ∈ cs, x < 2 ^ 21) : Cal S (dep + 1) 201 [.ref 188, .int (nI d), .int (nI cs.length)] h (fun q h' => q = none ∧ MSt h' (setD s d (srt cs)) ∧ AL h' 195 (srt cs) ∧ MF [] [189, 195] h h') := by
  show V S (dep + 1) 201 0 [.ref 188, .int (nI d), .int (nI cs.length), .null] [] h _
  refine V_aload_n rfl rfl rfl ?_
  refine V_getR (r := 195) rfl rfl ?_
  refine V_iload_n rfl rfl ?_
  -- at 5: .invokestatic 212
  refine V_callS rfl rfl rfl rfl (m_srt (r := 195) (N := 7) rfl rfl rfl hA hl (fun x hx => Nat.lt_trans (hb x hx) (by decide))) ?_
  rintro _ h1 ⟨rfl, hA1, _, f1⟩
  show V S (dep + 1) 201 8 [.ref 188, .int (nI d), .int (nI cs.length), .null] [] h1 _
  have hs1 : MSt h1 s := fun k hk => by rw [f1.1 189 (by simp)]; exact hs k hk
  have f1 : MF [] [189, 195] h h1 := MF.of f1 (by simp) (by decide)
  refine V_aload_n rfl rfl rfl ?_
  refine V_getR (r := 189) rfl rfl ?_
  refine V_bi (v := nI 12) rfl rfl ?_
  refine V_bi (v := nI 8) rfl rfl ?_
  refine V_iload_n rfl rfl ?_
  refine V_imul rfl ?_
  refine V_iadd rfl ?_
  -- at 19: .iload_n 2
  rw [nI_mul, nI_add]
  refine V_iload_n rfl rfl ?_
  refine V_as 36 rfl rfl (by first | with_reducible rfl | assumption | exact nI_sub (by omega) | exact nI_add _ _) (by first | omega | assumption) rfl ?_
  refine V_ic (v := nI 0) rfl rfl ?_
  refine V_istore_n (L' := [_, _, _, _]) rfl rfl rfl ?_
  -- at 23: .iload_n 3
  have lp := loopUp (P := fun k => ∀ h2, MF [] [189, 195] h h2 → AL h2 195 (srt cs) → (∀ j, j < 36 → h2.1 189 j = if j < 12 + 8 * d + 1 + k ∨ 12 + 8 * d + 8 ≤ j then enc (setD s d (srt cs)) j else enc s j) → V S (dep + 1) 201 23 [.ref 188, .int (nI d), .int (nI cs.length), .int (nI k)] [] h2 (fun q h' => q = none ∧ MSt h' (setD s d (srt cs)) ∧ AL h' 195 (srt cs) ∧ MF [] [189, 195] h h')) 7 ?_ ?_ 0 (Nat.zero_le _)
  · refine lp _ (f1.tr (MF.w (by simp) (by decide))) (fun i hi => by rw [wI_oth (by decide)]; exact hA1 i hi) (fun j hj => ?_)
    by_cases q : j = 12 + 8 * d
    · rw [if_pos (by omega), q, wI_same, enc_setD hd (by omega), if_pos rfl, srt_len]
    · rw [wI_ne (by omega), hs1 j hj]
      by_cases q2 : j < 12 + 8 * d + 1 + 0 ∨ 12 + 8 * d + 8 ≤ j
      · rw [if_pos q2, enc_setD hd hj, if_neg q, if_neg (by omega)]
      · rw [if_neg q2]
  · intro h2 f2 hA2 e2
    refine V_iload_n rfl rfl ?_
    refine V_bi (v := nI 7) rfl rfl ?_
    -- at 26: .if_icmp .ge 40
    refine V_icmp_ge rfl (fun hc => ?_) (fun hc => ?_)
    · refine V_return rfl rfl ?_
      refine ⟨rfl, fun j hj => ?_, hA2, f2⟩
      rw [e2 j hj, if_pos (by omega)]
    · exact absurd (by decide) hc
  · intro k hk ih h2 f2 hA2 e2
    have key : ∀ v, v = nI ((srt cs).getD k 0) → V S (dep + 1) 201 59 [.ref 188, .int (nI d), .int (nI cs.length), .int (nI k)] [.int v, .int (nI (12 + 8 * d + 1 + k)), .ref 189] h2 (fun q h' => q = none ∧ MSt h' (setD s d (srt cs)) ∧ AL h' 195 (srt cs) ∧ MF [] [189, 195] h h') := by
      intro v hv
      refine V_as 36 rfl rfl (by first | with_reducible rfl | assumption | exact nI_sub (by omega) | exact nI_add _ _) (by first | omega | assumption) rfl ?_
      refine V_iinc (L' := [_, _, _, _]) rfl rfl rfl ?_
      refine V_goto rfl ?_
      -- at 23: .iload_n 3
      rw [show Int32.ofInt 1 = nI 1 from rfl, nI_add]
      refine ih _ (f2.tr (MF.w (by simp) (by decide))) (fun i hi => by rw [wI_oth (by decide)]; exact hA2 i hi) (fun j hj => ?_)
      by_cases q : j = 12 + 8 * d + 1 + k
      · rw [if_pos (by omega), q, wI_same, hv, enc_setD hd (by omega), if_neg (by omega), if_pos (by omega), show 12 + 8 * d + 1 + k - (12 + 8 * d) - 1 = k by omega]
      · rw [wI_ne (by omega), e2 j hj]
        by_cases q2 : j < 12 + 8 * d + 1 + k ∨ 12 + 8 * d + 8 ≤ j
        · rw [if_pos q2, if_pos (by omega)]
        · rw [if_neg q2, if_neg (by omega)]
    have hsl := srt_len cs
    refine V_iload_n rfl rfl ?_
    refine V_bi (v := nI 7) rfl rfl ?_
    -- at 26: .if_icmp .ge 40
    refine V_icmp_ge rfl (fun hc => ?_) (fun hc => ?_)
    · exact absurd hc (nI_ge hk (by decide))
    · refine V_aload_n rfl rfl rfl ?_
      refine V_getR (r := 189) rfl rfl ?_
      refine V_bi (v := nI 12) rfl rfl ?_
      refine V_bi (v := nI 8) rfl rfl ?_
      refine V_iload_n rfl rfl ?_
      refine V_imul rfl ?_
      refine V_iadd rfl ?_
      refine V_ic (v := nI 1) rfl rfl ?_
      refine V_iadd rfl ?_
      refine V_iload_n rfl rfl ?_
      refine V_iadd rfl ?_
      -- at 44: .iload_n 3
      rw [nI_mul, nI_add, nI_add, nI_add]
      refine V_iload_n rfl rfl ?_
      refine V_iload_n rfl rfl ?_
      -- at 46: .if_icmp .ge 12
      refine V_icmp_ge rfl (fun he => ?_) (fun he => ?_)
      · have he := (nI_leI (by omega) (by omega)).mp he
        refine V_ic (v := nI 0) rfl rfl ?_
        -- at 59: .iastore
        refine key _ ?_
        rw [List.getD_eq_getElem?_getD, List.getElem?_eq_none (by omega)]; rfl
      · have he := nI_ngt (by omega) (by omega) he
        refine V_aload_n rfl rfl rfl ?_
        refine V_getR (r := 195) rfl rfl ?_
        refine V_iload_n rfl rfl ?_
        refine V_al 7 rfl rfl (by first | with_reducible rfl | assumption | exact nI_sub (by omega) | exact nI_add _ _) (by first | omega | assumption) rfl ?_
        refine V_goto rfl ?_
        -- at 59: .iastore
        exact key _ (hA2 k (by omega))
