/-! the class: what a deck alone tells -/
theorem deck_c26 {b : Nat} (h : isDeck b = true) : b ∉ [6, 7, 8, 9, 14, 15, 16, 17, 18, 21, 22, 25, 26, 27, 28, 29, 30, 31, 32] ∧ b + 1 ∉ [6, 7, 8, 9, 14, 15, 16, 17, 18, 21, 22, 25, 26, 27, 28, 29, 30, 31, 32] := by
  have := deck_ge h
  simp; omega
def opc (cs : List Nat) : Nat := cnt (fun i => decide (pcN (cs.length - 1) (cs.getD i 0) = 1)) cs.length
theorem c_opc {S : mScr} {dep b : Nat} {cs : List Nat} {h : Hp} (hD : DK h b cs) (hW : WD cs) : Cal S (dep + 3) 85 [.ref 25, .ref b] h (fun q h' => q = some (.int (nI (opc cs))) ∧ Fr [26, 27] h h') := by
  obtain ⟨hd, hd7, hd0, hdA, hdb⟩ := id hD
  obtain ⟨hw2, hw7, hws, hwx⟩ := id hW
  have hb1 := deck_b hd
  have hb2 := deck_b1 hd
  have hge := deck_ge hd
  have hsb : b ∉ [26, 27] ∧ b + 1 ∉ [26, 27] := by simp; omega
  obtain ⟨F, hF⟩ : ∃ F : Nat → Bool, F = fun i => decide (pcN (cs.length - 1) (cs.getD i 0) = 1) := ⟨_, rfl⟩
  unfold opc
  rw [← hF]
  show V S (dep + 3) 85 0 [.ref 25, .ref b, .null, .null] [] h _
  refine V_ic (v := nI 0) rfl rfl ?_
  refine V_istore_n (L' := [_, _, _, _]) rfl rfl rfl ?_
  refine V_ic (v := nI 0) rfl rfl ?_
  refine V_istore_n (L' := [_, _, _, _]) rfl rfl rfl ?_
  -- at 4: .iload_n 3
  have lp := loopUp (P := fun i => ∀ h1, Fr [26, 27] h h1 → V S (dep + 3) 85 4 [.ref 25, .ref b, .int (nI (cnt F i)), .int (nI i)] [] h1 (fun q h' => q = some (.int (nI (cnt F cs.length))) ∧ Fr [26, 27] h h')) cs.length ?_ ?_ 0 (Nat.zero_le _)
  · exact lp h Fr.rf
  · intro h1 f1
    have hD1 := hD.fr f1 hsb.1 hsb.2
    refine V_iload_n rfl rfl ?_
    refine V_aload_n rfl rfl (by first | assumption | rfl) ?_
    refine V_gi 0 rfl (deck_sz (by first | assumption | rfl)) rfl ?_
    -- at 9: .if_icmp .ge 42
    rw [hD1.2.2.1]
    refine V_icmp_ge rfl (fun hc => ?_) (fun hc => ?_)
    · refine V_iload_n rfl rfl ?_
      -- at 52: .ireturn
      refine V_iret rfl rfl ?_
      exact ⟨rfl, f1⟩
    · exact absurd (nI_le (Nat.le_refl _) (by omega)) hc
  · intro i hi ih h1 f1
    have hD1 := hD.fr f1 hsb.1 hsb.2
    rw [cnt] at ih
    have hFi : F i = decide (pcN (cs.length - 1) (cs.getD i 0) = 1) := by rw [hF]
    refine V_iload_n rfl rfl ?_
    refine V_aload_n rfl rfl (by first | assumption | rfl) ?_
    refine V_gi 0 rfl (deck_sz (by first | assumption | rfl)) rfl ?_
    -- at 9: .if_icmp .ge 42
    rw [hD1.2.2.1]
    refine V_icmp_ge rfl (fun hc => ?_) (fun hc => ?_)
    · exact absurd hc (nI_ge hi (by omega))
    · refine V_aload_n rfl rfl rfl ?_
      refine V_getR (r := 26) rfl rfl ?_
      refine V_aload_n rfl rfl (by first | assumption | rfl) ?_
      refine V_gi 0 rfl (deck_sz (by first | assumption | rfl)) rfl ?_
      refine V_ic (v := nI 1) rfl rfl ?_
      refine V_isub rfl ?_
      -- at 22: .aload_n 1
      rw [hD1.2.2.1, nI_sub (by omega)]
      refine V_aload_n rfl rfl (by first | assumption | rfl) ?_
      refine V_getR rfl (deck_cd (by first | assumption | rfl)) ?_
      refine V_iload_n rfl rfl ?_
      refine V_al 7 rfl (deck_ar (by first | assumption | rfl)) (by first | with_reducible rfl | assumption | exact nI_sub (by omega) | exact nI_add _ _) (by first | omega | assumption) rfl ?_
      -- at 28: .invokevirtual 51
      rw [hD1.2.2.2.1 i hi]
      refine V_callV rfl rfl rfl rfl rfl (c_load (a := 26) rfl (by omega) (hW.at hi)) ?_
      rintro _ h2 ⟨rfl, hN2, f2⟩
      show V S (dep + 3) 85 31 [.ref 25, .ref b, .int (nI (cnt F i)), .int (nI i)] [] h2 _
      have f2 : Fr [26, 27] h h2 := f1.tr (f2.mono (by simp))
      have hpl := pcN_le (n := cs.length - 1) (C := cs.getD i 0) (by omega)
      refine V_aload_n rfl rfl rfl ?_
      refine V_getR (r := 26) rfl rfl ?_
      -- at 35: .invokevirtual 55
      refine V_cV rfl rfl rfl rfl rfl (c_pcs hN2.1) ?_
      refine V_ic (v := nI 1) rfl rfl ?_
      -- at 39: .if_icmp .ne 6
      refine V_icmp_ne rfl (fun hj => ?_) (fun hj => ?_)
      · have hj : ¬ pcN (cs.length - 1) (cs.getD i 0) = 1 := fun q => hj (congrArg nI q)
        rw [hFi, decide_eq_false hj, if_neg (by simp)] at ih
        refine V_iinc (L' := [_, _, _, _]) rfl rfl rfl ?_
        refine V_goto rfl ?_
        -- at 4: .iload_n 3
        rw [show Int32.ofInt 1 = nI 1 from rfl, nI_add]
        exact ih h2 f2
      · have hj : pcN (cs.length - 1) (cs.getD i 0) = 1 := nI_inj (a := pcN (cs.length - 1) (cs.getD i 0)) (by omega) (by omega) (Decidable.of_not_not hj)
        rw [hFi, decide_eq_true hj, if_pos rfl] at ih
        refine V_iinc (L' := [_, _, _, _]) rfl rfl rfl ?_
        refine V_iinc (L' := [_, _, _, _]) rfl rfl rfl ?_
        refine V_goto rfl ?_
        -- at 4: .iload_n 3
        rw [show Int32.ofInt 1 = nI 1 from rfl, nI_add, nI_add]
        exact ih h2 f2
def cfs (cs : List Nat) (k : Nat) : Int := sumZ (fun i => cfZ (cs.length - 1) (cs.getD i 0) k) cs.length
theorem c_cfs {S : mScr} {dep b k : Nat} {cs : List Nat} {h : Hp} (hD : DK h b cs) (hW : WD cs) (hk : k < cs.length) : Cal S (dep + 3) 86 [.ref 25, .ref b, .int (nI k)] h (fun q h' => q = some (.int (zI (cfs cs k))) ∧ Fr [17, 18, 26, 27] h h') := by
  obtain ⟨hd, hd7, hd0, hdA, hdb⟩ := id hD
  obtain ⟨hw2, hw7, hws, hwx⟩ := id hW
  have hb1 := deck_b hd
  have hb2 := deck_b1 hd
  have hge := deck_ge hd
  have hsb : b ∉ [17, 18, 26, 27] ∧ b + 1 ∉ [17, 18, 26, 27] := by simp; omega
  obtain ⟨F, hF⟩ : ∃ F : Nat → Int, F = fun i => cfZ (cs.length - 1) (cs.getD i 0) k := ⟨_, rfl⟩
  unfold cfs
  rw [← hF]
  show V S (dep + 3) 86 0 [.ref 25, .ref b, .int (nI k), .null, .null] [] h _
  refine V_ic (v := nI 0) rfl rfl ?_
  refine V_istore_n (L' := [_, _, _, _, _]) rfl rfl rfl ?_
  refine V_ic (v := nI 0) rfl rfl ?_
  refine V_istore (L' := [_, _, _, _, _]) rfl rfl rfl ?_
  -- at 5: .iload 4
  have lp := loopUp (P := fun i => ∀ h1, Fr [17, 18, 26, 27] h h1 → V S (dep + 3) 86 5 [.ref 25, .ref b, .int (nI k), .int (zI (sumZ F i)), .int (nI i)] [] h1 (fun q h' => q = some (.int (zI (sumZ F cs.length))) ∧ Fr [17, 18, 26, 27] h h')) cs.length ?_ ?_ 0 (Nat.zero_le _)
  · exact lp h Fr.rf
  · intro h1 f1
    have hD1 := hD.fr f1 hsb.1 hsb.2
    refine V_iload rfl rfl ?_
    refine V_aload_n rfl rfl (by first | assumption | rfl) ?_
    refine V_gi 0 rfl (deck_sz (by first | assumption | rfl)) rfl ?_
    -- at 11: .if_icmp .ge 44
    rw [hD1.2.2.1]
    refine V_icmp_ge rfl (fun hc => ?_) (fun hc => ?_)
    · refine V_iload_n rfl rfl ?_
      -- at 56: .ireturn
      refine V_iret rfl rfl ?_
      exact ⟨rfl, f1⟩
    · exact absurd (nI_le (Nat.le_refl _) (by omega)) hc
  · intro i hi ih h1 f1
    have hD1 := hD.fr f1 hsb.1 hsb.2
    rw [sumZ] at ih
    have hFi : F i = cfZ (cs.length - 1) (cs.getD i 0) k := by rw [hF]
    refine V_iload rfl rfl ?_
    refine V_aload_n rfl rfl (by first | assumption | rfl) ?_
    refine V_gi 0 rfl (deck_sz (by first | assumption | rfl)) rfl ?_
    -- at 11: .if_icmp .ge 44
    rw [hD1.2.2.1]
    refine V_icmp_ge rfl (fun hc => ?_) (fun hc => ?_)
    · exact absurd hc (nI_ge hi (by omega))
    · refine V_aload_n rfl rfl rfl ?_
      refine V_getR (r := 26) rfl rfl ?_
      refine V_aload_n rfl rfl (by first | assumption | rfl) ?_
      refine V_gi 0 rfl (deck_sz (by first | assumption | rfl)) rfl ?_
      refine V_ic (v := nI 1) rfl rfl ?_
      refine V_isub rfl ?_
      -- at 24: .aload_n 1
      rw [hD1.2.2.1, nI_sub (by omega)]
      refine V_aload_n rfl rfl (by first | assumption | rfl) ?_
      refine V_getR rfl (deck_cd (by first | assumption | rfl)) ?_
      refine V_iload rfl rfl ?_
      refine V_al 7 rfl (deck_ar (by first | assumption | rfl)) (by first | with_reducible rfl | assumption | exact nI_sub (by omega) | exact nI_add _ _) (by first | omega | assumption) rfl ?_
      -- at 31: .invokevirtual 51
      rw [hD1.2.2.2.1 i hi]
      refine V_callV rfl rfl rfl rfl rfl (c_load (a := 26) rfl (by omega) (hW.at hi)) ?_
      rintro _ h2 ⟨rfl, hN2, f2⟩
      show V S (dep + 3) 86 34 [.ref 25, .ref b, .int (nI k), .int (zI (sumZ F i)), .int (nI i)] [] h2 _
      have f2 : Fr [17, 18, 26, 27] h h2 := f1.tr (f2.mono (by simp))
      refine V_iload_n rfl rfl ?_
      refine V_aload_n rfl rfl rfl ?_
      refine V_getR (r := 13) rfl rfl ?_
      refine V_aload_n rfl rfl rfl ?_
      refine V_getR (r := 26) rfl rfl ?_
      refine V_iload_n rfl rfl ?_
      -- at 44: .invokevirtual 59
      refine V_callV rfl rfl rfl rfl rfl (c_coef hN2 (by omega)) ?_
      rintro _ h3 ⟨rfl, f3⟩
      show V S (dep + 3) 86 47 [.ref 25, .ref b, .int (nI k), .int (zI (sumZ F i)), .int (nI i)] [.int (zI (cfZ (cs.length - 1) (cs.getD i 0) k)), .int (zI (sumZ F i))] h3 _
      refine V_iadd rfl ?_
      -- at 48: .istore_n 3
      rw [zI_add, ← hFi]
      refine V_istore_n (L' := [_, _, _, _, _]) rfl rfl rfl ?_
      refine V_iinc (L' := [_, _, _, _, _]) rfl rfl rfl ?_
      refine V_goto rfl ?_
      -- at 5: .iload 4
      rw [show Int32.ofInt 1 = nI 1 from rfl, nI_add]
      exact ih h3 (f2.tr (f3.mono (by simp)))
def pts (cs : List Nat) (m p : Nat) : Nat := sumN (fun i => prt m p (cs.length - 1) (cs.getD i 0)) cs.length
def shO (s k : Nat) : Option Nat := if s % k = 0 then some (s / k) else none
theorem prt_le {m p n C : Nat} (hn : n ≤ 7) : prt m p n C ≤ 128 := Nat.le_trans (cnt_le _ _) (Nat.pow_le_pow_right (n := 2) (j := 7) (by decide) hn)
theorem sumN_le {f : Nat → Nat} {B : Nat} : ∀ {n : Nat}, (∀ i, i < n → f i ≤ B) → sumN f n ≤ n * B := by
  intro n
  induction n with
  | zero => intro _; simp [sumN]
  | succ n ih =>
    intro h
    have h1 := ih (fun i hi => h i (by omega))
    have h2 := h n (by omega)
    rw [sumN, Nat.succ_mul]; omega
theorem c_pts {S : mScr} {dep b m p : Nat} {cs : List Nat} {h : Hp} (hD : DK h b cs) (hW : WD cs) (hm : m < cs.length) (hp : p < 2 ^ 21) : Cal S (dep + 11) 87 [.ref 25, .ref b, .int (nI m), .int (nI p)] h (fun q h' => q = some (.int (oI (shO (pts cs m p) (cs.length - m)))) ∧ Fr [6, 7, 8, 9, 21, 22, 26, 27] h h') := by
  obtain ⟨hd, hd7, hd0, hdA, hdb⟩ := id hD
  obtain ⟨hw2, hw7, hws, hwx⟩ := id hW
  have hb1 := deck_b hd
  have hb2 := deck_b1 hd
  have hge := deck_ge hd
  have hsb : b ∉ [6, 7, 8, 9, 21, 22, 26, 27] ∧ b + 1 ∉ [6, 7, 8, 9, 21, 22, 26, 27] := by simp; omega
  obtain ⟨F, hF⟩ : ∃ F : Nat → Nat, F = fun i => prt m p (cs.length - 1) (cs.getD i 0) := ⟨_, rfl⟩
  have hFb : sumN F cs.length ≤ cs.length * 128 := sumN_le (fun i hi => by rw [hF]; exact prt_le (by omega))
  have hFb2 : cs.length * 128 ≤ 7 * 128 := Nat.mul_le_mul_right _ hw7
  unfold pts
  rw [← hF]
  show V S (dep + 11) 87 0 [.ref 25, .ref b, .int (nI m), .int (nI p), .null, .null, .null] [] h _
  refine V_aload_n rfl rfl (by first | assumption | rfl) ?_
  refine V_gi 0 rfl (deck_sz (by first | assumption | rfl)) rfl ?_
  refine V_iload_n rfl rfl ?_
  refine V_isub rfl ?_
  -- at 6: .istore 4
  rw [hd0, nI_sub (by omega)]
  refine V_istore (L' := [_, _, _, _, _, _, _]) rfl rfl rfl ?_
  refine V_iload rfl rfl ?_
  -- at 10: .ifCond .gt 5
  refine V_if_gt rfl (fun h0 => ?_) (fun h0 => ?_)
  · refine V_ic (v := nI 0) rfl rfl ?_
    refine V_istore (L' := [_, _, _, _, _, _, _]) rfl rfl rfl ?_
    refine V_ic (v := nI 0) rfl rfl ?_
    refine V_istore (L' := [_, _, _, _, _, _, _]) rfl rfl rfl ?_
    -- at 21: .iload 6
    have lp := loopUp (P := fun i => ∀ h1, Fr [6, 7, 8, 9, 21, 22, 26, 27] h h1 → V S (dep + 11) 87 21 [.ref 25, .ref b, .int (nI m), .int (nI p), .int (nI (cs.length - m)), .int (nI (sumN F i)), .int (nI i)] [] h1 (fun q h' => q = some (.int (oI (shO (sumN F cs.length) (cs.length - m)))) ∧ Fr [6, 7, 8, 9, 21, 22, 26, 27] h h')) cs.length ?_ ?_ 0 (Nat.zero_le _)
    · exact lp h Fr.rf
    · intro h1 f1
      have hD1 := hD.fr f1 hsb.1 hsb.2
      have hz : ¬ nI (cs.length - m) = 0 := nI_ne0 (by omega) (by omega)
      refine V_iload rfl rfl ?_
      refine V_aload_n rfl rfl (by first | assumption | rfl) ?_
      refine V_gi 0 rfl (deck_sz (by first | assumption | rfl)) rfl ?_
      -- at 27: .if_icmp .ge 47
      rw [hD1.2.2.1]
      refine V_icmp_ge rfl (fun hc => ?_) (fun hc => ?_)
      · refine V_iload rfl rfl ?_
        refine V_iload rfl rfl ?_
        refine V_irem rfl (by first | assumption | decide | omega) ?_
        -- at 79: .ifCond .ne 11
        rw [nI_rem (by omega) (by omega) (by omega)]
        have hml := Nat.mod_lt (sumN F cs.length) (show 0 < cs.length - m by omega)
        refine V_if_ne rfl (fun hd => ?_) (fun hd => ?_)
        · refine V_ic (v := -1) rfl rfl ?_
          -- at 91: .ireturn
          refine V_iret rfl rfl ?_
          refine ⟨?_, f1⟩
          have : ¬ sumN F cs.length % (cs.length - m) = 0 := fun q => hd (by rw [q]; rfl)
          unfold shO
          rw [if_neg this]; rfl
        · have hd := nI_inj (b := 0) (by omega) (by omega) (Decidable.of_not_not hd)
          refine V_iload rfl rfl ?_
          refine V_iload rfl rfl ?_
          refine V_idiv rfl (by first | assumption | decide | omega) ?_
          -- at 87: .goto 4
          rw [nI_div2 (by omega) (by omega) (by omega)]
          refine V_goto rfl ?_
          -- at 91: .ireturn
          refine V_iret rfl rfl ?_
          refine ⟨?_, f1⟩
          unfold shO
          rw [if_pos hd]; rfl
      · exact absurd (nI_le (Nat.le_refl _) (by omega)) hc
    · intro i hi ih h1 f1
      have hD1 := hD.fr f1 hsb.1 hsb.2
      rw [sumN] at ih
      have hFi : F i = prt m p (cs.length - 1) (cs.getD i 0) := by rw [hF]
      refine V_iload rfl rfl ?_
      refine V_aload_n rfl rfl (by first | assumption | rfl) ?_
      refine V_gi 0 rfl (deck_sz (by first | assumption | rfl)) rfl ?_
      -- at 27: .if_icmp .ge 47
      rw [hD1.2.2.1]
      refine V_icmp_ge rfl (fun hc => ?_) (fun hc => ?_)
      · exact absurd hc (nI_ge hi (by omega))
      · refine V_aload_n rfl rfl rfl ?_
        refine V_getR (r := 26) rfl rfl ?_
        refine V_aload_n rfl rfl (by first | assumption | rfl) ?_
        refine V_gi 0 rfl (deck_sz (by first | assumption | rfl)) rfl ?_
        refine V_ic (v := nI 1) rfl rfl ?_
        refine V_isub rfl ?_
        -- at 40: .aload_n 1
        rw [hD1.2.2.1, nI_sub (by omega)]
        refine V_aload_n rfl rfl (by first | assumption | rfl) ?_
        refine V_getR rfl (deck_cd (by first | assumption | rfl)) ?_
        refine V_iload rfl rfl ?_
        refine V_al 7 rfl (deck_ar (by first | assumption | rfl)) (by first | with_reducible rfl | assumption | exact nI_sub (by omega) | exact nI_add _ _) (by first | omega | assumption) rfl ?_
        -- at 47: .invokevirtual 51
        rw [hD1.2.2.2.1 i hi]
        refine V_callV rfl rfl rfl rfl rfl (c_load (a := 26) rfl (by omega) (hW.at hi)) ?_
        rintro _ h2 ⟨rfl, hN2, f2⟩
        show V S (dep + 11) 87 50 [.ref 25, .ref b, .int (nI m), .int (nI p), .int (nI (cs.length - m)), .int (nI (sumN F i)), .int (nI i)] [] h2 _
        have f2 : Fr [6, 7, 8, 9, 21, 22, 26, 27] h h2 := f1.tr (f2.mono (by simp))
        refine V_iload rfl rfl ?_
        refine V_aload_n rfl rfl rfl ?_
        refine V_getR (r := 20) rfl rfl ?_
        refine V_iload_n rfl rfl ?_
        refine V_iload_n rfl rfl ?_
        refine V_aload_n rfl rfl rfl ?_
        refine V_getR (r := 26) rfl rfl ?_
        -- at 62: .invokevirtual 65
        refine V_callV rfl rfl rfl rfl rfl (c_prt hN2 (by decide) (by omega) hp) ?_
        rintro _ h3 ⟨rfl, f3⟩
        show V S (dep + 11) 87 65 [.ref 25, .ref b, .int (nI m), .int (nI p), .int (nI (cs.length - m)), .int (nI (sumN F i)), .int (nI i)] [.int (nI (prt m p (cs.length - 1) (cs.getD i 0))), .int (nI (sumN F i))] h3 _
        refine V_iadd rfl ?_
        -- at 66: .istore 5
        rw [nI_add, ← hFi]
        refine V_istore (L' := [_, _, _, _, _, _, _]) rfl rfl rfl ?_
        refine V_iinc (L' := [_, _, _, _, _, _, _]) rfl rfl rfl ?_
        refine V_goto rfl ?_
        -- at 21: .iload 6
        rw [show Int32.ofInt 1 = nI 1 from rfl, nI_add]
        exact ih h3 (f2.tr (f3.mono (by simp)))
  · exact absurd (nI_lt (a := 0) (by omega) (by omega)) h0
noncomputable def aoc (n : Nat) (l : List Nat) (j : Nat) : Nat := cnt (fun i => isK n (l.getD i 0) j) l.length
theorem c_aoc {S : mScr} {dep n j : Nat} {l : List Nat} {h : Hp} (hF : FL h l) (hn : n ≤ 7) (hl : ∀ x ∈ l, x < 2 ^ tri n) (hj : j < 6) : Cal S (dep + 12) 95 [.ref 25, .int (nI n), .int (nI j)] h (fun q h' => q = some (.int (nI (aoc n l j))) ∧ Fr [6, 7, 8, 9, 14, 15, 16, 28, 29] h h') := by
  obtain ⟨h0, hl64, hA, hb⟩ := id hF
  obtain ⟨F, hFF⟩ : ∃ F : Nat → Bool, F = fun i => isK n (l.getD i 0) j := ⟨_, rfl⟩
  unfold aoc
  rw [← hFF]
  show V S (dep + 12) 95 0 [.ref 25, .int (nI n), .int (nI j), .null, .null] [] h _
  refine V_ic (v := nI 0) rfl rfl ?_
  refine V_istore_n (L' := [_, _, _, _, _]) rfl rfl rfl ?_
  refine V_ic (v := nI 0) rfl rfl ?_
  refine V_istore (L' := [_, _, _, _, _]) rfl rfl rfl ?_
  -- at 5: .iload 4
  have lp := loopUp (P := fun i => ∀ h1, Fr [6, 7, 8, 9, 14, 15, 16, 28, 29] h h1 → V S (dep + 12) 95 5 [.ref 25, .int (nI n), .int (nI j), .int (nI (cnt F i)), .int (nI i)] [] h1 (fun q h' => q = some (.int (nI (cnt F l.length))) ∧ Fr [6, 7, 8, 9, 14, 15, 16, 28, 29] h h')) l.length ?_ ?_ 0 (Nat.zero_le _)
  · exact lp h Fr.rf
  · intro h1 f1
    have h01 : h1.1 25 7 = nI l.length := by rw [f1.1 25 (by simp)]; exact h0
    refine V_iload rfl rfl ?_
    refine V_aload_n rfl rfl rfl ?_
    refine V_gi 7 rfl rfl rfl ?_
    -- at 11: .if_icmp .ge 42
    rw [h01]
    refine V_icmp_ge rfl (fun hc => ?_) (fun hc => ?_)
    · refine V_iload_n rfl rfl ?_
      -- at 54: .ireturn
      refine V_iret rfl rfl ?_
      exact ⟨rfl, f1⟩
    · exact absurd (nI_le (Nat.le_refl _) (by omega)) hc
  · intro i hi ih h1 f1
    have h01 : h1.1 25 7 = nI l.length := by rw [f1.1 25 (by simp)]; exact h0
    have hA1 := hA.fr f1 (by simp)
    rw [cnt] at ih
    have hFi : F i = isK n (l.getD i 0) j := by rw [hFF]
    refine V_iload rfl rfl ?_
    refine V_aload_n rfl rfl rfl ?_
    refine V_gi 7 rfl rfl rfl ?_
    -- at 11: .if_icmp .ge 42
    rw [h01]
    refine V_icmp_ge rfl (fun hc => ?_) (fun hc => ?_)
    · exact absurd hc (nI_ge hi (by omega))
    · refine V_aload_n rfl rfl rfl ?_
      refine V_getR (r := 28) rfl rfl ?_
      refine V_iload_n rfl rfl ?_
      refine V_aload_n rfl rfl rfl ?_
      refine V_getR (r := 32) rfl rfl ?_
      refine V_iload rfl rfl ?_
      refine V_al 64 rfl rfl (by first | with_reducible rfl | assumption | exact nI_sub (by omega) | exact nI_add _ _) (by first | omega | assumption) rfl ?_
      -- at 26: .invokevirtual 51
      rw [hA1 i hi]
      refine V_callV rfl rfl rfl rfl rfl (c_load (a := 28) rfl hn (hl _ (getD_mem hi))) ?_
      rintro _ h2 ⟨rfl, hN2, f2⟩
      show V S (dep + 12) 95 29 [.ref 25, .int (nI n), .int (nI j), .int (nI (cnt F i)), .int (nI i)] [] h2 _
      have f2 : Fr [6, 7, 8, 9, 14, 15, 16, 28, 29] h h2 := f1.tr (f2.mono (by simp))
      refine V_aload_n rfl rfl rfl ?_
      refine V_getR (r := 13) rfl rfl ?_
      refine V_aload_n rfl rfl rfl ?_
      refine V_getR (r := 28) rfl rfl ?_
      refine V_iload_n rfl rfl ?_
      -- at 38: .invokevirtual 135
      refine V_callV rfl rfl rfl rfl rfl (c_isK hN2 (by decide) hj) ?_
      rintro _ h3 ⟨rfl, f3⟩
      show V S (dep + 12) 95 41 [.ref 25, .int (nI n), .int (nI j), .int (nI (cnt F i)), .int (nI i)] [.int (bI (isK n (l.getD i 0) j))] h3 _
      have f3 : Fr [6, 7, 8, 9, 14, 15, 16, 28, 29] h h3 := f2.tr (f3.mono (by simp))
      refine V_if_eq rfl (fun hd => ?_) (fun hd => ?_)
      · have hd := bI_z.mp hd
        rw [hFi, hd, if_neg (by simp)] at ih
        refine V_iinc (L' := [_, _, _, _, _]) rfl rfl rfl ?_
        refine V_goto rfl ?_
        -- at 5: .iload 4
        rw [show Int32.ofInt 1 = nI 1 from rfl, nI_add]
        exact ih h3 f3
      · have hd := bI_nz.mp hd
        rw [hFi, hd, if_pos rfl] at ih
        refine V_iinc (L' := [_, _, _, _, _]) rfl rfl rfl ?_
        refine V_iinc (L' := [_, _, _, _, _]) rfl rfl rfl ?_
        refine V_goto rfl ?_
        -- at 5: .iload 4
        rw [show Int32.ofInt 1 = nI 1 from rfl, nI_add, nI_add]
        exact ih h3 f3
