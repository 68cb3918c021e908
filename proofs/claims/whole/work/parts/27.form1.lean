/-! forms: the class's search (FormSearch), step by step -/
theorem wI_wI {h : Hp} {a i : Nat} {x y : Int32} : wI (wI h a i x) a i y = wI h a i y := by
  unfold wI
  congr 1
  funext b j
  by_cases q : b = a ∧ j = i <;> simp [q]
def popS (cl : List Nat) : Nat := (cl.map pop).sum
/-- the cells of a place -/
def CL (h : Hp) (p : Nat) (cl : List Nat) : Prop := h.1 8 p = nI cl.length ∧ cl.length ≤ 7 ∧ (∀ i, i < cl.length → h.1 7 (p * 7 + i) = nI (cl.getD i 0)) ∧ (∀ x ∈ cl, x < 128) ∧ popS cl ≤ 7
/-- a node's least row over the first i cells, and how many nodes these have -/
def lrw (x : Nat) (cl : List Nat) : Nat → Nat × Nat
  | 0 => (0, 0)
  | i + 1 => ((lrw x cl i).1 ||| (2 ^ pop (cl.getD i 0 &&& x) - 1) <<< (lrw x cl i).2, (lrw x cl i).2 + pop (cl.getD i 0))
theorem popS_take (cl : List Nat) : ∀ i, i ≤ cl.length → popS (cl.take (i)) = popS (cl.take i) := fun _ _ => rfl
theorem lrw_low (x : Nat) (cl : List Nat) : ∀ i, i ≤ cl.length → (lrw x cl i).2 = popS (cl.take i) := by
  intro i
  induction i with
  | zero => intro _; rfl
  | succ i ih =>
    intro hi
    rw [lrw, ih (by omega)]
    unfold popS
    rw [List.take_succ, List.map_append, List.sum_append, List.getD_eq_getElem?_getD, List.getElem?_eq_getElem (by omega)]
    simp
theorem popS_le (cl : List Nat) (i : Nat) : popS (cl.take i) ≤ popS cl := by
  conv => rhs; rw [← List.take_append_drop i cl]
  unfold popS
  rw [List.map_append, List.sum_append]
  omega
theorem pop_and_le {x y : Nat} : pop (x &&& y) ≤ pop x := by
  have : ∀ n, cnt (x &&& y).testBit n ≤ cnt x.testBit n := by
    intro n
    induction n with
    | zero => exact Nat.le_refl _
    | succ n ih =>
      rw [cnt, cnt, Nat.testBit_and]
      by_cases h : x.testBit n = true <;> by_cases h2 : y.testBit n = true <;> simp [h, h2] <;> omega
  exact this 24
theorem lrw_lt {x : Nat} {cl : List Nat} (hs : popS cl ≤ 7) : ∀ i, i ≤ cl.length → (lrw x cl i).1 < 2 ^ (lrw x cl i).2 := by
  intro i
  induction i with
  | zero => intro _; simp [lrw]
  | succ i ih =>
    intro hi
    have h1 := ih (by omega)
    rw [lrw]
    dsimp only
    apply Nat.or_lt_two_pow
    · exact Nat.lt_of_lt_of_le h1 (Nat.pow_le_pow_right (by decide) (by omega))
    · rw [Nat.shiftLeft_eq, Nat.pow_add, Nat.mul_comm]
      apply Nat.mul_lt_mul_of_pos_left _ (Nat.two_pow_pos _)
      have h2 : pop (cl.getD i 0 &&& x) ≤ pop (cl.getD i 0) := pop_and_le
      have h3 := Nat.pow_le_pow_right (n := 2) (by decide) h2
      have h4 := Nat.two_pow_pos (pop (cl.getD i 0 &&& x))
      omega
def lastC (cl : List Nat) : Nat := cl.getD (cl.length - 1) 0
/-- those of the last cell with the least row, and that row -/
def nlr (g : Nat → Nat) (cl : List Nat) : Nat → Nat × Nat
  | 0 => (0, 2147483647)
  | v + 1 => if (lastC cl).testBit v = true ∧ (lrw (g v) cl cl.length).1 ≤ (nlr g cl v).2 then (if (lrw (g v) cl cl.length).1 < (nlr g cl v).2 then 2 ^ v else (nlr g cl v).1 ||| 2 ^ v, (lrw (g v) cl cl.length).1) else nlr g cl v
theorem nlr_lt {g : Nat → Nat} {cl : List Nat} (hs : popS cl ≤ 7) (v : Nat) : (nlr g cl v).2 < 2 ^ 31 ∧ (v ≤ 7 → (nlr g cl v).1 < 128) := by
  induction v with
  | zero => simp [nlr]
  | succ v ih =>
    rw [nlr]
    split
    · have h1 := lrw_lt (x := g v) hs cl.length (Nat.le_refl _)
      have h2 : (lrw (g v) cl cl.length).2 ≤ 7 := by rw [lrw_low _ _ _ (Nat.le_refl _), List.take_length]; exact hs
      have h3 := Nat.pow_le_pow_right (n := 2) (by decide) h2
      refine ⟨by dsimp only; omega, fun hv => ?_⟩
      have hv2 : 2 ^ v < 128 := Nat.lt_of_le_of_lt (Nat.pow_le_pow_right (by decide) (show v ≤ 6 by omega)) (by decide)
      dsimp only
      split
      · exact hv2
      · exact Nat.or_lt_two_pow (n := 7) (ih.2 (by omega)) hv2
    · exact ⟨ih.1, fun hv => ih.2 (by omega)⟩
theorem c_nlr {S : mScr} {dep a n p : Nat} {g : Nat → Nat} {cl : List Nat} {h : Hp} (hN : NA h a n g) (hC : CL h p cl) (hp : p < 7) (hne : 0 < cl.length) (ha9 : a ≠ 9) (ha8 : a + 1 ≠ 9) : Cal S (dep + 1) 37 [.ref 6, .ref a, .int (nI p)] h (fun r h' => r = some (.int (nI (nlr g cl n).1)) ∧ h' = wI h 9 p (nI (nlr g cl n).2)) := by
  obtain ⟨ha, hn, h0, hg, hb⟩ := id hN
  obtain ⟨k1, k2, k3, k4, k5⟩ := id hC
  have hb1 := net_b ha
  have hcl : ∀ i, cl.getD i 0 < 128 := fun i => getD_lt k4 (by decide)
  show V S (dep + 1) 37 0 [.ref 6, .ref a, .int (nI p), .null, .null, .null, .null, .null, .null, .null, .null, .null] [] h _
  refine V_aload_n rfl rfl rfl ?_
  refine V_getR (r := 8) rfl rfl ?_
  refine V_iload_n rfl rfl ?_
  refine V_al 7 rfl rfl (by first | with_reducible rfl | assumption | exact nI_sub (by omega) | exact nI_add _ _) (by first | omega | assumption) rfl ?_
  -- at 6: .istore_n 3
  rw [k1]
  refine V_istore_n (L' := [_, _, _, _, _, _, _, _, _, _, _, _]) rfl rfl rfl ?_
  refine V_iload_n rfl rfl ?_
  refine V_bi (v := nI 7) rfl rfl ?_
  refine V_imul rfl ?_
  -- at 11: .istore 4
  rw [nI_mul]
  refine V_istore (L' := [_, _, _, _, _, _, _, _, _, _, _, _]) rfl rfl rfl ?_
  refine V_iload_n rfl rfl ?_
  -- at 14: .ifCond .le 17
  refine V_if_le rfl (fun hc => ?_) (fun hc => ?_)
  · exact absurd hc (nI_nle hne (by omega))
  · refine V_aload_n rfl rfl rfl ?_
    refine V_getR (r := 7) rfl rfl ?_
    refine V_iload rfl rfl ?_
    refine V_iload_n rfl rfl ?_
    refine V_iadd rfl ?_
    refine V_ic (v := nI 1) rfl rfl ?_
    refine V_isub rfl ?_
    -- at 27: .iaload
    rw [nI_add, nI_sub (by omega)]
    refine V_al 49 rfl rfl (show nI (p * 7 + cl.length - 1) = nI (p * 7 + (cl.length - 1)) from by congr 1; omega) (by omega) rfl ?_
    rw [k3 _ (by omega)]
    refine V_goto rfl ?_
    refine V_istore (L' := [_, _, _, _, _, _, _, _, _, _, _, _]) rfl rfl rfl ?_
    refine V_ic (v := nI 0) rfl rfl ?_
    refine V_istore (L' := [_, _, _, _, _, _, _, _, _, _, _, _]) rfl rfl rfl ?_
    refine V_aload_n rfl rfl rfl ?_
    refine V_getR (r := 9) rfl rfl ?_
    refine V_iload_n rfl rfl ?_
    refine V_ldc (v := .int (nI 2147483647)) rfl rfl ?_
    refine V_as 7 rfl rfl (by first | with_reducible rfl | assumption | exact nI_sub (by omega) | exact nI_add _ _) (by first | omega | assumption) rfl ?_
    refine V_ic (v := nI 0) rfl rfl ?_
    refine V_istore (L' := [_, _, _, _, _, _, _, _, _, _, _, _]) rfl rfl rfl ?_
    -- at 48: .iload 7
    show V S (dep + 1) 37 48 [.ref 6, .ref a, .int (nI p), .int (nI cl.length), .int (nI (p * 7)), .int (nI (lastC cl)), .int (nI 0), .int (nI 0), .null, .null, .null, .null] [] (wI h 9 p (nI 2147483647)) _
    have lp := loopUp (P := fun v => ∀ v8 v9 v10 v11, V S (dep + 1) 37 48 [.ref 6, .ref a, .int (nI p), .int (nI cl.length), .int (nI (p * 7)), .int (nI (lastC cl)), .int (nI (nlr g cl v).1), .int (nI v), v8, v9, v10, v11] [] (wI h 9 p (nI (nlr g cl v).2)) (fun r h' => r = some (.int (nI (nlr g cl n).1)) ∧ h' = wI h 9 p (nI (nlr g cl n).2))) n ?_ ?_ 0 (Nat.zero_le _)
    · exact lp _ _ _ _
    · intro v8 v9 v10 v11
      refine V_iload rfl rfl ?_
      refine V_aload_n rfl rfl (by first | assumption | rfl) ?_
      refine V_gi 0 rfl (net_sz (by first | assumption | rfl)) rfl ?_
      -- at 54: .if_icmp .ge 133
      rw [wI_ne (by omega)]
      refine V_icmp_ge rfl (fun hd => ?_) (fun hd => ?_)
      · refine V_iload rfl rfl ?_
        -- at 189: .ireturn
        refine V_iret rfl rfl ?_
        exact ⟨rfl, rfl⟩
      · exact absurd (by rw [h0]; exact nI_le (Nat.le_refl _) (by omega)) hd
    · intro v hv ih v8 v9 v10 v11
      have hnl := nlr_lt (g := g) k5 v
      have hrw := lrw_lt (x := g v) k5 cl.length (Nat.le_refl _)
      have hlow : ∀ i, i ≤ cl.length → (lrw (g v) cl i).2 ≤ 7 := fun i hi => by rw [lrw_low _ _ _ hi]; exact Nat.le_trans (popS_le _ _) k5
      have hrwlt : (lrw (g v) cl cl.length).1 < 2 ^ 31 := Nat.lt_of_lt_of_le hrw (Nat.le_trans (Nat.pow_le_pow_right (by decide) (hlow _ (Nat.le_refl _))) (by decide))
      refine V_iload rfl rfl ?_
      refine V_aload_n rfl rfl (by first | assumption | rfl) ?_
      refine V_gi 0 rfl (net_sz (by first | assumption | rfl)) rfl ?_
      -- at 54: .if_icmp .ge 133
      rw [wI_ne (by omega)]
      refine V_icmp_ge rfl (fun hd => ?_) (fun hd => ?_)
      · exact absurd hd (by rw [h0]; exact nI_ge hv (by omega))
      · refine V_ic (v := nI 0) rfl rfl ?_
        refine V_istore (L' := [.ref 6, .ref a, .int (nI p), .int (nI cl.length), .int (nI (p * 7)), .int (nI (lastC cl)), .int (nI (nlr g cl v).1), .int (nI v), .int (nI 0), v9, v10, v11]) rfl rfl rfl ?_
        refine V_ic (v := nI 0) rfl rfl ?_
        refine V_istore (L' := [.ref 6, .ref a, .int (nI p), .int (nI cl.length), .int (nI (p * 7)), .int (nI (lastC cl)), .int (nI (nlr g cl v).1), .int (nI v), .int (nI 0), .int (nI 0), v10, v11]) rfl rfl rfl ?_
        refine V_ic (v := nI 0) rfl rfl ?_
        refine V_istore (L' := [.ref 6, .ref a, .int (nI p), .int (nI cl.length), .int (nI (p * 7)), .int (nI (lastC cl)), .int (nI (nlr g cl v).1), .int (nI v), .int (nI 0), .int (nI 0), .int (nI 0), v11]) rfl rfl rfl ?_
        have lq := loopUp (P := fun i => ∀ v11, V S (dep + 1) 37 66 [.ref 6, .ref a, .int (nI p), .int (nI cl.length), .int (nI (p * 7)), .int (nI (lastC cl)), .int (nI (nlr g cl v).1), .int (nI v), .int (nI (lrw (g v) cl i).1), .int (nI (lrw (g v) cl i).2), .int (nI i), v11] [] (wI h 9 p (nI (nlr g cl v).2)) (fun r h' => r = some (.int (nI (nlr g cl n).1)) ∧ h' = wI h 9 p (nI (nlr g cl n).2))) cl.length ?_ ?_ 0 (Nat.zero_le _)
        · exact lq _
        · intro v11
          have up : ∀ x y z, nlr g cl (v + 1) = (y, z) → V S (dep + 1) 37 181 [.ref 6, .ref a, .int (nI p), .int (nI cl.length), .int (nI (p * 7)), .int (nI (lastC cl)), .int (nI y), .int (nI v), .int (nI (lrw (g v) cl cl.length).1), .int (nI (lrw (g v) cl cl.length).2), .int (nI cl.length), x] [] (wI h 9 p (nI z)) (fun r h' => r = some (.int (nI (nlr g cl n).1)) ∧ h' = wI h 9 p (nI (nlr g cl n).2)) := by
            intro x y z hyz
            have ih := ih (.int (nI (lrw (g v) cl cl.length).1)) (.int (nI (lrw (g v) cl cl.length).2)) (.int (nI cl.length)) x
            rw [hyz] at ih
            refine V_iinc (L' := [_, _, _, _, _, _, _, _, _, _, _, _]) rfl rfl rfl ?_
            refine V_goto rfl ?_
            -- at 48: .iload 7
            rw [show Int32.ofInt 1 = nI 1 from rfl, nI_add]
            exact ih
          refine V_iload rfl rfl ?_
          refine V_iload_n rfl rfl ?_
          -- at 69: .if_icmp .ge 56
          refine V_icmp_ge rfl (fun he => ?_) (fun he => ?_)
          · have hlc : lastC cl < 128 := hcl _
            refine V_iload rfl rfl ?_
            refine V_iload rfl rfl ?_
            refine V_ishr rfl ?_
            refine V_ic (v := nI 1) rfl rfl ?_
            refine V_iand rfl ?_
            -- at 132: .ifCond .eq 49
            refine V_if_eq rfl (fun hf => ?_) (fun hf => ?_)
            · have e := (tb_z (by omega) (by omega)).mp hf
              exact up _ _ _ (by rw [nlr, if_neg (by simp [e])])
            · have e := (tb_nz (by omega) (by omega)).mp hf
              refine V_iload rfl rfl ?_
              refine V_aload_n rfl rfl rfl ?_
              refine V_getR (r := 9) rfl rfl ?_
              refine V_iload_n rfl rfl ?_
              refine V_al 7 rfl rfl (by first | with_reducible rfl | assumption | exact nI_sub (by omega) | exact nI_add _ _) (by first | omega | assumption) rfl ?_
              -- at 143: .if_icmp .gt 38
              rw [wI_same]
              refine V_icmp_gt rfl (fun hg2 => ?_) (fun hg2 => ?_)
              · have hg2 := (nI_ltI hnl.1 hrwlt).mp hg2
                exact up _ _ _ (by rw [nlr, if_neg (by omega)])
              · have hg2 : (lrw (g v) cl cl.length).1 ≤ (nlr g cl v).2 := by
                  rcases Nat.lt_or_ge (nlr g cl v).2 (lrw (g v) cl cl.length).1 with q | q
                  · exact absurd (nI_lt q hrwlt) hg2
                  · exact q
                refine V_iload rfl rfl ?_
                refine V_aload_n rfl rfl rfl ?_
                refine V_getR (r := 9) rfl rfl ?_
                refine V_iload_n rfl rfl ?_
                refine V_al 7 rfl rfl (by first | with_reducible rfl | assumption | exact nI_sub (by omega) | exact nI_add _ _) (by first | omega | assumption) rfl ?_
                -- at 154: .if_icmp .ge 10
                rw [wI_same]
                refine V_icmp_ge rfl (fun hh => ?_) (fun hh => ?_)
                · have hh := (nI_leI hnl.1 hrwlt).mp hh
                  refine V_iload rfl rfl ?_
                  refine V_ic (v := nI 1) rfl rfl ?_
                  refine V_iload rfl rfl ?_
                  refine V_ishl rfl ?_
                  refine V_ior rfl ?_
                  refine V_istore (L' := [_, _, _, _, _, _, _, _, _, _, _, _]) rfl rfl rfl ?_
                  refine V_aload_n rfl rfl rfl ?_
                  refine V_getR (r := 9) rfl rfl ?_
                  refine V_iload_n rfl rfl ?_
                  refine V_iload rfl rfl ?_
                  refine V_as 7 rfl rfl (by first | with_reducible rfl | assumption | exact nI_sub (by omega) | exact nI_add _ _) (by first | omega | assumption) rfl ?_
                  -- at 181: .iinc 7 1
                  rw [nI_2p _ (by omega), nI_or, wI_wI]
                  exact up _ _ _ (by rw [nlr, if_pos ⟨e, hg2⟩, if_neg (by omega)])
                · have hh := nI_ngt hnl.1 hrwlt hh
                  refine V_ic (v := nI 1) rfl rfl ?_
                  refine V_iload rfl rfl ?_
                  refine V_ishl rfl ?_
                  refine V_goto rfl ?_
                  refine V_istore (L' := [_, _, _, _, _, _, _, _, _, _, _, _]) rfl rfl rfl ?_
                  refine V_aload_n rfl rfl rfl ?_
                  refine V_getR (r := 9) rfl rfl ?_
                  refine V_iload_n rfl rfl ?_
                  refine V_iload rfl rfl ?_
                  refine V_as 7 rfl rfl (by first | with_reducible rfl | assumption | exact nI_sub (by omega) | exact nI_add _ _) (by first | omega | assumption) rfl ?_
                  -- at 181: .iinc 7 1
                  rw [nI_2p _ (by omega), wI_wI]
                  exact up _ _ _ (by rw [nlr, if_pos ⟨e, hg2⟩, if_pos hh])
          · exact absurd (nI_le (Nat.le_refl _) (by omega)) he
        · intro i hi ihi v11
          have hpi : pop (cl.getD i 0 &&& g v) ≤ 7 := Nat.le_trans pop_and_le (pop_le (hcl i) (n := 7) (by decide))
          have hl1 := hlow i (by omega)
          refine V_iload rfl rfl ?_
          refine V_iload_n rfl rfl ?_
          -- at 69: .if_icmp .ge 56
          refine V_icmp_ge rfl (fun he => ?_) (fun he => ?_)
          · exact absurd he (nI_ge hi (by omega))
          · refine V_aload_n rfl rfl rfl ?_
            refine V_getR (r := 7) rfl rfl ?_
            refine V_iload rfl rfl ?_
            refine V_iload rfl rfl ?_
            refine V_iadd rfl ?_
            -- at 81: .iaload
            rw [nI_add]
            refine V_al 49 rfl rfl rfl (by omega) rfl ?_
            rw [wI_ne (by omega), k3 i hi]
            refine V_istore (L' := [.ref 6, .ref a, .int (nI p), .int (nI cl.length), .int (nI (p * 7)), .int (nI (lastC cl)), .int (nI (nlr g cl v).1), .int (nI v), .int (nI (lrw (g v) cl i).1), .int (nI (lrw (g v) cl i).2), .int (nI i), .int (nI (cl.getD i 0))]) rfl rfl rfl ?_
            refine V_iload rfl rfl ?_
            refine V_ic (v := nI 1) rfl rfl ?_
            refine V_iload rfl rfl ?_
            refine V_aload_n rfl rfl (by first | assumption | rfl) ?_
            refine V_getR rfl (net_nr (by first | assumption | rfl)) ?_
            refine V_iload rfl rfl ?_
            refine V_al 7 rfl (net_ar (by first | assumption | rfl)) (by first | with_reducible rfl | assumption | exact nI_sub (by omega) | exact nI_add _ _) (by first | omega | assumption) rfl ?_
            refine V_iand rfl ?_
            -- at 97: .invokestatic 73
            rw [wI_ne (by omega), hg v (by omega), nI_and]
            refine V_cS rfl rfl rfl rfl (c_bc (Nat.lt_of_le_of_lt Nat.and_le_left (Nat.lt_trans (hcl i) (by decide)))) ?_
            refine V_ishl rfl ?_
            refine V_ic (v := nI 1) rfl rfl ?_
            refine V_isub rfl ?_
            refine V_iload rfl rfl ?_
            refine V_ishl rfl ?_
            refine V_ior rfl ?_
            -- at 107: .istore 8
            rw [nI_2p _ (by omega), nI_sub (Nat.two_pow_pos _), nI_shl (by omega), nI_or]
            refine V_istore (L' := [_, _, _, _, _, _, _, _, _, _, _, _]) rfl rfl rfl ?_
            refine V_iload rfl rfl ?_
            refine V_iload rfl rfl ?_
            -- at 113: .invokestatic 73
            refine V_cS rfl rfl rfl rfl (c_bc (Nat.lt_trans (hcl i) (by decide))) ?_
            refine V_iadd rfl ?_
            refine V_istore (L' := [_, _, _, _, _, _, _, _, _, _, _, _]) rfl rfl rfl ?_
            refine V_iinc (L' := [_, _, _, _, _, _, _, _, _, _, _, _]) rfl rfl rfl ?_
            refine V_goto rfl ?_
            -- at 66: .iload 10
            rw [show Int32.ofInt 1 = nI 1 from rfl, nI_add, nI_add]
            exact ihi _
def htw (g : Nat → Nat) (v t : Nat) : Nat → Bool
  | 0 => false
  | w + 1 => htw g v t w || (t.testBit w && decide ((g v ^^^ (g v &&& (2 ^ v ||| 2 ^ w))) = (g w ^^^ (g w &&& (2 ^ v ||| 2 ^ w)))))
theorem xand_lt {x y : Nat} (h : x < 128) : x ^^^ (x &&& y) < 128 := Nat.xor_lt_two_pow (n := 7) h (Nat.lt_of_le_of_lt Nat.and_le_left h)
theorem c_htw {S : mScr} {dep a n v t : Nat} {g : Nat → Nat} {h : Hp} (hN : NA h a n g) (hv : v < n) (ht : t < 128) : Cal S dep 38 [.ref a, .int (nI v), .int (nI t)] h (Rt (bI (htw g v t n)) h) := by
  obtain ⟨ha, hn, h0, hg, hb⟩ := id hN
  have hb1 := net_b ha
  show V S dep 38 0 [.ref a, .int (nI v), .int (nI t), .null, .null] [] h _
  refine V_ic (v := nI 0) rfl rfl ?_
  refine V_istore_n (L' := [_, _, _, _, _]) rfl rfl rfl ?_
  -- at 2: .iload_n 3
  have lp := loopUp (P := fun w => htw g v t w = false → ∀ v4, V S dep 38 2 [.ref a, .int (nI v), .int (nI t), .int (nI w), v4] [] h (Rt (bI (htw g v t n)) h)) n ?_ ?_ 0 (Nat.zero_le _)
  · exact lp rfl _
  · intro hq v4
    refine V_iload_n rfl rfl ?_
    refine V_aload_n rfl rfl (by first | assumption | rfl) ?_
    refine V_gi 0 rfl (net_sz (by first | assumption | rfl)) rfl ?_
    -- at 7: .if_icmp .ge 53
    refine V_icmp_ge rfl (fun hc => ?_) (fun hc => ?_)
    · refine V_ic (v := nI 0) rfl rfl ?_
      -- at 61: .ireturn
      refine V_zret rfl rfl (by first | exact Or.inl rfl | exact Or.inr rfl | assumption) ?_
      rw [hq]
      exact Rt.rf
    · exact absurd (by rw [h0]; exact nI_le (Nat.le_refl _) (by omega)) hc
  · intro w hw ih hq v4
    have mono : ∀ m, w + 1 ≤ m → htw g v t (w + 1) = true → htw g v t m = true := by
      intro m
      induction m with
      | zero => intro h1; omega
      | succ m ihm =>
        intro h1 h2
        rcases Nat.lt_or_ge (w + 1) (m + 1) with q | q
        · rw [htw, ihm (by omega) h2]; rfl
        · rw [show m + 1 = w + 1 by omega]; exact h2
    refine V_iload_n rfl rfl ?_
    refine V_aload_n rfl rfl (by first | assumption | rfl) ?_
    refine V_gi 0 rfl (net_sz (by first | assumption | rfl)) rfl ?_
    -- at 7: .if_icmp .ge 53
    refine V_icmp_ge rfl (fun hc => ?_) (fun hc => ?_)
    · exact absurd hc (by rw [h0]; exact nI_ge hw (by omega))
    · refine V_ic (v := nI 1) rfl rfl ?_
      refine V_iload_n rfl rfl ?_
      refine V_ishl rfl ?_
      refine V_ic (v := nI 1) rfl rfl ?_
      refine V_iload_n rfl rfl ?_
      refine V_ishl rfl ?_
      refine V_ior rfl ?_
      -- at 17: .istore 4
      rw [nI_2p _ (by omega), nI_2p _ (by omega), nI_or]
      refine V_istore (L' := [.ref a, .int (nI v), .int (nI t), .int (nI w), .int (nI (2 ^ v ||| 2 ^ w))]) rfl rfl rfl ?_
      have no : htw g v t (w + 1) = false → V S dep 38 54 [.ref a, .int (nI v), .int (nI t), .int (nI w), .int (nI (2 ^ v ||| 2 ^ w))] [] h (Rt (bI (htw g v t n)) h) := by
        intro hno
        refine V_iinc (L' := [_, _, _, _, _]) rfl rfl rfl ?_
        refine V_goto rfl ?_
        -- at 2: .iload_n 3
        rw [show Int32.ofInt 1 = nI 1 from rfl, nI_add]
        exact ih hno _
      refine V_iload_n rfl rfl ?_
      refine V_iload_n rfl rfl ?_
      refine V_ishr rfl ?_
      refine V_ic (v := nI 1) rfl rfl ?_
      refine V_iand rfl ?_
      -- at 24: .ifCond .eq 30
      refine V_if_eq rfl (fun hd => ?_) (fun hd => ?_)
      · have e := (tb_z (by omega) (by omega)).mp hd
        exact no (by rw [htw, hq, e]; rfl)
      · have e := (tb_nz (by omega) (by omega)).mp hd
        refine V_aload_n rfl rfl (by first | assumption | rfl) ?_
        refine V_getR rfl (net_nr (by first | assumption | rfl)) ?_
        refine V_iload_n rfl rfl ?_
        refine V_al 7 rfl (net_ar (by first | assumption | rfl)) (by first | with_reducible rfl | assumption | exact nI_sub (by omega) | exact nI_add _ _) (by first | omega | assumption) rfl ?_
        refine V_iload rfl rfl ?_
        refine V_ic (v := -1) rfl rfl ?_
        refine V_ixor rfl ?_
        refine V_iand rfl ?_
        refine V_aload_n rfl rfl (by first | assumption | rfl) ?_
        refine V_getR rfl (net_nr (by first | assumption | rfl)) ?_
        refine V_iload_n rfl rfl ?_
        refine V_al 7 rfl (net_ar (by first | assumption | rfl)) (by first | with_reducible rfl | assumption | exact nI_sub (by omega) | exact nI_add _ _) (by first | omega | assumption) rfl ?_
        refine V_iload rfl rfl ?_
        refine V_ic (v := -1) rfl rfl ?_
        refine V_ixor rfl ?_
        refine V_iand rfl ?_
        -- at 49: .if_icmp .ne 5
        rw [hg v (by omega), hg w (by omega), nI_andn, nI_andn]
        refine V_icmp_ne rfl (fun he => ?_) (fun he => ?_)
        · refine no ?_
          rw [htw, hq, decide_eq_false (fun q => he (by rw [q]))]; simp
        · have he := nI_inj (Nat.lt_trans (xand_lt (hb v)) (by decide)) (Nat.lt_trans (xand_lt (hb w)) (by decide)) (Decidable.of_not_not he)
          refine V_ic (v := nI 1) rfl rfl ?_
          -- at 53: .ireturn
          refine V_zret rfl rfl (by first | exact Or.inl rfl | exact Or.inr rfl | assumption) ?_
          rw [mono n (by omega) (by rw [htw, e, decide_eq_true he]; simp)]
          exact Rt.rf
