/-! forms: contracts of fillPlace, formOf, areAlike -/
theorem tri_le6 {p : Nat} (h : p ≤ 6) : tri p ≤ 15 := by
  have : ∀ p : Fin 7, tri p.val ≤ 15 := by decide
  exact this ⟨p, by omega⟩
theorem c_fill {S : mScr} {a n : Nat} {g : Nat → Nat} : ∀ (p D : Nat) (cl : List Nat) (code best : Nat) (h : Hp), NA h a n g → CL h p cl → CLI n p cl → p < n → h.1 6 3 = nI best → best < 2 ^ 31 → code < 2 ^ 23 → p + 2 ≤ D → Cal S D 36 [.ref 6, .ref a, .int (nI p), .int (nI code)] h (fun r h' => r = none ∧ FF p h h' ∧ h'.1 6 3 = nI (fil g n p cl code best)) := by
  intro p
  induction p with
  | zero =>
    intro D cl code best h hN hC hI hpn hB hb1 hc1 hD
    obtain ⟨d, rfl⟩ : ∃ d, D = d + 2 := ⟨D - 2, by omega⟩
    show V S (d + 2) 36 0 [.ref 6, .ref a, .int (nI 0), .int (nI code), .null, .null, .null, .null, .null] [] h _
    refine V_iload_n rfl rfl ?_
    -- at 1: .ifCond .le 9
    refine V_if_le rfl (fun hc => ?_) (fun hc => ?_)
    · refine V_aload_n rfl rfl rfl ?_
      refine V_aload_n rfl rfl rfl ?_
      refine V_gi 3 rfl rfl rfl ?_
      refine V_iload_n rfl rfl ?_
      -- at 16: .invokestatic 48
      rw [hB]
      refine V_min rfl rfl rfl ?_
      rw [nI_min (by omega) (by omega)]
      refine V_pi 3 rfl rfl rfl rfl ?_
      -- at 22: .return_
      refine V_return rfl rfl ?_
      exact ⟨rfl, ⟨rfl, fun b i q1 _ _ _ => wI_ne q1⟩, by rw [wI_same]; rfl⟩
    · exact absurd (Int32.le_refl _) hc
  | succ p ihp =>
    intro D cl code best h hN hC hI hpn hB hb1 hc1 hD
    obtain ⟨d, rfl⟩ : ∃ d, D = d + 2 + 1 := ⟨D - 3, by omega⟩
    obtain ⟨ha, hn, h0, hg, hb⟩ := id hN
    obtain ⟨k1, k2, k3, k4, k5⟩ := id hC
    have hage := net_ge ha
    have hab := net_b ha
    have hlc := lastC_mem hI.ne
    obtain ⟨w, hw1, hw2⟩ := ex_bit (hI.2.2 _ hlc).1 (hI.2.2 _ hlc).2
    have hrow := nlr_row (g := g) hI.1 (by omega) n w hw1 hw2
    have hrow7 : (nlr g cl n).2 < 2 ^ 7 := Nat.lt_of_lt_of_le hrow (Nat.pow_le_pow_right (by decide) (by omega))
    have htri := tri_le6 (p := p + 1) (by omega)
    have hfit := (nlr_lt (g := g) k5 n).2 hn
    have hsh : (nlr g cl n).2 <<< tri (p + 1) < 2 ^ 23 := by
      rw [Nat.shiftLeft_eq]
      calc (nlr g cl n).2 * 2 ^ tri (p + 1) < 2 ^ 7 * 2 ^ tri (p + 1) := Nat.mul_lt_mul_of_pos_right hrow7 (Nat.two_pow_pos _)
        _ = 2 ^ (7 + tri (p + 1)) := (Nat.pow_add _ _ _).symm
        _ ≤ 2 ^ 23 := Nat.pow_le_pow_right (by decide) (by omega)
    have hlon : code ||| (nlr g cl n).2 <<< tri (p + 1) < 2 ^ 23 := Nat.or_lt_two_pow hc1 hsh
    show V S (d + 2 + 1) 36 0 [.ref 6, .ref a, .int (nI (p + 1)), .int (nI code), .null, .null, .null, .null, .null] [] h _
    refine V_iload_n rfl rfl ?_
    -- at 1: .ifCond .le 9
    refine V_if_le rfl (fun hc => ?_) (fun hc => ?_)
    · exact absurd hc (nI_nle (by omega) (by omega))
    · refine V_iload_n rfl rfl ?_
      refine V_bi (v := nI 7) rfl rfl ?_
      -- at 7: .if_icmp .lt 16
      refine V_icmp_lt rfl (fun hd => ?_) (fun hd => ?_)
      · refine V_aload_n rfl rfl rfl ?_
        refine V_aload_n rfl rfl (by first | assumption | rfl) ?_
        refine V_iload_n rfl rfl ?_
        -- at 26: .invokevirtual 54
        refine V_callV rfl rfl rfl rfl rfl (c_nlr hN hC (by omega) hI.ne (by omega) (by omega)) ?_
        rintro _ h1 ⟨rfl, rfl⟩
        show V S (d + 2 + 1) 36 29 [.ref 6, .ref a, .int (nI (p + 1)), .int (nI code), .null, .null, .null, .null, .null] [.int (nI (nlr g cl n).1)] (wI h 9 (p + 1) (nI (nlr g cl n).2)) _
        refine V_istore (L' := [_, _, _, _, _, _, _, _, _]) rfl rfl rfl ?_
        refine V_iload_n rfl rfl ?_
        -- at 32: .invokestatic 58
        refine V_cS rfl rfl rfl rfl (c_fbo (by omega)) ?_
        refine V_istore (L' := [_, _, _, _, _, _, _, _, _]) rfl rfl rfl ?_
        refine V_iload_n rfl rfl ?_
        refine V_aload_n rfl rfl rfl ?_
        refine V_getR (r := 9) rfl rfl ?_
        refine V_iload_n rfl rfl ?_
        refine V_al 7 rfl rfl (by first | with_reducible rfl | assumption | exact nI_sub (by omega) | exact nI_add _ _) (by first | omega | assumption) rfl ?_
        -- at 44: .iload 5
        rw [wI_same]
        refine V_iload rfl rfl ?_
        refine V_ishl rfl ?_
        refine V_ior rfl ?_
        -- at 48: .istore 6
        rw [nI_shl (by omega), nI_or]
        refine V_istore (L' := [_, _, _, _, _, _, _, _, _]) rfl rfl rfl ?_
        refine V_iload rfl rfl ?_
        refine V_iload rfl rfl ?_
        refine V_ishr rfl ?_
        -- at 55: .aload_n 0
        rw [nI_shr (by omega) (by omega)]
        refine V_aload_n rfl rfl rfl ?_
        refine V_gi 3 rfl rfl rfl ?_
        refine V_iload rfl rfl ?_
        refine V_ishr rfl ?_
        -- at 62: .if_icmp .le 4
        rw [wI_oth (by omega), hB, nI_shr (by omega) (by omega)]
        have f1 : FF (p + 1) h (wI h 9 (p + 1) (nI (nlr g cl n).2)) := ⟨rfl, fun b i _ q _ _ => congrFun (wI_oth q) i⟩
        refine V_icmp_le rfl (fun he => ?_) (fun he => ?_)
        · have he := (nI_leI (Nat.lt_of_le_of_lt (Nat.shiftRight_le _ _) (by omega)) (Nat.lt_of_le_of_lt (Nat.shiftRight_le _ _) (by omega))).mp he
          refine V_ic (v := nI 0) rfl rfl ?_
          refine V_istore (L' := [_, _, _, _, _, _, _, _, _]) rfl rfl rfl ?_
          refine V_ic (v := nI 0) rfl rfl ?_
          refine V_istore (L' := [_, _, _, _, _, _, _, _, _]) rfl rfl rfl ?_
          -- at 72: .iload 8
          have lp := loopUp (P := fun v => ∀ h1, FF (p + 1) h h1 → h1.1 6 3 = nI (filV (fil g n p) g n cl (nlr g cl n).1 (code ||| (nlr g cl n).2 <<< tri (p + 1)) best v).2 → V S (d + 2 + 1) 36 72 [.ref 6, .ref a, .int (nI (p + 1)), .int (nI code), .int (nI (nlr g cl n).1), .int (nI (tri (p + 1))), .int (nI (code ||| (nlr g cl n).2 <<< tri (p + 1))), .int (nI (filV (fil g n p) g n cl (nlr g cl n).1 (code ||| (nlr g cl n).2 <<< tri (p + 1)) best v).1), .int (nI v)] [] h1 (fun r h' => r = none ∧ FF (p + 1) h h' ∧ h'.1 6 3 = nI (fil g n (p + 1) cl code best))) n ?_ ?_ 0 (Nat.zero_le _)
          · exact lp _ f1 (by rw [wI_oth (by omega)]; exact hB)
          · intro h1 hf hB1
            have hN1 := hN.ff hf
            refine V_iload rfl rfl ?_
            refine V_aload_n rfl rfl (by first | assumption | rfl) ?_
            refine V_gi 0 rfl (net_sz (by first | assumption | rfl)) rfl ?_
            -- at 78: .if_icmp .ge 57
            rw [hN1.2.2.1]
            refine V_icmp_ge rfl (fun hj => ?_) (fun hj => ?_)
            · refine V_return rfl rfl ?_
              refine ⟨rfl, hf, ?_⟩
              rw [hB1, fil, if_neg (by omega)]
            · exact absurd (nI_le (Nat.le_refl _) (by omega)) hj
          · intro v hv ih h1 hf hB1
            have hN1 := hN.ff hf
            have hC1 := hC.ff hf
            have htl := filV_lt (f := fil g n p) (g := g) (n := n) (cl := cl) (fit := (nlr g cl n).1) (longer := code ||| (nlr g cl n).2 <<< tri (p + 1)) (best := best) v
            have htl7 : (filV (fil g n p) g n cl (nlr g cl n).1 (code ||| (nlr g cl n).2 <<< tri (p + 1)) best v).1 < 128 := Nat.lt_of_lt_of_le htl (Nat.pow_le_pow_right (n := 2) (j := 7) (by decide) (by omega))
            have hbl := filV_le (g := g) (n := n) (p := p) (cl := cl) (fit := (nlr g cl n).1) (longer := code ||| (nlr g cl n).2 <<< tri (p + 1)) (best := best) v
            have skip : filV (fil g n p) g n cl (nlr g cl n).1 (code ||| (nlr g cl n).2 <<< tri (p + 1)) best (v + 1) = filV (fil g n p) g n cl (nlr g cl n).1 (code ||| (nlr g cl n).2 <<< tri (p + 1)) best v → V S (d + 2 + 1) 36 129 [.ref 6, .ref a, .int (nI (p + 1)), .int (nI code), .int (nI (nlr g cl n).1), .int (nI (tri (p + 1))), .int (nI (code ||| (nlr g cl n).2 <<< tri (p + 1))), .int (nI (filV (fil g n p) g n cl (nlr g cl n).1 (code ||| (nlr g cl n).2 <<< tri (p + 1)) best v).1), .int (nI v)] [] h1 (fun r h' => r = none ∧ FF (p + 1) h h' ∧ h'.1 6 3 = nI (fil g n (p + 1) cl code best)) := by
              intro e
              have ih := ih h1 hf
              rw [e] at ih
              refine V_iinc (L' := [_, _, _, _, _, _, _, _, _]) rfl rfl rfl ?_
              refine V_goto rfl ?_
              -- at 72: .iload 8
              rw [show Int32.ofInt 1 = nI 1 from rfl, nI_add]
              exact ih hB1
            refine V_iload rfl rfl ?_
            refine V_aload_n rfl rfl (by first | assumption | rfl) ?_
            refine V_gi 0 rfl (net_sz (by first | assumption | rfl)) rfl ?_
            -- at 78: .if_icmp .ge 57
            rw [hN1.2.2.1]
            refine V_icmp_ge rfl (fun hj => ?_) (fun hj => ?_)
            · exact absurd hj (nI_ge hv (by omega))
            · refine V_iload rfl rfl ?_
              refine V_iload rfl rfl ?_
              refine V_ishr rfl ?_
              refine V_ic (v := nI 1) rfl rfl ?_
              refine V_iand rfl ?_
              -- at 88: .ifCond .eq 41
              refine V_if_eq rfl (fun hf1 => ?_) (fun hf1 => ?_)
              · have e := (tb_z (by omega) (by omega)).mp hf1
                exact skip (by rw [filV, if_neg (by simp [e])])
              · have e := (tb_nz (by omega) (by omega)).mp hf1
                refine V_aload_n rfl rfl (by first | assumption | rfl) ?_
                refine V_iload rfl rfl ?_
                refine V_iload rfl rfl ?_
                -- at 96: .invokestatic 62
                refine V_cS rfl rfl rfl rfl (c_htw hN1 hv htl7) ?_
                refine V_if_ne rfl (fun hf2 => ?_) (fun hf2 => ?_)
                · refine skip ?_
                  rw [filV, if_neg]
                  intro q
                  rw [q.2] at hf2
                  exact hf2 rfl
                · have e2 : htw g v (filV (fil g n p) g n cl (nlr g cl n).1 (code ||| (nlr g cl n).2 <<< tri (p + 1)) best v).1 n = false := by
                    cases q : htw g v (filV (fil g n p) g n cl (nlr g cl n).1 (code ||| (nlr g cl n).2 <<< tri (p + 1)) best v).1 n with
                    | false => rfl
                    | true => rw [q] at hf2; exact absurd (Decidable.of_not_not hf2) (by decide)
                  have ih := fun h2 => ih h2
                  rw [filV, if_pos ⟨e, e2⟩] at ih
                  refine V_iload rfl rfl ?_
                  refine V_ic (v := nI 1) rfl rfl ?_
                  refine V_iload rfl rfl ?_
                  refine V_ishl rfl ?_
                  refine V_ior rfl ?_
                  -- at 109: .istore 7
                  rw [nI_2p _ (by omega), nI_or]
                  refine V_istore (L' := [_, _, _, _, _, _, _, _, _]) rfl rfl rfl ?_
                  refine V_aload_n rfl rfl rfl ?_
                  refine V_aload_n rfl rfl (by first | assumption | rfl) ?_
                  refine V_iload_n rfl rfl ?_
                  refine V_iload rfl rfl ?_
                  -- at 116: .invokevirtual 66
                  have hlast := (nlr_fit n v e).2
                  have hI2 := hI.spl (g := g) hn hv hlast
                  have hlen2 := len_pop (hI2.sz hn)
                  have hI2p := hI2.1
                  refine V_callV rfl rfl rfl rfl rfl (c_split hN1 hC1 (by omega) hv (by omega) (by omega)) ?_
                  rintro _ h2 ⟨rfl, hs2⟩
                  have f2 := hs2.ff (Nat.lt_succ_self p)
                  have hN2 := hN1.ff f2
                  have hC2 : CL h2 p (spl g cl v cl.length) := ⟨hs2.1, by omega, hs2.2.1, fun x hx => (hI2.sz hn x hx).1, by omega⟩
                  show V S (d + 2 + 1) 36 119 [.ref 6, .ref a, .int (nI (p + 1)), .int (nI code), .int (nI (nlr g cl n).1), .int (nI (tri (p + 1))), .int (nI (code ||| (nlr g cl n).2 <<< tri (p + 1))), .int (nI ((filV (fil g n p) g n cl (nlr g cl n).1 (code ||| (nlr g cl n).2 <<< tri (p + 1)) best v).1 ||| 2 ^ v)), .int (nI v)] [] h2 _
                  refine V_aload_n rfl rfl rfl ?_
                  refine V_aload_n rfl rfl (by first | assumption | rfl) ?_
                  refine V_iload_n rfl rfl ?_
                  refine V_ic (v := nI 1) rfl rfl ?_
                  refine V_isub rfl ?_
                  -- at 124: .iload 6
                  rw [nI_sub (by omega), Nat.add_sub_cancel]
                  refine V_iload rfl rfl ?_
                  -- at 126: .invokestatic 37
                  refine V_callS rfl rfl rfl rfl (ihp (d + 2) _ _ _ h2 hN2 hC2 hI2 (by omega) (by rw [hs2.2.2.2 6 3 (by omega) (by omega)]; exact hB1) (by omega) hlon (by omega)) ?_
                  rintro _ h3 ⟨rfl, f3, hB3⟩
                  show V S (d + 2 + 1) 36 129 [.ref 6, .ref a, .int (nI (p + 1)), .int (nI code), .int (nI (nlr g cl n).1), .int (nI (tri (p + 1))), .int (nI (code ||| (nlr g cl n).2 <<< tri (p + 1))), .int (nI ((filV (fil g n p) g n cl (nlr g cl n).1 (code ||| (nlr g cl n).2 <<< tri (p + 1)) best v).1 ||| 2 ^ v)), .int (nI v)] [] h3 _
                  refine V_iinc (L' := [_, _, _, _, _, _, _, _, _]) rfl rfl rfl ?_
                  refine V_goto rfl ?_
                  -- at 72: .iload 8
                  rw [show Int32.ofInt 1 = nI 1 from rfl, nI_add]
                  exact ih h3 ((hf.tr (Nat.le_refl _) f2).tr (by omega) f3) hB3
        · refine V_return rfl rfl ?_
          refine ⟨rfl, f1, ?_⟩
          rw [wI_oth (by omega), hB, fil, if_pos]
          exact nI_ngt (Nat.lt_of_le_of_lt (Nat.shiftRight_le _ _) (by omega)) (Nat.lt_of_le_of_lt (Nat.shiftRight_le _ _) (by omega)) he
      · exact absurd (nI_lt (by omega) (by decide)) hd
def frmG (g : Nat → Nat) (n : Nat) : Nat := if n < 2 then 0 else fil g n (n - 1) [2 ^ n - 1] 0 2147483647
theorem pop_full {n : Nat} (h : n ≤ 7) : pop (2 ^ n - 1) = n := by
  have : ∀ n : Fin 8, pop (2 ^ n.val - 1) = n.val := by decide
  exact this ⟨n, by omega⟩
theorem FF.fr {p : Nat} {h h' : Hp} (f : FF p h h') : Fr [6, 7, 8, 9] h h' := ⟨fun b hb => by
  simp at hb
  funext i
  exact f.2 b i (by omega) (by omega) (by omega) (by omega), f.1⟩
theorem frmG_lt (g : Nat → Nat) (n : Nat) : frmG g n < 2 ^ 31 := by
  unfold frmG
  split
  · decide
  · exact Nat.lt_of_le_of_lt (fil_le _ _ _ _) (by decide)
theorem c_form {S : mScr} {dep a n : Nat} {g : Nat → Nat} {h : Hp} (hN : NA h a n g) : Cal S (dep + 9) 34 [.ref 6, .ref a] h (fun r h' => r = some (.int (nI (frmG g n))) ∧ Fr [6, 7, 8, 9] h h') := by
  obtain ⟨ha, hn, h0, hg, hb⟩ := id hN
  have hage := net_ge ha
  have hab := net_b ha
  show V S (dep + 9) 34 0 [.ref 6, .ref a, .null] [] h _
  refine V_aload_n rfl rfl (by first | assumption | rfl) ?_
  refine V_gi 0 rfl (net_sz (by first | assumption | rfl)) rfl ?_
  refine V_ic (v := nI 2) rfl rfl ?_
  -- at 5: .if_icmp .ge 5
  rw [h0]
  refine V_icmp_ge rfl (fun hc => ?_) (fun hc => ?_)
  · have hc : 2 ≤ n := (nI_leI (by decide) (by omega)).mp hc
    refine V_aload_n rfl rfl (by first | assumption | rfl) ?_
    refine V_gi 0 rfl (net_sz (by first | assumption | rfl)) rfl ?_
    -- at 14: .iconst 1
    rw [h0]
    refine V_ic (v := nI 1) rfl rfl ?_
    refine V_isub rfl ?_
    -- at 16: .istore_n 2
    rw [nI_sub (by omega)]
    refine V_istore_n (L' := [_, _, _]) rfl rfl rfl ?_
    refine V_aload_n rfl rfl rfl ?_
    refine V_getR (r := 7) rfl rfl ?_
    refine V_iload_n rfl rfl ?_
    refine V_bi (v := nI 7) rfl rfl ?_
    refine V_imul rfl ?_
    refine V_aload_n rfl rfl (by first | assumption | rfl) ?_
    -- at 26: .invokevirtual 32
    rw [nI_mul]
    refine V_cV rfl rfl (by first | assumption | rfl) rfl rfl (c_evn hN) ?_
    refine V_as 49 rfl rfl rfl (by omega) rfl ?_
    refine V_aload_n rfl rfl rfl ?_
    refine V_getR (r := 8) rfl rfl ?_
    refine V_iload_n rfl rfl ?_
    refine V_ic (v := nI 1) rfl rfl ?_
    refine V_as 7 rfl rfl (by first | with_reducible rfl | assumption | exact nI_sub (by omega) | exact nI_add _ _) (by first | omega | assumption) rfl ?_
    refine V_aload_n rfl rfl rfl ?_
    refine V_ldc (v := .int (nI 2147483647)) rfl rfl ?_
    refine V_pi 3 rfl rfl rfl rfl ?_
    refine V_aload_n rfl rfl rfl ?_
    refine V_aload_n rfl rfl (by first | assumption | rfl) ?_
    refine V_iload_n rfl rfl ?_
    refine V_ic (v := nI 0) rfl rfl ?_
    -- at 47: .invokestatic 37
    have hN1 : NA (wI (wI (wI h 7 ((n - 1) * 7) (nI (2 ^ n - 1))) 8 (n - 1) (nI 1)) 6 3 (nI 2147483647)) a n g :=
      ⟨ha, hn, by rw [wI_oth (by omega), wI_oth (by omega), wI_oth (by omega)]; exact h0, fun v hv => by rw [wI_oth (by omega), wI_oth (by omega), wI_oth (by omega)]; exact hg v hv, hb⟩
    have hp : popS [2 ^ n - 1] = n := by unfold popS; simp; exact pop_full hn
    have h2n : 2 ^ n ≤ 128 := Nat.pow_le_pow_right (n := 2) (j := 7) (by decide) hn
    have h2n0 : 2 ^ 1 ≤ 2 ^ n := Nat.pow_le_pow_right (by decide) (by omega)
    refine V_callS rfl rfl rfl rfl (c_fill (n - 1) _ [2 ^ n - 1] 0 2147483647 _ hN1 ⟨?x1, ?x2, ?x3, ?x4, ?x5⟩ ⟨?y1, ?y2, ?y3⟩ (by omega) (by rw [wI_same]) (by decide) (by decide) (by omega)) ?_
    case x1 => rw [wI_oth (by omega), wI_same]; rfl
    case x2 => simp
    case x3 =>
      intro i hi
      simp at hi
      subst hi
      rw [wI_oth (by omega), wI_oth (by omega), Nat.add_zero, wI_same]; rfl
    case x4 => intro x hx; rw [List.mem_singleton.mp hx]; omega
    case x5 => omega
    case y1 => omega
    case y2 => intro w; unfold cv; exact List.countP_le_length
    case y3 => intro x hx; rw [List.mem_singleton.mp hx]; omega
    rintro _ h2 ⟨rfl, f2, hB⟩
    show V S (dep + 9) 34 50 [.ref 6, .ref a, .int (nI (n - 1))] [] h2 _
    refine V_aload_n rfl rfl rfl ?_
    refine V_gi 3 rfl rfl rfl ?_
    -- at 54: .ireturn
    refine V_iret rfl rfl ?_
    refine ⟨?_, (((Fr.w (by simp)).tr (Fr.w (by simp))).tr (Fr.w (by simp))).tr f2.fr⟩
    rw [hB, frmG, if_neg (by omega)]
  · have hc : n < 2 := by
      rcases Nat.lt_or_ge n 2 with q | q
      · exact q
      · exact absurd (nI_le q (by omega)) hc
    refine V_ic (v := nI 0) rfl rfl ?_
    -- at 9: .ireturn
    refine V_iret rfl rfl ?_
    refine ⟨?_, Fr.rf⟩
    rw [frmG, if_pos hc]
theorem NA.fr {A : List Nat} {h h' : Hp} {a n : Nat} {g : Nat → Nat} (hN : NA h a n g) (hf : Fr A h h') (h1 : a ∉ A) (h2 : a + 1 ∉ A) : NA h' a n g := by
  obtain ⟨ha, hn, h0, hg, hb⟩ := id hN
  exact ⟨ha, hn, by rw [hf.1 a h1]; exact h0, fun v hv => by rw [hf.1 (a + 1) h2]; exact hg v hv, hb⟩
def alk (g g' : Nat → Nat) (n n' : Nat) : Bool := decide (n = n') && decide (lsum g n / 2 = lsum g' n' / 2) && decide (frmG g n = frmG g' n')
theorem c_alk {S : mScr} {dep a n a' n' : Nat} {g g' : Nat → Nat} {h : Hp} (hN : NA h a n g) (hM : NA h a' n' g') : Cal S (dep + 10) 35 [.ref 6, .ref a, .ref a'] h (fun r h' => r = some (.int (bI (alk g g' n n'))) ∧ Fr [6, 7, 8, 9] h h') := by
  obtain ⟨ha, hn, h0, hg, hb⟩ := id hN
  obtain ⟨ha', hn', h0', hg', hb'⟩ := id hM
  have hage := net_ge ha
  have hab := net_b ha
  have hage' := net_ge ha'
  have hab' := net_b ha'
  have hl1 := lsum_le hb n
  have hl2 := lsum_le hb' n'
  have no : ∀ h1, alk g g' n n' = false → Fr [6, 7, 8, 9] h h1 → V S (dep + 10) 35 39 [.ref 6, .ref a, .ref a'] [] h1 (fun r h' => r = some (.int (bI (alk g g' n n'))) ∧ Fr [6, 7, 8, 9] h h') := by
    intro h1 e f
    refine V_ic (v := nI 0) rfl rfl ?_
    -- at 40: .ireturn
    refine V_zret rfl rfl (by first | exact Or.inl rfl | exact Or.inr rfl | assumption) ?_
    exact ⟨by rw [e]; rfl, f⟩
  show V S (dep + 10) 35 0 [.ref 6, .ref a, .ref a'] [] h _
  refine V_aload_n rfl rfl hab ?_
  refine V_gi 0 rfl (net_sz ha) rfl ?_
  refine V_aload_n rfl rfl hab' ?_
  refine V_gi 0 rfl (net_sz ha') rfl ?_
  rw [h0, h0']
  refine V_icmp_ne rfl (fun hc => ?_) (fun hc => ?_)
  · refine no h ?_ Fr.rf
    unfold alk
    rw [decide_eq_false (fun q => hc (by rw [q]))]; rfl
  · have hc := nI_inj (by omega) (by omega) (Decidable.of_not_not hc)
    refine V_aload_n rfl rfl hab ?_
    refine V_cV rfl rfl ha rfl rfl (c_lc hN) ?_
    refine V_aload_n rfl rfl hab' ?_
    refine V_cV rfl rfl ha' rfl rfl (c_lc hM) ?_
    refine V_icmp_ne rfl (fun hd => ?_) (fun hd => ?_)
    · refine no h ?_ Fr.rf
      unfold alk
      rw [decide_eq_false (p := lsum g n / 2 = lsum g' n' / 2) (fun q => hd (by rw [q]))]; simp
    · have hd := nI_inj (by omega) (by omega) (Decidable.of_not_not hd)
      refine V_aload_n rfl rfl rfl ?_
      refine V_aload_n rfl rfl hab ?_
      refine V_callV rfl rfl rfl rfl rfl (c_form hN) ?_
      rintro _ h1 ⟨rfl, f1⟩
      show V S (dep + 10) 35 27 [.ref 6, .ref a, .ref a'] [.int (nI (frmG g n))] h1 _
      refine V_aload_n rfl rfl rfl ?_
      refine V_aload_n rfl rfl hab' ?_
      refine V_callV rfl rfl rfl rfl rfl (c_form (hM.fr f1 (by simp; omega) (by simp; omega))) ?_
      rintro _ h2 ⟨rfl, f2⟩
      show V S (dep + 10) 35 32 [.ref 6, .ref a, .ref a'] [.int (nI (frmG g' n')), .int (nI (frmG g n))] h2 _
      refine V_icmp_ne rfl (fun he => ?_) (fun he => ?_)
      · refine no h2 ?_ (f1.tr f2)
        unfold alk
        rw [decide_eq_false (p := frmG g n = frmG g' n') (fun q => he (by rw [q]))]; simp
      · have he := nI_inj (frmG_lt _ _) (frmG_lt _ _) (Decidable.of_not_not he)
        refine V_ic (v := nI 1) rfl rfl ?_
        refine V_goto rfl ?_
        -- at 40: .ireturn
        refine V_zret rfl rfl (by first | exact Or.inl rfl | exact Or.inr rfl | assumption) ?_
        refine ⟨?_, f1.tr f2⟩
        unfold alk
        rw [decide_eq_true hc, decide_eq_true hd, decide_eq_true he]
        rfl
