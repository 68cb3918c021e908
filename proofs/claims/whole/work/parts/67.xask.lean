/-! the class: questions on nets -/
theorem ix_none {n : Nat} {x : Int32} (h : ix n x = none) : x.toInt < 0 ∨ (n : Int) ≤ x.toInt := by
  unfold ix at h
  split at h
  · cases h
  · omega
theorem xq {A : List Nat} {h h' : Hp} {st : St} {v : Int32} (hi : InvX h st) (f : Fr A h h') (hA : ∀ a ∈ A, okX a = true) : XR h (v, st) (some (.int v)) h' := ⟨rfl, hi.fr f hA, f.fo hA⟩
theorem xq0 {h : Hp} {st : St} {v : Int32} (hi : InvX h st) : XR h (v, st) (some (.int v)) h := ⟨rfl, hi, FX.rf⟩
noncomputable def twa (n C b : Nat) (a : Nat) : Bool := decide (crd n C a = crd n C b) && !tak n C 0 a b
noncomputable def twn (n C : Nat) : Nat := sumN (fun b => cnt (twa n C b) b) n
theorem deg_crd {n C a b : Nat} (hn : n ≤ 7) (hC : C < 2 ^ tri n) (ha : a < n) (hb : b < n) (h : crd n C a = crd n C b) : pop (rowOf n C a) = pop (rowOf n C b) := by
  have h1 := pop_crd hn hC ha
  have h2 := pop_crd hn hC hb
  rw [h] at h1
  omega
theorem c_twn {S : mScr} {dep a n C : Nat} {h : Hp} (hN : NC h a n C) (h21 : a ≠ 21) : Cal S (dep + 12) 161 [.ref 0, .ref a] h (fun q h' => q = some (.int (nI (twn n C))) ∧ Fr [6, 7, 8, 9, 11, 12, 21, 22] h h') := by
  obtain ⟨⟨ha, hn, h0, hg, hb⟩, hC⟩ := id hN
  have hb1 := net_b ha
  have hge := net_ge ha
  have hfr := net_free ha h21
  have hsa : a ∉ [6, 7, 8, 9, 11, 12, 21, 22] ∧ a + 1 ∉ [6, 7, 8, 9, 11, 12, 21, 22] := by simp at hfr ⊢; omega
  obtain ⟨Q, hQ⟩ : ∃ Q : Option Value → Hp → Prop, Q = fun q h' => q = some (.int (nI (twn n C))) ∧ Fr [6, 7, 8, 9, 11, 12, 21, 22] h h' := ⟨_, rfl⟩
  rw [← hQ]
  show V S (dep + 12) 161 0 [.ref 0, .ref a, .null, .null, .null, .null] [] h _
  have fin : ∀ h1 b v4 v5, n ≤ b → b < 100 → Fr [6, 7, 8, 9, 11, 12, 21, 22] h h1 → sumN (fun b => cnt (twa n C b) b) b = twn n C → V S (dep + 12) 161 4 [.ref 0, .ref a, .int (nI (sumN (fun b => cnt (twa n C b) b) b)), .int (nI b), v4, v5] [] h1 Q := by
    intro h1 b v4 v5 hb hb100 f1 e
    have h01 := (hN.fr f1 hsa.1 hsa.2).1.2.2.1
    refine V_iload_n rfl rfl ?_
    refine V_aload_n rfl rfl (by first | assumption | rfl) ?_
    refine V_gi 0 rfl (net_sz (by first | assumption | rfl)) rfl ?_
    -- at 9: .if_icmp .ge 90
    rw [h01]
    refine V_icmp_ge rfl (fun hc => ?_) (fun hc => ?_)
    · refine V_iload_n rfl rfl ?_
      -- at 100: .ireturn
      refine V_iret rfl rfl ?_
      rw [hQ]
      exact ⟨by rw [e], f1⟩
    · exact absurd (nI_le hb (by omega)) hc
  refine V_ic (v := nI 0) rfl rfl ?_
  refine V_istore_n (L' := [_, _, _, _, _, _]) rfl rfl rfl ?_
  refine V_ic (v := nI 1) rfl rfl ?_
  refine V_istore_n (L' := [_, _, _, _, _, _]) rfl rfl rfl ?_
  -- at 4: .iload_n 3
  by_cases hn1 : n ≤ 1
  · have e : sumN (fun b => cnt (twa n C b) b) 1 = 0 := rfl
    have := fin h 1 .null .null hn1 (by decide) Fr.rf (by
      rcases (by omega : n = 0 ∨ n = 1) with rfl | rfl <;> rfl)
    rw [e] at this
    exact this
  have lp := loopUp (P := fun b => 1 ≤ b → ∀ h1 v4 v5, Fr [6, 7, 8, 9, 11, 12, 21, 22] h h1 → V S (dep + 12) 161 4 [.ref 0, .ref a, .int (nI (sumN (fun b => cnt (twa n C b) b) b)), .int (nI b), v4, v5] [] h1 Q) n ?_ ?_ 1 (by omega)
  · exact lp (Nat.le_refl _) h _ _ Fr.rf
  · intro _ h1 v4 v5 f1
    exact fin h1 n v4 v5 (Nat.le_refl _) (by omega) f1 rfl
  · intro b hbn ih hb0 h1 v4 v5 f1
    have h01 := (hN.fr f1 hsa.1 hsa.2).1.2.2.1
    rw [sumN] at ih
    obtain ⟨sb, hsb⟩ : ∃ sb, sb = sumN (fun b => cnt (twa n C b) b) b := ⟨_, rfl⟩
    rw [← hsb] at ih ⊢
    refine V_iload_n rfl rfl ?_
    refine V_aload_n rfl rfl (by first | assumption | rfl) ?_
    refine V_gi 0 rfl (net_sz (by first | assumption | rfl)) rfl ?_
    -- at 9: .if_icmp .ge 90
    rw [h01]
    refine V_icmp_ge rfl (fun hc => ?_) (fun hc => ?_)
    · exact absurd hc (nI_ge hbn (by omega))
    · refine V_ic (v := nI 0) rfl rfl ?_
      refine V_istore (L' := [_, _, _, _, _, _]) rfl rfl rfl ?_
      -- at 15: .iload 4
      have lq := loopUp (P := fun x => ∀ h1 v5, Fr [6, 7, 8, 9, 11, 12, 21, 22] h h1 → V S (dep + 12) 161 15 [.ref 0, .ref a, .int (nI (sb + cnt (twa n C b) x)), .int (nI b), .int (nI x), v5] [] h1 Q) b ?_ ?_ 0 (Nat.zero_le _)
      · exact lq h1 _ f1
      · intro h1 v5 f1
        refine V_iload rfl rfl ?_
        refine V_iload_n rfl rfl ?_
        -- at 18: .if_icmp .ge 75
        refine V_icmp_ge rfl (fun hd => ?_) (fun hd => ?_)
        · refine V_iinc (L' := [_, _, _, _, _, _]) rfl rfl rfl ?_
          refine V_goto rfl ?_
          -- at 4: .iload_n 3
          rw [show Int32.ofInt 1 = nI 1 from rfl, nI_add]
          exact ih (by omega) h1 _ _ f1
        · exact absurd (nI_le (Nat.le_refl _) (by omega)) hd
      · intro x hx ih2 h1 v5 f1
        have hN1 := hN.fr f1 hsa.1 hsa.2
        have hcs : cnt (twa n C b) (x + 1) = cnt (twa n C b) x + if twa n C b x = true then 1 else 0 := by rw [cnt]
        have hp1 := pop7 (hb x)
        have hp2 := pop7 (hb b)
        have next : ∀ h2 c v5, c = cnt (twa n C b) (x + 1) → Fr [6, 7, 8, 9, 11, 12, 21, 22] h h2 → V S (dep + 12) 161 87 [.ref 0, .ref a, .int (nI (sb + c)), .int (nI b), .int (nI x), v5] [] h2 Q := by
          intro h2 c v5 e f2
          rw [e]
          refine V_iinc (L' := [_, _, _, _, _, _]) rfl rfl rfl ?_
          refine V_goto rfl ?_
          -- at 15: .iload 4
          rw [show Int32.ofInt 1 = nI 1 from rfl, nI_add]
          exact ih2 h2 _ f2
        have no : ∀ h2, twa n C b x = false → Fr [6, 7, 8, 9, 11, 12, 21, 22] h h2 → V S (dep + 12) 161 61 [.ref 0, .ref a, .int (nI (sb + cnt (twa n C b) x)), .int (nI b), .int (nI x), v5] [] h2 Q := by
          intro h2 e f2
          refine V_ic (v := nI 0) rfl rfl ?_
          refine V_istore (L' := [_, _, _, _, _, _]) rfl rfl rfl ?_
          refine V_iload rfl rfl ?_
          -- at 66: .ifCond .eq 21
          refine V_if_eq rfl (fun hz => ?_) (fun hz => ?_)
          · exact next h2 _ _ (by rw [hcs, e]; rfl) f2
          · exact absurd rfl hz
        refine V_iload rfl rfl ?_
        refine V_iload_n rfl rfl ?_
        -- at 18: .if_icmp .ge 75
        refine V_icmp_ge rfl (fun hd => ?_) (fun hd => ?_)
        · exact absurd hd (nI_ge hx (by omega))
        · refine V_aload_n rfl rfl (by first | assumption | rfl) ?_
          refine V_iload rfl rfl ?_
          -- at 24: .invokevirtual 229
          refine V_cV rfl rfl (by first | assumption | rfl) rfl rfl (c_degC hN1 (by omega)) ?_
          refine V_aload_n rfl rfl (by first | assumption | rfl) ?_
          refine V_iload_n rfl rfl ?_
          -- at 29: .invokevirtual 229
          refine V_cV rfl rfl (by first | assumption | rfl) rfl rfl (c_degC hN1 hbn) ?_
          refine V_icmp_ne rfl (fun he => ?_) (fun he => ?_)
          · have he : ¬ pop (rowOf n C x) = pop (rowOf n C b) := fun q => he (by rw [q])
            refine no h1 ?_ f1
            unfold twa
            rw [decide_eq_false (fun q => he (deg_crd hn hC (by omega) hbn q))]; rfl
          · refine V_aload_n rfl rfl rfl ?_
            refine V_getR (r := 20) rfl rfl ?_
            refine V_aload_n rfl rfl (by first | assumption | rfl) ?_
            refine V_iload rfl rfl ?_
            -- at 42: .invokevirtual 239
            refine V_callV rfl rfl rfl rfl rfl (c_card hN1 h21 (by omega)) ?_
            rintro _ h2 ⟨rfl, f2⟩
            show V S (dep + 12) 161 45 [.ref 0, .ref a, .int (nI (sb + cnt (twa n C b) x)), .int (nI b), .int (nI x), v5] [.int (nI (crd n C x))] h2 _
            have f2 : Fr [6, 7, 8, 9, 11, 12, 21, 22] h h2 := f1.tr (f2.mono (by simp))
            have hN2 := hN.fr f2 hsa.1 hsa.2
            refine V_aload_n rfl rfl rfl ?_
            refine V_getR (r := 20) rfl rfl ?_
            refine V_aload_n rfl rfl (by first | assumption | rfl) ?_
            refine V_iload_n rfl rfl ?_
            -- at 51: .invokevirtual 239
            refine V_callV rfl rfl rfl rfl rfl (c_card hN2 h21 hbn) ?_
            rintro _ h3 ⟨rfl, f3⟩
            show V S (dep + 12) 161 54 [.ref 0, .ref a, .int (nI (sb + cnt (twa n C b) x)), .int (nI b), .int (nI x), v5] [.int (nI (crd n C b)), .int (nI (crd n C x))] h3 _
            have f3 : Fr [6, 7, 8, 9, 11, 12, 21, 22] h h3 := f2.tr (f3.mono (by simp))
            have hN3 := hN.fr f3 hsa.1 hsa.2
            have hc1 := c21 (n := n - 1) (by omega) (crd_lt (C := C) (v := x) hn)
            have hc2 := c21 (n := n - 1) (by omega) (crd_lt (C := C) (v := b) hn)
            refine V_icmp_ne rfl (fun hf => ?_) (fun hf => ?_)
            · refine no h3 ?_ f3
              unfold twa
              rw [decide_eq_false (fun q => hf (by rw [q]))]; rfl
            · have hf := nI_inj (by omega) (by omega) (Decidable.of_not_not hf)
              refine V_ic (v := nI 1) rfl rfl ?_
              refine V_goto rfl ?_
              refine V_istore (L' := [_, _, _, _, _, _]) rfl rfl rfl ?_
              refine V_iload rfl rfl ?_
              -- at 66: .ifCond .eq 21
              refine V_if_eq rfl (fun hz => ?_) (fun hz => ?_)
              · exact absurd hz (by decide)
              · refine V_aload_n rfl rfl rfl ?_
                refine V_getR (r := 10) rfl rfl ?_
                refine V_aload_n rfl rfl (by first | assumption | rfl) ?_
                refine V_ic (v := nI 0) rfl rfl ?_
                refine V_iload rfl rfl ?_
                refine V_iload_n rfl rfl ?_
                -- at 78: .invokevirtual 335
                refine V_callV rfl rfl rfl rfl rfl (c_tak hN3 (Nat.zero_le _) (by omega) hbn) ?_
                rintro _ h4 ⟨rfl, f4⟩
                show V S (dep + 12) 161 81 [.ref 0, .ref a, .int (nI (sb + cnt (twa n C b) x)), .int (nI b), .int (nI x), .int (nI 1)] [.int (bI (tak n C 0 x b))] h4 _
                have f4 : Fr [6, 7, 8, 9, 11, 12, 21, 22] h h4 := f3.tr (f4.mono (by simp))
                refine V_if_ne rfl (fun hj => ?_) (fun hj => ?_)
                · have hj := bI_nz.mp hj
                  exact next h4 _ _ (by rw [hcs]; unfold twa; rw [hj]; simp) f4
                · have hj := bI_z.mp (Decidable.of_not_not hj)
                  refine V_iinc (L' := [_, _, _, _, _, _]) rfl rfl rfl ?_
                  -- at 87: .iinc 4 1
                  rw [show Int32.ofInt 1 = nI 1 from rfl, nI_add, Nat.add_assoc]
                  exact next h4 _ _ (by rw [hcs]; unfold twa; rw [hj, decide_eq_true hf]; rfl) f4
noncomputable def netA (n C : Nat) : Nat → Int32
  | 0 => nI n
  | 1 => nI (pop C)
  | 2 => nI C
  | 3 => nI (frm n C)
  | 4 => nI (hmP n C n)
  | 5 => nI (pcN n C)
  | 6 => nI (cnt (fun v => decide (orb n C v = v)) n)
  | _ => nI (twn n C)
noncomputable def aNet (st : St) (x w : Int32) : Int32 := match ix 6 x, ix 8 w with
  | some i, some j => netA (st.1.1 i) (st.1.2.1 i) j
  | _, _ => -2
theorem x_net {S : mScr} {dep : Nat} {x w : Int32} {st : St} {h : Hp} (hi : InvX h st) : Cal S (dep + 20) 132 [.ref 0, .int x, .int w] h (XR h (aNet st x w, st)) := by
  obtain ⟨hs, hw, hx, _⟩ := id hi
  show V S (dep + 20) 132 0 [.ref 0, .int x, .int w, .null] [] h _
  refine V_iload_n rfl rfl ?_
  -- at 1: .invokestatic 143
  refine V_cS rfl rfl rfl rfl (c_noS) ?_
  refine V_if_eq rfl (fun hc => ?_) (fun hc => ?_)
  · obtain ⟨i, e1, rfl, hi6⟩ := ix_yes hc
    have hn := isS i hi6
    have hb1 := net_b hn
    have hN := hs.1 i hi6
    have h7 := hN.1.2.1
    refine V_aload_n rfl rfl rfl ?_
    refine V_getR (r := 1) rfl rfl ?_
    refine V_iload_n rfl rfl ?_
    refine V_a1 rfl (by first | omega | assumption) ?_
    refine V_astore_n (L' := [_, _, _, _]) rfl (by first | rfl | (rw [Bool.and_eq_true]; exact ⟨rfl, by first | assumption | rfl⟩)) rfl ?_
    refine V_iload_n rfl rfl ?_
    -- at 18: .tableswitch 99 0 7 #[46, 51, 56, 61, 70, 79, 84, 93]
    cases e2 : ix 8 w with
    | none =>
      have ev : aNet st (nI i) w = -2 := by unfold aNet; rw [e1, e2]
      rw [ev]
      have := ix_none e2
      have hto : w.toInt < 0 ∨ (7 : Int) < w.toInt := by omega
      refine V_tabO (t := 117) rfl (hto) rfl ?_
      refine V_bi (v := -2) rfl rfl ?_
      -- at 119: .ireturn
      refine V_iret rfl rfl ?_
      exact xq0 hi
    | some j =>
      obtain ⟨rfl, hj⟩ := ix_some e2
      have ev : aNet st (nI i) (nI j) = netA (st.1.1 i) (st.1.2.1 i) j := by unfold aNet; rw [e1, e2]
      rw [ev]
      rcases (by omega : j = 0 ∨ j = 1 ∨ j = 2 ∨ j = 3 ∨ j = 4 ∨ j = 5 ∨ j = 6 ∨ j = 7) with rfl | rfl | rfl | rfl | rfl | rfl | rfl | rfl
      · refine V_tabI (t := 64) rfl 0 (by decide) (by decide) rfl ?_
        refine V_aload_n rfl rfl (by first | assumption | rfl) ?_
        refine V_gi 0 rfl (net_sz (by first | assumption | rfl)) rfl ?_
        -- at 68: .ireturn
        rw [hN.1.2.2.1]
        refine V_iret rfl rfl ?_
        exact xq0 hi
      · refine V_tabI (t := 69) rfl 1 (by decide) (by decide) rfl ?_
        refine V_aload_n rfl rfl (by first | assumption | rfl) ?_
        -- at 70: .invokevirtual 139
        refine V_cV rfl rfl (by first | assumption | rfl) rfl rfl (c_lc hN.1) ?_
        rw [lsum_row h7 hN.2, Nat.mul_div_cancel_left _ (by decide)]
        refine V_iret rfl rfl ?_
        exact xq0 hi
      · refine V_tabI (t := 74) rfl 2 (by decide) (by decide) rfl ?_
        refine V_aload_n rfl rfl (by first | assumption | rfl) ?_
        -- at 75: .invokevirtual 214
        refine V_cV rfl rfl (by first | assumption | rfl) rfl rfl (c_code hN) ?_
        refine V_iret rfl rfl ?_
        exact xq0 hi
      · refine V_tabI (t := 79) rfl 3 (by decide) (by decide) rfl ?_
        refine V_aload_n rfl rfl rfl ?_
        refine V_getR (r := 6) rfl rfl ?_
        refine V_aload_n rfl rfl (by first | assumption | rfl) ?_
        -- at 84: .invokevirtual 163
        refine V_callV rfl rfl rfl rfl rfl (c_frm hN) ?_
        rintro _ h1 ⟨rfl, f1⟩
        refine V_iret rfl rfl ?_
        exact xq hi f1 (by simp; decide)
      · refine V_tabI (t := 88) rfl 4 (by decide) (by decide) rfl ?_
        refine V_aload_n rfl rfl rfl ?_
        refine V_getR (r := 10) rfl rfl ?_
        refine V_aload_n rfl rfl (by first | assumption | rfl) ?_
        -- at 93: .invokevirtual 217
        refine V_callV rfl rfl rfl rfl rfl (c_hm hN) ?_
        rintro _ h1 ⟨rfl, f1⟩
        refine V_iret rfl rfl ?_
        exact xq hi f1 (by simp; decide)
      · refine V_tabI (t := 97) rfl 5 (by decide) (by decide) rfl ?_
        refine V_aload_n rfl rfl (by first | assumption | rfl) ?_
        -- at 98: .invokevirtual 220
        refine V_cV rfl rfl (by first | assumption | rfl) rfl rfl (c_pcs hN.1) ?_
        refine V_iret rfl rfl ?_
        exact xq0 hi
      · refine V_tabI (t := 102) rfl 6 (by decide) (by decide) rfl ?_
        refine V_aload_n rfl rfl rfl ?_
        refine V_getR (r := 10) rfl rfl ?_
        refine V_aload_n rfl rfl (by first | assumption | rfl) ?_
        -- at 107: .invokevirtual 223
        refine V_callV rfl rfl rfl rfl rfl (c_oc hN) ?_
        rintro _ h1 ⟨rfl, f1⟩
        refine V_iret rfl rfl ?_
        exact xq hi f1 (by simp; decide)
      · refine V_tabI (t := 111) rfl 7 (by decide) (by decide) rfl ?_
        refine V_aload_n rfl rfl rfl ?_
        refine V_aload_n rfl rfl (by first | assumption | rfl) ?_
        -- at 113: .invokevirtual 226
        refine V_callV rfl rfl rfl rfl rfl (c_twn hN (by omega)) ?_
        rintro _ h1 ⟨rfl, f1⟩
        refine V_iret rfl rfl ?_
        exact xq hi f1 (by simp; decide)
  · have hc := ix_no hc
    have ev : aNet st x w = -2 := by unfold aNet; rw [hc]
    rw [ev]
    refine V_bi (v := -2) rfl rfl ?_
    -- at 9: .ireturn
    refine V_iret rfl rfl ?_
    exact xq0 hi
def nodA (n C v : Nat) : Nat → Int32
  | 0 => nI (pop (rowOf n C v))
  | 1 => nI (rowOf n C v)
  | 2 => nI (orb n C v)
  | _ => if n = 1 then -1 else nI (crd n C v)
def aNode (st : St) (x y w : Int32) : Int32 := match ix 6 x with
  | none => -2
  | some i => match ix (st.1.1 i) y, ix 4 w with
    | some v, some j => nodA (st.1.1 i) (st.1.2.1 i) v j
    | _, _ => -2
theorem x_node {S : mScr} {dep : Nat} {x y w : Int32} {st : St} {h : Hp} (hi : InvX h st) : Cal S (dep + 20) 133 [.ref 0, .int x, .int y, .int w] h (XR h (aNode st x y w, st)) := by
  obtain ⟨hs, hw, hx, _⟩ := id hi
  show V S (dep + 20) 133 0 [.ref 0, .int x, .int y, .int w, .null] [] h _
  refine V_aload_n rfl rfl rfl ?_
  refine V_iload_n rfl rfl ?_
  refine V_iload_n rfl rfl ?_
  -- at 3: .invokevirtual 127
  refine V_cV rfl rfl rfl rfl rfl (c_noN hs) ?_
  refine V_if_eq rfl (fun hc => ?_) (fun hc => ?_)
  · obtain ⟨v, hv⟩ := nd_yes hc
    obtain ⟨i, e1, rfl, hi6, e3, rfl, hvi⟩ := nd_some hv
    have hn := isS i hi6
    have hb1 := net_b hn
    have hb2 := net_b1 hn
    have hN := hs.1 i hi6
    have h7 := hN.1.2.1
    refine V_aload_n rfl rfl rfl ?_
    refine V_getR (r := 1) rfl rfl ?_
    refine V_iload_n rfl rfl ?_
    refine V_a1 rfl (by first | omega | assumption) ?_
    refine V_astore (L' := [_, _, _, _, _]) rfl (by first | rfl | (rw [Bool.and_eq_true]; exact ⟨rfl, by first | assumption | rfl⟩)) rfl ?_
    refine V_iload_n rfl rfl ?_
    -- at 21: .tableswitch 81 0 3 #[31, 38, 46, 57]
    cases e2 : ix 4 w with
    | none =>
      have ev : aNode st (nI i) (nI v) w = -2 := by unfold aNode; rw [e1]; dsimp only; rw [e3, e2]
      rw [ev]
      have := ix_none e2
      have hto : w.toInt < 0 ∨ (3 : Int) < w.toInt := by omega
      refine V_tabO (t := 102) rfl (hto) rfl ?_
      refine V_bi (v := -2) rfl rfl ?_
      -- at 104: .ireturn
      refine V_iret rfl rfl ?_
      exact xq0 hi
    | some j =>
      obtain ⟨rfl, hj⟩ := ix_some e2
      have ev : aNode st (nI i) (nI v) (nI j) = nodA (st.1.1 i) (st.1.2.1 i) v j := by unfold aNode; rw [e1]; dsimp only; rw [e3, e2]
      rw [ev]
      rcases (by omega : j = 0 ∨ j = 1 ∨ j = 2 ∨ j = 3) with rfl | rfl | rfl | rfl
      · refine V_tabI (t := 52) rfl 0 (by decide) (by decide) rfl ?_
        refine V_aload rfl rfl (by first | assumption | rfl) ?_
        refine V_iload_n rfl rfl ?_
        -- at 55: .invokevirtual 229
        refine V_cV rfl rfl (by first | assumption | rfl) rfl rfl (c_degC hN hvi) ?_
        refine V_iret rfl rfl ?_
        exact xq0 hi
      · refine V_tabI (t := 59) rfl 1 (by decide) (by decide) rfl ?_
        refine V_aload rfl rfl (by first | assumption | rfl) ?_
        refine V_getR rfl (net_nr (by first | assumption | rfl)) ?_
        refine V_iload_n rfl rfl ?_
        refine V_al 7 rfl (net_ar (by first | assumption | rfl)) (by first | with_reducible rfl | assumption | exact nI_sub (by omega) | exact nI_add _ _) (by first | omega | assumption) rfl ?_
        -- at 66: .ireturn
        rw [hN.1.2.2.2.1 v (by omega)]
        refine V_iret rfl rfl ?_
        exact xq0 hi
      · refine V_tabI (t := 67) rfl 2 (by decide) (by decide) rfl ?_
        refine V_aload_n rfl rfl rfl ?_
        refine V_getR (r := 10) rfl rfl ?_
        refine V_aload rfl rfl (by first | assumption | rfl) ?_
        refine V_iload_n rfl rfl ?_
        -- at 74: .invokevirtual 235
        refine V_callV rfl rfl rfl rfl rfl (c_lof hN hvi) ?_
        rintro _ h1 ⟨rfl, f1⟩
        refine V_iret rfl rfl ?_
        exact xq hi f1 (by simp; decide)
      · refine V_tabI (t := 78) rfl 3 (by decide) (by decide) rfl ?_
        refine V_aload rfl rfl (by first | assumption | rfl) ?_
        refine V_gi 0 rfl (net_sz (by first | assumption | rfl)) rfl ?_
        refine V_ic (v := nI 1) rfl rfl ?_
        -- at 84: .if_icmp .ne 7
        rw [hN.1.2.2.1]
        refine V_icmp_ne rfl (fun hd => ?_) (fun hd => ?_)
        · have hd : ¬ st.1.1 i = 1 := fun q => hd (by rw [q])
          refine V_aload_n rfl rfl rfl ?_
          refine V_getR (r := 20) rfl rfl ?_
          refine V_aload rfl rfl (by first | assumption | rfl) ?_
          refine V_iload_n rfl rfl ?_
          -- at 98: .invokevirtual 239
          refine V_callV rfl rfl rfl rfl rfl (c_card hN (by omega) hvi) ?_
          rintro _ h1 ⟨rfl, f1⟩
          have e : nodA (st.1.1 i) (st.1.2.1 i) v 3 = nI (crd (st.1.1 i) (st.1.2.1 i) v) := if_neg hd
          rw [e]
          refine V_iret rfl rfl ?_
          exact xq hi f1 (by simp; decide)
        · have hd := nI_inj (by omega) (by omega) (Decidable.of_not_not hd)
          have e : nodA (st.1.1 i) (st.1.2.1 i) v 3 = -1 := if_pos hd
          rw [e]
          refine V_ic (v := -1) rfl rfl ?_
          refine V_goto rfl ?_
          -- at 101: .ireturn
          refine V_iret rfl rfl ?_
          exact xq0 hi
  · have hc := nd_no hc
    have ev : aNode st x y w = -2 := by
      unfold aNode
      cases q : ix 6 x with
      | none => rfl
      | some i =>
        have e : nd st.1 x y = ix (st.1.1 i) y := by unfold nd; rw [q]; rfl
        rw [e] at hc
        dsimp only
        rw [hc]
    rw [ev]
    refine V_bi (v := -2) rfl rfl ?_
    -- at 11: .ireturn
    refine V_iret rfl rfl ?_
    exact xq0 hi
def aAlik (st : St) (x y : Int32) : Int32 := match ix 6 x, ix 6 y with
  | some i, some j => bI (decide (st.1.1 i = st.1.1 j) && decide (frm (st.1.1 i) (st.1.2.1 i) = frm (st.1.1 j) (st.1.2.1 j)))
  | _, _ => -2
theorem x_alik {S : mScr} {dep : Nat} {x y : Int32} {st : St} {h : Hp} (hi : InvX h st) : Cal S (dep + 20) 134 [.ref 0, .int x, .int y] h (XR h (aAlik st x y, st)) := by
  obtain ⟨hs, hw, hx, _⟩ := id hi
  show V S (dep + 20) 134 0 [.ref 0, .int x, .int y] [] h _
  have bad : aAlik st x y = -2 → V S (dep + 20) 134 14 [.ref 0, .int x, .int y] [] h (XR h (aAlik st x y, st)) := by
    intro e
    rw [e]
    refine V_bi (v := -2) rfl rfl ?_
    -- at 16: .ireturn
    refine V_iret rfl rfl ?_
    exact xq0 hi
  refine V_iload_n rfl rfl ?_
  -- at 1: .invokestatic 143
  refine V_cS rfl rfl rfl rfl (c_noS) ?_
  refine V_if_ne rfl (fun hc => ?_) (fun hc => ?_)
  · have hc := ix_no hc
    exact bad (by unfold aAlik; rw [hc])
  · obtain ⟨i, e1, rfl, hi6⟩ := ix_yes (Decidable.of_not_not hc)
    refine V_iload_n rfl rfl ?_
    -- at 8: .invokestatic 143
    refine V_cS rfl rfl rfl rfl (c_noS) ?_
    refine V_if_eq rfl (fun hd => ?_) (fun hd => ?_)
    · obtain ⟨j, e2, rfl, hj6⟩ := ix_yes hd
      have hn := isS i hi6
      have hb1 := net_b hn
      have hnj := isS j hj6
      have hb2 := net_b hnj
      have hN := hs.1 i hi6
      have hM := hs.1 j hj6
      have ev : aAlik st (nI i) (nI j) = bI (decide (st.1.1 i = st.1.1 j) && decide (frm (st.1.1 i) (st.1.2.1 i) = frm (st.1.1 j) (st.1.2.1 j))) := by unfold aAlik; rw [e1, e2]
      rw [ev]
      refine V_aload_n rfl rfl rfl ?_
      refine V_getR (r := 6) rfl rfl ?_
      refine V_aload_n rfl rfl rfl ?_
      refine V_getR (r := 1) rfl rfl ?_
      refine V_iload_n rfl rfl ?_
      refine V_a1 rfl (by first | omega | assumption) ?_
      refine V_aload_n rfl rfl rfl ?_
      refine V_getR (r := 1) rfl rfl ?_
      refine V_iload_n rfl rfl ?_
      refine V_a1 rfl (by first | omega | assumption) ?_
      -- at 33: .invokevirtual 242
      refine V_callV rfl rfl rfl rfl rfl (c_alk hN.1 hM.1) ?_
      rintro _ h1 ⟨rfl, f1⟩
      rw [alk_frm hN.1.2.1 hM.1.2.1 hN.2 hM.2]
      show V S (dep + 20) 134 36 [.ref 0, .int (nI i), .int (nI j)] [.int (bI (decide (st.1.1 i = st.1.1 j) && decide (frm (st.1.1 i) (st.1.2.1 i) = frm (st.1.1 j) (st.1.2.1 j))))] h1 _
      generalize (decide (st.1.1 i = st.1.1 j) && decide (frm (st.1.1 i) (st.1.2.1 i) = frm (st.1.1 j) (st.1.2.1 j))) = b
      refine V_if_eq rfl (fun he => ?_) (fun he => ?_)
      · have he := bI_z.mp he
        rw [he]
        refine V_ic (v := nI 0) rfl rfl ?_
        -- at 44: .ireturn
        refine V_iret rfl rfl ?_
        exact xq hi f1 (by simp; decide)
      · have he := bI_nz.mp he
        rw [he]
        refine V_ic (v := nI 1) rfl rfl ?_
        refine V_goto rfl ?_
        -- at 44: .ireturn
        refine V_iret rfl rfl ?_
        exact xq hi f1 (by simp; decide)
    · have hd := ix_no hd
      exact bad (by unfold aAlik; rw [e1, hd])
def aPart (st : St) (x y : Int32) : Int32 := match ix 6 x, ix 6 y with
  | some i, some j => nI (prt (st.1.1 i) (frm (st.1.1 i) (st.1.2.1 i)) (st.1.1 j) (st.1.2.1 j))
  | _, _ => -2
theorem x_part {S : mScr} {dep : Nat} {x y : Int32} {st : St} {h : Hp} (hi : InvX h st) : Cal S (dep + 20) 135 [.ref 0, .int x, .int y] h (XR h (aPart st x y, st)) := by
  obtain ⟨hs, hw, hx, _⟩ := id hi
  show V S (dep + 20) 135 0 [.ref 0, .int x, .int y] [] h _
  have bad : aPart st x y = -2 → V S (dep + 20) 135 14 [.ref 0, .int x, .int y] [] h (XR h (aPart st x y, st)) := by
    intro e
    rw [e]
    refine V_bi (v := -2) rfl rfl ?_
    -- at 16: .ireturn
    refine V_iret rfl rfl ?_
    exact xq0 hi
  refine V_iload_n rfl rfl ?_
  -- at 1: .invokestatic 143
  refine V_cS rfl rfl rfl rfl (c_noS) ?_
  refine V_if_ne rfl (fun hc => ?_) (fun hc => ?_)
  · have hc := ix_no hc
    exact bad (by unfold aPart; rw [hc])
  · obtain ⟨i, e1, rfl, hi6⟩ := ix_yes (Decidable.of_not_not hc)
    refine V_iload_n rfl rfl ?_
    -- at 8: .invokestatic 143
    refine V_cS rfl rfl rfl rfl (c_noS) ?_
    refine V_if_eq rfl (fun hd => ?_) (fun hd => ?_)
    · obtain ⟨j, e2, rfl, hj6⟩ := ix_yes hd
      have hn := isS i hi6
      have hb1 := net_b hn
      have hnj := isS j hj6
      have hb2 := net_b hnj
      have hN := hs.1 i hi6
      have hM := hs.1 j hj6
      have ev : aPart st (nI i) (nI j) = nI (prt (st.1.1 i) (frm (st.1.1 i) (st.1.2.1 i)) (st.1.1 j) (st.1.2.1 j)) := by unfold aPart; rw [e1, e2]
      rw [ev]
      refine V_aload_n rfl rfl rfl ?_
      refine V_getR (r := 20) rfl rfl ?_
      refine V_aload_n rfl rfl rfl ?_
      refine V_getR (r := 1) rfl rfl ?_
      refine V_iload_n rfl rfl ?_
      refine V_a1 rfl (by first | omega | assumption) ?_
      refine V_gi 0 rfl (net_sz (by first | assumption | rfl)) rfl ?_
      refine V_aload_n rfl rfl rfl ?_
      refine V_getR (r := 6) rfl rfl ?_
      refine V_aload_n rfl rfl rfl ?_
      refine V_getR (r := 1) rfl rfl ?_
      refine V_iload_n rfl rfl ?_
      refine V_a1 rfl (by first | omega | assumption) ?_
      -- at 40: .invokevirtual 163
      rw [hN.1.2.2.1]
      refine V_callV rfl rfl rfl rfl rfl (c_frm hN) ?_
      rintro _ h1 ⟨rfl, f1⟩
      show V S (dep + 20) 135 43 [.ref 0, .int (nI i), .int (nI j)] [.int (nI (frm (st.1.1 i) (st.1.2.1 i))), .int (nI (st.1.1 i)), .ref 20] h1 _
      have hM1 := hM.fr f1 (by simp; omega) (by simp; omega)
      refine V_aload_n rfl rfl rfl ?_
      refine V_getR (r := 1) rfl rfl ?_
      refine V_iload_n rfl rfl ?_
      refine V_a1 rfl (by first | omega | assumption) ?_
      -- at 49: .invokevirtual 246
      refine V_callV rfl rfl rfl rfl rfl (c_prt hM1 (by omega) hN.1.2.1 (frm21 hN.1.2.1)) ?_
      rintro _ h2 ⟨rfl, f2⟩
      refine V_iret rfl rfl ?_
      exact xq hi ((f1.mono (by simp)).tr f2) (by simp; decide)
    · have hd := ix_no hd
      exact bad (by unfold aPart; rw [e1, hd])
