/-! the class: rivals, mends -/
def rvP (n f D : Nat) : Bool := !decide (D = f) && (decide (pop D = pop f) && decide (ldk n D = ldk n f))
def rvC (n f i : Nat) : Bool := decide (fr n ≤ i) && rvP n f (fmsT.getD i 0)
theorem c_riv {S : mScr} {dep n f : Nat} {h : Hp} (hn : n < 6) (hf : f ∈ fms n) : Cal S (dep + 11) 82 [.ref 33, .int (nI n), .int (nI f)] h (fun q h' => q = some (.int (nI (cnt (rvC n f) (fr (n + 1))))) ∧ Fr [6, 7, 8, 9, 21, 22, 23, 24, 34, 35, 39, 40] h h') := by
  have hfr := fr_f n hn
  have hfl := (fms_mem.mp hf).1
  have hfl21 : f < 2 ^ 21 := c21 (by omega) hfl
  have hpf := pop21 hfl21
  have hlen : (ldk n f).length = pop f := ldk_len (by omega) hfl
  show V S (dep + 11) 82 0 [.ref 33, .int (nI n), .int (nI f), .null, .null, .null] [] h _
  refine V_aload_n rfl rfl rfl ?_
  refine V_getR (r := 34) rfl rfl ?_
  refine V_iload_n rfl rfl ?_
  refine V_iload_n rfl rfl ?_
  -- at 6: .invokevirtual 51
  refine V_callV rfl rfl rfl rfl rfl (c_load (a := 34) rfl (by omega) hfl) ?_
  rintro _ h1 ⟨rfl, hN1, f1⟩
  show V S (dep + 11) 82 9 [.ref 33, .int (nI n), .int (nI f), .null, .null, .null] [] h1 _
  refine V_aload_n rfl rfl rfl ?_
  refine V_getR (r := 39) rfl rfl ?_
  refine V_aload_n rfl rfl rfl ?_
  refine V_getR (r := 20) rfl rfl ?_
  refine V_aload_n rfl rfl rfl ?_
  refine V_getR (r := 34) rfl rfl ?_
  -- at 21: .invokevirtual 99
  refine V_callV rfl rfl rfl rfl rfl (c_ldk hN1 (by decide)) ?_
  rintro _ h2 ⟨rfl, hL2, f2⟩
  show V S (dep + 11) 82 24 [.ref 33, .int (nI n), .int (nI f), .null, .null, .null] [.ref 23, .ref 39] h2 _
  refine V_callV rfl rfl rfl rfl rfl (c_lcopy (a := 39) hL2 rfl (by decide) (by decide) (by decide)) ?_
  rintro _ h3 ⟨rfl, hL3, f3⟩
  show V S (dep + 11) 82 27 [.ref 33, .int (nI n), .int (nI f), .null, .null, .null] [] h3 _
  have f3 : Fr [6, 7, 8, 9, 21, 22, 23, 24, 34, 35, 39, 40] h h3 := ((f1.mono (by simp)).tr (f2.mono (by simp))).tr (f3.mono (by simp))
  refine V_ic (v := nI 0) rfl rfl ?_
  refine V_istore_n (L' := [_, _, _, _, _, _]) rfl rfl rfl ?_
  refine V_stat (v := .ref 1001) rfl rfl ?_
  refine V_iload_n rfl rfl ?_
  -- at 33: .iaload
  refine V_frs rfl (by omega) ?_
  refine V_istore (L' := [_, _, _, _, _, _]) rfl rfl rfl ?_
  -- at 36: .iload 4
  have lp := loopUp (P := fun i => fr n ≤ i → ∀ h4 v5, Fr [6, 7, 8, 9, 21, 22, 23, 24, 34, 35, 39, 40] h h4 → LDK h4 39 (ldk n f) → V S (dep + 11) 82 36 [.ref 33, .int (nI n), .int (nI f), .int (nI (cnt (rvC n f) i)), .int (nI i), v5] [] h4 (fun q h' => q = some (.int (nI (cnt (rvC n f) (fr (n + 1))))) ∧ Fr [6, 7, 8, 9, 21, 22, 23, 24, 34, 35, 39, 40] h h')) (fr (n + 1)) ?_ ?_ (fr n) (by omega)
  · have := lp (Nat.le_refl _) h3 .null f3 hL3
    rw [show cnt (rvC n f) (fr n) = 0 from cnt_none (fun i hi => by unfold rvC; rw [decide_eq_false (by omega)]; rfl)] at this
    exact this
  · intro _ h4 v5 f4 hL4
    refine V_iload rfl rfl ?_
    refine V_stat (v := .ref 1001) rfl rfl ?_
    refine V_iload_n rfl rfl ?_
    refine V_ic (v := nI 1) rfl rfl ?_
    refine V_iadd rfl ?_
    -- at 44: .iaload
    rw [nI_add]
    refine V_frs rfl (by omega) ?_
    refine V_icmp_ge rfl (fun hc => ?_) (fun hc => ?_)
    · refine V_iload_n rfl rfl ?_
      -- at 139: .ireturn
      refine V_iret rfl rfl ?_
      exact ⟨rfl, f4⟩
    · exact absurd (show nI (fr (n + 1)) ≤ nI (fr (n + 1)) from nI_le (Nat.le_refl _) (by omega)) hc
  · intro i hi ih hni h4 v5 f4 hL4
    have hi53 : i < 53 := by omega
    have hil := fmsT21 i hi53
    have hfi := fms_lt i hi53 n hn hni hi
    have hpi := pop21 hil
    have hcs : cnt (rvC n f) (i + 1) = cnt (rvC n f) i + if rvC n f i = true then 1 else 0 := by rw [cnt]
    have eC : rvC n f i = rvP n f (fmsT.getD i 0) := by unfold rvC; rw [decide_eq_true hni]; rfl
    have next : ∀ h5 c v5, c = cnt (rvC n f) (i + 1) → Fr [6, 7, 8, 9, 21, 22, 23, 24, 34, 35, 39, 40] h h5 → LDK h5 39 (ldk n f) → V S (dep + 11) 82 132 [.ref 33, .int (nI n), .int (nI f), .int (nI c), .int (nI i), v5] [] h5 (fun q h' => q = some (.int (nI (cnt (rvC n f) (fr (n + 1))))) ∧ Fr [6, 7, 8, 9, 21, 22, 23, 24, 34, 35, 39, 40] h h') := by
      intro h5 c v5 e f5 hL5
      rw [e]
      refine V_iinc (L' := [_, _, _, _, _, _]) rfl rfl rfl ?_
      refine V_goto rfl ?_
      -- at 36: .iload 4
      rw [show Int32.ofInt 1 = nI 1 from rfl, nI_add]
      exact ih (by omega) h5 _ f5 hL5
    have no : rvP n f (fmsT.getD i 0) = false → V S (dep + 11) 82 81 [.ref 33, .int (nI n), .int (nI f), .int (nI (cnt (rvC n f) i)), .int (nI i), v5] [] h4 (fun q h' => q = some (.int (nI (cnt (rvC n f) (fr (n + 1))))) ∧ Fr [6, 7, 8, 9, 21, 22, 23, 24, 34, 35, 39, 40] h h') := by
      intro e
      refine V_ic (v := nI 0) rfl rfl ?_
      refine V_istore (L' := [_, _, _, _, _, _]) rfl rfl rfl ?_
      refine V_iload rfl rfl ?_
      -- at 86: .ifCond .eq 46
      refine V_if_eq rfl (fun hz => ?_) (fun hz => ?_)
      · exact next h4 _ _ (by rw [hcs, eC, e]; rfl) f4 hL4
      · exact absurd rfl hz
    refine V_iload rfl rfl ?_
    refine V_stat (v := .ref 1001) rfl rfl ?_
    refine V_iload_n rfl rfl ?_
    refine V_ic (v := nI 1) rfl rfl ?_
    refine V_iadd rfl ?_
    -- at 44: .iaload
    rw [nI_add]
    refine V_frs rfl (by omega) ?_
    refine V_icmp_ge rfl (fun hc => ?_) (fun hc => ?_)
    · exact absurd (show nI (fr (n + 1)) ≤ nI i from hc) (nI_ge hi (by omega))
    · refine V_stat (v := .ref 1002) rfl rfl ?_
      refine V_iload rfl rfl ?_
      -- at 53: .iaload
      refine V_fms rfl hi53 ?_
      refine V_iload_n rfl rfl ?_
      -- at 55: .if_icmp .eq 26
      refine V_icmp_eq rfl (fun he => ?_) (fun he => ?_)
      · have he := nI_inj (by omega) (by omega) he
        exact no (by unfold rvP; rw [decide_eq_true he]; rfl)
      · have he : ¬ fmsT.getD i 0 = f := fun q => he (by rw [q])
        refine V_stat (v := .ref 1002) rfl rfl ?_
        refine V_iload rfl rfl ?_
        -- at 63: .iaload
        refine V_fms rfl hi53 ?_
        refine V_cS rfl rfl rfl rfl (c_bc (by omega)) ?_
        refine V_aload_n rfl rfl rfl ?_
        refine V_getR (r := 39) rfl rfl ?_
        refine V_gi 0 rfl rfl rfl ?_
        -- at 74: .if_icmp .ne 7
        rw [show h4.1 39 0 = nI (ldk n f).length from hL4.2.2.1, hlen]
        refine V_icmp_ne rfl (fun hg => ?_) (fun hg => ?_)
        · have hg : ¬ pop (fmsT.getD i 0) = pop f := fun q => hg (by rw [q])
          exact no (by unfold rvP; rw [decide_eq_false hg, Bool.false_and, Bool.and_false])
        · have hg := nI_inj (by omega) (by omega) (Decidable.of_not_not hg)
          refine V_ic (v := nI 1) rfl rfl ?_
          refine V_goto rfl ?_
          refine V_istore (L' := [_, _, _, _, _, _]) rfl rfl rfl ?_
          refine V_iload rfl rfl ?_
          -- at 86: .ifCond .eq 46
          refine V_if_eq rfl (fun hz => ?_) (fun hz => ?_)
          · exact absurd hz (by decide)
          · refine V_aload_n rfl rfl rfl ?_
            refine V_getR (r := 34) rfl rfl ?_
            refine V_iload_n rfl rfl ?_
            refine V_stat (v := .ref 1002) rfl rfl ?_
            refine V_iload rfl rfl ?_
            -- at 99: .iaload
            refine V_fms rfl hi53 ?_
            refine V_callV rfl rfl rfl rfl rfl (c_load (a := 34) rfl (by omega) hfi) ?_
            rintro _ h5 ⟨rfl, hN5, f5⟩
            show V S (dep + 11) 82 103 [.ref 33, .int (nI n), .int (nI f), .int (nI (cnt (rvC n f) i)), .int (nI i), .int (nI 1)] [] h5 _
            have hL5 := hL4.fr f5 (by decide) (by decide)
            refine V_iload_n rfl rfl ?_
            refine V_aload_n rfl rfl rfl ?_
            refine V_getR (r := 20) rfl rfl ?_
            refine V_aload_n rfl rfl rfl ?_
            refine V_getR (r := 34) rfl rfl ?_
            -- at 112: .invokevirtual 99
            refine V_callV rfl rfl rfl rfl rfl (c_ldk hN5 (by decide)) ?_
            rintro _ h6 ⟨rfl, hL6, f6⟩
            show V S (dep + 11) 82 115 [.ref 33, .int (nI n), .int (nI f), .int (nI (cnt (rvC n f) i)), .int (nI i), .int (nI 1)] [.ref 23, .int (nI (cnt (rvC n f) i))] h6 _
            have hL7 := hL5.fr f6 (by decide) (by decide)
            have f6 : Fr [6, 7, 8, 9, 21, 22, 23, 24, 34, 35, 39, 40] h h6 := (f4.tr (f5.mono (by simp))).tr (f6.mono (by simp))
            refine V_aload_n rfl rfl rfl ?_
            refine V_getR (r := 39) rfl rfl ?_
            -- at 119: .invokevirtual 107
            refine V_cV rfl rfl (by first | assumption | rfl) rfl rfl (c_same hL6 hL7) ?_
            have eP : rvP n f (fmsT.getD i 0) = decide (ldk n (fmsT.getD i 0) = ldk n f) := by unfold rvP; rw [decide_eq_false he, decide_eq_true hg]; rfl
            refine V_if_eq rfl (fun hk => ?_) (fun hk => ?_)
            · have hk := bI_z.mp hk
              refine V_ic (v := nI 0) rfl rfl ?_
              refine V_iadd rfl ?_
              -- at 131: .istore_n 3
              rw [nI_add]
              refine V_istore_n (L' := [_, _, _, _, _, _]) rfl rfl rfl ?_
              -- at 132: .iinc 4 1
              exact next h6 _ _ (by rw [hcs, eC, eP, hk]; rfl) f6 hL7
            · have hk := bI_nz.mp hk
              refine V_ic (v := nI 1) rfl rfl ?_
              refine V_goto rfl ?_
              refine V_iadd rfl ?_
              -- at 131: .istore_n 3
              rw [nI_add]
              refine V_istore_n (L' := [_, _, _, _, _, _]) rfl rfl rfl ?_
              -- at 132: .iinc 4 1
              exact next h6 _ _ (by rw [hcs, eC, eP, hk]; rfl) f6 hL7
def aRiva (st : St) (x : Int32) : Int32 := match ix 6 x with
  | some i => if st.1.1 i < 2 ∨ 5 < st.1.1 i then -5 else nI (cnt (rvC (st.1.1 i) (frm (st.1.1 i) (st.1.2.1 i))) (fr (st.1.1 i + 1)))
  | none => -2
theorem x_riva {S : mScr} {dep : Nat} {x : Int32} {st : St} {h : Hp} (hi : InvX h st) : Cal S (dep + 20) 137 [.ref 0, .int x] h (XR h (aRiva st x, st)) := by
  obtain ⟨hs, hw, hx, _⟩ := id hi
  show V S (dep + 20) 137 0 [.ref 0, .int x, .null] [] h _
  refine V_iload_n rfl rfl ?_
  -- at 1: .invokestatic 143
  refine V_cS rfl rfl rfl rfl (c_noS) ?_
  refine V_if_eq rfl (fun hc => ?_) (fun hc => ?_)
  · obtain ⟨i, e1, rfl, hi6⟩ := ix_yes hc
    have hn := isS i hi6
    have hb1 := net_b hn
    have hN := hs.1 i hi6
    have h7 := hN.1.2.1
    have ev : aRiva st (nI i) = if st.1.1 i < 2 ∨ 5 < st.1.1 i then -5 else nI (cnt (rvC (st.1.1 i) (frm (st.1.1 i) (st.1.2.1 i))) (fr (st.1.1 i + 1))) := by unfold aRiva; rw [e1]
    rw [ev]
    have no : (st.1.1 i < 2 ∨ 5 < st.1.1 i) → V S (dep + 20) 137 33 [.ref 0, .int (nI i), .ref (170 + 2 * i)] [] h (XR h (if st.1.1 i < 2 ∨ 5 < st.1.1 i then -5 else nI (cnt (rvC (st.1.1 i) (frm (st.1.1 i) (st.1.2.1 i))) (fr (st.1.1 i + 1))), st)) := by
      intro e
      rw [if_pos e]
      refine V_bi (v := -5) rfl rfl ?_
      -- at 35: .ireturn
      refine V_iret rfl rfl ?_
      exact xq0 hi
    refine V_aload_n rfl rfl rfl ?_
    refine V_getR (r := 1) rfl rfl ?_
    refine V_iload_n rfl rfl ?_
    refine V_a1 rfl (by first | omega | assumption) ?_
    refine V_astore_n (L' := [_, _, _]) rfl (by first | rfl | (rw [Bool.and_eq_true]; exact ⟨rfl, by first | assumption | rfl⟩)) rfl ?_
    refine V_aload_n rfl rfl (by first | assumption | rfl) ?_
    refine V_gi 0 rfl (net_sz (by first | assumption | rfl)) rfl ?_
    refine V_ic (v := nI 2) rfl rfl ?_
    -- at 22: .if_icmp .lt 11
    rw [hN.1.2.2.1]
    refine V_icmp_lt rfl (fun hg => ?_) (fun hg => ?_)
    · exact no (Or.inl ((nI_ltI (by omega) (by omega)).mp hg))
    · have hg : ¬ st.1.1 i < 2 := fun q => hg (nI_lt q (by omega))
      refine V_aload_n rfl rfl (by first | assumption | rfl) ?_
      refine V_gi 0 rfl (net_sz (by first | assumption | rfl)) rfl ?_
      refine V_ic (v := nI 5) rfl rfl ?_
      -- at 30: .if_icmp .le 6
      rw [hN.1.2.2.1]
      refine V_icmp_le rfl (fun hk => ?_) (fun hk => ?_)
      · have hk := (nI_leI (by omega) (by omega)).mp hk
        rw [if_neg (by omega)]
        refine V_aload_n rfl rfl rfl ?_
        refine V_getR (r := 33) rfl rfl ?_
        refine V_aload_n rfl rfl (by first | assumption | rfl) ?_
        refine V_gi 0 rfl (net_sz (by first | assumption | rfl)) rfl ?_
        refine V_aload_n rfl rfl rfl ?_
        refine V_getR (r := 6) rfl rfl ?_
        refine V_aload_n rfl rfl (by first | assumption | rfl) ?_
        -- at 49: .invokevirtual 163
        rw [hN.1.2.2.1]
        refine V_callV rfl rfl rfl rfl rfl (c_frm hN) ?_
        rintro _ h1 ⟨rfl, f1⟩
        show V S (dep + 20) 137 52 [.ref 0, .int (nI i), .ref (170 + 2 * i)] [.int (nI (frm (st.1.1 i) (st.1.2.1 i))), .int (nI (st.1.1 i)), .ref 33] h1 _
        refine V_callV rfl rfl rfl rfl rfl (c_riv (by omega) (frm_mem h7 hN.2)) ?_
        rintro _ h2 ⟨rfl, f2⟩
        refine V_iret rfl rfl ?_
        exact xq hi ((f1.mono (by simp)).tr f2) (by simp; decide)
      · exact no (Or.inr (nI_ngt (by omega) (by omega) hk))
  · have hc := ix_no hc
    have ev : aRiva st x = -2 := by unfold aRiva; rw [hc]
    rw [ev]
    refine V_bi (v := -2) rfl rfl ?_
    -- at 9: .ireturn
    refine V_iret rfl rfl ?_
    exact xq0 hi
def mnP (cs : List Nat) (k i : Nat) : Bool := decide (fr cs.length ≤ i) && hcB cs (dT i) (cset cs.length k)
theorem c_dab {S : mScr} {dep b k : Nat} {cs : List Nat} {h : Hp} (hD : DK h b cs) (hb182 : 150 < b) (h3 : 3 ≤ cs.length) (h5 : cs.length ≤ 5) (hk : k < cs.length) (hd : DA h 53) : Cal S (dep + 2) 83 [.ref 33, .ref b, .int (nI k)] h (fun q h' => q = some (.int (nI (cnt (mnP cs k) (fr (cs.length + 1))))) ∧ Fr [37, 38] h h') := by
  have hfr := fr_f cs.length (by omega)
  have hdk0 := hD.1
  have hb1 := deck_b hdk0
  show V S (dep + 2) 83 0 [.ref 33, .ref b, .int (nI k), .null, .null, .null, .null] [] h _
  refine V_aload_n rfl rfl rfl ?_
  refine V_getR (r := 37) rfl rfl ?_
  refine V_aload_n rfl rfl (by first | assumption | rfl) ?_
  -- at 5: .invokevirtual 61
  refine V_callV rfl rfl rfl rfl rfl (c_dcopy (a := 37) hD rfl (by omega) (by omega) (by omega)) ?_
  rintro _ h1 ⟨rfl, hA1, f1⟩
  show V S (dep + 2) 83 8 [.ref 33, .ref b, .int (nI k), .null, .null, .null, .null] [] h1 _
  have f1 : Fr [37, 38] h h1 := f1.mono (by simp)
  have hd1 : DA h1 53 := fun i h4 h5 => (hd i h4 h5).fr f1 (by simp; omega) (by simp; omega)
  have hD1 := hD.fr f1 (by simp; omega) (by simp; omega)
  refine V_aload_n rfl rfl (by first | assumption | rfl) ?_
  refine V_gi 0 rfl (deck_sz (by first | assumption | rfl)) rfl ?_
  refine V_istore_n (L' := [_, _, _, _, _, _, _]) rfl rfl rfl ?_
  refine V_ic (v := nI 1) rfl rfl ?_
  refine V_iload_n rfl rfl ?_
  refine V_ishl rfl ?_
  refine V_ic (v := nI 1) rfl rfl ?_
  refine V_isub rfl ?_
  -- at 18: .iconst 1
  rw [hD1.2.2.1, nI_2p _ (by omega), nI_sub (Nat.two_pow_pos _)]
  refine V_ic (v := nI 1) rfl rfl ?_
  refine V_iload_n rfl rfl ?_
  refine V_ishl rfl ?_
  refine V_ic (v := -1) rfl rfl ?_
  refine V_ixor rfl ?_
  refine V_iand rfl ?_
  -- at 24: .istore 4
  rw [nI_2p _ (by omega), nI_andn]
  refine V_istore (L' := [_, _, _, _, _, _, _]) rfl rfl rfl ?_
  refine V_ic (v := nI 0) rfl rfl ?_
  refine V_istore (L' := [_, _, _, _, _, _, _]) rfl rfl rfl ?_
  refine V_stat (v := .ref 1001) rfl rfl ?_
  refine V_iload_n rfl rfl ?_
  -- at 33: .iaload
  refine V_frs rfl (by omega) ?_
  refine V_istore (L' := [_, _, _, _, _, _, _]) rfl rfl rfl ?_
  -- at 36: .iload 6
  have lp := loopUp (P := fun i => fr cs.length ≤ i → V S (dep + 2) 83 36 [.ref 33, .ref b, .int (nI k), .int (nI cs.length), .int (nI (cset cs.length k)), .int (nI (cnt (mnP cs k) i)), .int (nI i)] [] h1 (fun q h' => q = some (.int (nI (cnt (mnP cs k) (fr (cs.length + 1))))) ∧ Fr [37, 38] h h')) (fr (cs.length + 1)) ?_ ?_ (fr cs.length) (by omega)
  · have := lp (Nat.le_refl _)
    rw [show cnt (mnP cs k) (fr cs.length) = 0 from cnt_none (fun i hi => by unfold mnP; rw [decide_eq_false (by omega)]; rfl)] at this
    exact this
  · intro _
    refine V_iload rfl rfl ?_
    refine V_stat (v := .ref 1001) rfl rfl ?_
    refine V_iload_n rfl rfl ?_
    refine V_ic (v := nI 1) rfl rfl ?_
    refine V_iadd rfl ?_
    -- at 44: .iaload
    rw [nI_add]
    refine V_frs rfl (by omega) ?_
    refine V_icmp_ge rfl (fun hc => ?_) (fun hc => ?_)
    · refine V_iload rfl rfl ?_
      -- at 75: .ireturn
      refine V_iret rfl rfl ?_
      exact ⟨rfl, f1⟩
    · exact absurd (show nI (fr (cs.length + 1)) ≤ nI (fr (cs.length + 1)) from nI_le (Nat.le_refl _) (by omega)) hc
  · intro i hi ih hni
    have hi53 : i < 53 := by omega
    rw [cnt] at ih
    have eC : mnP cs k i = hcB cs (dT i) (cset cs.length k) := by unfold mnP; rw [decide_eq_true hni]; rfl
    have hdk := isDk i hi53
    have hb2 := deck_b hdk
    obtain ⟨_, hi4⟩ := fr_sz i hi53 cs.length (by omega) h3 hni hi
    refine V_iload rfl rfl ?_
    refine V_stat (v := .ref 1001) rfl rfl ?_
    refine V_iload_n rfl rfl ?_
    refine V_ic (v := nI 1) rfl rfl ?_
    refine V_iadd rfl ?_
    -- at 44: .iaload
    rw [nI_add]
    refine V_frs rfl (by omega) ?_
    refine V_icmp_ge rfl (fun hc => ?_) (fun hc => ?_)
    · exact absurd (show nI (fr (cs.length + 1)) ≤ nI i from hc) (nI_ge hi (by omega))
    · refine V_aload_n rfl rfl rfl ?_
      refine V_aload_n rfl rfl rfl ?_
      refine V_getR (r := 36) rfl rfl ?_
      refine V_iload rfl rfl ?_
      refine V_a36 rfl (by first | omega | assumption) ?_
      refine V_iload rfl rfl ?_
      -- at 58: .invokevirtual 78
      refine V_cV rfl rfl rfl rfl rfl (c_hc hA1 (DA_T hd1 hi4 hi53) (cset_lt (by omega))) ?_
      refine V_if_eq rfl (fun he => ?_) (fun he => ?_)
      · have he := bI_z.mp he
        rw [eC, he, if_neg (by simp)] at ih
        refine V_iinc (L' := [_, _, _, _, _, _, _]) rfl rfl rfl ?_
        refine V_goto rfl ?_
        -- at 36: .iload 6
        rw [show Int32.ofInt 1 = nI 1 from rfl, nI_add]
        exact ih (by omega)
      · have he := bI_nz.mp he
        rw [eC, he, if_pos rfl] at ih
        refine V_iinc (L' := [_, _, _, _, _, _, _]) rfl rfl rfl ?_
        refine V_iinc (L' := [_, _, _, _, _, _, _]) rfl rfl rfl ?_
        refine V_goto rfl ?_
        -- at 36: .iload 6
        rw [show Int32.ofInt 1 = nI 1 from rfl, nI_add, nI_add]
        exact ih (by omega)
def aMend (st : St) (x y : Int32) : Int32 := match ix (dln st.1 x) y, ix 3 x with
  | some k, some d => if (st.1.2.2 d).length < 3 ∨ 5 < (st.1.2.2 d).length then -5 else nI (cnt (mnP (st.1.2.2 d) k) (fr ((st.1.2.2 d).length + 1)))
  | _, _ => -2
theorem x_mend {S : mScr} {dep : Nat} {x y : Int32} {st : St} {h : Hp} (hi : InvX h st) : Cal S (dep + 20) 152 [.ref 0, .int x, .int y] h (XR h (aMend st x y, st)) := by
  obtain ⟨hs, hw, hx, _, _, _, _, _, _, hsn⟩ := id hi
  show V S (dep + 20) 152 0 [.ref 0, .int x, .int y, .null] [] h _
  refine V_aload_n rfl rfl rfl ?_
  refine V_iload_n rfl rfl ?_
  refine V_iload_n rfl rfl ?_
  -- at 3: .invokevirtual 184
  refine V_cV rfl rfl rfl rfl rfl (c_noC hs) ?_
  refine V_if_eq rfl (fun hc => ?_) (fun hc => ?_)
  · obtain ⟨k, e1, rfl, hk⟩ := ix_yes hc
    obtain ⟨d, e3, rfl, hd3, e4⟩ := dln_pos (s := st.1) (x := x) (by omega)
    rw [e4] at hk
    have hnd := isD d hd3
    have hb2 := deck_b hnd
    have hD := hs.2 d hd3
    obtain ⟨cs, hcs⟩ : ∃ cs, cs = st.1.2.2 d := ⟨_, rfl⟩
    have ev : aMend st (nI d) (nI k) = if cs.length < 3 ∨ 5 < cs.length then -5 else nI (cnt (mnP cs k) (fr (cs.length + 1))) := by unfold aMend; rw [e1, e3, hcs]
    rw [ev]
    rw [← hcs] at hD hk
    have h7 := hD.2.1
    have no : (cs.length < 3 ∨ 5 < cs.length) → V S (dep + 20) 152 35 [.ref 0, .int (nI d), .int (nI k), .ref (182 + 2 * d)] [] h (XR h (if cs.length < 3 ∨ 5 < cs.length then -5 else nI (cnt (mnP cs k) (fr (cs.length + 1))), st)) := by
      intro e
      rw [if_pos e]
      refine V_bi (v := -5) rfl rfl ?_
      -- at 37: .ireturn
      refine V_iret rfl rfl ?_
      exact xq0 hi
    refine V_aload_n rfl rfl rfl ?_
    refine V_getR (r := 2) rfl rfl ?_
    refine V_iload_n rfl rfl ?_
    refine V_a2 rfl (by first | omega | assumption) ?_
    refine V_astore_n (L' := [_, _, _, _]) rfl (by first | rfl | (rw [Bool.and_eq_true]; exact ⟨rfl, by first | assumption | rfl⟩)) rfl ?_
    refine V_aload_n rfl rfl (by first | assumption | rfl) ?_
    refine V_gi 0 rfl (deck_sz (by first | assumption | rfl)) rfl ?_
    refine V_ic (v := nI 3) rfl rfl ?_
    -- at 24: .if_icmp .lt 11
    rw [hD.2.2.1]
    refine V_icmp_lt rfl (fun hg => ?_) (fun hg => ?_)
    · exact no (Or.inl ((nI_ltI (by omega) (by omega)).mp hg))
    · have hg : ¬ cs.length < 3 := fun q => hg (nI_lt q (by omega))
      refine V_aload_n rfl rfl (by first | assumption | rfl) ?_
      refine V_gi 0 rfl (deck_sz (by first | assumption | rfl)) rfl ?_
      refine V_ic (v := nI 5) rfl rfl ?_
      -- at 32: .if_icmp .le 6
      rw [hD.2.2.1]
      refine V_icmp_le rfl (fun hl => ?_) (fun hl => ?_)
      · have hl := (nI_leI (by omega) (by omega)).mp hl
        rw [if_neg (by omega)]
        refine V_aload_n rfl rfl rfl ?_
        refine V_getR (r := 33) rfl rfl ?_
        -- at 42: .invokevirtual 250
        refine V_callV rfl rfl rfl rfl rfl (c_dall hsn) ?_
        rintro _ h1 ⟨rfl, g1, g2, g3⟩
        show V S (dep + 20) 152 45 [.ref 0, .int (nI d), .int (nI k), .ref (182 + 2 * d)] [] h1 _
        obtain ⟨hi1, fx1⟩ := hi.fa g3 g1 g2
        have hD1 := hi1.1.2 d hd3
        rw [← hcs] at hD1
        refine V_aload_n rfl rfl rfl ?_
        refine V_getR (r := 33) rfl rfl ?_
        refine V_aload_n rfl rfl (by first | assumption | rfl) ?_
        refine V_iload_n rfl rfl ?_
        -- at 51: .invokevirtual 323
        refine V_callV rfl rfl rfl rfl rfl (c_dab hD1 (by omega) (by omega) hl hk g2) ?_
        rintro _ h2 ⟨rfl, f2⟩
        refine V_iret rfl rfl ?_
        exact ⟨rfl, hi1.fr f2 (by simp; decide), fx1.tr (f2.fo (by simp; decide))⟩
      · exact no (Or.inr (nI_ngt (by omega) (by omega) hl))
  · have hc := ix_no hc
    have ev : aMend st x y = -2 := by unfold aMend; rw [hc]
    rw [ev]
    refine V_bi (v := -2) rfl rfl ?_
    -- at 11: .ireturn
    refine V_iret rfl rfl ?_
    exact xq0 hi
