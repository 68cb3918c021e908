/-! the class: answers of a deck -/
theorem deck_37 : ∀ a, a < 208 → isDeck a = true → 37 ≤ a := by decide +kernel
theorem deck_ge {a : Nat} (h : isDeck a = true) : 37 ≤ a := deck_37 a (shC_lt h) h
def WD (cs : List Nat) : Prop := 2 ≤ cs.length ∧ cs.length ≤ 7 ∧ Srtd cs ∧ ∀ x ∈ cs, x < 2 ^ tri (cs.length - 1) ∧ frm (cs.length - 1) x = x
def acd (cs : List Nat) (j : Nat) : Nat := cs.getD 0 0 ||| j <<< tri (cs.length - 1)
def okA (cs : List Nat) (j : Nat) : Bool := decide (dck cs.length (acd cs j) = cs)
def fnd (cs : List Nat) : Nat → List Nat
  | 0 => []
  | j + 1 => if okA cs j = true then insU (frm cs.length (acd cs j)) (fnd cs j) else fnd cs j
def ansL (cs : List Nat) : List Nat := fnd cs (2 ^ (cs.length - 1))
theorem insU_len (x : Nat) (l : List Nat) : (insU x l).length ≤ l.length + 1 := by
  induction l with
  | nil => simp [insU]
  | cons y ys ih =>
    rw [insU]
    split
    · simp; omega
    · split <;> simp
theorem fnd_len (cs : List Nat) : ∀ j, (fnd cs j).length ≤ j := by
  intro j
  induction j with
  | zero => exact Nat.le_refl _
  | succ j ih =>
    rw [fnd]
    split
    · have := insU_len (frm cs.length (acd cs j)) (fnd cs j); omega
    · omega
theorem shift_lt {C j n : Nat} (hn : 1 ≤ n) (hC : C < 2 ^ tri (n - 1)) (hj : j < 2 ^ (n - 1)) : C ||| j <<< tri (n - 1) < 2 ^ tri n := by
  have e : tri n = tri (n - 1) + (n - 1) := by
    obtain ⟨m, rfl⟩ : ∃ m, n = m + 1 := ⟨n - 1, by omega⟩
    rw [show m + 1 - 1 = m from rfl, tri_succ]
  rw [e]
  refine Nat.or_lt_two_pow (Nat.lt_of_lt_of_le hC (Nat.pow_le_pow_right (by decide) (by omega))) ?_
  rw [Nat.shiftLeft_eq, Nat.pow_add, Nat.mul_comm]
  exact Nat.mul_lt_mul_of_pos_left hj (Nat.two_pow_pos _)
theorem WD.hd {cs : List Nat} (h : WD cs) : cs.getD 0 0 < 2 ^ tri (cs.length - 1) := (h.2.2.2 _ (getD_mem (by have := h.1; omega))).1
theorem WD.at {cs : List Nat} (h : WD cs) {i : Nat} (hi : i < cs.length) : cs.getD i 0 < 2 ^ tri (cs.length - 1) := (h.2.2.2 _ (getD_mem hi)).1
theorem acd_lt {cs : List Nat} {j : Nat} (h : WD cs) (hj : j < 2 ^ (cs.length - 1)) : acd cs j < 2 ^ tri cs.length := shift_lt (by have := h.1; omega) h.hd hj
theorem pop_acd {C j T m : Nat} (hC : C < 2 ^ T) (hj : j < 2 ^ m) (hTm : T + m ≤ 24) : pop (C ||| j <<< T) = pop C + pop j := by
  have hlt : C ||| j <<< T < 2 ^ (T + m) := by
    refine Nat.or_lt_two_pow (Nat.lt_of_lt_of_le hC (Nat.pow_le_pow_right (by decide) (by omega))) ?_
    rw [Nat.shiftLeft_eq, Nat.pow_add, Nat.mul_comm]
    exact Nat.mul_lt_mul_of_pos_left hj (Nat.two_pow_pos _)
  rw [pop_eq hlt hTm, cnt_add, pop_eq hC (by omega), pop_eq hj (by omega)]
  congr 1
  · refine cnt_ext (fun i hi => ?_)
    rw [Nat.testBit_or, Nat.testBit_shiftLeft]
    have : ¬ T ≤ i := by omega
    simp [this]
  · refine cnt_ext (fun i hi => ?_)
    rw [Nat.testBit_or, Nat.testBit_shiftLeft, show T + i - T = i by omega]
    have h1 : C.testBit (T + i) = false := Nat.testBit_lt_two_pow (Nat.lt_of_lt_of_le hC (Nat.pow_le_pow_right (by decide) (by omega)))
    rw [h1]; simp
theorem okA_told {cs : List Nat} {j : Nat} (h : WD cs) (hj : j < 2 ^ (cs.length - 1)) (h3 : 3 ≤ cs.length) (ho : okA cs j = true) : tldL cs = some (pop (cs.getD 0 0) + pop j) := by
  have e := of_decide_eq_true ho
  have h1 := tldL_dck h.2.1 h3 (acd_lt h hj)
  rw [e] at h1
  have ht : tri (cs.length - 1) + (cs.length - 1) ≤ 24 := by
    have := tri_le h.2.1
    have h2 := tri_succ (cs.length - 1)
    have h4 := h.1
    rw [show cs.length - 1 + 1 = cs.length by omega] at h2
    omega
  have h2 := pop_acd h.hd hj ht
  rw [h1]
  exact congrArg some h2
theorem fnd_none {cs : List Nat} : ∀ j, (∀ i, i < j → okA cs i = false) → fnd cs j = [] := by
  intro j
  induction j with
  | zero => intro _; rfl
  | succ j ih => intro h; rw [fnd, h j (by omega), if_neg (by simp)]; exact ih (fun i hi => h i (by omega))
theorem nI_eq_sub {x t p : Nat} (hx : x + p < 2 ^ 31) (ht : t < 2 ^ 31) : nI x = nI t - nI p ↔ x + p = t := by
  constructor
  · intro h
    have e : nI (x + p) = nI t := by
      rw [← nI_add, h]
      apply nI_ext
      show (nI t).toBitVec - (nI p).toBitVec + (nI p).toBitVec = (nI t).toBitVec
      rw [BitVec.sub_add_cancel]
    exact nI_inj hx ht e
  · intro h
    rw [← h, nI_sub (Nat.le_add_left p x), Nat.add_sub_cancel]
theorem c_fndA {S : mScr} {dep b : Nat} {cs : List Nat} {h : Hp} (hD : DK h b cs) (hW : WD cs) : Cal S (dep + 12) 91 [.ref 25, .ref b] h (fun q h' => q = some (.int (nI (ansL cs).length)) ∧ FL h' (ansL cs) ∧ Fr [6, 7, 8, 9, 21, 22, 25, 26, 27, 28, 29, 30, 32] h h') := by
  obtain ⟨hd, hd7, hd0, hdA, hdb⟩ := id hD
  obtain ⟨hw2, hw7, hws, hwx⟩ := id hW
  have hb1 := deck_b hd
  have hb2 := deck_b1 hd
  have hge := deck_ge hd
  have hsb : b ∉ [6, 7, 8, 9, 21, 22, 25, 26, 27, 28, 29, 30, 32] ∧ b + 1 ∉ [6, 7, 8, 9, 21, 22, 25, 26, 27, 28, 29, 30, 32] := by simp; omega
  have hL : (2 : Nat) ^ (cs.length - 1) ≤ 64 := Nat.pow_le_pow_right (n := 2) (j := 6) (by decide) (by omega)
  have h2p := Nat.two_pow_pos (cs.length - 1)
  have hc0 := hW.hd
  have hc21 : cs.getD 0 0 < 2 ^ 21 := hdb _ (getD_mem (by omega))
  have hp0 := pop21 hc21
  obtain ⟨Q, hQ⟩ : ∃ Q : Option Value → Hp → Prop, Q = fun q h' => q = some (.int (nI (ansL cs).length)) ∧ FL h' (ansL cs) ∧ Fr [6, 7, 8, 9, 21, 22, 25, 26, 27, 28, 29, 30, 32] h h' := ⟨_, rfl⟩
  rw [← hQ]
  show V S (dep + 12) 91 0 [.ref 25, .ref b, .null, .null, .null] [] h _
  have f0 : Fr [6, 7, 8, 9, 21, 22, 25, 26, 27, 28, 29, 30, 32] h (wI h 25 7 (nI 0)) := Fr.w (by simp)
  have hF0 : FL (wI h 25 7 (nI 0)) [] := ⟨wI_same, by simp, fun i hi => by simp at hi, fun x hx => by simp at hx⟩
  have hD0 := hD.fr f0 hsb.1 hsb.2
  refine V_aload_n rfl rfl rfl ?_
  refine V_ic (v := nI 0) rfl rfl ?_
  refine V_pi 7 rfl rfl rfl rfl ?_
  refine V_aload_n rfl rfl (by first | assumption | rfl) ?_
  -- at 6: .invokevirtual 71
  refine V_cV rfl rfl (by first | assumption | rfl) rfl rfl (c_tld hD0) ?_
  have body : (3 ≤ cs.length → ∃ t, tldL cs = some t) → V S (dep + 12) 91 33 [.ref 25, .ref b, .int (oI (tldL cs)), .null, .null] [] (wI h 25 7 (nI 0)) Q := by
    intro ht
    refine V_iload_n rfl rfl ?_
    refine V_aload_n rfl rfl (by first | assumption | rfl) ?_
    refine V_ic (v := nI 0) rfl rfl ?_
    -- at 36: .invokevirtual 97
    refine V_cV rfl rfl (by first | assumption | rfl) rfl rfl (c_lno hD0 (by omega)) ?_
    refine V_isub rfl ?_
    refine V_istore_n (L' := [_, _, _, _, _]) rfl rfl rfl ?_
    refine V_aload_n rfl rfl rfl ?_
    refine V_getR (r := 26) rfl rfl ?_
    refine V_aload_n rfl rfl (by first | assumption | rfl) ?_
    -- at 46: .getfield 43
    refine V_gi 0 rfl (deck_sz hd) rfl ?_
    rw [hD0.2.2.1]
    refine V_ic (v := nI 1) rfl rfl ?_
    refine V_isub rfl ?_
    -- at 51: .aload_n 1
    rw [nI_sub (by omega)]
    refine V_aload_n rfl rfl hb1 ?_
    refine V_getR rfl (deck_cd hd) ?_
    refine V_ic (v := nI 0) rfl rfl ?_
    refine V_al 7 rfl (deck_ar (by first | assumption | rfl)) (by first | with_reducible rfl | assumption | exact nI_sub (by omega) | exact nI_add _ _) (by first | omega | assumption) rfl ?_
    -- at 57: .invokevirtual 51
    rw [hD0.2.2.2.1 0 (by omega)]
    refine V_callV rfl rfl rfl rfl rfl (c_load (a := 26) rfl (by omega) hc0) ?_
    rintro _ h1 ⟨rfl, hN1, f1⟩
    have hF1 : FL h1 [] := ⟨by rw [f1.1 25 (by simp)]; exact hF0.1, by simp, fun i hi => by simp at hi, fun x hx => by simp at hx⟩
    have f1 : Fr [6, 7, 8, 9, 21, 22, 25, 26, 27, 28, 29, 30, 32] h h1 := f0.tr (f1.mono (by simp))
    obtain ⟨D, hDg⟩ : ∃ D, D = oI (tldL cs) - nI (pop (cs.getD 0 0)) := ⟨_, rfl⟩
    show V S (dep + 12) 91 60 [.ref 25, .ref b, .int (oI (tldL cs)), .int (oI (tldL cs) - nI (pop (cs.getD 0 0))), .null] [] h1 _
    rw [← hDg]
    refine V_ic (v := nI 0) rfl rfl ?_
    refine V_istore (L' := [_, _, _, _, _]) rfl rfl rfl ?_
    -- at 63: .iload 4
    have lp := loopUp (P := fun j => ∀ h2, Fr [6, 7, 8, 9, 21, 22, 25, 26, 27, 28, 29, 30, 32] h h2 → NC h2 26 (cs.length - 1) (cs.getD 0 0) → FL h2 (fnd cs j) → V S (dep + 12) 91 63 [.ref 25, .ref b, .int (oI (tldL cs)), .int D, .int (nI j)] [] h2 Q) (2 ^ (cs.length - 1)) ?_ ?_ 0 (Nat.zero_le _)
    · exact lp h1 f1 hN1 hF1
    · intro h2 f2 hN2 hF2
      refine V_iload rfl rfl ?_
      refine V_aload_n rfl rfl rfl ?_
      refine V_getR (r := 26) rfl rfl ?_
      -- at 69: .invokevirtual 100
      refine V_cV rfl rfl rfl rfl rfl (c_evn hN2.1) ?_
      refine V_icmp_gt rfl (fun hc => ?_) (fun hc => ?_)
      · refine V_aload_n rfl rfl rfl ?_
        refine V_gi 7 rfl rfl rfl ?_
        -- at 149: .ireturn
        rw [hF2.1]
        refine V_iret rfl rfl ?_
        rw [hQ]
        exact ⟨rfl, hF2, f2⟩
      · exact absurd (nI_lt (by omega) (by omega)) hc
    · intro j hj ih h2 f2 hN2 hF2
      have hD2 := hD.fr f2 hsb.1 hsb.2
      have hpj : pop j ≤ 6 := pop_le (n := 6) (by omega) (by decide)
      have next : ∀ h3, Fr [6, 7, 8, 9, 21, 22, 25, 26, 27, 28, 29, 30, 32] h h3 → NC h3 26 (cs.length - 1) (cs.getD 0 0) → FL h3 (fnd cs (j + 1)) → V S (dep + 12) 91 139 [.ref 25, .ref b, .int (oI (tldL cs)), .int D, .int (nI j)] [] h3 Q := by
        intro h3 f3 hN3 hF3
        refine V_iinc (L' := [_, _, _, _, _]) rfl rfl rfl ?_
        refine V_goto rfl ?_
        -- at 63: .iload 4
        rw [show Int32.ofInt 1 = nI 1 from rfl, nI_add]
        exact ih h3 f3 hN3 hF3
      have try1 : V S (dep + 12) 91 92 [.ref 25, .ref b, .int (oI (tldL cs)), .int D, .int (nI j)] [] h2 Q := by
        refine V_aload_n rfl rfl rfl ?_
        refine V_getR (r := 28) rfl rfl ?_
        refine V_aload_n rfl rfl rfl ?_
        refine V_getR (r := 26) rfl rfl ?_
        -- at 100: .invokevirtual 103
        refine V_callV rfl rfl rfl rfl rfl (c_copy (a := 28) hN2 rfl (by decide) (by decide) (by decide)) ?_
        rintro _ h3 ⟨rfl, hT3, f3⟩
        show V S (dep + 12) 91 103 [.ref 25, .ref b, .int (oI (tldL cs)), .int D, .int (nI j)] [] h3 _
        have hN3 := hN2.fr f3 (by decide) (by decide)
        have hF3 : FL h3 (fnd cs j) := ⟨by rw [f3.1 25 (by simp)]; exact hF2.1, hF2.2.1, hF2.2.2.1.fr f3 (by simp), hF2.2.2.2⟩
        have f3 : Fr [6, 7, 8, 9, 21, 22, 25, 26, 27, 28, 29, 30, 32] h h3 := f2.tr (f3.mono (by simp))
        refine V_aload_n rfl rfl rfl ?_
        refine V_getR (r := 28) rfl rfl ?_
        refine V_iload rfl rfl ?_
        -- at 109: .invokevirtual 107
        refine V_callV rfl rfl rfl rfl rfl (c_app hT3 (by omega) hj) ?_
        rintro _ h4 ⟨rfl, hT4, f4⟩
        show V S (dep + 12) 91 112 [.ref 25, .ref b, .int (oI (tldL cs)), .int D, .int (nI j)] [] h4 _
        rw [show cs.length - 1 + 1 = cs.length by omega] at hT4
        have hN4 := hN3.fr f4 (by decide) (by decide)
        have hF4 : FL h4 (fnd cs j) := ⟨by rw [f4.1 25 (by simp)]; exact hF3.1, hF3.2.1, hF3.2.2.1.fr f4 (by simp), hF3.2.2.2⟩
        have f4 : Fr [6, 7, 8, 9, 21, 22, 25, 26, 27, 28, 29, 30, 32] h h4 := f3.tr (f4.mono (by simp))
        have hD4 := hD.fr f4 hsb.1 hsb.2
        refine V_aload_n rfl rfl rfl ?_
        refine V_aload_n rfl rfl rfl ?_
        refine V_getR (r := 28) rfl rfl ?_
        refine V_aload_n rfl rfl (by first | assumption | rfl) ?_
        -- at 118: .invokevirtual 111
        refine V_callV rfl rfl rfl rfl rfl (c_hasD hT4 hD4 rfl hws) ?_
        rintro _ h5 ⟨rfl, f5⟩
        have eok : decide (dck cs.length (cs.getD 0 0 ||| j <<< tri (cs.length - 1)) = cs) = okA cs j := rfl
        rw [eok]
        show V S (dep + 12) 91 121 [.ref 25, .ref b, .int (oI (tldL cs)), .int D, .int (nI j)] [.int (bI (okA cs j))] h5 _
        have hN5 := hN4.fr f5 (by decide) (by decide)
        have hT5 := hT4.fr f5 (by decide) (by decide)
        have hF5 : FL h5 (fnd cs j) := ⟨by rw [f5.1 25 (by simp)]; exact hF4.1, hF4.2.1, hF4.2.2.1.fr f5 (by simp), hF4.2.2.2⟩
        have f5 : Fr [6, 7, 8, 9, 21, 22, 25, 26, 27, 28, 29, 30, 32] h h5 := f4.tr (f5.mono (by simp))
        refine V_if_eq rfl (fun he => ?_) (fun he => ?_)
        · have he := bI_z.mp he
          exact next h5 f5 hN5 (by rw [fnd, he, if_neg (by simp)]; exact hF5)
        · have he := bI_nz.mp he
          refine V_aload_n rfl rfl rfl ?_
          refine V_aload_n rfl rfl rfl ?_
          refine V_getR (r := 20) rfl rfl ?_
          refine V_aload_n rfl rfl rfl ?_
          refine V_getR (r := 28) rfl rfl ?_
          -- at 133: .invokevirtual 115
          refine V_callV rfl rfl rfl rfl rfl (c_dform hT5) ?_
          rintro _ h6 ⟨rfl, f6⟩
          show V S (dep + 12) 91 136 [.ref 25, .ref b, .int (oI (tldL cs)), .int D, .int (nI j)] [.int (nI (frm cs.length (acd cs j))), .ref 25] h6 _
          have hN6 := hN5.fr f6 (by decide) (by decide)
          have hF6 : FL h6 (fnd cs j) := ⟨by rw [f6.1 25 (by simp)]; exact hF5.1, hF5.2.1, hF5.2.2.1.fr f6 (by simp), hF5.2.2.2⟩
          have f6 : Fr [6, 7, 8, 9, 21, 22, 25, 26, 27, 28, 29, 30, 32] h h6 := f5.tr (f6.mono (by simp))
          have hlen := fnd_len cs j
          refine V_callV rfl rfl rfl rfl rfl (c_addF hF6 (frm21 hw7) (by omega)) ?_
          rintro _ h7 ⟨rfl, hF7, f7⟩
          show V S (dep + 12) 91 139 [.ref 25, .ref b, .int (oI (tldL cs)), .int D, .int (nI j)] [] h7 _
          exact next h7 (f6.tr (f7.mono (by simp))) (hN6.fr f7 (by decide) (by decide)) (by rw [fnd, if_pos he]; exact hF7)
      refine V_iload rfl rfl ?_
      refine V_aload_n rfl rfl rfl ?_
      refine V_getR (r := 26) rfl rfl ?_
      -- at 69: .invokevirtual 100
      refine V_cV rfl rfl rfl rfl rfl (c_evn hN2.1) ?_
      refine V_icmp_gt rfl (fun hc => ?_) (fun hc => ?_)
      · exact absurd hc (nI_nlt (by omega) (by omega))
      · refine V_aload_n rfl rfl hb1 ?_
        refine V_gi 0 rfl (deck_sz hd) rfl ?_
        rw [hD2.2.2.1]
        refine V_ic (v := nI 2) rfl rfl ?_
        -- at 80: .if_icmp .eq 12
        refine V_icmp_eq rfl (fun hd2 => ?_) (fun hd2 => ?_)
        · exact try1
        · have h3 : 3 ≤ cs.length := by
            have : cs.length ≠ 2 := fun q => hd2 (by rw [q])
            omega
          obtain ⟨t, htt⟩ := ht h3
          have htl := tldL_le hdb hw7 htt
          have hDt : D = nI t - nI (pop (cs.getD 0 0)) := by rw [hDg, htt]; rfl
          refine V_iload rfl rfl ?_
          -- at 85: .invokestatic 91
          refine V_cS rfl rfl rfl rfl (c_bc (by omega)) ?_
          refine V_iload_n rfl rfl ?_
          -- at 89: .if_icmp .ne 50
          refine V_icmp_ne rfl (fun he => ?_) (fun he => ?_)
          · have hno : okA cs j = false := by
              cases q : okA cs j with
              | false => rfl
              | true =>
                have := okA_told hW hj h3 q
                rw [htt] at this
                have e2 : t = pop (cs.getD 0 0) + pop j := Option.some.inj this
                exact absurd (by rw [hDt]; exact (nI_eq_sub (by omega) (by omega)).mpr (by omega)) he
            exact next h2 f2 hN2 (by rw [fnd, hno, if_neg (by simp)]; exact hF2)
          · exact try1
  refine V_istore_n (L' := [_, _, _, _, _]) rfl rfl rfl ?_
  refine V_aload_n rfl rfl (by first | assumption | rfl) ?_
  refine V_gi 0 rfl (deck_sz (by first | assumption | rfl)) rfl ?_
  refine V_ic (v := nI 2) rfl rfl ?_
  -- at 15: .if_icmp .lt 16
  rw [hD0.2.2.1]
  refine V_icmp_lt rfl (fun hc => ?_) (fun hc => ?_)
  · exact absurd hc (nI_nlt (by omega) (by omega))
  · refine V_aload_n rfl rfl hb1 ?_
    refine V_gi 0 rfl (deck_sz hd) rfl ?_
    rw [hD0.2.2.1]
    refine V_ic (v := nI 3) rfl rfl ?_
    -- at 23: .if_icmp .lt 10
    refine V_icmp_lt rfl (fun he => ?_) (fun he => ?_)
    · have he := (nI_ltI (by omega) (by omega)).mp he
      exact body (fun q => by omega)
    · have he : 3 ≤ cs.length := by
        apply Classical.byContradiction
        intro q
        exact he (nI_lt (by omega) (by omega))
      refine V_iload_n rfl rfl ?_
      refine V_ic (v := -1) rfl rfl ?_
      -- at 28: .if_icmp .ne 5
      refine V_icmp_ne rfl (fun hf => ?_) (fun hf => ?_)
      · refine body (fun _ => ?_)
        cases q : tldL cs with
        | none => rw [q] at hf; exact absurd rfl hf
        | some t => exact ⟨t, rfl⟩
      · have hf : tldL cs = none := by
          cases q : tldL cs with
          | none => rfl
          | some t =>
            have htl := tldL_le hdb hw7 q
            rw [q] at hf
            have := (oI_none (o := some t) (fun x hx => by cases hx; omega)).mp (Decidable.of_not_not hf)
            cases this
        refine V_ic (v := nI 0) rfl rfl ?_
        -- at 32: .ireturn
        refine V_iret rfl rfl ?_
        rw [hQ]
        have e : ansL cs = [] := fnd_none _ (fun i hi => by
          cases q : okA cs i with
          | false => rfl
          | true => have := okA_told hW hi he q; rw [hf] at this; cases this)
        rw [e]
        exact ⟨rfl, hF0, f0⟩
