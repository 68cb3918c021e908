/-! the class: symmetries, their number, orbits -/
theorem bI_nz {b : Bool} : ¬ bI b = 0 ↔ b = true := by cases b <;> simp [bI] <;> decide
def wtd (f x y i : Nat) : Option Nat := if i = x then some y else if i < f then some i else none
theorem c_tak {S : mScr} {dep a n C f x y : Nat} {h : Hp} (hN : NC h a n C) (hf : f ≤ x) (hx : x < n) (hy : y < n) : Cal S (dep + 11) 97 [.ref 10, .ref a, .int (nI f), .int (nI x), .int (nI y)] h (fun q h' => q = some (.int (bI (tak n C f x y))) ∧ Fr [11, 12] h h') := by
  obtain ⟨⟨ha, hn, h0, hg, hb⟩, hC⟩ := id hN
  have hb1 := net_b ha
  have hp1 := pop7 (hb x)
  have hp2 := pop7 (hb y)
  have hge := net_ge ha
  show V S (dep + 11) 97 0 [.ref 10, .ref a, .int (nI f), .int (nI x), .int (nI y), .null] [] h _
  refine V_aload_n rfl rfl (by first | assumption | rfl) ?_
  refine V_iload_n rfl rfl ?_
  -- at 2: .invokevirtual 18
  refine V_cV rfl rfl (by first | assumption | rfl) rfl rfl (c_hn' hN.1 (by omega)) ?_
  rw [decide_eq_true hx]
  refine V_if_eq rfl (fun hc => ?_) (fun hc => ?_)
  · exact absurd hc (by decide)
  · refine V_aload_n rfl rfl (by first | assumption | rfl) ?_
    refine V_iload rfl rfl ?_
    -- at 11: .invokevirtual 18
    refine V_cV rfl rfl (by first | assumption | rfl) rfl rfl (c_hn' hN.1 (by omega)) ?_
    rw [decide_eq_true hy]
    refine V_if_eq rfl (fun hd => ?_) (fun hd => ?_)
    · exact absurd hd (by decide)
    · refine V_aload_n rfl rfl (by first | assumption | rfl) ?_
      refine V_iload_n rfl rfl ?_
      -- at 19: .invokevirtual 24
      refine V_cV rfl rfl (by first | assumption | rfl) rfl rfl (c_degC hN hx) ?_
      refine V_aload_n rfl rfl (by first | assumption | rfl) ?_
      refine V_iload rfl rfl ?_
      -- at 25: .invokevirtual 24
      refine V_cV rfl rfl (by first | assumption | rfl) rfl rfl (c_degC hN hy) ?_
      refine V_icmp_eq rfl (fun he => ?_) (fun he => ?_)
      · refine V_ic (v := nI 0) rfl rfl ?_
        refine V_istore (L' := [_, _, _, _, _, _]) rfl rfl rfl ?_
        -- at 36: .iload 5
        have lp := loopUp (P := fun v => ∀ h1, Fr [11, 12] h h1 → (∀ i, i < v → h1.1 11 i = oI (if i < f then some i else none)) → V S (dep + 11) 97 36 [.ref 10, .ref a, .int (nI f), .int (nI x), .int (nI y), .int (nI v)] [] h1 (fun q h' => q = some (.int (bI (tak n C f x y))) ∧ Fr [11, 12] h h')) 7 ?_ ?_ 0 (Nat.zero_le _)
        · exact lp h Fr.rf (fun i hi => by omega)
        · intro h1 f1 w1
          refine V_iload rfl rfl ?_
          refine V_bi (v := nI 7) rfl rfl ?_
          -- at 40: .if_icmp .ge 28
          refine V_icmp_ge rfl (fun hj => ?_) (fun hj => ?_)
          · refine V_aload_n rfl rfl rfl ?_
            refine V_getR (r := 11) rfl rfl ?_
            refine V_iload_n rfl rfl ?_
            refine V_iload rfl rfl ?_
            refine V_as 7 rfl rfl (by first | with_reducible rfl | assumption | exact nI_sub (by omega) | exact nI_add _ _) (by first | omega | assumption) rfl ?_
            refine V_aload_n rfl rfl rfl ?_
            refine V_aload_n rfl rfl (by first | assumption | rfl) ?_
            refine V_ic (v := nI 0) rfl rfl ?_
            -- at 79: .invokestatic 28
            have f2 : Fr [11, 12] h (wI h1 11 x (nI y)) := f1.tr (Fr.w (by simp))
            have hN2 := hN.fr f2 (by simp; omega) (by simp; omega)
            have hI : SYI (wI h1 11 x (nI y)) n 0 (wtd f x y) (fun _ => 0) := by
              refine ⟨fun i hi => ?_, fun i z hz => ?_, fun i hi => by omega⟩
              · unfold wtd
                by_cases q : i = x
                · rw [if_pos q, q, wI_same]; rfl
                · rw [if_neg q, wI_ne (by omega)]; exact w1 i hi
              · unfold wtd at hz
                by_cases q : i = x
                · rw [if_pos q] at hz; cases hz; exact hy
                · rw [if_neg q] at hz
                  by_cases q2 : i < f
                  · rw [if_pos q2] at hz; cases hz; omega
                  · rw [if_neg q2] at hz; cases hz
            refine V_callS rfl rfl rfl rfl (c_ext n (dep + 10) 0 (fun _ => 0) _ hN2 hI (by omega) ⟨fun i hi => by omega, fun i j hi => by omega, fun i j hi => by omega, fun i hi => by omega⟩ (by omega)) ?_
            rintro _ h3 ⟨f3, b, rfl, hbq⟩
            have hbt : b = tak n C f x y := by
              rw [Bool.eq_iff_iff, hbq, tak_iff]
              constructor
              · rintro ⟨u, h1, _, h3⟩
                refine ⟨u, h1, fun i hi => h3 i (by omega) i ?_, h3 x hx y ?_⟩
                · unfold wtd; rw [if_neg (by omega), if_pos hi]
                · unfold wtd; rw [if_pos rfl]
              · rintro ⟨u, h1, h2, h3⟩
                refine ⟨u, h1, fun i hi => by omega, fun i hi z hz => ?_⟩
                unfold wtd at hz
                by_cases q : i = x
                · rw [if_pos q] at hz; cases hz; rw [q, h3]
                · rw [if_neg q] at hz
                  by_cases q2 : i < f
                  · rw [if_pos q2] at hz; cases hz; exact h2 i q2
                  · rw [if_neg q2] at hz; cases hz
            have hr := bI_01 b
            refine V_zret rfl rfl (by first | exact Or.inl rfl | exact Or.inr rfl | assumption) ?_
            rw [hbt]
            exact ⟨rfl, f2.tr (f3.fr.mono (by simp))⟩
          · exact absurd (by decide) hj
        · intro v hv ih h1 f1 w1
          have key : ∀ z, z = oI (if v < f then some v else none) → V S (dep + 11) 97 61 [.ref 10, .ref a, .int (nI f), .int (nI x), .int (nI y), .int (nI v)] [.int z, .int (nI v), .ref 11] h1 (fun q h' => q = some (.int (bI (tak n C f x y))) ∧ Fr [11, 12] h h') := by
            intro z hz
            refine V_as 7 rfl rfl (by first | with_reducible rfl | assumption | exact nI_sub (by omega) | exact nI_add _ _) (by first | omega | assumption) rfl ?_
            refine V_iinc (L' := [_, _, _, _, _, _]) rfl rfl rfl ?_
            refine V_goto rfl ?_
            -- at 36: .iload 5
            rw [show Int32.ofInt 1 = nI 1 from rfl, nI_add]
            refine ih _ (f1.tr (Fr.w (by simp))) (fun i hi => ?_)
            by_cases q : i = v
            · rw [q, wI_same, hz]
            · rw [wI_ne (by omega)]; exact w1 i (by omega)
          refine V_iload rfl rfl ?_
          refine V_bi (v := nI 7) rfl rfl ?_
          -- at 40: .if_icmp .ge 28
          refine V_icmp_ge rfl (fun hj => ?_) (fun hj => ?_)
          · exact absurd hj (nI_ge hv (by decide))
          · refine V_aload_n rfl rfl rfl ?_
            refine V_getR (r := 11) rfl rfl ?_
            refine V_iload rfl rfl ?_
            refine V_iload rfl rfl ?_
            refine V_iload_n rfl rfl ?_
            -- at 52: .if_icmp .ge 8
            refine V_icmp_ge rfl (fun hl => ?_) (fun hl => ?_)
            · have hl := (nI_leI (by omega) (by omega)).mp hl
              refine V_ic (v := -1) rfl rfl ?_
              -- at 61: .iastore
              exact key _ (by rw [if_neg (by omega)]; rfl)
            · have hl := nI_ngt (by omega) (by omega) hl
              refine V_iload rfl rfl ?_
              refine V_goto rfl ?_
              -- at 61: .iastore
              exact key _ (by rw [if_pos hl]; rfl)
      · refine V_ic (v := nI 0) rfl rfl ?_
        -- at 32: .ireturn
        refine V_zret rfl rfl (by first | exact Or.inl rfl | exact Or.inr rfl | assumption) ?_
        refine ⟨?_, Fr.rf⟩
        rw [show tak n C f x y = false from ?_]; rfl
        cases q : tak n C f x y with
        | false => rfl
        | true =>
          obtain ⟨u, h1, _, h3⟩ := tak_iff.mp q
          have := h1.deg hn hx
          rw [h3] at this
          exact absurd (by rw [this]) he
noncomputable def plcF (n C v : Nat) : Nat → Nat := fun k => cnt (fun b => decide (v ≤ b) && tak n C v v b) k
theorem c_hm {S : mScr} {dep a n C : Nat} {h : Hp} (hN : NC h a n C) : Cal S (dep + 12) 100 [.ref 10, .ref a] h (fun q h' => q = some (.int (nI (hmP n C n))) ∧ Fr [11, 12] h h') := by
  obtain ⟨⟨ha, hn, h0, hg, hb⟩, hC⟩ := id hN
  have hb1 := net_b ha
  have hge := net_ge ha
  show V S (dep + 12) 100 0 [.ref 10, .ref a, .null, .null, .null, .null] [] h _
  refine V_ic (v := nI 1) rfl rfl ?_
  refine V_istore_n (L' := [_, _, _, _, _, _]) rfl rfl rfl ?_
  refine V_ic (v := nI 0) rfl rfl ?_
  refine V_istore_n (L' := [_, _, _, _, _, _]) rfl rfl rfl ?_
  -- at 4: .iload_n 3
  have lp := loopUp (P := fun v => ∀ h1 v4 v5, Fr [11, 12] h h1 → V S (dep + 12) 100 4 [.ref 10, .ref a, .int (nI (hmP n C v)), .int (nI v), v4, v5] [] h1 (fun q h' => q = some (.int (nI (hmP n C n))) ∧ Fr [11, 12] h h')) n ?_ ?_ 0 (Nat.zero_le _)
  · exact lp h _ _ Fr.rf
  · intro h1 v4 v5 f1
    have h01 := (hN.fr f1 (by simp; omega) (by simp; omega)).1.2.2.1
    refine V_iload_n rfl rfl ?_
    refine V_aload_n rfl rfl (by first | assumption | rfl) ?_
    refine V_gi 0 rfl (net_sz (by first | assumption | rfl)) rfl ?_
    -- at 9: .if_icmp .ge 50
    rw [h01]
    refine V_icmp_ge rfl (fun hc => ?_) (fun hc => ?_)
    · refine V_iload_n rfl rfl ?_
      -- at 60: .ireturn
      refine V_iret rfl rfl ?_
      exact ⟨rfl, f1⟩
    · exact absurd (nI_le (Nat.le_refl _) (by omega)) hc
  · intro v hv ih h1 v4 v5 f1
    have h01 := (hN.fr f1 (by simp; omega) (by simp; omega)).1.2.2.1
    refine V_iload_n rfl rfl ?_
    refine V_aload_n rfl rfl (by first | assumption | rfl) ?_
    refine V_gi 0 rfl (net_sz (by first | assumption | rfl)) rfl ?_
    -- at 9: .if_icmp .ge 50
    rw [h01]
    refine V_icmp_ge rfl (fun hc => ?_) (fun hc => ?_)
    · exact absurd hc (nI_ge hv (by omega))
    · refine V_ic (v := nI 0) rfl rfl ?_
      refine V_istore (L' := [_, _, _, _, _, _]) rfl rfl rfl ?_
      refine V_iload_n rfl rfl ?_
      refine V_istore (L' := [_, _, _, _, _, _]) rfl rfl rfl ?_
      -- at 18: .iload 5
      have lq := loopUp (P := fun b => v ≤ b → ∀ h2, Fr [11, 12] h h2 → V S (dep + 12) 100 18 [.ref 10, .ref a, .int (nI (hmP n C v)), .int (nI v), .int (nI (plcF n C v b)), .int (nI b)] [] h2 (fun q h' => q = some (.int (nI (hmP n C n))) ∧ Fr [11, 12] h h')) n ?_ ?_ v (by omega)
      · have := lq (Nat.le_refl _) h1 f1
        rw [show plcF n C v v = 0 from cnt_none (fun i hi => by rw [decide_eq_false (by omega)]; rfl)] at this
        exact this
      · intro _ h2 f2
        have h02 := (hN.fr f2 (by simp; omega) (by simp; omega)).1.2.2.1
        refine V_iload rfl rfl ?_
        refine V_aload_n rfl rfl (by first | assumption | rfl) ?_
        refine V_gi 0 rfl (net_sz (by first | assumption | rfl)) rfl ?_
        -- at 24: .if_icmp .ge 24
        rw [h02]
        refine V_icmp_ge rfl (fun hd => ?_) (fun hd => ?_)
        · refine V_iload_n rfl rfl ?_
          refine V_iload rfl rfl ?_
          refine V_imul rfl ?_
          refine V_istore_n (L' := [_, _, _, _, _, _]) rfl rfl rfl ?_
          -- at 53: .iinc 3 1
          rw [nI_mul]
          refine V_iinc (L' := [_, _, _, _, _, _]) rfl rfl rfl ?_
          refine V_goto rfl ?_
          -- at 4: .iload_n 3
          rw [show Int32.ofInt 1 = nI 1 from rfl, nI_add]
          exact ih h2 _ _ f2
        · exact absurd (nI_le (Nat.le_refl _) (by omega)) hd
      · intro b hb2 ih2 hvb h2 f2
        have hN2 := hN.fr f2 (by simp; omega) (by simp; omega)
        have h02 := hN2.1.2.2.1
        refine V_iload rfl rfl ?_
        refine V_aload_n rfl rfl (by first | assumption | rfl) ?_
        refine V_gi 0 rfl (net_sz (by first | assumption | rfl)) rfl ?_
        -- at 24: .if_icmp .ge 24
        rw [h02]
        refine V_icmp_ge rfl (fun hd => ?_) (fun hd => ?_)
        · exact absurd hd (nI_ge hb2 (by omega))
        · refine V_aload_n rfl rfl rfl ?_
          refine V_aload_n rfl rfl (by first | assumption | rfl) ?_
          refine V_iload_n rfl rfl ?_
          refine V_iload_n rfl rfl ?_
          refine V_iload rfl rfl ?_
          -- at 33: .invokevirtual 44
          refine V_callV rfl rfl rfl rfl rfl (c_tak hN2 (Nat.le_refl _) hv hb2) ?_
          rintro _ h3 ⟨rfl, f3⟩
          have e : plcF n C v (b + 1) = plcF n C v b + if tak n C v v b = true then 1 else 0 := by
            unfold plcF
            rw [cnt, decide_eq_true hvb, Bool.true_and]
          refine V_if_eq rfl (fun he => ?_) (fun he => ?_)
          · have he := bI_z.mp he
            rw [he] at e
            refine V_iinc (L' := [_, _, _, _, _, _]) rfl rfl rfl ?_
            refine V_goto rfl ?_
            -- at 18: .iload 5
            rw [show Int32.ofInt 1 = nI 1 from rfl, nI_add]
            rw [show plcF n C v b = plcF n C v (b + 1) by rw [e]; rfl]
            exact ih2 (by omega) h3 (f2.tr f3)
          · have he := bI_nz.mp he
            rw [he] at e
            refine V_iinc (L' := [_, _, _, _, _, _]) rfl rfl rfl ?_
            refine V_iinc (L' := [_, _, _, _, _, _]) rfl rfl rfl ?_
            refine V_goto rfl ?_
            -- at 18: .iload 5
            rw [show Int32.ofInt 1 = nI 1 from rfl, nI_add, nI_add]
            rw [show plcF n C v b + 1 = plcF n C v (b + 1) by rw [e]; rfl]
            exact ih2 (by omega) h3 (f2.tr f3)
theorem c_lof {S : mScr} {dep a n C x : Nat} {h : Hp} (hN : NC h a n C) (hx : x < n) : Cal S (dep + 12) 101 [.ref 10, .ref a, .int (nI x)] h (fun q h' => q = some (.int (nI (orb n C x))) ∧ Fr [11, 12] h h') := by
  obtain ⟨⟨ha, hn, h0, hg, hb⟩, hC⟩ := id hN
  have hb1 := net_b ha
  have hge := net_ge ha
  show V S (dep + 12) 101 0 [.ref 10, .ref a, .int (nI x), .null] [] h _
  refine V_ic (v := nI 0) rfl rfl ?_
  refine V_istore_n (L' := [_, _, _, _]) rfl rfl rfl ?_
  -- at 2: .iload_n 3
  have lp := loopUp (P := fun b => ∀ h1, Fr [11, 12] h h1 → orb n C x = lof n C x (x - b) b → V S (dep + 12) 101 2 [.ref 10, .ref a, .int (nI x), .int (nI b)] [] h1 (fun q h' => q = some (.int (nI (orb n C x))) ∧ Fr [11, 12] h h')) x ?_ ?_ 0 (Nat.zero_le _)
  · exact lp h Fr.rf (lof_orb hn hC hx).symm
  · intro h1 f1 e1
    rw [Nat.sub_self, lof] at e1
    refine V_iload_n rfl rfl ?_
    refine V_iload_n rfl rfl ?_
    -- at 4: .if_icmp .ge 22
    refine V_icmp_ge rfl (fun hc => ?_) (fun hc => ?_)
    · refine V_iload_n rfl rfl ?_
      -- at 27: .ireturn
      refine V_iret rfl rfl ?_
      exact ⟨by rw [e1], f1⟩
    · exact absurd (nI_le (Nat.le_refl _) (by omega)) hc
  · intro b hb2 ih h1 f1 e1
    rw [show x - b = (x - (b + 1)) + 1 by omega, lof] at e1
    have hN1 := hN.fr f1 (by simp; omega) (by simp; omega)
    refine V_iload_n rfl rfl ?_
    refine V_iload_n rfl rfl ?_
    -- at 4: .if_icmp .ge 22
    refine V_icmp_ge rfl (fun hc => ?_) (fun hc => ?_)
    · exact absurd hc (nI_ge hb2 (by omega))
    · refine V_aload_n rfl rfl rfl ?_
      refine V_aload_n rfl rfl (by first | assumption | rfl) ?_
      refine V_ic (v := nI 0) rfl rfl ?_
      refine V_iload_n rfl rfl ?_
      refine V_iload_n rfl rfl ?_
      -- at 12: .invokevirtual 44
      refine V_callV rfl rfl rfl rfl rfl (c_tak hN1 (Nat.zero_le _) hx (by omega)) ?_
      rintro _ h3 ⟨rfl, f3⟩
      refine V_if_eq rfl (fun he => ?_) (fun he => ?_)
      · have he := bI_z.mp he
        rw [he, if_neg (by simp)] at e1
        refine V_iinc (L' := [_, _, _, _]) rfl rfl rfl ?_
        refine V_goto rfl ?_
        -- at 2: .iload_n 3
        rw [show Int32.ofInt 1 = nI 1 from rfl, nI_add]
        exact ih h3 (f1.tr f3) e1
      · have he := bI_nz.mp he
        rw [he, if_pos rfl] at e1
        refine V_iload_n rfl rfl ?_
        -- at 19: .ireturn
        refine V_iret rfl rfl ?_
        exact ⟨by rw [e1], f1.tr f3⟩
theorem c_oc {S : mScr} {dep a n C : Nat} {h : Hp} (hN : NC h a n C) : Cal S (dep + 13) 102 [.ref 10, .ref a] h (fun q h' => q = some (.int (nI (cnt (fun v => decide (orb n C v = v)) n))) ∧ Fr [11, 12] h h') := by
  obtain ⟨⟨ha, hn, h0, hg, hb⟩, hC⟩ := id hN
  have hb1 := net_b ha
  have hge := net_ge ha
  show V S (dep + 13) 102 0 [.ref 10, .ref a, .null, .null] [] h _
  refine V_ic (v := nI 0) rfl rfl ?_
  refine V_istore_n (L' := [_, _, _, _]) rfl rfl rfl ?_
  refine V_ic (v := nI 0) rfl rfl ?_
  refine V_istore_n (L' := [_, _, _, _]) rfl rfl rfl ?_
  -- at 4: .iload_n 3
  have lp := loopUp (P := fun v => ∀ h1, Fr [11, 12] h h1 → V S (dep + 13) 102 4 [.ref 10, .ref a, .int (nI (cnt (fun v => decide (orb n C v = v)) v)), .int (nI v)] [] h1 (fun q h' => q = some (.int (nI (cnt (fun v => decide (orb n C v = v)) n))) ∧ Fr [11, 12] h h')) n ?_ ?_ 0 (Nat.zero_le _)
  · exact lp h Fr.rf
  · intro h1 f1
    have h01 := (hN.fr f1 (by simp; omega) (by simp; omega)).1.2.2.1
    refine V_iload_n rfl rfl ?_
    refine V_aload_n rfl rfl (by first | assumption | rfl) ?_
    refine V_gi 0 rfl (net_sz (by first | assumption | rfl)) rfl ?_
    -- at 9: .if_icmp .ge 22
    rw [h01]
    refine V_icmp_ge rfl (fun hc => ?_) (fun hc => ?_)
    · refine V_iload_n rfl rfl ?_
      -- at 32: .ireturn
      refine V_iret rfl rfl ?_
      exact ⟨rfl, f1⟩
    · exact absurd (nI_le (Nat.le_refl _) (by omega)) hc
  · intro v hv ih h1 f1
    have hN1 := hN.fr f1 (by simp; omega) (by simp; omega)
    have h01 := hN1.1.2.2.1
    refine V_iload_n rfl rfl ?_
    refine V_aload_n rfl rfl (by first | assumption | rfl) ?_
    refine V_gi 0 rfl (net_sz (by first | assumption | rfl)) rfl ?_
    -- at 9: .if_icmp .ge 22
    rw [h01]
    refine V_icmp_ge rfl (fun hc => ?_) (fun hc => ?_)
    · exact absurd hc (nI_ge hv (by omega))
    · refine V_aload_n rfl rfl rfl ?_
      refine V_aload_n rfl rfl (by first | assumption | rfl) ?_
      refine V_iload_n rfl rfl ?_
      -- at 15: .invokevirtual 48
      refine V_callV rfl rfl rfl rfl rfl (c_lof hN1 hv) ?_
      rintro _ h3 ⟨rfl, f3⟩
      show V S (dep + 13) 102 18 [.ref 10, .ref a, .int (nI (cnt (fun v => decide (orb n C v = v)) v)), .int (nI v)] [.int (nI (orb n C v))] h3 _
      have ho := (orb_spec hn hC hv).2.1
      rw [cnt] at ih
      refine V_iload_n rfl rfl ?_
      -- at 19: .if_icmp .ne 6
      refine V_icmp_ne rfl (fun he => ?_) (fun he => ?_)
      · have he : ¬ orb n C v = v := fun q => he (by rw [q])
        rw [decide_eq_false he] at ih
        refine V_iinc (L' := [_, _, _, _]) rfl rfl rfl ?_
        refine V_goto rfl ?_
        -- at 4: .iload_n 3
        rw [show Int32.ofInt 1 = nI 1 from rfl, nI_add]
        exact ih h3 (f1.tr f3)
      · have he := nI_inj (by omega) (by omega) (Decidable.of_not_not he)
        rw [decide_eq_true he] at ih
        refine V_iinc (L' := [_, _, _, _]) rfl rfl rfl ?_
        refine V_iinc (L' := [_, _, _, _]) rfl rfl rfl ?_
        refine V_goto rfl ?_
        -- at 4: .iload_n 3
        rw [show Int32.ofInt 1 = nI 1 from rfl, nI_add, nI_add]
        exact ih h3 (f1.tr f3)
