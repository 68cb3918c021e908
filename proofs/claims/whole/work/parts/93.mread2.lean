/-! the reference: words, numbers, pairs -/
def ks (w : Nat) : Nat := [1, 5, 10, 15].getD w 0
theorem ks_f : ∀ w, w < 3 → ks w < 15 ∧ 0 < (wds w).length ∧ (wds w).length ≤ 4 ∧ ks (w + 1) = ks w + (wds w).length + 1 ∧ ks w + (wds w).length < 15 ∧ (wds 3).getD (ks w + (wds w).length) 0 = 32 := by decide
theorem ks_g : ∀ w, w < 3 → ∀ i, i < 4 → i < (wds w).length → (wds 3).getD (ks w + i) 0 = (wds w).getD i 0 ∧ (wds w).getD i 0 ≠ 32 ∧ (wds w).getD i 0 < 128 := by decide
def wdv (T : Nat → Int32) (N p : Nat) : Int32 := if isW T N p 0 = true then nI 0 else if isW T N p 1 = true then nI 1 else if isW T N p 2 = true then nI 2 else -1
theorem m_wrd {S : mScr} {dep N q : Nat} {T : Nat → Int32} {h : Hp} (hb : BT T) (hs : RM h T N q) : Cal S (dep + 5) 184 [.ref 188] h (fun r h' => r = some (.int (wdv T N (sk T N q))) ∧ RM h' T N (sk T N q) ∧ MF [12] [] h h') := by
  have h600 := hs.1.2.2.2.2
  have hle := sk_le (T := T) hs.1.2.2.2.1
  obtain ⟨p, hp⟩ : ∃ p, p = sk T N q := ⟨_, rfl⟩
  rw [← hp] at hle
  rw [← hp]
  obtain ⟨Q, hQ⟩ : ∃ Q : Option Value → Hp → Prop, Q = (fun r h' => r = some (.int (wdv T N p)) ∧ RM h' T N p ∧ MF [12] [] h h') := ⟨_, rfl⟩
  rw [← hQ]
  show V S (dep + 5) 184 0 [.ref 188, .null, .null, .null, .null, .null, .null] [] h _
  refine V_aload_n rfl rfl rfl ?_
  refine V_gi 13 rfl rfl rfl ?_
  -- at 4: .ifCond .ne 13
  rw [hs.2.1]
  refine V_if_ne rfl (fun hc => ?_) (fun hc => ?_)
  · exact absurd rfl hc
  · refine V_aload_n rfl rfl rfl ?_
    -- at 8: .invokevirtual 146
    refine V_callV rfl rfl rfl rfl rfl (m_peekR hs) ?_
    rintro _ h1 ⟨rfl, hs1, f1⟩
    show V S (dep + 5) 184 11 [.ref 188, .null, .null, .null, .null, .null, .null] [.int (pkv T N (sk T N q))] h1 _
    rw [← hp] at hs1
    rw [← hp]
    refine V_cS rfl rfl rfl rfl (m_isL) ?_
    rw [pkv_l hb h600]
    refine V_if_ne rfl (fun hd => ?_) (fun hd => ?_)
    · have k2 := of_decide_eq_true (bI_nz.mp hd)
      have ee := en_2 k2
      have hpl := kd_2.mp k2
      have hrl := rn_le (T := T) (N := N) (c := leB) hle.2
      have hrg := rn_ge (T := T) (N := N) (c := leB) p
      obtain ⟨⟨a1, a2, a3, a4, a5⟩, a6, a7⟩ := id hs1
      refine V_aload_n rfl rfl rfl ?_
      -- at 20: .invokevirtual 150
      refine V_cV rfl rfl rfl rfl rfl (m_lets hs1.1) ?_
      obtain ⟨m, hm⟩ : ∃ m, m = rn T N leB p - p := ⟨_, rfl⟩
      rw [← hm]
      refine V_istore_n (L' := [_, _, _, _, _, _, _]) rfl rfl rfl ?_
      refine V_ic (v := nI 0) rfl rfl ?_
      refine V_istore_n (L' := [_, _, _, _, _, _, _]) rfl rfl rfl ?_
      refine V_ic (v := nI 1) rfl rfl ?_
      refine V_istore_n (L' := [_, _, _, _, _, _, _]) rfl rfl rfl ?_
      -- at 28: .iload_n 3
      have lp : ∀ c w v4 v5 v6, w + c = 3 → (∀ u, u < w → isW T N p u = false) → V S (dep + 5) 184 28 [.ref 188, .int (nI m), .int (nI w), .int (nI (ks w)), v4, v5, v6] [] h1 Q := by
        intro c
        induction c with
        | zero =>
          intro w v4 v5 v6 hw hno
          rw [show w = 3 by omega] at hno ⊢
          refine V_iload_n rfl rfl ?_
          refine V_ldc (v := .ref 1013) rfl rfl ?_
          -- at 31: .invokevirtual 155
          refine V_cT rfl rfl (by first | rfl | assumption) rfl rfl (c_sln (t := 3) (by decide)) ?_
          refine V_icmp_ge rfl (fun he => ?_) (fun he => ?_)
          · refine V_ic (v := -1) rfl rfl ?_
            -- at 143: .ireturn
            refine V_iret rfl rfl ?_
            rw [hQ]
            refine ⟨?_, hs1, f1⟩
            unfold wdv
            rw [hno 0 (by decide), hno 1 (by decide), hno 2 (by decide)]
            rfl
          · exact absurd (by decide) he
        | succ c ih =>
          intro w v4 v5 v6 hw hno
          have hw3 : w < 3 := by omega
          obtain ⟨g1, g2, g3, g4, g5, g6⟩ := ks_f w hw3
          have gg := fun i hi4 => ks_g w hw3 i hi4
          refine V_iload_n rfl rfl ?_
          refine V_ldc (v := .ref 1013) rfl rfl ?_
          -- at 31: .invokevirtual 155
          refine V_cT rfl rfl (by first | rfl | assumption) rfl rfl (c_sln (t := 3) (by decide)) ?_
          have l15 : (wds 3).length = 15 := rfl
          rw [l15]
          refine V_icmp_ge rfl (fun he => ?_) (fun he => ?_)
          · exact absurd he (nI_ge g1 (by decide))
          · refine V_iload_n rfl rfl ?_
            refine V_istore (L' := [_, _, _, _, _, _, _]) rfl rfl rfl ?_
            -- at 40: .ldc 153
            have lq := loopUp (P := fun i => V S (dep + 5) 184 40 [.ref 188, .int (nI m), .int (nI w), .int (nI (ks w)), .int (nI (ks w + i)), v5, v6] [] h1 Q) (wds w).length ?_ ?_ 0 (Nat.zero_le _)
            · exact lq
            · refine V_ldc (v := .ref 1013) rfl rfl ?_
              refine V_iload rfl rfl ?_
              -- at 44: .invokevirtual 160
              refine V_cT rfl rfl (by first | rfl | assumption) rfl rfl (c_sat (t := 3) (by decide) (by rw [l15]; exact g5)) ?_
              rw [g6]
              refine V_bi (v := nI 32) rfl rfl ?_
              -- at 49: .if_icmp .eq 9
              refine V_icmp_eq rfl (fun hf => ?_) (fun hf => ?_)
              · refine V_iload rfl rfl ?_
                refine V_iload_n rfl rfl ?_
                refine V_isub rfl ?_
                -- at 62: .iload_n 1
                rw [nI_sub (by omega), show ks w + (wds w).length - ks w = (wds w).length by omega]
                refine V_iload_n rfl rfl ?_
                -- at 63: .if_icmp .ne 7
                have next : isW T N p w = false → ∀ v6, V S (dep + 5) 184 124 [.ref 188, .int (nI m), .int (nI w), .int (nI (ks w)), .int (nI (ks w + (wds w).length)), .int (nI 0), v6] [] h1 Q := by
                  intro hnw v6
                  refine V_iload rfl rfl ?_
                  -- at 126: .ifCond .eq 5
                  refine V_if_eq rfl (fun hg => ?_) (fun hg => ?_)
                  · refine V_iinc (L' := [_, _, _, _, _, _, _]) rfl rfl rfl ?_
                    refine V_iload rfl rfl ?_
                    refine V_ic (v := nI 1) rfl rfl ?_
                    refine V_iadd rfl ?_
                    -- at 138: .istore_n 3
                    rw [nI_add, ← g4]
                    refine V_istore_n (L' := [_, _, _, _, _, _, _]) rfl rfl rfl ?_
                    refine V_goto rfl ?_
                    -- at 28: .iload_n 3
                    rw [show Int32.ofInt 1 = nI 1 from rfl, nI_add]
                    refine ih (w + 1) _ _ _ (by omega) (fun u hu => ?_)
                    by_cases z : u = w
                    · rw [z]; exact hnw
                    · exact hno u (by omega)
                  · exact absurd rfl hg
                refine V_icmp_ne rfl (fun hg => ?_) (fun hg => ?_)
                · have hg : (wds w).length ≠ m := fun z => hg (by rw [z])
                  have hnw : isW T N p w = false := by
                    unfold isW
                    exact decide_eq_false (fun z => hg (by rw [← z.2.1, ee, ← hm]))
                  refine V_ic (v := nI 0) rfl rfl ?_
                  refine V_istore (L' := [_, _, _, _, _, _, _]) rfl rfl rfl ?_
                  refine V_ic (v := nI 0) rfl rfl ?_
                  refine V_istore (L' := [_, _, _, _, _, _, _]) rfl rfl rfl ?_
                  -- at 76: .iload 6
                  refine V_iload rfl rfl ?_
                  refine V_iload_n rfl rfl ?_
                  -- at 79: .if_icmp .ge 45
                  refine V_icmp_ge rfl (fun hx => ?_) (fun hx => ?_)
                  · exact next hnw _
                  · refine V_iload rfl rfl ?_
                    -- at 84: .ifCond .eq 40
                    refine V_if_eq rfl (fun hy => ?_) (fun hy => ?_)
                    · exact next hnw _
                    · exact absurd rfl hy
                · have hg := nI_inj (by omega) (by omega) (Decidable.of_not_not hg)
                  refine V_ic (v := nI 1) rfl rfl ?_
                  refine V_goto rfl ?_
                  refine V_istore (L' := [_, _, _, _, _, _, _]) rfl rfl rfl ?_
                  refine V_ic (v := nI 0) rfl rfl ?_
                  refine V_istore (L' := [_, _, _, _, _, _, _]) rfl rfl rfl ?_
                  -- at 76: .iload 6
                  have lr := loopUp (P := fun i => (∀ j, j < i → T (p + j) = nI ((wds w).getD j 0)) → V S (dep + 5) 184 76 [.ref 188, .int (nI m), .int (nI w), .int (nI (ks w)), .int (nI (ks w + (wds w).length)), .int (nI 1), .int (nI i)] [] h1 Q) (wds w).length ?_ ?_ 0 (Nat.zero_le _)
                  · exact lr (fun j hj => by omega)
                  · intro hj
                    refine V_iload rfl rfl ?_
                    refine V_iload_n rfl rfl ?_
                    -- at 79: .if_icmp .ge 45
                    rw [hg]
                    refine V_icmp_ge rfl (fun hx => ?_) (fun hx => ?_)
                    · refine V_iload rfl rfl ?_
                      -- at 126: .ifCond .eq 5
                      refine V_if_eq rfl (fun hy => ?_) (fun hy => ?_)
                      · exact absurd hy (by decide)
                      · refine V_iload_n rfl rfl ?_
                        -- at 130: .ireturn
                        refine V_iret rfl rfl ?_
                        rw [hQ]
                        have hyw : isW T N p w = true := by
                          unfold isW
                          exact decide_eq_true ⟨k2, by rw [ee, ← hm, hg], hj⟩
                        refine ⟨?_, hs1, f1⟩
                        unfold wdv
                        rcases (by omega : w = 0 ∨ w = 1 ∨ w = 2) with rfl | rfl | rfl
                        · rw [if_pos hyw]
                        · rw [hno 0 (by decide), if_pos hyw]; rfl
                        · rw [hno 0 (by decide), hno 1 (by decide), if_pos hyw]; rfl
                    · exact absurd (nI_le (Nat.le_refl _) (by omega)) hx
                  · intro i hi ihi hj
                    have gi := gg i (by omega) hi
                    refine V_iload rfl rfl ?_
                    refine V_iload_n rfl rfl ?_
                    -- at 79: .if_icmp .ge 45
                    refine V_icmp_ge rfl (fun hx => ?_) (fun hx => ?_)
                    · exact absurd hx (nI_ge (by omega) (by omega))
                    · refine V_iload rfl rfl ?_
                      -- at 84: .ifCond .eq 40
                      refine V_if_eq rfl (fun hy => ?_) (fun hy => ?_)
                      · exact absurd hy (by decide)
                      · refine V_ldc (v := .ref 1013) rfl rfl ?_
                        refine V_iload_n rfl rfl ?_
                        refine V_iload rfl rfl ?_
                        refine V_iadd rfl ?_
                        -- at 93: .invokevirtual 160
                        rw [nI_add]
                        refine V_cT rfl rfl (by first | rfl | assumption) rfl rfl (c_sat (t := 3) (by decide) (by rw [l15]; omega)) ?_
                        rw [gi.1]
                        refine V_aload_n rfl rfl rfl ?_
                        refine V_getR (r := 194) rfl rfl ?_
                        refine V_aload_n rfl rfl rfl ?_
                        refine V_gi 12 rfl rfl rfl ?_
                        refine V_iload rfl rfl ?_
                        refine V_iadd rfl ?_
                        -- at 107: .baload
                        rw [a2, nI_add]
                        refine V_bl 600 rfl rfl (by first | with_reducible rfl | assumption | exact nI_sub (by omega) | exact nI_add _ _) (by first | omega | assumption) rfl ?_
                        -- at 108: .if_icmp .ne 7
                        rw [a3 _ (by omega)]
                        refine V_icmp_ne rfl (fun hz => ?_) (fun hz => ?_)
                        · have hnw : isW T N p w = false := by
                            unfold isW
                            exact decide_eq_false (fun z => hz (z.2.2 i hi).symm)
                          refine V_ic (v := nI 0) rfl rfl ?_
                          refine V_istore (L' := [_, _, _, _, _, _, _]) rfl rfl rfl ?_
                          refine V_iinc (L' := [_, _, _, _, _, _, _]) rfl rfl rfl ?_
                          refine V_goto rfl ?_
                          -- at 76: .iload 6
                          refine V_iload rfl rfl ?_
                          refine V_iload_n rfl rfl ?_
                          -- at 79: .if_icmp .ge 45
                          refine V_icmp_ge rfl (fun hxx => ?_) (fun hxx => ?_)
                          · exact next hnw _
                          · refine V_iload rfl rfl ?_
                            -- at 84: .ifCond .eq 40
                            refine V_if_eq rfl (fun hyy => ?_) (fun hyy => ?_)
                            · exact next hnw _
                            · exact absurd rfl hyy
                        · have hz := Decidable.of_not_not hz
                          refine V_ic (v := nI 1) rfl rfl ?_
                          refine V_goto rfl ?_
                          refine V_istore (L' := [_, _, _, _, _, _, _]) rfl rfl rfl ?_
                          refine V_iinc (L' := [_, _, _, _, _, _, _]) rfl rfl rfl ?_
                          refine V_goto rfl ?_
                          -- at 76: .iload 6
                          rw [show Int32.ofInt 1 = nI 1 from rfl, nI_add]
                          refine ihi (fun j h1 => ?_)
                          by_cases z : j = i
                          · rw [z]; exact hz.symm
                          · exact hj j (by omega)
              · exact absurd rfl hf
            · intro i hi ihi
              have gi := gg i (by omega) hi
              refine V_ldc (v := .ref 1013) rfl rfl ?_
              refine V_iload rfl rfl ?_
              -- at 44: .invokevirtual 160
              refine V_cT rfl rfl (by first | rfl | assumption) rfl rfl (c_sat (t := 3) (by decide) (by rw [l15]; omega)) ?_
              rw [gi.1]
              refine V_bi (v := nI 32) rfl rfl ?_
              -- at 49: .if_icmp .eq 9
              refine V_icmp_eq rfl (fun hf => ?_) (fun hf => ?_)
              · exact absurd (nI_inj (by omega) (by omega) hf) gi.2.1
              · refine V_iinc (L' := [_, _, _, _, _, _, _]) rfl rfl rfl ?_
                refine V_goto rfl ?_
                -- at 40: .ldc 153
                rw [show Int32.ofInt 1 = nI 1 from rfl, nI_add]
                exact ihi
      exact lp 3 0 _ _ _ (by decide) (fun u hu => by omega)
    · have k2 := of_decide_eq_false (bI_z.mp (Decidable.of_not_not hd))
      refine V_ic (v := -1) rfl rfl ?_
      -- at 18: .ireturn
      refine V_iret rfl rfl ?_
      rw [hQ]
      have : ∀ t, isW T N p t = false := fun t => by unfold isW; exact decide_eq_false (fun z => k2 z.1)
      refine ⟨?_, hs1, f1⟩
      unfold wdv
      rw [this 0, this 1, this 2]; rfl
def nv (T : Nat → Int32) (p : Nat) : Nat → Nat
  | 0 => 0
  | k + 1 => 10 * nv T p k + dv T (p + k)
def num (T : Nat → Int32) (N D lo hi q : Nat) : RP Nat := if kd T N (sk T N q) = 1 then (if rn T N dgB (sk T N q) - sk T N q = D ∧ lo ≤ nv T (sk T N q) D ∧ nv T (sk T N q) D ≤ hi then .inr (nv T (sk T N q) D, rn T N dgB (sk T N q)) else .inl (2, sk T N q)) else .inl (1, sk T N q)
theorem num_1 (T : Nat → Int32) (N lo hi q : Nat) : num T N 1 lo hi q = dig T N lo hi q := by
  have : ∀ p, nv T p 1 = dv T p := fun p => by unfold nv nv; rw [Nat.mul_zero, Nat.zero_add]; rfl
  unfold num dig
  rw [this]
theorem m_num {S : mScr} {dep N q D lo hi : Nat} {T : Nat → Int32} {h : Hp} (hb : BT T) (hs : RM h T N q) (hD : D = 1 ∨ D = 2) (hlo : lo < 100) (hhi : hi < 100) : Cal S (dep + 3) 185 [.ref 188, .int (nI D), .int (nI lo), .int (nI hi)] h (fun r h' => ((∃ k p, num T N D lo hi q = .inl (k, p) ∧ WB h' N k p ∧ r = some (.int (nI lo))) ∨ (∃ v q', num T N D lo hi q = .inr (v, q') ∧ RM h' T N q' ∧ r = some (.int (nI v)) ∧ h'.1 188 15 = nI (sk T N q))) ∧ MF [12, 13, 14, 15] [] h h') := by
  have h600 := hs.1.2.2.2.2
  have hle := sk_le (T := T) hs.1.2.2.2.1
  obtain ⟨p, hp⟩ : ∃ p, p = sk T N q := ⟨_, rfl⟩
  rw [← hp] at hle
  rw [← hp]
  obtain ⟨Q, hQ⟩ : ∃ Q : Option Value → Hp → Prop, Q = (fun r h' => ((∃ k p, num T N D lo hi q = .inl (k, p) ∧ WB h' N k p ∧ r = some (.int (nI lo))) ∨ (∃ v q', num T N D lo hi q = .inr (v, q') ∧ RM h' T N q' ∧ r = some (.int (nI v)) ∧ h'.1 188 15 = nI p)) ∧ MF [12, 13, 14, 15] [] h h') := ⟨_, rfl⟩
  rw [← hQ]
  show V S (dep + 3) 185 0 [.ref 188, .int (nI D), .int (nI lo), .int (nI hi), .null] [] h _
  refine V_aload_n rfl rfl rfl ?_
  refine V_gi 13 rfl rfl rfl ?_
  -- at 4: .ifCond .eq 5
  rw [hs.2.1]
  refine V_if_eq rfl (fun hc => ?_) (fun hc => ?_)
  · refine V_aload_n rfl rfl rfl ?_
    -- at 10: .invokevirtual 146
    refine V_callV rfl rfl rfl rfl rfl (m_peekR hs) ?_
    rintro _ h1 ⟨rfl, hs1, f1⟩
    show V S (dep + 3) 185 13 [.ref 188, .int (nI D), .int (nI lo), .int (nI hi), .null] [.int (pkv T N (sk T N q))] h1 _
    rw [← hp] at hs1
    rw [← hp]
    refine V_cS rfl rfl rfl rfl (m_isDg) ?_
    rw [pkv_d hb h600]
    refine V_if_ne rfl (fun hd => ?_) (fun hd => ?_)
    · have k1 := of_decide_eq_true (bI_nz.mp hd)
      have hpd := kd_1.mp k1
      have hrl := rn_le (T := T) (N := N) (c := dgB) hle.2
      have hrs := rn_st (c := dgB) hpd
      refine V_aload_n rfl rfl rfl ?_
      refine V_aload_n rfl rfl rfl ?_
      refine V_gi 12 rfl rfl rfl ?_
      refine V_pi 15 rfl rfl rfl rfl ?_
      -- at 38: .iconst 0
      rw [hs1.1.2.1]
      refine V_ic (v := nI 0) rfl rfl ?_
      refine V_istore (L' := [_, _, _, _, _]) rfl rfl rfl ?_
      -- at 41: .aload_n 0
      obtain ⟨h2, hh2⟩ : ∃ h2, h2 = wI h1 188 15 (nI p) := ⟨_, rfl⟩
      rw [← hh2]
      have f2 : MF [15] [] h1 h2 := by rw [hh2]; exact MF.f (by simp)
      have hs2 : RM h2 T N p := hs1.mf f2 (by simp) (by simp) (by simp) (by simp) (by simp)
      have e2 : h2.1 188 15 = nI p := by rw [hh2, wI_same]
      have g2 : MF [12, 13, 14, 15] [] h h2 := (f1.mono (by simp) (by simp)).tr (f2.mono (by simp) (by simp))
      have nvb : ∀ k, k ≤ rn T N dgB p - p → k ≤ 2 → nv T p k < 100 ∧ (k ≤ 1 → nv T p k < 10) := by
        intro k hk hk2
        have d0 := (dv_eq hpd.2).2
        rcases (by omega : k = 0 ∨ k = 1 ∨ k = 2) with rfl | rfl | rfl
        · exact ⟨by rw [nv]; decide, fun _ => by rw [nv]; decide⟩
        · have : nv T p 1 = dv T p := by unfold nv nv; rw [Nat.mul_zero, Nat.zero_add]; rfl
          rw [this]
          exact ⟨by omega, fun _ => by omega⟩
        · have a : nv T p 1 = dv T p := by unfold nv nv; rw [Nat.mul_zero, Nat.zero_add]; rfl
          have d1 := (dv_eq (rn_all (T := T) (N := N) (c := dgB) (p := p) (i := p + 1) (by omega) (by omega)).2).2
          have b : nv T p 2 = 10 * nv T p 1 + dv T (p + 1) := rfl
          exact ⟨by omega, fun z => by omega⟩
      have hD2 : D ≤ 2 := by omega
      have lp := loopUp (P := fun j => ∀ h3, RM h3 T N (p + j) → h3.1 188 15 = nI p → MF [12, 13, 14, 15] [] h h3 → V S (dep + 3) 185 41 [.ref 188, .int (nI D), .int (nI lo), .int (nI hi), .int (nI (nv T p (min j D)))] [] h3 Q) (rn T N dgB p - p) ?_ ?_ 0 (Nat.zero_le _)
      · exact lp h2 hs2 e2 g2
      · intro h3 hs3 e3 g3
        have hen := rn_end (T := T) (N := N) (c := dgB) p
        obtain ⟨e, he⟩ : ∃ e, e = rn T N dgB p := ⟨_, rfl⟩
        rw [← he] at hs3 hen hrl hrs nvb
        rw [← he]
        rw [show p + (e - p) = e by omega] at hs3
        obtain ⟨⟨a1, a2, a3, a4, a5⟩, a6, a7⟩ := id hs3
        have go : V S (dep + 3) 185 113 [.ref 188, .int (nI D), .int (nI lo), .int (nI hi), .int (nI (nv T p (min (e - p) D)))] [] h3 Q := by
          have bad : ∀ w, ¬ (e - p = D ∧ lo ≤ nv T p D ∧ nv T p D ≤ hi) → V S (dep + 3) 185 139 [.ref 188, .int (nI D), .int (nI lo), .int (nI hi), w] [] h3 Q := by
            intro w hno
            refine V_aload_n rfl rfl rfl ?_
            refine V_ic (v := nI 2) rfl rfl ?_
            refine V_aload_n rfl rfl rfl ?_
            refine V_gi 15 rfl rfl rfl ?_
            -- at 145: .invokevirtual 167
            rw [e3]
            refine V_callV rfl rfl rfl rfl rfl (m_fls (k := 2) hs3 (by decide) (by decide) hle.2) ?_
            rintro _ h4 ⟨rfl, hW4, _, f4⟩
            show V S (dep + 3) 185 148 [.ref 188, .int (nI D), .int (nI lo), .int (nI hi), w] [] h4 _
            refine V_aload_n rfl rfl rfl ?_
            refine V_gi 13 rfl rfl rfl ?_
            -- at 152: .ifCond .ne 8
            rw [hW4.1]
            refine V_if_ne rfl (fun hx => ?_) (fun hx => ?_)
            · refine V_iload_n rfl rfl ?_
              -- at 161: .ireturn
              refine V_iret rfl rfl ?_
              rw [hQ]
              refine ⟨Or.inl ⟨2, p, ?_, hW4, rfl⟩, g3.tr (f4.mono (by simp) (by simp))⟩
              unfold num
              rw [← hp, if_pos k1, ← he, if_neg hno]
            · exact absurd (Decidable.of_not_not hx) (by decide)
          refine V_aload_n rfl rfl rfl ?_
          refine V_gi 12 rfl rfl rfl ?_
          refine V_aload_n rfl rfl rfl ?_
          refine V_gi 15 rfl rfl rfl ?_
          refine V_isub rfl ?_
          -- at 122: .iload_n 1
          rw [a2, e3, nI_sub (by omega)]
          refine V_iload_n rfl rfl ?_
          -- at 123: .if_icmp .ne 16
          refine V_icmp_ne rfl (fun hx => ?_) (fun hx => ?_)
          · exact bad _ (fun z => hx (by rw [z.1]))
          · have hx := nI_inj (by omega) (by omega) (Decidable.of_not_not hx)
            have hmn : min (e - p) D = D := by omega
            have nb := (nvb D (by omega) hD2).1
            rw [hmn]
            refine V_iload rfl rfl ?_
            refine V_i2l rfl ?_
            refine V_iload_n rfl rfl ?_
            refine V_i2l rfl ?_
            refine V_iload_n rfl rfl ?_
            refine V_i2l rfl ?_
            -- at 133: .invokestatic 134
            refine V_cS rfl rfl rfl rfl (m_isIn) ?_
            rw [Int32.toInt_toInt64, Int32.toInt_toInt64, Int32.toInt_toInt64, nI_toNat (by omega), nI_toNat (by omega), nI_toNat (by omega)]
            refine V_if_ne rfl (fun hy => ?_) (fun hy => ?_)
            · have hy := of_decide_eq_true (bI_nz.mp hy)
              refine V_aload_n rfl rfl rfl ?_
              refine V_gi 13 rfl rfl rfl ?_
              -- at 152: .ifCond .ne 8
              rw [a6]
              refine V_if_ne rfl (fun hz => ?_) (fun hz => ?_)
              · exact absurd rfl hz
              · refine V_iload rfl rfl ?_
                refine V_goto rfl ?_
                -- at 161: .ireturn
                refine V_iret rfl rfl ?_
                rw [hQ]
                refine ⟨Or.inr ⟨nv T p D, e, ?_, hs3, rfl, e3⟩, g3⟩
                unfold num
                rw [← hp, if_pos k1, ← he, if_pos (by omega)]
            · have hy := of_decide_eq_false (bI_z.mp (Decidable.of_not_not hy))
              exact bad _ (by omega)
        refine V_aload_n rfl rfl rfl ?_
        refine V_gi 12 rfl rfl rfl ?_
        refine V_aload_n rfl rfl rfl ?_
        refine V_gi 11 rfl rfl rfl ?_
        -- at 49: .if_icmp .ge 64
        rw [a2, a1]
        refine V_icmp_ge rfl (fun hx => ?_) (fun hx => ?_)
        · exact go
        · have hx := nI_ngt (by omega) (by omega) hx
          refine V_aload_n rfl rfl rfl ?_
          refine V_getR (r := 194) rfl rfl ?_
          refine V_aload_n rfl rfl rfl ?_
          refine V_gi 12 rfl rfl rfl ?_
          refine V_bl 600 rfl rfl (by first | with_reducible rfl | assumption | exact nI_sub (by omega) | exact nI_add _ _) (by first | omega | assumption) rfl ?_
          -- at 61: .invokestatic 164
          rw [a3 _ (by omega)]
          refine V_cS rfl rfl rfl rfl (m_isDg) ?_
          refine V_if_eq rfl (fun hy => ?_) (fun hy => ?_)
          · exact go
          · exact absurd ⟨hx, bI_nz.mp hy⟩ hen
      · intro j hj ih h3 hs3 e3 g3
        obtain ⟨⟨a1, a2, a3, a4, a5⟩, a6, a7⟩ := id hs3
        have hall := rn_all (T := T) (N := N) (c := dgB) (p := p) (i := p + j) (by omega) (by omega)
        obtain ⟨ev, ev9⟩ := dv_eq hall.2
        have next : V S (dep + 3) 185 100 [.ref 188, .int (nI D), .int (nI lo), .int (nI hi), .int (nI (nv T p (min (j + 1) D)))] [] h3 Q := by
          refine V_aload_n rfl rfl rfl ?_
          refine V_dup rfl rfl ?_
          refine V_gi 12 rfl rfl rfl ?_
          refine V_ic (v := nI 1) rfl rfl ?_
          refine V_iadd rfl ?_
          -- at 107: .putfield 121
          rw [a2, nI_add]
          refine V_pi 12 rfl rfl rfl rfl ?_
          refine V_goto rfl ?_
          -- at 41: .aload_n 0
          have f4 : MF [12] [] h3 (wI h3 188 12 (nI (p + j + 1))) := MF.f (by simp)
          exact ih _ (hs3.to (hs3.1.to (by omega)) f4) (by rw [wI_ne (by omega)]; exact e3) (g3.tr (f4.mono (by simp) (by simp)))
        refine V_aload_n rfl rfl rfl ?_
        refine V_gi 12 rfl rfl rfl ?_
        refine V_aload_n rfl rfl rfl ?_
        refine V_gi 11 rfl rfl rfl ?_
        -- at 49: .if_icmp .ge 64
        rw [a2, a1]
        refine V_icmp_ge rfl (fun hx => ?_) (fun hx => ?_)
        · exact absurd hx (nI_ge hall.1 (by omega))
        · refine V_aload_n rfl rfl rfl ?_
          refine V_getR (r := 194) rfl rfl ?_
          refine V_aload_n rfl rfl rfl ?_
          refine V_gi 12 rfl rfl rfl ?_
          refine V_bl 600 rfl rfl (by first | with_reducible rfl | assumption | exact nI_sub (by omega) | exact nI_add _ _) (by first | omega | assumption) rfl ?_
          -- at 61: .invokestatic 164
          rw [a3 _ (by omega)]
          refine V_cS rfl rfl rfl rfl (m_isDg) ?_
          refine V_if_eq rfl (fun hy => ?_) (fun hy => ?_)
          · rw [hall.2] at hy
            exact absurd hy (by decide)
          · refine V_aload_n rfl rfl rfl ?_
            refine V_gi 12 rfl rfl rfl ?_
            refine V_aload_n rfl rfl rfl ?_
            refine V_gi 15 rfl rfl rfl ?_
            refine V_isub rfl ?_
            -- at 76: .iload_n 1
            rw [a2, e3, nI_sub (by omega), show p + j - p = j by omega]
            refine V_iload_n rfl rfl ?_
            -- at 77: .if_icmp .ge 23
            refine V_icmp_ge rfl (fun hz => ?_) (fun hz => ?_)
            · have hz := (nI_leI (by omega) (by omega)).mp hz
              rw [show min (j + 1) D = min j D by omega] at next
              exact next
            · have hz := nI_ngt (by omega) (by omega) hz
              rw [show min j D = j by omega]
              refine V_bi (v := nI 10) rfl rfl ?_
              refine V_iload rfl rfl ?_
              refine V_imul rfl ?_
              refine V_aload_n rfl rfl rfl ?_
              refine V_getR (r := 194) rfl rfl ?_
              refine V_aload_n rfl rfl rfl ?_
              refine V_gi 12 rfl rfl rfl ?_
              refine V_bl 600 rfl rfl (by first | with_reducible rfl | assumption | exact nI_sub (by omega) | exact nI_add _ _) (by first | omega | assumption) rfl ?_
              -- at 94: .iadd
              rw [nI_mul, a3 _ (by omega), ev]
              refine V_iadd rfl ?_
              -- at 95: .bipush 48
              rw [nI_add]
              refine V_bi (v := nI 48) rfl rfl ?_
              refine V_isub rfl ?_
              -- at 98: .istore 4
              rw [nI_sub (by omega), show 10 * nv T p j + (48 + dv T (p + j)) - 48 = nv T p (j + 1) from by rw [nv]; omega]
              refine V_istore (L' := [_, _, _, _, _]) rfl rfl rfl ?_
              -- at 100: .aload_n 0
              rw [show min (j + 1) D = j + 1 by omega] at next
              exact next
    · have k1 := of_decide_eq_false (bI_z.mp (Decidable.of_not_not hd))
      refine V_aload_n rfl rfl rfl ?_
      refine V_ic (v := nI 1) rfl rfl ?_
      refine V_aload_n rfl rfl rfl ?_
      refine V_gi 12 rfl rfl rfl ?_
      -- at 25: .invokevirtual 167
      rw [hs1.1.2.1]
      refine V_callV rfl rfl rfl rfl rfl (m_fls (k := 1) hs1 (by decide) (by decide) hle.2) ?_
      rintro _ h2 ⟨rfl, hW2, _, f2⟩
      show V S (dep + 3) 185 28 [.ref 188, .int (nI D), .int (nI lo), .int (nI hi), .null] [] h2 _
      refine V_iload_n rfl rfl ?_
      -- at 29: .ireturn
      refine V_iret rfl rfl ?_
      rw [hQ]
      refine ⟨Or.inl ⟨1, p, ?_, hW2, rfl⟩, (f1.mono (by simp) (by simp)).tr (f2.mono (by simp) (by simp))⟩
      unfold num
      rw [← hp, if_neg k1]
  · exact absurd rfl hc
theorem m_numB {S : mScr} {dep N k p : Nat} {D lo hi : Int32} {h : Hp} (hB : WB h N k p) : Cal S (dep + 3) 185 [.ref 188, .int D, .int lo, .int hi] h (Rt lo h) := by
  have h0 := hB.2.2.1
  have h4 := hB.2.2.2.1
  show V S (dep + 3) 185 0 [.ref 188, .int D, .int lo, .int hi, .null] [] h _
  refine V_aload_n rfl rfl rfl ?_
  refine V_gi 13 rfl rfl rfl ?_
  -- at 4: .ifCond .eq 5
  rw [hB.1]
  refine V_if_eq rfl (fun hc => ?_) (fun hc => ?_)
  · exact absurd (nI_inj (b := 0) (by omega) (by omega) hc) (by omega)
  · refine V_iload_n rfl rfl ?_
    -- at 8: .ireturn
    refine V_iret rfl rfl ?_
    exact Rt.rf
