/-! the law -/
theorem sl6 {n i : Nat} (hn : n ≤ 3072) (hi : i ≤ 4000) : nI n - nI 6 < nI i ↔ n < i + 6 := by
  have e : nI n - nI 6 = zI ((n : Int) - 6) := (Int32.ofInt_sub (n : Int) 6).symm
  rw [e, Int32.lt_iff_toInt_lt, nI_toNat (by omega), show (zI ((n : Int) - 6)).toInt = (n : Int) - 6 from Int32.toInt_ofInt_of_le (by omega) (by omega)]
  omega
theorem and63 (x : Int32) : ∃ t, t < 64 ∧ x &&& nI 63 = nI t := by
  refine ⟨x.toBitVec.toNat &&& 63, Nat.lt_of_le_of_lt Nat.and_le_right (by decide), ?_⟩
  apply nI_ext
  apply BitVec.eq_of_toNat_eq
  rw [nI_bv, BitVec.toNat_ofNat, Int32.toBitVec_and, BitVec.toNat_and, nI_bv, BitVec.toNat_ofNat]
  rw [Nat.mod_eq_of_lt (show x.toBitVec.toNat &&& 63 < 2 ^ 32 from Nat.lt_of_le_of_lt Nat.and_le_right (by decide))]
theorem law_V {S : mScr} (hS : S.1 ≤ 3072) : ∀ f i st h, S.1 < i + f → i ≤ 3078 → InvX h st → InvM h st → BT st.2.2.1 → V S 100 0 18 [.ref 1000, .ref 0, .ref 188, .int (nI i)] [] h (fun r _ => r = some (.int 1)) := by
  intro f
  induction f with
  | zero =>
    intro i st h hf hi iX iM hB
    refine V_iload_n rfl rfl ?_
    refine V_aload_n rfl rfl (by first | assumption | rfl) ?_
    -- at 20: .arraylength
    refine V_xlen (n := S.1) rfl rfl (by decide) ?_
    show V S 100 0 21 [.ref 1000, .ref 0, .ref 188, .int (nI i)] [.int (nI S.1), .int (nI i)] h _
    refine V_bi (v := nI 6) rfl rfl ?_
    refine V_isub rfl ?_
    -- at 24: .if_icmp .gt 1278
    refine V_icmp_gt rfl (fun hc => ?_) (fun hc => ?_)
    · refine V_ic (v := nI 1) rfl rfl ?_
      -- at 1303: .ireturn
      refine V_zret rfl rfl (by first | exact Or.inl rfl | exact Or.inr rfl | assumption) ?_
      rfl
    · exact absurd ((sl6 hS (by omega)).mpr (by omega)) hc
  | succ f ih =>
    intro i st h hf hi iX iM hB
    refine V_iload_n rfl rfl ?_
    refine V_aload_n rfl rfl (by first | assumption | rfl) ?_
    -- at 20: .arraylength
    refine V_xlen (n := S.1) rfl rfl (by decide) ?_
    show V S 100 0 21 [.ref 1000, .ref 0, .ref 188, .int (nI i)] [.int (nI S.1), .int (nI i)] h _
    refine V_bi (v := nI 6) rfl rfl ?_
    refine V_isub rfl ?_
    -- at 24: .if_icmp .gt 1278
    refine V_icmp_gt rfl (fun hc => ?_) (fun hc => ?_)
    · refine V_ic (v := nI 1) rfl rfl ?_
      -- at 1303: .ireturn
      refine V_zret rfl rfl (by first | exact Or.inl rfl | exact Or.inr rfl | assumption) ?_
      rfl
    · have hc : i + 6 ≤ S.1 := Nat.le_of_not_lt (fun z => hc ((sl6 hS (by omega)).mpr z))
      have next : ∀ st' h', InvX h' st' → InvM h' st' → BT st'.2.2.1 → V S 100 0 1296 [.ref 1000, .ref 0, .ref 188, .int (nI i)] [] h' (fun r _ => r = some (.int 1)) := by
        intro st' h' iX' iM' hB'
        refine V_iinc (L' := [_, _, _, _]) rfl rfl rfl ?_
        refine V_goto rfl ?_
        -- at 18: .iload_n 3
        rw [show Int32.ofInt 6 = nI 6 from rfl, nI_add]
        exact ih (i + 6) st' h' (by omega) (by omega) iX' iM' hB'
      refine V_aload_n rfl rfl (by first | assumption | rfl) ?_
      refine V_iload_n rfl rfl ?_
      -- at 29: .iaload
      refine V_scr rfl (by omega) hS ?_
      refine V_bi (v := nI 63) rfl rfl ?_
      refine V_iand rfl ?_
      -- at 33: .tableswitch 1263 0 33 #[151, 214, 237, 260, 303, 336, 369, 402, 435, 468, 511, 544, 557, 590, 633, 666, 699, 732, 755, 788, 821, 844, 877, 920, 953, 986, 1019, 1052, 1085, 1118, 1151, 1174, 1207, 1240]
      obtain ⟨t, ht, et⟩ := and63 (S.2 i)
      rw [et]
      rcases (by omega : t = 0 ∨ t = 1 ∨ t = 2 ∨ t = 3 ∨ t = 4 ∨ t = 5 ∨ t = 6 ∨ t = 7 ∨ t = 8 ∨ t = 9 ∨ t = 10 ∨ t = 11 ∨ t = 12 ∨ t = 13 ∨ t = 14 ∨ t = 15 ∨ t = 16 ∨ t = 17 ∨ t = 18 ∨ t = 19 ∨ t = 20 ∨ t = 21 ∨ t = 22 ∨ t = 23 ∨ t = 24 ∨ t = 25 ∨ t = 26 ∨ t = 27 ∨ t = 28 ∨ t = 29 ∨ t = 30 ∨ t = 31 ∨ t = 32 ∨ t = 33 ∨ 34 ≤ t) with rfl | rfl | rfl | rfl | rfl | rfl | rfl | rfl | rfl | rfl | rfl | rfl | rfl | rfl | rfl | rfl | rfl | rfl | rfl | rfl | rfl | rfl | rfl | rfl | rfl | rfl | rfl | rfl | rfl | rfl | rfl | rfl | rfl | rfl | h34
      · refine V_tabI (t := 184) rfl 0 (by decide) (by decide) rfl ?_
        exact lw_c0 hS hc iX iM hB next
      · refine V_tabI (t := 247) rfl 1 (by decide) (by decide) rfl ?_
        exact lw_c1 hS hc iX iM hB next
      · refine V_tabI (t := 270) rfl 2 (by decide) (by decide) rfl ?_
        exact lw_c2 hS hc iX iM hB next
      · refine V_tabI (t := 293) rfl 3 (by decide) (by decide) rfl ?_
        exact lw_c3 hS hc iX iM hB next
      · refine V_tabI (t := 336) rfl 4 (by decide) (by decide) rfl ?_
        exact lw_c4 hS hc iX iM hB next
      · refine V_tabI (t := 369) rfl 5 (by decide) (by decide) rfl ?_
        exact lw_c5 hS hc iX iM hB next
      · refine V_tabI (t := 402) rfl 6 (by decide) (by decide) rfl ?_
        exact lw_c6 hS hc iX iM hB next
      · refine V_tabI (t := 435) rfl 7 (by decide) (by decide) rfl ?_
        exact lw_c7 hS hc iX iM hB next
      · refine V_tabI (t := 468) rfl 8 (by decide) (by decide) rfl ?_
        exact lw_c8 hS hc iX iM hB next
      · refine V_tabI (t := 501) rfl 9 (by decide) (by decide) rfl ?_
        exact lw_c9 hS hc iX iM hB next
      · refine V_tabI (t := 544) rfl 10 (by decide) (by decide) rfl ?_
        exact lw_c10 hS hc iX iM hB next
      · refine V_tabI (t := 577) rfl 11 (by decide) (by decide) rfl ?_
        exact lw_c11 hS hc iX iM hB next
      · refine V_tabI (t := 590) rfl 12 (by decide) (by decide) rfl ?_
        exact lw_c12 hS hc iX iM hB next
      · refine V_tabI (t := 623) rfl 13 (by decide) (by decide) rfl ?_
        exact lw_c13 hS hc iX iM hB next
      · refine V_tabI (t := 666) rfl 14 (by decide) (by decide) rfl ?_
        exact lw_c14 hS hc iX iM hB next
      · refine V_tabI (t := 699) rfl 15 (by decide) (by decide) rfl ?_
        exact lw_c15 hS hc iX iM hB next
      · refine V_tabI (t := 732) rfl 16 (by decide) (by decide) rfl ?_
        exact lw_c16 hS hc iX iM hB next
      · refine V_tabI (t := 765) rfl 17 (by decide) (by decide) rfl ?_
        exact lw_c17 hS hc iX iM hB next
      · refine V_tabI (t := 788) rfl 18 (by decide) (by decide) rfl ?_
        exact lw_c18 hS hc iX iM hB next
      · refine V_tabI (t := 821) rfl 19 (by decide) (by decide) rfl ?_
        exact lw_c19 hS hc iX iM hB next
      · refine V_tabI (t := 854) rfl 20 (by decide) (by decide) rfl ?_
        exact lw_c20 hS hc iX iM hB next
      · refine V_tabI (t := 877) rfl 21 (by decide) (by decide) rfl ?_
        exact lw_c21 hS hc iX iM hB next
      · refine V_tabI (t := 910) rfl 22 (by decide) (by decide) rfl ?_
        exact lw_c22 hS hc iX iM hB next
      · refine V_tabI (t := 953) rfl 23 (by decide) (by decide) rfl ?_
        exact lw_c23 hS hc iX iM hB next
      · refine V_tabI (t := 986) rfl 24 (by decide) (by decide) rfl ?_
        exact lw_c24 hS hc iX iM hB next
      · refine V_tabI (t := 1019) rfl 25 (by decide) (by decide) rfl ?_
        exact lw_c25 hS hc iX iM hB next
      · refine V_tabI (t := 1052) rfl 26 (by decide) (by decide) rfl ?_
        exact lw_c26 hS hc iX iM hB next
      · refine V_tabI (t := 1085) rfl 27 (by decide) (by decide) rfl ?_
        exact lw_c27 hS hc iX iM hB next
      · refine V_tabI (t := 1118) rfl 28 (by decide) (by decide) rfl ?_
        exact lw_c28 hS hc iX iM hB next
      · refine V_tabI (t := 1151) rfl 29 (by decide) (by decide) rfl ?_
        exact lw_c29 hS hc iX iM hB next
      · refine V_tabI (t := 1184) rfl 30 (by decide) (by decide) rfl ?_
        exact lw_c30 hS hc iX iM hB next
      · refine V_tabI (t := 1207) rfl 31 (by decide) (by decide) rfl ?_
        exact lw_c31 hS hc iX iM hB next
      · refine V_tabI (t := 1240) rfl 32 (by decide) (by decide) rfl ?_
        exact lw_c32 hS hc iX iM hB next
      · refine V_tabI (t := 1273) rfl 33 (by decide) (by decide) rfl ?_
        exact lw_c33 hS hc iX iM hB next
      · have hto : (nI t).toInt < 0 ∨ (33 : Int) < (nI t).toInt := Or.inr (by rw [nI_toNat (by omega)]; omega)
        refine V_tabO (t := 1296) rfl (hto) rfl ?_
        exact next st h iX iM hB
theorem c1_0 {a : Nat} (h0 : a ≠ 0) (h1 : a ≠ 147) (h2 : a ≠ 188) (i : Nat) : c1.1 a i = nI 0 := by
  show cI a i = 0
  have n : ∀ m, a ≠ m → Nat.beq a m = false := fun m hm => by
    cases q : Nat.beq a m with
    | false => rfl
    | true => exact absurd (Nat.eq_of_beq_eq_true q) hm
  unfold cI
  rw [n 0 h0, n 147 h1, n 188 h2]; rfl
def st0 : St := (s00, [], fun _ => 0, 0, 0, -1)
theorem WF_00 : WF s00 := ⟨fun i _ => ⟨Nat.zero_le _, Nat.two_pow_pos _⟩, fun d _ => Or.inl rfl⟩
theorem inv_x0 : InvX c1 st0 := by
  have z : ∀ a i, a ≠ 0 → a ≠ 147 → a ≠ 188 → c1.1 a i = nI 0 := fun a i h0 h1 h2 => c1_0 h0 h1 h2 i
  refine ⟨⟨fun i hi => ⟨⟨isS i hi, Nat.zero_le _, z _ _ (by omega) (by omega) (by omega), fun v hv => ?_, fun v => row128 (Nat.zero_le _)⟩, Nat.two_pow_pos _⟩, fun d hd => ⟨isD d hd, Nat.zero_le _, z _ _ (by omega) (by omega) (by omega), fun i hi => absurd hi (Nat.not_lt_zero _), fun x hx => (by cases hx)⟩⟩, WF_00, ⟨Nat.zero_le _, fun t ht => (by cases ht), z 4 2 (by omega) (by omega) (by omega), 0, by omega, z 4 1 (by omega) (by omega) (by omega), trivial⟩, fun i _ => z 3 i (by omega) (by omega) (by omega), rfl, Nat.zero_le _, rfl, Nat.zero_le _, rfl, Or.inl (z 33 5 (by omega) (by omega) (by omega))⟩
  rw [z _ _ (by omega) (by omega) (by omega)]
  have : rowOf 0 0 v = 0 := by
    apply Nat.eq_of_testBit_eq
    intro u
    rw [rowOf_tb, decide_eq_false (Nat.not_lt_zero v)]
    simp
  show nI 0 = nI (rowOf 0 0 v)
  rw [this]
theorem inv_m0 : InvM c1 st0 := by
  have z : ∀ a i, a ≠ 0 → a ≠ 147 → a ≠ 188 → c1.1 a i = nI 0 := fun a i h0 h1 h2 => c1_0 h0 h1 h2 i
  exact ⟨fun k hk => by rw [z 189 k (by omega) (by omega) (by omega)]; exact (enc_00 k hk).symm, WF_00, ⟨Nat.zero_le _, fun t ht => (by cases ht), rfl, fun j hj => absurd hj (Nat.not_lt_zero _)⟩, fun i _ => z 194 i (by omega) (by omega) (by omega), rfl, Nat.zero_le _, rfl, Nat.zero_le _, rfl, Or.inl rfl⟩
theorem law_runs (SL : Nat) (sx : Nat → Int32) (hL : SL ≤ 3072) : ∃ (n : Nat) (G' : mH), dexec SL sx n 100 0 0 (entL 4 [.ref 1000]) [] [] = some (some (.int 1), G') ∧ G'.length ≤ 600000 ∧ szG G' ≤ 7302250 := by
  have hv : V (SL, sx) 100 0 16 [.ref 1000, .ref 0, .ref 188, .null] [] c1 (fun r _ => r = some (.int 1)) := by
    refine V_ic (v := nI 0) rfl rfl ?_
    refine V_istore_n (L' := [_, _, _, _]) rfl rfl rfl ?_
    -- at 18: .iload_n 3
    exact law_V (S := (SL, sx)) hL (SL + 1) 0 st0 c1 (by show SL < 0 + (SL + 1); omega) (by omega) inv_x0 inv_m0 (fun i _ => show byB 0 from ⟨by decide, by decide⟩)
  obtain ⟨n, r, h', e, hr⟩ := hv
  have hz := (zx_ok (SL := SL) (sx := sx) _ _ _ _ _ _ _ _ _ _ z_run).2 _ _ rfl n (r, Gof h') (by rw [emb_F]; exact e)
  obtain ⟨m, hm⟩ := hz
  rw [hr] at hm
  exact ⟨m, Gof h', hm, by rw [Gof_len]; omega, sz_Gof h'⟩
