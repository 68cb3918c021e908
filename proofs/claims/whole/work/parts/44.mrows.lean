/-! the reference: rows, decks -/
def MF (fs A : List Nat) (h h' : Hp) : Prop := h'.2 = h.2 ∧ (∀ b, b ≠ 188 → b ∉ A → h'.1 b = h.1 b) ∧ ∀ i, i ∉ fs → h'.1 188 i = h.1 188 i
theorem MF.rf {fs A : List Nat} {h : Hp} : MF fs A h h := ⟨rfl, fun _ _ _ => rfl, fun _ _ => rfl⟩
theorem MF.tr {fs A : List Nat} {h h1 h2 : Hp} (a : MF fs A h h1) (b : MF fs A h1 h2) : MF fs A h h2 := ⟨b.1.trans a.1, fun c e f => (b.2.1 c e f).trans (a.2.1 c e f), fun i f => (b.2.2 i f).trans (a.2.2 i f)⟩
theorem MF.mono {fs A gs B : List Nat} {h h1 : Hp} (a : MF fs A h h1) (e : ∀ i ∈ fs, i ∈ gs) (f : ∀ i ∈ A, i ∈ B) : MF gs B h h1 := ⟨a.1, fun c g k => a.2.1 c g (fun q => k (f c q)), fun i g => a.2.2 i (fun q => g (e i q))⟩
theorem MF.w {fs A : List Nat} {h : Hp} {a i : Nat} {v : Int32} (h1 : a ∈ A) (h2 : a ≠ 188) : MF fs A h (wI h a i v) := ⟨rfl, fun b _ hb => wI_oth (fun q => hb (q ▸ h1)), fun j _ => by rw [wI_oth (fun q => h2 q.symm)]⟩
theorem MF.f {fs A : List Nat} {h : Hp} {i : Nat} {v : Int32} (h1 : i ∈ fs) : MF fs A h (wI h 188 i v) := ⟨rfl, fun b hb _ => wI_oth hb, fun j hj => wI_ne (by
  intro q
  exact hj (by rw [q.2]; exact h1))⟩
theorem MF.of {fs A : List Nat} {r : Nat} {h h' : Hp} (f : Fr [r] h h') (h1 : r ∈ A) (h2 : r ≠ 188) : MF fs A h h' := ⟨f.2, fun b _ hb => f.1 b (by simp; exact fun q => hb (q ▸ h1)), fun i _ => by rw [f.1 188 (by simp; exact fun q => h2 q.symm)]⟩
theorem GF.mf {h h' : Hp} (f : GF 0 h h') : MF [6, 7] [192, 193] h h' := ⟨f.1, fun b h1 h2 => by
  funext i
  simp at h2
  exact f.2 b i (by omega) (by omega) (by omega), fun i hi => by simp at hi; exact f.2 188 i (by omega) (by omega) (by omega)⟩
theorem AL.mf {fs A : List Nat} {h h' : Hp} {r : Nat} {xs : List Nat} (ha : AL h r xs) (hf : MF fs A h h') (hr : r ∉ A) (h1 : r ≠ 188) : AL h' r xs := fun i hi => by rw [hf.2.1 r h1 hr]; exact ha i hi
theorem c21 {n C : Nat} (hn : n ≤ 7) (hC : C < 2 ^ tri n) : C < 2 ^ 21 := Nat.lt_of_lt_of_le hC (Nat.pow_le_pow_right (by decide) (tri_le hn))
theorem m_frm {S : mScr} {dep n C : Nat} {h : Hp} (hn : n ≤ 7) (hC : C < 2 ^ tri n) : Cal S (dep + 11) 172 [.ref 188, .int (nI n), .int (nI C)] h (fun q h' => q = some (.int (nI (frm n C))) ∧ MF [6, 7] [192, 193] h h') := by
  have h1 := m_form (S := S) (dep := dep) (h := h) hn (c21 hn hC)
  rw [gall_frm hn hC] at h1
  exact V_imp h1 (fun r h' ⟨a, b, _⟩ => ⟨a, b.mf⟩)
theorem m_prt {S : mScr} {dep n C m p : Nat} {h : Hp} (hn : n ≤ 7) (hC : C < 2 ^ tri n) (hm : m ≤ 7) (hp : p < 2 ^ 21) : Cal S (dep + 12) 177 [.ref 188, .int (nI m), .int (nI p), .int (nI n), .int (nI C)] h (fun r h' => r = some (.int (nI (prt m p n C))) ∧ MF [6, 7] [192, 193] h h') := by
  have hL : (2 : Nat) ^ n ≤ 128 := Nat.pow_le_pow_right (n := 2) (j := 7) (by decide) hn
  have h2p := Nat.two_pow_pos n
  obtain ⟨F, hF⟩ : ∃ F : Nat → Bool, F = fun s => decide (pop s = m) && decide (frm m (wth n C s) = p) := ⟨_, rfl⟩
  show V S (dep + 12) 177 0 [.ref 188, .int (nI m), .int (nI p), .int (nI n), .int (nI C), .null, .null] [] h _
  unfold prt
  rw [← hF]
  refine V_ic (v := nI 0) rfl rfl ?_
  refine V_istore (L' := [_, _, _, _, _, _, _]) rfl rfl rfl ?_
  refine V_ic (v := nI 0) rfl rfl ?_
  refine V_istore (L' := [_, _, _, _, _, _, _]) rfl rfl rfl ?_
  -- at 6: .iload 6
  have lp := loopUp (P := fun s => ∀ h1, MF [6, 7] [192, 193] h h1 → V S (dep + 12) 177 6 [.ref 188, .int (nI m), .int (nI p), .int (nI n), .int (nI C), .int (nI (cnt F s)), .int (nI s)] [] h1 (fun r h' => r = some (.int (nI (cnt F (2 ^ n)))) ∧ MF [6, 7] [192, 193] h h')) (2 ^ n) ?_ ?_ 0 (Nat.zero_le _)
  · exact lp h MF.rf
  · intro h1 f1
    refine V_iload rfl rfl ?_
    refine V_ic (v := nI 1) rfl rfl ?_
    refine V_iload_n rfl rfl ?_
    refine V_ishl rfl ?_
    -- at 11: .if_icmp .ge 38
    rw [nI_2p _ (by omega)]
    refine V_icmp_ge rfl (fun hc => ?_) (fun hc => ?_)
    · refine V_iload rfl rfl ?_
      -- at 51: .ireturn
      refine V_iret rfl rfl ?_
      exact ⟨rfl, f1⟩
    · exact absurd (nI_le (Nat.le_refl _) (by omega)) hc
  · intro s hs ih h1 f1
    have next : ∀ h2 c, MF [6, 7] [192, 193] h h2 → c = cnt F (s + 1) → V S (dep + 12) 177 43 [.ref 188, .int (nI m), .int (nI p), .int (nI n), .int (nI C), .int (nI c), .int (nI s)] [] h2 (fun r h' => r = some (.int (nI (cnt F (2 ^ n)))) ∧ MF [6, 7] [192, 193] h h') := by
      intro h2 c f2 e
      rw [e]
      refine V_iinc (L' := [_, _, _, _, _, _, _]) rfl rfl rfl ?_
      refine V_goto rfl ?_
      -- at 6: .iload 6
      rw [show Int32.ofInt 1 = nI 1 from rfl, nI_add]
      exact ih h2 f2
    have hcs : cnt F (s + 1) = cnt F s + if F s = true then 1 else 0 := by rw [cnt]
    have hps := pop7 (show s < 128 by omega)
    refine V_iload rfl rfl ?_
    refine V_ic (v := nI 1) rfl rfl ?_
    refine V_iload_n rfl rfl ?_
    refine V_ishl rfl ?_
    -- at 11: .if_icmp .ge 38
    rw [nI_2p _ (by omega)]
    refine V_icmp_ge rfl (fun hc => ?_) (fun hc => ?_)
    · exact absurd hc (nI_ge hs (by omega))
    · refine V_iload rfl rfl ?_
      -- at 16: .invokestatic 83
      refine V_cS rfl rfl rfl rfl (c_bc (by omega)) ?_
      refine V_iload_n rfl rfl ?_
      -- at 20: .if_icmp .ne 23
      refine V_icmp_ne rfl (fun hd => ?_) (fun hd => ?_)
      · have hd : pop s ≠ m := fun q => hd (by rw [q])
        exact next h1 _ f1 (by rw [hcs, hF]; simp [hd])
      · have hd := nI_inj (by omega) (by omega) (Decidable.of_not_not hd)
        have hrk := rk_pop hs hn
        rw [hd] at hrk
        have hwl : wth n C s < 2 ^ tri m := by have := wth_lt n C s; rw [hrk] at this; exact this
        refine V_aload_n rfl rfl rfl ?_
        refine V_iload_n rfl rfl ?_
        refine V_iload_n rfl rfl ?_
        refine V_iload rfl rfl ?_
        refine V_iload rfl rfl ?_
        -- at 30: .invokestatic 108
        refine V_cS rfl rfl rfl rfl (m_wth hn (c21 hn hC) (by omega)) ?_
        refine V_callV rfl rfl rfl rfl rfl (m_frm hm hwl) ?_
        rintro _ h3 ⟨rfl, f3⟩
        show V S (dep + 12) 177 36 [.ref 188, .int (nI m), .int (nI p), .int (nI n), .int (nI C), .int (nI (cnt F s)), .int (nI s)] [.int (nI (frm m (wth n C s)))] h3 _
        have hfl := frm21 (C := wth n C s) hm
        refine V_iload_n rfl rfl ?_
        -- at 37: .if_icmp .ne 6
        refine V_icmp_ne rfl (fun hj => ?_) (fun hj => ?_)
        · have hj : ¬ frm m (wth n C s) = p := fun q => hj (by rw [q])
          refine next h3 _ (f1.tr f3) ?_
          rw [hcs, hF]; simp [hj]
        · have hj := nI_inj (by omega) (by omega) (Decidable.of_not_not hj)
          refine V_iinc (L' := [_, _, _, _, _, _, _]) rfl rfl rfl ?_
          -- at 43: .iinc 6 1
          rw [show Int32.ofInt 1 = nI 1 from rfl, nI_add]
          refine next h3 _ (f1.tr f3) ?_
          rw [hcs, hF]; simp [hj, hd]
theorem m_srt {S : mScr} {dep r N : Nat} {xs : List Nat} {h : Hp} (hs : shA r 0 N = true) (hr : Nat.blt r 1020 = true) (hN : Nat.blt N 2147483648 = true) (hx : AL h r xs) (hl : xs.length ≤ N) (hbd : ∀ x ∈ xs, x < 2 ^ 31) : Cal S dep 200 [.ref r, .int (nI xs.length)] h (fun q h' => q = none ∧ AL h' r (srt xs) ∧ (∀ j, xs.length ≤ j → h'.1 r j = h.1 r j) ∧ Fr [r] h h') := by
  have hN2 := blt_l hN
  show V S dep 200 0 [.ref r, .int (nI xs.length), .null, .null, .null] [] h _
  refine V_ic (v := nI 1) rfl rfl ?_
  refine V_istore_n (L' := [_, _, _, _, _]) rfl rfl rfl ?_
  -- at 2: .iload_n 2
  have lp := loopUp (P := fun i => 1 ≤ i → ∀ h1 v3 v4, (∀ j, j < i → j < xs.length → h1.1 r j = nI ((srtF xs (min i xs.length)).getD j 0)) → (∀ j, i ≤ j → h1.1 r j = h.1 r j) → (∀ j, xs.length ≤ j → h1.1 r j = h.1 r j) → Fr [r] h h1 → V S dep 200 2 [.ref r, .int (nI xs.length), .int (nI i), v3, v4] [] h1 (fun q h' => q = none ∧ AL h' r (srt xs) ∧ (∀ j, xs.length ≤ j → h'.1 r j = h.1 r j) ∧ Fr [r] h h')) (max 1 xs.length) ?_ ?_ 1 (by omega) (Nat.le_refl _)
  · refine lp h _ _ (fun j hj hj2 => ?_) (fun j _ => rfl) (fun j _ => rfl) Fr.rf
    rw [hx j hj2, show j = 0 by omega, show min 1 xs.length = 1 by omega]
    rfl
  · intro _ h1 v3 v4 g1 g2 g3 hF
    refine V_iload_n rfl rfl ?_
    refine V_iload_n rfl rfl ?_
    -- at 4: .if_icmp .ge 52
    refine V_icmp_ge rfl (fun hc => ?_) (fun hc => ?_)
    · refine V_return rfl rfl ?_
      refine ⟨rfl, fun i hi => ?_, fun j hj => ?_, hF⟩
      · rw [srt_len] at hi
        rw [g1 i (by omega) hi, show min (max 1 xs.length) xs.length = xs.length by omega]; rfl
      · exact g3 j hj
    · exact absurd (nI_le (show xs.length ≤ max 1 xs.length by omega) (by omega)) hc
  · intro i hi ih hi1 h1 v3 v4 g1 g2 g3 hF
    have hil : i < xs.length := by omega
    have hmi : min i xs.length = i := by omega
    rw [hmi] at g1
    have hp := srtF_len xs i
    have hv : xs.getD i 0 < 2 ^ 31 := hbd _ (getD_mem hil)
    have hpb : ∀ j, j < i → (srtF xs i).getD j 0 < 2 ^ 31 := fun j hj => hbd _ (List.mem_of_mem_take ((srtF_mem i (by omega)).mp (getD_mem (by omega))))
    refine V_iload_n rfl rfl ?_
    refine V_iload_n rfl rfl ?_
    -- at 4: .if_icmp .ge 52
    refine V_icmp_ge rfl (fun hc => ?_) (fun hc => ?_)
    · exact absurd hc (nI_ge hil (by omega))
    · refine V_aload_n rfl rfl (by first | assumption | rfl) ?_
      refine V_iload_n rfl rfl ?_
      refine V_al _ rfl (by assumption) (by first | with_reducible rfl | assumption | exact nI_sub (by omega) | exact nI_add _ _) (by first | omega | assumption) (by first | rfl | assumption) ?_
      -- at 10: .istore_n 3
      rw [g2 i (Nat.le_refl i), hx i hil]
      refine V_istore_n (L' := [.ref r, .int (nI xs.length), .int (nI i), .int (nI (xs.getD i 0)), v4]) rfl rfl rfl ?_
      refine V_iload_n rfl rfl ?_
      refine V_istore (L' := [.ref r, .int (nI xs.length), .int (nI i), .int (nI (xs.getD i 0)), .int (nI i)]) rfl rfl rfl ?_
      have fin : ∀ t h2, t ≤ i → posR (xs.getD i 0) (srtF xs i) i = t → HoleAt h1 h2 r i t (srtF xs i) → V S dep 200 45 [.ref r, .int (nI xs.length), .int (nI i), .int (nI (xs.getD i 0)), .int (nI t)] [] h2 (fun q h' => q = none ∧ AL h' r (srt xs) ∧ (∀ j, xs.length ≤ j → h'.1 r j = h.1 r j) ∧ Fr [r] h h') := by
        intro t h2 ht hpos hH
        obtain ⟨k1, k2, k3, k4⟩ := hH
        refine V_aload_n rfl rfl (by first | assumption | rfl) ?_
        refine V_iload rfl rfl ?_
        refine V_iload_n rfl rfl ?_
        refine V_as _ rfl (by assumption) (by first | with_reducible rfl | assumption | exact nI_sub (by omega) | exact nI_add _ _) (by first | omega | assumption) (by first | rfl | assumption) ?_
        refine V_iinc (L' := [_, _, _, _, _]) rfl rfl rfl ?_
        refine V_goto rfl ?_
        -- at 2: .iload_n 2
        rw [show Int32.ofInt 1 = nI 1 from rfl, nI_add]
        refine ih (by omega) _ _ _ (fun j hj hj2 => ?_) (fun j hj => ?_) (fun j hj => ?_) (hF.tr (k4.tr (Fr.w (by simp))))
        · rw [show min (i + 1) xs.length = i + 1 by omega, srtF, ins_at, hp, hpos]
          by_cases h3 : j < t
          · rw [if_pos h3, wI_ne (by omega)]; exact k1 j h3
          · rw [if_neg h3]
            by_cases h4 : j = t
            · subst h4
              rw [if_pos rfl, wI_same]
            · rw [if_neg h4, wI_ne (by omega)]; exact k2 j (by omega) (by omega)
        · rw [wI_ne (by omega), k3 j (by omega)]; exact g2 j (by omega)
        · rw [wI_ne (by omega), k3 j (by omega)]; exact g3 j hj
      have lq : ∀ t, t ≤ i → ∀ h2, posR (xs.getD i 0) (srtF xs i) i = posR (xs.getD i 0) (srtF xs i) t → HoleAt h1 h2 r i t (srtF xs i) → V S dep 200 14 [.ref r, .int (nI xs.length), .int (nI i), .int (nI (xs.getD i 0)), .int (nI t)] [] h2 (fun q h' => q = none ∧ AL h' r (srt xs) ∧ (∀ j, xs.length ≤ j → h'.1 r j = h.1 r j) ∧ Fr [r] h h') := by
        intro t
        induction t with
        | zero =>
          intro _ h2 hpos hH
          refine V_iload rfl rfl ?_
          -- at 16: .ifCond .le 29
          refine V_if_le rfl (fun he => ?_) (fun he => ?_)
          · exact fin 0 h2 (by omega) hpos hH
          · exact absurd (by decide) he
        | succ t iht =>
          intro ht h2 hpos hH
          obtain ⟨k1, k2, k3, k4⟩ := id hH
          refine V_iload rfl rfl ?_
          -- at 16: .ifCond .le 29
          refine V_if_le rfl (fun he => ?_) (fun he => ?_)
          · exact absurd he (nI_nle (by omega) (by omega))
          · refine V_aload_n rfl rfl (by first | assumption | rfl) ?_
            refine V_iload rfl rfl ?_
            refine V_ic (v := nI 1) rfl rfl ?_
            refine V_isub rfl ?_
            refine V_al _ rfl (by assumption) (by first | with_reducible rfl | assumption | exact nI_sub (by omega) | exact nI_add _ _) (by first | omega | assumption) (by first | rfl | assumption) ?_
            refine V_iload_n rfl rfl ?_
            -- at 26: .if_icmp .le 19
            rw [show t + 1 - 1 = t by omega, k1 t (by omega)]
            refine V_icmp_le rfl (fun hf => ?_) (fun hf => ?_)
            · have hf := (nI_leI (hpb t (by omega)) hv).mp hf
              refine fin (t + 1) h2 ht ?_ hH
              rw [hpos, posR, if_neg (by omega)]
            · have hf := nI_ngt (hpb t (by omega)) hv hf
              refine V_aload_n rfl rfl (by first | assumption | rfl) ?_
              refine V_iload rfl rfl ?_
              refine V_aload_n rfl rfl (by first | assumption | rfl) ?_
              refine V_iload rfl rfl ?_
              refine V_ic (v := nI 1) rfl rfl ?_
              refine V_isub rfl ?_
              refine V_al _ rfl (by assumption) (by first | with_reducible rfl | assumption | exact nI_sub (by omega) | exact nI_add _ _) (by first | omega | assumption) (by first | rfl | assumption) ?_
              refine V_as _ rfl (by assumption) (by first | with_reducible rfl | assumption | exact nI_sub (by omega) | exact nI_add _ _) (by first | omega | assumption) (by first | rfl | assumption) ?_
              -- at 39: .iinc 4 (-1)
              rw [show t + 1 - 1 = t by omega, k1 t (by omega)]
              refine V_iinc (L' := [_, _, _, _, _]) rfl rfl rfl ?_
              refine V_goto rfl ?_
              -- at 14: .iload 4
              rw [show Int32.ofInt (-1) = -1 from rfl, show nI (t + 1) + -1 = nI t by rw [nI_succ]; apply nI_ext; show (nI t).toBitVec + 1 + (-1) = (nI t).toBitVec; rw [BitVec.add_assoc]; simp]
              refine iht (by omega) _ ?_ ⟨fun j hj => ?_, fun j hj hj2 => ?_, fun j hj => ?_, k4.tr (Fr.w (by simp))⟩
              · rw [hpos, posR, if_pos hf]
              · rw [wI_ne (by omega)]; exact k1 j (by omega)
              · by_cases h5 : j = t + 1
                · subst h5
                  rw [wI_same]; rfl
                · rw [wI_ne (by omega)]; exact k2 j (by omega) hj2
              · rw [wI_ne (by omega)]; exact k3 j hj
      exact lq i (Nat.le_refl i) h1 rfl ⟨fun j hj => g1 j hj (by omega), fun j h3 h4 => by omega, fun j _ => rfl, Fr.rf⟩
theorem m_deals {S : mScr} {dep n C r : Nat} {h : Hp} (hn : n ≤ 7) (hn1 : 1 ≤ n) (hC : C < 2 ^ tri n) (hs : shA r 0 7 = true) (hr : Nat.blt r 1020 = true) (h188 : r ≠ 188) (h192 : r ≠ 192) (h193 : r ≠ 193) : Cal S (dep + 12) 203 [.ref 188, .int (nI n), .int (nI C), .ref r] h (fun q h' => q = none ∧ AL h' r (dck n C) ∧ MF [6, 7] [192, 193, r] h h') := by
  show V S (dep + 12) 203 0 [.ref 188, .int (nI n), .int (nI C), .ref r, .null] [] h _
  refine V_ic (v := nI 0) rfl rfl ?_
  refine V_istore (L' := [_, _, _, _, _]) rfl rfl rfl ?_
  -- at 3: .iload 4
  have lp := loopUp (P := fun v => ∀ h1, MF [6, 7] [192, 193, r] h h1 → (∀ j, j < v → h1.1 r j = nI (crd n C j)) → V S (dep + 12) 203 3 [.ref 188, .int (nI n), .int (nI C), .ref r, .int (nI v)] [] h1 (fun q h' => q = none ∧ AL h' r (dck n C) ∧ MF [6, 7] [192, 193, r] h h')) n ?_ ?_ 0 (Nat.zero_le _)
  · exact lp h MF.rf (fun j hj => by omega)
  · intro h1 f1 e1
    have hA : AL h1 r (crds n C) := fun i hi => by rw [crds_len] at hi; rw [e1 i hi, crds_at hi]
    have hls := crds_len n C
    refine V_iload rfl rfl ?_
    refine V_iload_n rfl rfl ?_
    -- at 6: .if_icmp .ge 27
    refine V_icmp_ge rfl (fun hc => ?_) (fun hc => ?_)
    · refine V_aload_n rfl rfl (by first | assumption | rfl) ?_
      refine V_iload_n rfl rfl ?_
      -- at 35: .invokestatic 212
      refine V_st (st' := [.int (nI (crds n C).length), .ref r]) (by rw [crds_len]) ?_
      refine V_callS rfl rfl rfl rfl (m_srt hs hr rfl hA (by omega) (fun x hx => Nat.lt_trans (crds21 hn hx) (by decide))) ?_
      rintro _ h3 ⟨rfl, hA3, _, f3⟩
      refine V_return rfl rfl ?_
      exact ⟨rfl, hA3, f1.tr (MF.of f3 (by simp) h188)⟩
    · exact absurd (nI_le (Nat.le_refl _) (by omega)) hc
  · intro v hv ih h1 f1 e1
    refine V_iload rfl rfl ?_
    refine V_iload_n rfl rfl ?_
    -- at 6: .if_icmp .ge 27
    refine V_icmp_ge rfl (fun hc => ?_) (fun hc => ?_)
    · exact absurd hc (nI_ge hv (by omega))
    · refine V_aload_n rfl rfl (by first | assumption | rfl) ?_
      refine V_iload rfl rfl ?_
      refine V_aload_n rfl rfl rfl ?_
      refine V_iload_n rfl rfl ?_
      refine V_ic (v := nI 1) rfl rfl ?_
      refine V_isub rfl ?_
      refine V_iload_n rfl rfl ?_
      refine V_iload_n rfl rfl ?_
      refine V_iload rfl rfl ?_
      -- at 20: .invokestatic 219
      refine V_cS rfl rfl rfl rfl (m_wot hn (c21 hn hC) hv) ?_
      rw [nI_sub hn1]
      refine V_callV rfl rfl rfl rfl rfl (m_frm (by omega) (wot_lt hv)) ?_
      rintro _ h3 ⟨rfl, f3⟩
      show V S (dep + 12) 203 26 [.ref 188, .int (nI n), .int (nI C), .ref r, .int (nI v)] [.int (nI (crd n C v)), .int (nI v), .ref r] h3 _
      refine V_as _ rfl (by assumption) (by first | with_reducible rfl | assumption | exact nI_sub (by omega) | exact nI_add _ _) (by first | omega | assumption) (by first | rfl | assumption) ?_
      refine V_iinc (L' := [_, _, _, _, _]) rfl rfl rfl ?_
      refine V_goto rfl ?_
      -- at 3: .iload 4
      rw [show Int32.ofInt 1 = nI 1 from rfl, nI_add]
      refine ih _ ((f1.tr (f3.mono (by simp) (by simp))).tr (MF.w (by simp) h188)) (fun j hj => ?_)
      by_cases e : j = v
      · rw [e, wI_same]
      · rw [wI_ne (by omega), f3.2.1 r h188 (by simp; omega)]
        exact e1 j (by omega)
theorem m_unl {S : mScr} {dep r N : Nat} {xs : List Nat} {h : Hp} (hs : shA r 0 N = true) (hr : Nat.blt r 1020 = true) (hN : Nat.blt N 2147483648 = true) (hx : AL h r xs) (hl : xs.length ≤ N) (hbd : ∀ x ∈ xs, x < 2 ^ 21) : Cal S dep 210 [.ref r, .int (nI xs.length)] h (Rt (nI (unl xs xs.length)) h) := by
  have hN2 := blt_l hN
  have hgd : ∀ i, xs.getD i 0 < 2 ^ 31 := fun i => Nat.lt_trans (getD_lt hbd (by decide)) (by decide)
  show V S dep 210 0 [.ref r, .int (nI xs.length), .null, .null] [] h _
  refine V_ic (v := nI 0) rfl rfl ?_
  refine V_istore_n (L' := [_, _, _, _]) rfl rfl rfl ?_
  refine V_ic (v := nI 0) rfl rfl ?_
  refine V_istore_n (L' := [_, _, _, _]) rfl rfl rfl ?_
  -- at 4: .iload_n 3
  refine loopUp (P := fun j => V S dep 210 4 [.ref r, .int (nI xs.length), .int (nI (unl xs j)), .int (nI j)] [] h (Rt (nI (unl xs xs.length)) h)) xs.length ?_ ?_ 0 (Nat.zero_le _)
  · refine V_iload_n rfl rfl ?_
    refine V_iload_n rfl rfl ?_
    -- at 6: .if_icmp .ge 32
    refine V_icmp_ge rfl (fun hc => ?_) (fun hc => ?_)
    · refine V_iload_n rfl rfl ?_
      -- at 39: .ireturn
      refine V_iret rfl rfl ?_
      exact Rt.rf
    · exact absurd (nI_le (Nat.le_refl _) (by omega)) hc
  · intro j hj ih
    have up : ∀ d, unl xs j + d = unl xs (j + 1) → V S dep 210 30 [.ref r, .int (nI xs.length), .int (nI (unl xs j)), .int (nI j)] [.int (nI d), .int (nI (unl xs j))] h (Rt (nI (unl xs xs.length)) h) := by
      intro d hd
      refine V_iadd rfl ?_
      -- at 31: .istore_n 2
      rw [nI_add, hd]
      refine V_istore_n (L' := [_, _, _, _]) rfl rfl rfl ?_
      refine V_iinc (L' := [_, _, _, _]) rfl rfl rfl ?_
      refine V_goto rfl ?_
      -- at 4: .iload_n 3
      rw [show Int32.ofInt 1 = nI 1 from rfl, nI_add]
      exact ih
    refine V_iload_n rfl rfl ?_
    refine V_iload_n rfl rfl ?_
    -- at 6: .if_icmp .ge 32
    refine V_icmp_ge rfl (fun hc => ?_) (fun hc => ?_)
    · exact absurd hc (nI_ge hj (by omega))
    · refine V_iload_n rfl rfl ?_
      refine V_iload_n rfl rfl ?_
      -- at 11: .ifCond .eq 14
      refine V_if_eq rfl (fun he => ?_) (fun he => ?_)
      · have he : j = 0 := nI_inj (by omega) (by decide) he
        refine V_ic (v := nI 1) rfl rfl ?_
        refine V_goto rfl ?_
        -- at 30: .iadd
        exact up 1 (by rw [unl, if_pos (Or.inl he)])
      · have he : j ≠ 0 := fun q => he (by rw [q]; rfl)
        refine V_aload_n rfl rfl (by first | assumption | rfl) ?_
        refine V_iload_n rfl rfl ?_
        refine V_al _ rfl (by assumption) (by first | with_reducible rfl | assumption | exact nI_sub (by omega) | exact nI_add _ _) (by first | omega | assumption) (by first | rfl | assumption) ?_
        refine V_aload_n rfl rfl (by first | assumption | rfl) ?_
        refine V_iload_n rfl rfl ?_
        refine V_ic (v := nI 1) rfl rfl ?_
        refine V_isub rfl ?_
        refine V_al _ rfl (by assumption) (by first | with_reducible rfl | assumption | exact nI_sub (by omega) | exact nI_add _ _) (by first | omega | assumption) (by first | rfl | assumption) ?_
        -- at 22: .if_icmp .eq 7
        rw [hx j hj, hx (j - 1) (by omega)]
        refine V_icmp_eq rfl (fun hf => ?_) (fun hf => ?_)
        · have hf := nI_inj (hgd _) (hgd _) hf
          refine V_ic (v := nI 0) rfl rfl ?_
          -- at 30: .iadd
          exact up 0 (by rw [unl, if_neg (by rintro (q | q) <;> omega)])
        · have hf : xs.getD j 0 ≠ xs.getD (j - 1) 0 := fun q => hf (by rw [q])
          refine V_ic (v := nI 1) rfl rfl ?_
          refine V_goto rfl ?_
          -- at 30: .iadd
          exact up 1 (by rw [unl, if_pos (Or.inr hf)])
theorem triI {n : Nat} (hn : n ≤ 100) : nI n * (nI n - nI 1) / nI 2 = nI (tri n) := by
  rcases Nat.eq_zero_or_pos n with e | e
  · subst e; decide
  · rw [nI_sub (show 1 ≤ n from e), nI_mul, nI_div2 (Nat.lt_of_le_of_lt (Nat.mul_le_mul hn (show n - 1 ≤ 100 by omega)) (by decide)) (by decide) (by decide)]
    rfl
theorem lfL_mem {n C x : Nat} (hn : n ≤ 7) : ∀ k, x ∈ lfL n C k → x < 2 ^ tri n := by
  intro k
  induction k with
  | zero => intro h; simp [lfL] at h
  | succ k ih =>
    intro h
    rw [lfL] at h
    split at h
    · rw [List.mem_append] at h
      rcases h with h | h
      · exact ih h
      · simp at h; rw [h]; exact frm_lt hn
    · exact ih h
theorem lfL21 {n C x k : Nat} (hn : n ≤ 7) (h : x ∈ lfL n C k) : x < 2 ^ 21 := c21 hn (lfL_mem hn k h)
theorem m_ldk {S : mScr} {dep n C r : Nat} {h : Hp} (hn : n ≤ 7) (hC : C < 2 ^ tri n) (hs : shA r 0 21 = true) (hr : Nat.blt r 1020 = true) (h188 : r ≠ 188) (h192 : r ≠ 192) (h193 : r ≠ 193) : Cal S (dep + 12) 225 [.ref 188, .int (nI n), .int (nI C), .ref r] h (fun q h' => q = some (.int (nI (pop C))) ∧ AL h' r (ldk n C) ∧ MF [6, 7] [192, 193, r] h h') := by
  have ht := tri_le hn
  show V S (dep + 12) 225 0 [.ref 188, .int (nI n), .int (nI C), .ref r, .null, .null] [] h _
  refine V_ic (v := nI 0) rfl rfl ?_
  refine V_istore (L' := [_, _, _, _, _, _]) rfl rfl rfl ?_
  refine V_ic (v := nI 0) rfl rfl ?_
  refine V_istore (L' := [_, _, _, _, _, _]) rfl rfl rfl ?_
  -- at 6: .iload 5
  have lp := loopUp (P := fun k => ∀ h1, MF [6, 7] [192, 193, r] h h1 → AL h1 r (lfL n C k) → V S (dep + 12) 225 6 [.ref 188, .int (nI n), .int (nI C), .ref r, .int (nI (lfL n C k).length), .int (nI k)] [] h1 (fun q h' => q = some (.int (nI (pop C))) ∧ AL h' r (ldk n C) ∧ MF [6, 7] [192, 193, r] h h')) (tri n) ?_ ?_ 0 (Nat.zero_le _)
  · exact lp h MF.rf (fun i hi => by simp [lfL] at hi)
  · intro h1 f1 hA
    have hl : (lfL n C (tri n)).length = pop C := by rw [lfL_len, pop_eq hC (by omega)]
    have hl2 : (lfL n C (tri n)).length ≤ 21 := by rw [lfL_len]; have := cnt_le C.testBit (tri n); omega
    refine V_iload rfl rfl ?_
    refine V_iload_n rfl rfl ?_
    refine V_iload_n rfl rfl ?_
    refine V_ic (v := nI 1) rfl rfl ?_
    refine V_isub rfl ?_
    refine V_imul rfl ?_
    refine V_ic (v := nI 2) rfl rfl ?_
    refine V_idiv rfl (by first | assumption | decide | omega) ?_
    -- at 15: .if_icmp .ge 41
    rw [triI (by omega)]
    refine V_icmp_ge rfl (fun hc => ?_) (fun hc => ?_)
    · refine V_aload_n rfl rfl (by first | assumption | rfl) ?_
      refine V_iload rfl rfl ?_
      -- at 59: .invokestatic 212
      refine V_callS rfl rfl rfl rfl (m_srt hs hr rfl hA hl2 (fun x hx => Nat.lt_trans (lfL21 hn hx) (by decide))) ?_
      rintro _ h3 ⟨rfl, hA3, _, f3⟩
      show V S (dep + 12) 225 62 [.ref 188, .int (nI n), .int (nI C), .ref r, .int (nI (lfL n C (tri n)).length), .int (nI (tri n))] [] h3 _
      refine V_iload rfl rfl ?_
      -- at 64: .ireturn
      refine V_iret rfl rfl ?_
      exact ⟨by rw [hl], hA3, f1.tr (MF.of f3 (by simp) h188)⟩
    · exact absurd (nI_le (Nat.le_refl _) (by omega)) hc
  · intro k hk ih h1 f1 hA
    have hC21 := c21 hn hC
    rw [lfL] at ih
    refine V_iload rfl rfl ?_
    refine V_iload_n rfl rfl ?_
    refine V_iload_n rfl rfl ?_
    refine V_ic (v := nI 1) rfl rfl ?_
    refine V_isub rfl ?_
    refine V_imul rfl ?_
    refine V_ic (v := nI 2) rfl rfl ?_
    refine V_idiv rfl (by first | assumption | decide | omega) ?_
    -- at 15: .if_icmp .ge 41
    rw [triI (by omega)]
    refine V_icmp_ge rfl (fun hc => ?_) (fun hc => ?_)
    · exact absurd hc (nI_ge hk (by omega))
    · refine V_iload_n rfl rfl ?_
      refine V_iload rfl rfl ?_
      refine V_ishr rfl ?_
      refine V_ic (v := nI 1) rfl rfl ?_
      refine V_iand rfl ?_
      -- at 24: .ifCond .ne 6
      refine V_if_ne rfl (fun hd => ?_) (fun hd => ?_)
      · have hd := (tb_nz (by omega) (by omega)).mp hd
        rw [if_pos hd] at ih
        have hl2 : (lfL n C k).length < 21 := by rw [lfL_len]; have := cnt_le C.testBit k; omega
        have ex : C ^^^ (C &&& 2 ^ k) = C ^^^ 2 ^ k := by
          congr 1
          apply Nat.eq_of_testBit_eq
          intro i
          rw [Nat.testBit_and, tb2]
          by_cases e : k = i
          · rw [← e, hd]; simp
          · simp [e]
        refine V_aload_n rfl rfl (by first | assumption | rfl) ?_
        refine V_iload rfl rfl ?_
        refine V_aload_n rfl rfl rfl ?_
        refine V_iload_n rfl rfl ?_
        refine V_iload_n rfl rfl ?_
        refine V_ic (v := nI 1) rfl rfl ?_
        refine V_iload rfl rfl ?_
        refine V_ishl rfl ?_
        refine V_ic (v := -1) rfl rfl ?_
        refine V_ixor rfl ?_
        refine V_iand rfl ?_
        -- at 43: .invokevirtual 115
        rw [nI_2p _ (by omega), nI_andn, ex]
        refine V_callV rfl rfl rfl rfl rfl (m_frm hn (xor_lt hC (Nat.pow_lt_pow_right (by decide) hk))) ?_
        rintro _ h3 ⟨rfl, f3⟩
        show V S (dep + 12) 225 46 [.ref 188, .int (nI n), .int (nI C), .ref r, .int (nI (lfL n C k).length), .int (nI k)] [.int (nI (frm n (C ^^^ 2 ^ k))), .int (nI (lfL n C k).length), .ref r] h3 _
        refine V_as _ rfl (by assumption) (by first | with_reducible rfl | assumption | exact nI_sub (by omega) | exact nI_add _ _) (by first | omega | assumption) (by first | rfl | assumption) ?_
        refine V_iinc (L' := [_, _, _, _, _, _]) rfl rfl rfl ?_
        refine V_iinc (L' := [_, _, _, _, _, _]) rfl rfl rfl ?_
        refine V_goto rfl ?_
        -- at 6: .iload 5
        rw [show Int32.ofInt 1 = nI 1 from rfl, nI_add, nI_add]
        have ih2 := ih (wI h3 r (lfL n C k).length (nI (frm n (C ^^^ 2 ^ k)))) ((f1.tr (f3.mono (by simp) (by simp))).tr (MF.w (by simp) h188)) (fun i hi => by
          rw [List.length_append] at hi
          have hi : i < (lfL n C k).length + 1 := hi
          by_cases e : i = (lfL n C k).length
          · rw [e, wI_same, List.getD_eq_getElem?_getD, List.getElem?_append_right (Nat.le_refl _)]; simp
          · rw [wI_ne (by omega), f3.2.1 r h188 (by simp; omega), List.getD_eq_getElem?_getD, List.getElem?_append_left (by omega), ← List.getD_eq_getElem?_getD]
            exact hA i (by omega))
        rw [List.length_append] at ih2
        exact ih2
      · have hd : C.testBit k = false := (tb_z (by omega) (by omega)).mp (Decidable.of_not_not hd)
        rw [if_neg (by rw [hd]; simp)] at ih
        refine V_goto rfl ?_
        refine V_iinc (L' := [_, _, _, _, _, _]) rfl rfl rfl ?_
        refine V_goto rfl ?_
        -- at 6: .iload 5
        rw [show Int32.ofInt 1 = nI 1 from rfl, nI_add]
        exact ih h1 f1 hA
