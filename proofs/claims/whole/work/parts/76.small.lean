/-! the class: small nets -/
theorem frs_x : ∀ j, j < 7 → sFirsts.getD j 0 = nI (frsT.getD j 0) := by decide
theorem fms_x : ∀ j, j < 53 → sForms.getD j 0 = nI (fmsT.getD j 0) := by decide +kernel
theorem V_frs {S : mScr} {dep k pc nx aux j : Nat} {L st : List Value} {h : Hp} {Q : Option Value → Hp → Prop} (hp : prog k pc = some (.iaload, nx, aux)) (hj : j < 7) (kk : V S dep k nx L (.int (nI (frsT.getD j 0)) :: st) h Q) : V S dep k pc L (.int (nI j) :: .ref 1001 :: st) h Q := by
  have e : (nI j).toNatClampNeg = j := nI_clamp (by omega)
  refine V_xald (n := 7) (f := fun j => sFirsts.getD j 0) hp rfl (by decide) (inB_nI (nI_le (a := 0) (b := j) (Nat.zero_le _) (by omega)) (by rw [e]; exact hj)) ?_
  rw [e]
  show V S dep k nx L (.int (sFirsts.getD j 0) :: st) h Q
  rw [frs_x j hj]
  exact kk
theorem V_fms {S : mScr} {dep k pc nx aux j : Nat} {L st : List Value} {h : Hp} {Q : Option Value → Hp → Prop} (hp : prog k pc = some (.iaload, nx, aux)) (hj : j < 53) (kk : V S dep k nx L (.int (nI (fmsT.getD j 0)) :: st) h Q) : V S dep k pc L (.int (nI j) :: .ref 1002 :: st) h Q := by
  have e : (nI j).toNatClampNeg = j := nI_clamp (by omega)
  refine V_xald (n := 53) (f := fun j => sForms.getD j 0) hp rfl (by decide) (inB_nI (nI_le (a := 0) (b := j) (Nat.zero_le _) (by omega)) (by rw [e]; exact hj)) ?_
  rw [e]
  show V S dep k nx L (.int (sForms.getD j 0) :: st) h Q
  rw [fms_x j hj]
  exact kk
def fr (n : Nat) : Nat := frsT.getD n 0
theorem fr_f : ∀ n, n < 6 → fr n < fr (n + 1) ∧ fr (n + 1) ≤ 53 := by decide
theorem fr_34 : fr 3 = 4 ∧ fr 6 = 53 := by decide
theorem fr_sz0 : ∀ i, i < 53 → ∀ n, n < 6 → (3 ≤ n ∧ fr n ≤ i ∧ i < fr (n + 1)) → szT i = n ∧ 4 ≤ i := by decide +kernel
theorem fr_sz (i : Nat) (h1 : i < 53) (n : Nat) (h2 : n < 6) (h3 : 3 ≤ n) (h4 : fr n ≤ i) (h5 : i < fr (n + 1)) : szT i = n ∧ 4 ≤ i := fr_sz0 i h1 n h2 ⟨h3, h4, h5⟩
theorem fms_lt0 : ∀ i, i < 53 → ∀ n, n < 6 → (fr n ≤ i ∧ i < fr (n + 1)) → fmsT.getD i 0 < 2 ^ tri n := by decide +kernel
theorem fms_lt (i : Nat) (h1 : i < 53) (n : Nat) (h2 : n < 6) (h4 : fr n ≤ i) (h5 : i < fr (n + 1)) : fmsT.getD i 0 < 2 ^ tri n := fms_lt0 i h1 n h2 ⟨h4, h5⟩
theorem szT_le (i : Nat) : szT i ≤ 5 ∧ 3 ≤ szT i := by
  unfold szT
  split
  · omega
  · split <;> omega
theorem isDk (i : Nat) (h : i < 53) : isDeck (41 + 2 * i) = true := by
  have : ∀ i, i < 53 → isDeck (41 + 2 * i) = true := by decide +kernel
  exact this i h
def AA (a : Nat) : Prop := okX a = true ∨ a = 33 ∨ (49 ≤ a ∧ a ≤ 146)
def FA (h h' : Hp) : Prop := (∀ b, ¬ AA b → h'.1 b = h.1 b) ∧ h'.2 = h.2
theorem FA.rf {h : Hp} : FA h h := ⟨fun _ _ => rfl, rfl⟩
theorem FA.tr {h h1 h2 : Hp} (a : FA h h1) (b : FA h1 h2) : FA h h2 := ⟨fun c hc => (b.1 c hc).trans (a.1 c hc), b.2.trans a.2⟩
theorem Fr.fa {A : List Nat} {h h' : Hp} (f : Fr A h h') (hA : ∀ a ∈ A, AA a) : FA h h' := ⟨fun b hb => f.1 b (fun q => hb (hA b q)), f.2⟩
def DA (h : Hp) (m : Nat) : Prop := ∀ i, 4 ≤ i → i < m → DK h (41 + 2 * i) (dck (szT i) (fmsT.getD i 0))
theorem c_dall {S : mScr} {dep : Nat} {h : Hp} (hs : SNs h) : Cal S (dep + 12) 75 [.ref 33] h (fun q h' => q = none ∧ h'.1 33 5 = nI 1 ∧ DA h' 53 ∧ FA h h') := by
  show V S (dep + 12) 75 0 [.ref 33, .null, .null] [] h _
  have fin : ∀ h1 v1 v2, FA h h1 → DA h1 53 → V S (dep + 12) 75 73 [.ref 33, v1, v2] [] h1 (fun q h' => q = none ∧ h'.1 33 5 = nI 1 ∧ DA h' 53 ∧ FA h h') := by
    intro h1 v1 v2 f1 d1
    refine V_aload_n rfl rfl rfl ?_
    refine V_ic (v := nI 1) rfl rfl ?_
    refine V_pz 5 rfl rfl rfl rfl ?_
    -- at 78: .return_
    refine V_return rfl rfl ?_
    refine ⟨rfl, wI_same, fun i hi hi2 => (d1 i hi hi2).fr (A := [33]) (Fr.w (by simp)) (by simp; omega) (by simp; omega), f1.tr (Fr.fa (A := [33]) (Fr.w (by simp)) (by simp; exact Or.inr (Or.inl rfl)))⟩
  refine V_ic (v := nI 3) rfl rfl ?_
  refine V_istore_n (L' := [_, _, _]) rfl rfl rfl ?_
  -- at 2: .iload_n 1
  rcases hs with e0 | ⟨e0, hD⟩
  · have lp := loopUp (P := fun n => 3 ≤ n → ∀ h1 v2, FA h h1 → h1.1 33 5 = nI 0 → DA h1 (fr n) → V S (dep + 12) 75 2 [.ref 33, .int (nI n), v2] [] h1 (fun q h' => q = none ∧ h'.1 33 5 = nI 1 ∧ DA h' 53 ∧ FA h h')) 6 ?_ ?_ 3 (by decide)
    · exact lp (by decide) h _ FA.rf e0 (fun i h1 h2 => by have := fr_34.1; omega)
    · intro _ h1 v2 f1 e1 d1
      refine V_iload_n rfl rfl ?_
      refine V_ic (v := nI 5) rfl rfl ?_
      -- at 4: .if_icmp .gt 69
      refine V_icmp_gt rfl (fun hc => ?_) (fun hc => ?_)
      · exact fin h1 _ _ f1 (by have := fr_34.2; rw [this] at d1; exact d1)
      · exact absurd (by decide) hc
    · intro n hn ih h3 h1 v2 f1 e1 d1
      have hfr := fr_f n hn
      refine V_iload_n rfl rfl ?_
      refine V_ic (v := nI 5) rfl rfl ?_
      -- at 4: .if_icmp .gt 69
      refine V_icmp_gt rfl (fun hc => ?_) (fun hc => ?_)
      · exact absurd hc (nI_nlt (by omega) (by decide))
      · refine V_aload_n rfl rfl rfl ?_
        refine V_gi 5 rfl rfl rfl ?_
        -- at 11: .ifCond .ne 62
        rw [e1]
        refine V_if_ne rfl (fun hd => ?_) (fun hd => ?_)
        · exact absurd rfl hd
        · refine V_stat (v := .ref 1001) rfl rfl ?_
          refine V_iload_n rfl rfl ?_
          -- at 18: .iaload
          refine V_frs rfl (by omega) ?_
          refine V_istore_n (L' := [_, _, _]) rfl rfl rfl ?_
          -- at 20: .iload_n 2
          have lq := loopUp (P := fun i => fr n ≤ i → ∀ h2, FA h h2 → h2.1 33 5 = nI 0 → DA h2 i → V S (dep + 12) 75 20 [.ref 33, .int (nI n), .int (nI i)] [] h2 (fun q h' => q = none ∧ h'.1 33 5 = nI 1 ∧ DA h' 53 ∧ FA h h')) (fr (n + 1)) ?_ ?_ (fr n) (by omega)
          · exact lq (Nat.le_refl _) h1 f1 e1 d1
          · intro _ h2 f2 e2 d2
            refine V_iload_n rfl rfl ?_
            refine V_stat (v := .ref 1001) rfl rfl ?_
            refine V_iload_n rfl rfl ?_
            refine V_ic (v := nI 1) rfl rfl ?_
            refine V_iadd rfl ?_
            -- at 27: .iaload
            rw [nI_add]
            refine V_frs rfl (by omega) ?_
            refine V_icmp_ge rfl (fun he => ?_) (fun he => ?_)
            · refine V_iinc (L' := [_, _, _]) rfl rfl rfl ?_
              refine V_goto rfl ?_
              -- at 2: .iload_n 1
              rw [show Int32.ofInt 1 = nI 1 from rfl, nI_add]
              exact ih (by omega) h2 _ f2 e2 d2
            · exact absurd (show nI (fr (n + 1)) ≤ nI (fr (n + 1)) from nI_le (Nat.le_refl _) (by omega)) he
          · intro i hi ih2 hni h2 f2 e2 d2
            have hi53 : i < 53 := by omega
            obtain ⟨hsz, hi4⟩ := fr_sz i hi53 n hn h3 hni hi
            have hfl := fms_lt i hi53 n hn hni hi
            refine V_iload_n rfl rfl ?_
            refine V_stat (v := .ref 1001) rfl rfl ?_
            refine V_iload_n rfl rfl ?_
            refine V_ic (v := nI 1) rfl rfl ?_
            refine V_iadd rfl ?_
            -- at 27: .iaload
            rw [nI_add]
            refine V_frs rfl (by omega) ?_
            refine V_icmp_ge rfl (fun he => ?_) (fun he => ?_)
            · exact absurd (show nI (fr (n + 1)) ≤ nI i from he) (nI_ge hi (by omega))
            · refine V_aload_n rfl rfl rfl ?_
              refine V_getR (r := 34) rfl rfl ?_
              refine V_iload_n rfl rfl ?_
              refine V_stat (v := .ref 1002) rfl rfl ?_
              refine V_iload_n rfl rfl ?_
              -- at 40: .iaload
              refine V_fms rfl hi53 ?_
              refine V_callV rfl rfl rfl rfl rfl (c_load (a := 34) rfl (by omega) hfl) ?_
              rintro _ h4 ⟨rfl, hN4, f4⟩
              show V S (dep + 12) 75 44 [.ref 33, .int (nI n), .int (nI i)] [] h4 _
              have g4 : FA h2 h4 := f4.fa (by simp; exact ⟨Or.inl rfl, Or.inl rfl⟩)
              have hdk := isDk i hi53
              have hb2 := deck_b hdk
              refine V_aload_n rfl rfl rfl ?_
              refine V_getR (r := 20) rfl rfl ?_
              refine V_aload_n rfl rfl rfl ?_
              refine V_getR (r := 34) rfl rfl ?_
              refine V_aload_n rfl rfl rfl ?_
              refine V_getR (r := 36) rfl rfl ?_
              refine V_iload_n rfl rfl ?_
              refine V_a36 rfl (by first | omega | assumption) ?_
              -- at 58: .invokevirtual 55
              refine V_callV rfl rfl rfl rfl rfl (c_deal hN4 (by decide) hdk) ?_
              rintro _ h5 ⟨rfl, hD5, f5⟩
              show V S (dep + 12) 75 61 [.ref 33, .int (nI n), .int (nI i)] [] h5 _
              have g5 : FA h4 h5 := f5.fa (by simp; exact ⟨Or.inl rfl, Or.inl rfl, Or.inl rfl, Or.inl rfl, Or.inl rfl, Or.inl rfl, Or.inr (by omega), Or.inr (by omega)⟩)
              refine V_iinc (L' := [_, _, _]) rfl rfl rfl ?_
              refine V_goto rfl ?_
              -- at 20: .iload_n 2
              rw [show Int32.ofInt 1 = nI 1 from rfl, nI_add]
              refine ih2 (by omega) h5 ((f2.tr g4).tr g5) (by rw [f5.1 33 (by simp; omega), f4.1 33 (by simp)]; exact e2) (fun j hj hj2 => ?_)
              by_cases q : j = i
              · rw [q, hsz]; exact hD5
              · exact ((d2 j hj (by omega)).fr f4 (by simp; omega) (by simp; omega)).fr f5 (by simp; omega) (by simp; omega)
  · refine V_iload_n rfl rfl ?_
    refine V_ic (v := nI 5) rfl rfl ?_
    -- at 4: .if_icmp .gt 69
    refine V_icmp_gt rfl (fun hc => ?_) (fun hc => ?_)
    · exact fin h _ _ FA.rf hD
    · refine V_aload_n rfl rfl rfl ?_
      refine V_gi 5 rfl rfl rfl ?_
      -- at 11: .ifCond .ne 62
      rw [e0]
      refine V_if_ne rfl (fun hd => ?_) (fun hd => ?_)
      · exact fin h _ _ FA.rf hD
      · exact absurd (by decide) hd
theorem InvX.fa {h h' : Hp} {st : St} (hi : InvX h st) (f : FA h h') (h1 : h'.1 33 5 = nI 1) (hd : DA h' 53) : InvX h' st ∧ FX h h' := by
  obtain ⟨a1, a2, a3, a4, a5, a6, a7, a8, a9, a10⟩ := hi
  have no : ∀ b, okX b = false → b ≠ 33 → ¬(49 ≤ b ∧ b ≤ 146) → h'.1 b = h.1 b := fun b hb h33 hr => f.1 b (fun q => by
    rcases q with q | q | q
    · rw [q] at hb; exact Bool.noConfusion hb
    · exact h33 q
    · exact hr q)
  have ok : ∀ b, 170 ≤ b → okX b = false := fun b hb => bfalse (fun q => by have := okX_iff q; omega)
  refine ⟨⟨⟨fun i hi => ?_, fun d hd => ?_⟩, a2, ?_, fun i hi => by rw [no 3 rfl (by decide) (by decide)]; exact a4 i hi, by rw [no 0 rfl (by decide) (by decide)]; exact a5, a6, by rw [no 0 rfl (by decide) (by decide)]; exact a7, a8, by rw [no 0 rfl (by decide) (by decide)]; exact a9, Or.inr ⟨h1, hd⟩⟩, fun b hb => ⟨no b (ok b (by omega)) (by omega) (by omega), by rw [f.2]⟩⟩
  · obtain ⟨⟨b1, b2, b3, b4, b5⟩, b6⟩ := a1.1 i hi
    exact ⟨⟨b1, b2, by rw [no _ (ok _ (by omega)) (by omega) (by omega)]; exact b3, fun v hv => by rw [no _ (ok _ (by omega)) (by omega) (by omega)]; exact b4 v hv, b5⟩, b6⟩
  · obtain ⟨b1, b2, b3, b4, b5⟩ := a1.2 d hd
    exact ⟨b1, b2, by rw [no _ (ok _ (by omega)) (by omega) (by omega)]; exact b3, fun i hi => by rw [no _ (ok _ (by omega)) (by omega) (by omega)]; exact b4 i hi, b5⟩
  · obtain ⟨c1, c2, c3, p, hp, c4, c5⟩ := a3
    exact ⟨c1, c2, by rw [no 4 rfl (by decide) (by decide)]; exact c3, p, hp, by rw [no 4 rfl (by decide) (by decide)]; exact c4, c5.fr _ p _ hp (fun q _ _ j _ => by rw [no 5 rfl (by decide) (by decide)]) c1 c2⟩
def hcS (as ds : List Nat) (s : Nat) : Nat → Option Nat
  | 0 => some 0
  | i + 1 => match hcS as ds s i with
    | none => none
    | some t => if s.testBit i = true then (if adv ds (as.getD i 0) ds.length t < ds.length ∧ ds.getD (adv ds (as.getD i 0) ds.length t) 0 = as.getD i 0 then some (adv ds (as.getD i 0) ds.length t + 1) else none) else some t
def hcB (as ds : List Nat) (s : Nat) : Bool := (hcS as ds s as.length).isSome
theorem hcS_no {as ds : List Nat} {s : Nat} : ∀ {i j : Nat}, i ≤ j → hcS as ds s i = none → hcS as ds s j = none := by
  intro i j
  induction j with
  | zero => intro h1 h2; rw [show i = 0 by omega] at h2; exact h2
  | succ j ih =>
    intro h1 h2
    by_cases e : i = j + 1
    · rw [← e]; exact h2
    · rw [hcS, ih (by omega) h2]
theorem hcS_le {as ds : List Nat} {s : Nat} : ∀ i t, hcS as ds s i = some t → t ≤ ds.length := by
  intro i
  induction i with
  | zero => intro t h; cases h; omega
  | succ i ih =>
    intro t h
    rw [hcS] at h
    cases q : hcS as ds s i with
    | none => rw [q] at h; cases h
    | some u =>
      rw [q] at h
      dsimp only at h
      have := ih u q
      split at h
      · split at h
        · rename_i h1 h2
          cases h; omega
        · cases h
      · cases h; exact this
theorem c_hc {S : mScr} {dep b s : Nat} {as ds : List Nat} {h : Hp} (hA : DK h 37 as) (hD : DK h b ds) (hs : s < 128) : Cal S dep 80 [.ref 33, .ref b, .int (nI s)] h (Rt (bI (hcB as ds s)) h) := by
  obtain ⟨_, ha7, ha0, haA, hab⟩ := id hA
  obtain ⟨hd, hd7, hd0, hdA, hdb⟩ := id hD
  have hb1 := deck_b hd
  have hb2 := deck_b1 hd
  have haA : ∀ i, i < as.length → h.1 38 i = nI (as.getD i 0) := haA
  have g1 : ∀ i, as.getD i 0 < 2 ^ 21 := fun i => getD_lt hab (by decide)
  have g2 : ∀ i, ds.getD i 0 < 2 ^ 21 := fun i => getD_lt hdb (by decide)
  show V S dep 80 0 [.ref 33, .ref b, .int (nI s), .null, .null] [] h _
  refine V_ic (v := nI 0) rfl rfl ?_
  refine V_istore_n (L' := [_, _, _, _, _]) rfl rfl rfl ?_
  refine V_ic (v := nI 0) rfl rfl ?_
  refine V_istore (L' := [_, _, _, _, _]) rfl rfl rfl ?_
  -- at 5: .iload 4
  have lp := loopUp (P := fun i => ∀ t, hcS as ds s i = some t → V S dep 80 5 [.ref 33, .ref b, .int (nI s), .int (nI t), .int (nI i)] [] h (Rt (bI (hcB as ds s)) h)) as.length ?_ ?_ 0 (Nat.zero_le _)
  · exact lp 0 rfl
  · intro t ht
    refine V_iload rfl rfl ?_
    refine V_aload_n rfl rfl rfl ?_
    refine V_getR (r := 37) rfl rfl ?_
    refine V_gi 0 rfl rfl rfl ?_
    -- at 14: .if_icmp .ge 83
    rw [ha0]
    refine V_icmp_ge rfl (fun hc => ?_) (fun hc => ?_)
    · refine V_ic (v := nI 1) rfl rfl ?_
      -- at 98: .ireturn
      refine V_zret rfl rfl (by first | exact Or.inl rfl | exact Or.inr rfl | assumption) ?_
      exact Rt.of (by unfold hcB; rw [ht]; rfl)
    · exact absurd (nI_le (Nat.le_refl _) (by omega)) hc
  · intro i hi ih t ht
    have htl := hcS_le i t ht
    have hgi := g1 i
    refine V_iload rfl rfl ?_
    refine V_aload_n rfl rfl rfl ?_
    refine V_getR (r := 37) rfl rfl ?_
    refine V_gi 0 rfl rfl rfl ?_
    -- at 14: .if_icmp .ge 83
    rw [ha0]
    refine V_icmp_ge rfl (fun hc => ?_) (fun hc => ?_)
    · exact absurd hc (nI_ge hi (by omega))
    · refine V_iload_n rfl rfl ?_
      refine V_iload rfl rfl ?_
      refine V_ishr rfl ?_
      refine V_ic (v := nI 1) rfl rfl ?_
      refine V_iand rfl ?_
      -- at 23: .ifCond .eq 68
      refine V_if_eq rfl (fun hd2 => ?_) (fun hd2 => ?_)
      · have hd2 := (tb_z (by omega) (by omega)).mp hd2
        refine V_iinc (L' := [_, _, _, _, _]) rfl rfl rfl ?_
        refine V_goto rfl ?_
        -- at 5: .iload 4
        rw [show Int32.ofInt 1 = nI 1 from rfl, nI_add]
        exact ih t (by rw [hcS, ht]; dsimp only; rw [hd2, if_neg (by simp)])
      · have hd2 := (tb_nz (by omega) (by omega)).mp hd2
        have step : hcS as ds s (i + 1) = if adv ds (as.getD i 0) ds.length t < ds.length ∧ ds.getD (adv ds (as.getD i 0) ds.length t) 0 = as.getD i 0 then some (adv ds (as.getD i 0) ds.length t + 1) else none := by
          rw [hcS, ht]; dsimp only; rw [if_pos hd2]
        have ef : adv ds (as.getD i 0) ds.length t = adv ds (as.getD i 0) (ds.length - t) t := adv_fuel _ _ t (by omega) (by omega)
        have lq : ∀ f u, u + f = ds.length → adv ds (as.getD i 0) ds.length t = adv ds (as.getD i 0) f u → V S dep 80 26 [.ref 33, .ref b, .int (nI s), .int (nI u), .int (nI i)] [] h (Rt (bI (hcB as ds s)) h) := by
          have fin : ∀ u, u ≤ ds.length → adv ds (as.getD i 0) ds.length t = u → V S dep 80 59 [.ref 33, .ref b, .int (nI s), .int (nI u), .int (nI i)] [] h (Rt (bI (hcB as ds s)) h) := by
            intro u hu e
            rw [e] at step
            have hgu := g2 u
            have no : ¬ (u < ds.length ∧ ds.getD u 0 = as.getD i 0) → V S dep 80 86 [.ref 33, .ref b, .int (nI s), .int (nI u), .int (nI i)] [] h (Rt (bI (hcB as ds s)) h) := by
              intro q
              rw [if_neg q] at step
              refine V_ic (v := nI 0) rfl rfl ?_
              -- at 87: .ireturn
              refine V_zret rfl rfl (by first | exact Or.inl rfl | exact Or.inr rfl | assumption) ?_
              exact Rt.of (by unfold hcB; rw [hcS_no (show i + 1 ≤ as.length from hi) step]; rfl)
            refine V_iload_n rfl rfl ?_
            refine V_aload_n rfl rfl (by first | assumption | rfl) ?_
            refine V_gi 0 rfl (deck_sz (by first | assumption | rfl)) rfl ?_
            -- at 64: .if_icmp .ge 22
            rw [hd0]
            refine V_icmp_ge rfl (fun he => ?_) (fun he => ?_)
            · have he := (nI_leI (by omega) (by omega)).mp he
              exact no (by omega)
            · have he := nI_ngt (by omega) (by omega) he
              refine V_aload_n rfl rfl (by first | assumption | rfl) ?_
              refine V_getR rfl (deck_cd (by first | assumption | rfl)) ?_
              refine V_iload_n rfl rfl ?_
              refine V_al 7 rfl (deck_ar (by first | assumption | rfl)) (by first | with_reducible rfl | assumption | exact nI_sub (by omega) | exact nI_add _ _) (by first | omega | assumption) rfl ?_
              refine V_aload_n rfl rfl rfl ?_
              refine V_getR (r := 37) rfl rfl ?_
              refine V_getR (r := 38) rfl rfl ?_
              refine V_iload rfl rfl ?_
              refine V_al 7 rfl rfl (by first | with_reducible rfl | assumption | exact nI_sub (by omega) | exact nI_add _ _) (by first | omega | assumption) rfl ?_
              -- at 83: .if_icmp .eq 5
              rw [hdA u he, haA i hi]
              refine V_icmp_eq rfl (fun hf => ?_) (fun hf => ?_)
              · have hf := nI_inj (by omega) (by omega) hf
                refine V_iinc (L' := [_, _, _, _, _]) rfl rfl rfl ?_
                refine V_iinc (L' := [_, _, _, _, _]) rfl rfl rfl ?_
                refine V_goto rfl ?_
                -- at 5: .iload 4
                rw [show Int32.ofInt 1 = nI 1 from rfl, nI_add, nI_add]
                exact ih (u + 1) (by rw [step, if_pos ⟨he, hf⟩])
              · exact no (fun q => hf (by rw [q.2]))
          intro f
          induction f with
          | zero =>
            intro u hu e
            rw [adv] at e
            refine V_iload_n rfl rfl ?_
            refine V_aload_n rfl rfl (by first | assumption | rfl) ?_
            refine V_gi 0 rfl (deck_sz (by first | assumption | rfl)) rfl ?_
            -- at 31: .if_icmp .ge 28
            rw [hd0]
            refine V_icmp_ge rfl (fun he => ?_) (fun he => ?_)
            · exact fin u (by omega) e
            · exact absurd (nI_le (by omega) (by omega)) he
          | succ f ihf =>
            intro u hu e
            rw [adv] at e
            have hgu := g2 u
            refine V_iload_n rfl rfl ?_
            refine V_aload_n rfl rfl (by first | assumption | rfl) ?_
            refine V_gi 0 rfl (deck_sz (by first | assumption | rfl)) rfl ?_
            -- at 31: .if_icmp .ge 28
            rw [hd0]
            refine V_icmp_ge rfl (fun he => ?_) (fun he => ?_)
            · exact absurd he (nI_ge (by omega) (by omega))
            · refine V_aload_n rfl rfl (by first | assumption | rfl) ?_
              refine V_getR rfl (deck_cd (by first | assumption | rfl)) ?_
              refine V_iload_n rfl rfl ?_
              refine V_al 7 rfl (deck_ar (by first | assumption | rfl)) (by first | with_reducible rfl | assumption | exact nI_sub (by omega) | exact nI_add _ _) (by first | omega | assumption) rfl ?_
              refine V_aload_n rfl rfl rfl ?_
              refine V_getR (r := 37) rfl rfl ?_
              refine V_getR (r := 38) rfl rfl ?_
              refine V_iload rfl rfl ?_
              refine V_al 7 rfl rfl (by first | with_reducible rfl | assumption | exact nI_sub (by omega) | exact nI_add _ _) (by first | omega | assumption) rfl ?_
              -- at 50: .if_icmp .ge 9
              rw [hdA u (by omega), haA i hi]
              refine V_icmp_ge rfl (fun hf => ?_) (fun hf => ?_)
              · have hf := (nI_leI (by omega) (by omega)).mp hf
                rw [if_neg (by omega)] at e
                exact fin u (by omega) e
              · have hf := nI_ngt (by omega) (by omega) hf
                rw [if_pos ⟨by omega, hf⟩] at e
                refine V_iinc (L' := [_, _, _, _, _]) rfl rfl rfl ?_
                refine V_goto rfl ?_
                -- at 26: .iload_n 3
                rw [show Int32.ofInt 1 = nI 1 from rfl, nI_add]
                exact ihf (u + 1) (by omega) e
        exact lq (ds.length - t) t (by omega) ef
