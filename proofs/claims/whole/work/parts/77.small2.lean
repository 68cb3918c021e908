/-! the class: least, rivals, mends -/
def dT (i : Nat) : List Nat := dckT.getD i []
theorem DA_T {h : Hp} (hd : DA h 53) {i : Nat} (h4 : 4 ≤ i) (h5 : i < 53) : DK h (41 + 2 * i) (dT i) := by
  have := hd i h4 h5
  rw [dck_T i h5 h4] at this
  exact this
def ownF (n f : Nat) : Nat := ((List.range 53).find? (fun i => decide (fr n ≤ i) && decide (i < fr (n + 1)) && (fmsT.getD i 0 == f))).getD 0
theorem fms_inj0 : ∀ n, n < 6 → ∀ i, i < 53 → ∀ j, j < 53 → (fr n ≤ i ∧ i < fr (n + 1) ∧ fr n ≤ j ∧ j < fr (n + 1) ∧ fmsT.getD i 0 = fmsT.getD j 0) → i = j := by decide +kernel
theorem fms_T : ∀ n, n < 6 → (fms n).length = fr (n + 1) - fr n ∧ ∀ j, j < fr (n + 1) - fr n → (fms n).getD j 0 = fmsT.getD (fr n + j) 0 := by
  intro n hn
  rcases (by omega : n = 0 ∨ n = 1 ∨ n = 2 ∨ n = 3 ∨ n = 4 ∨ n = 5) with rfl | rfl | rfl | rfl | rfl | rfl
  · rw [fms_0]; decide
  · rw [fms_1]; decide
  · rw [fms_2]; decide
  · rw [fms_3]; decide
  · rw [fms_4]; decide
  · rw [fms_5]; decide +kernel
theorem fms_mem {n C : Nat} : C ∈ fms n ↔ C < 2 ^ tri n ∧ frm n C = C := by
  unfold fms
  rw [List.mem_filter, List.mem_range, decide_eq_true_eq]
theorem frm_mem {n C : Nat} (hn : n ≤ 7) (hC : C < 2 ^ tri n) : frm n C ∈ fms n := fms_mem.mpr ⟨frm_lt hn, frm_frm hn hC⟩
theorem ownF_spec {n f : Nat} (hn : n < 6) (hf : f ∈ fms n) : fr n ≤ ownF n f ∧ ownF n f < fr (n + 1) ∧ ownF n f < 53 ∧ fmsT.getD (ownF n f) 0 = f := by
  have h53 := (fr_f n hn).2
  obtain ⟨h1, h2⟩ := fms_T n hn
  obtain ⟨j, hj, e⟩ := List.mem_iff_getElem.mp hf
  have hj2 : j < fr (n + 1) - fr n := by omega
  have e2 := h2 j hj2
  rw [List.getD_eq_getElem?_getD, List.getElem?_eq_getElem hj] at e2
  have e3 : fmsT.getD (fr n + j) 0 = f := by rw [← e2]; exact e
  unfold ownF
  cases q : (List.range 53).find? (fun i => decide (fr n ≤ i) && decide (i < fr (n + 1)) && (fmsT.getD i 0 == f)) with
  | none =>
    exfalso
    rw [List.find?_eq_none] at q
    have := q (fr n + j) (List.mem_range.mpr (by omega))
    rw [e3, decide_eq_true (by omega), decide_eq_true (by omega)] at this
    simp at this
  | some i =>
    have h3 := List.find?_some q
    have h4 := List.mem_of_find?_eq_some q
    simp only [Bool.and_eq_true, decide_eq_true_eq, beq_iff_eq] at h3
    exact ⟨h3.1.1, h3.1.2, List.mem_range.mp h4, h3.2⟩
theorem own_iff {n f i : Nat} (hn : n < 6) (hf : f ∈ fms n) (h1 : fr n ≤ i) (h2 : i < fr (n + 1)) : fmsT.getD i 0 = f ↔ i = ownF n f := by
  obtain ⟨a, b, c, d⟩ := ownF_spec hn hf
  have h53 := (fr_f n hn).2
  constructor
  · intro e
    exact fms_inj0 n hn i (by omega) (ownF n f) c ⟨h1, h2, a, b, by rw [e, d]⟩
  · intro e; rw [e]; exact d
theorem fmsT21 : ∀ i, i < 53 → fmsT.getD i 0 < 2 ^ 21 := by decide +kernel
theorem c_ask {S : mScr} {dep n f : Nat} {h : Hp} (hn : n < 6) (h3 : 3 ≤ n) (hf : f ∈ fms n) (hd : DA h 53) : Cal S (dep + 2) 77 [.ref 33, .int (nI n), .int (nI f)] h (fun q h' => q = none ∧ DK h' 37 (dT (ownF n f)) ∧ Fr [37, 38] h h') := by
  obtain ⟨o1, o2, o3, o4⟩ := ownF_spec hn hf
  have hfr := fr_f n hn
  have hfl : f < 2 ^ 21 := by rw [← o4]; exact fmsT21 _ o3
  show V S (dep + 2) 77 0 [.ref 33, .int (nI n), .int (nI f), .null] [] h _
  refine V_stat (v := .ref 1001) rfl rfl ?_
  refine V_iload_n rfl rfl ?_
  -- at 4: .iaload
  refine V_frs rfl (by omega) ?_
  refine V_istore_n (L' := [_, _, _, _]) rfl rfl rfl ?_
  -- at 6: .iload_n 3
  have lp := loopUp (P := fun i => fr n ≤ i → ∀ h1, Fr [37, 38] h h1 → (ownF n f < i → DK h1 37 (dT (ownF n f))) → V S (dep + 2) 77 6 [.ref 33, .int (nI n), .int (nI f), .int (nI i)] [] h1 (fun q h' => q = none ∧ DK h' 37 (dT (ownF n f)) ∧ Fr [37, 38] h h')) (fr (n + 1)) ?_ ?_ (fr n) (by omega)
  · exact lp (Nat.le_refl _) h Fr.rf (fun q => by omega)
  · intro _ h1 f1 d1
    refine V_iload_n rfl rfl ?_
    refine V_stat (v := .ref 1001) rfl rfl ?_
    refine V_iload_n rfl rfl ?_
    refine V_ic (v := nI 1) rfl rfl ?_
    refine V_iadd rfl ?_
    -- at 13: .iaload
    rw [nI_add]
    refine V_frs rfl (by omega) ?_
    refine V_icmp_ge rfl (fun hc => ?_) (fun hc => ?_)
    · refine V_return rfl rfl ?_
      exact ⟨rfl, d1 (by omega), f1⟩
    · exact absurd (show nI (fr (n + 1)) ≤ nI (fr (n + 1)) from nI_le (Nat.le_refl _) (by omega)) hc
  · intro i hi ih hni h1 f1 d1
    have hi53 : i < 53 := by omega
    have hil := fmsT21 i hi53
    refine V_iload_n rfl rfl ?_
    refine V_stat (v := .ref 1001) rfl rfl ?_
    refine V_iload_n rfl rfl ?_
    refine V_ic (v := nI 1) rfl rfl ?_
    refine V_iadd rfl ?_
    -- at 13: .iaload
    rw [nI_add]
    refine V_frs rfl (by omega) ?_
    refine V_icmp_ge rfl (fun hc => ?_) (fun hc => ?_)
    · exact absurd (show nI (fr (n + 1)) ≤ nI i from hc) (nI_ge hi (by omega))
    · refine V_stat (v := .ref 1002) rfl rfl ?_
      refine V_iload_n rfl rfl ?_
      -- at 21: .iaload
      refine V_fms rfl hi53 ?_
      refine V_iload_n rfl rfl ?_
      -- at 23: .if_icmp .ne 16
      refine V_icmp_ne rfl (fun he => ?_) (fun he => ?_)
      · have he : ¬ i = ownF n f := fun q => he (by rw [(own_iff hn hf hni hi).mpr q])
        refine V_iinc (L' := [_, _, _, _]) rfl rfl rfl ?_
        refine V_goto rfl ?_
        -- at 6: .iload_n 3
        rw [show Int32.ofInt 1 = nI 1 from rfl, nI_add]
        exact ih (by omega) h1 f1 (fun q => d1 (by omega))
      · have he := (own_iff hn hf hni hi).mp (nI_inj (by omega) (by omega) (Decidable.of_not_not he))
        have hdk := isDk i hi53
        have hb2 := deck_b hdk
        obtain ⟨_, hi4⟩ := fr_sz i hi53 n hn h3 hni hi
        have hD1 := (DA_T hd hi4 hi53).fr f1 (by simp; omega) (by simp; omega)
        refine V_aload_n rfl rfl rfl ?_
        refine V_getR (r := 37) rfl rfl ?_
        refine V_aload_n rfl rfl rfl ?_
        refine V_getR (r := 36) rfl rfl ?_
        refine V_iload_n rfl rfl ?_
        refine V_a36 rfl (by first | omega | assumption) ?_
        -- at 36: .invokevirtual 61
        refine V_callV rfl rfl rfl rfl rfl (c_dcopy (a := 37) hD1 rfl (by omega) (by omega) (by omega)) ?_
        rintro _ h2 ⟨rfl, hD2, f2⟩
        show V S (dep + 2) 77 39 [.ref 33, .int (nI n), .int (nI f), .int (nI i)] [] h2 _
        refine V_iinc (L' := [_, _, _, _]) rfl rfl rfl ?_
        refine V_goto rfl ?_
        -- at 6: .iload_n 3
        rw [show Int32.ofInt 1 = nI 1 from rfl, nI_add]
        exact ih (by omega) h2 (f1.tr (f2.mono (by simp))) (fun _ => by rw [← he]; exact hD2)
def inP (n own s i : Nat) : Bool := decide (fr n ≤ i) && (!decide (i = own) && hcB (dT own) (dT i) s)
def inA (n own s : Nat) : Bool := anyB (inP n own s) (fr (n + 1))
theorem c_inA {S : mScr} {dep n f s : Nat} {h : Hp} (hn : n < 6) (h3 : 3 ≤ n) (hf : f ∈ fms n) (hd : DA h 53) (hA : DK h 37 (dT (ownF n f))) (hs : s < 128) : Cal S (dep + 1) 79 [.ref 33, .int (nI n), .int (nI f), .int (nI s)] h (Rt (bI (inA n (ownF n f) s)) h) := by
  obtain ⟨o1, o2, o3, o4⟩ := ownF_spec hn hf
  have hfr := fr_f n hn
  have hfl : f < 2 ^ 21 := by rw [← o4]; exact fmsT21 _ o3
  show V S (dep + 1) 79 0 [.ref 33, .int (nI n), .int (nI f), .int (nI s), .null] [] h _
  refine V_stat (v := .ref 1001) rfl rfl ?_
  refine V_iload_n rfl rfl ?_
  -- at 4: .iaload
  refine V_frs rfl (by omega) ?_
  refine V_istore (L' := [_, _, _, _, _]) rfl rfl rfl ?_
  -- at 7: .iload 4
  have lp := loopUp (P := fun i => fr n ≤ i → (∀ j, j < i → inP n (ownF n f) s j = false) → V S (dep + 1) 79 7 [.ref 33, .int (nI n), .int (nI f), .int (nI s), .int (nI i)] [] h (Rt (bI (inA n (ownF n f) s)) h)) (fr (n + 1)) ?_ ?_ (fr n) (by omega)
  · exact lp (Nat.le_refl _) (fun j hj => by unfold inP; rw [decide_eq_false (by omega)]; rfl)
  · intro _ hall
    refine V_iload rfl rfl ?_
    refine V_stat (v := .ref 1001) rfl rfl ?_
    refine V_iload_n rfl rfl ?_
    refine V_ic (v := nI 1) rfl rfl ?_
    refine V_iadd rfl ?_
    -- at 15: .iaload
    rw [nI_add]
    refine V_frs rfl (by omega) ?_
    refine V_icmp_ge rfl (fun hc => ?_) (fun hc => ?_)
    · refine V_ic (v := nI 0) rfl rfl ?_
      -- at 53: .ireturn
      refine V_zret rfl rfl (by first | exact Or.inl rfl | exact Or.inr rfl | assumption) ?_
      exact Rt.of (by rw [show inA n (ownF n f) s = false from anyB_none hall]; rfl)
    · exact absurd (show nI (fr (n + 1)) ≤ nI (fr (n + 1)) from nI_le (Nat.le_refl _) (by omega)) hc
  · intro i hi ih hni hall
    have hi53 : i < 53 := by omega
    have hil := fmsT21 i hi53
    have next : inP n (ownF n f) s i = false → V S (dep + 1) 79 46 [.ref 33, .int (nI n), .int (nI f), .int (nI s), .int (nI i)] [] h (Rt (bI (inA n (ownF n f) s)) h) := by
      intro e
      refine V_iinc (L' := [_, _, _, _, _]) rfl rfl rfl ?_
      refine V_goto rfl ?_
      -- at 7: .iload 4
      rw [show Int32.ofInt 1 = nI 1 from rfl, nI_add]
      exact ih (by omega) (fun j hj => if q : j = i then q ▸ e else hall j (by omega))
    refine V_iload rfl rfl ?_
    refine V_stat (v := .ref 1001) rfl rfl ?_
    refine V_iload_n rfl rfl ?_
    refine V_ic (v := nI 1) rfl rfl ?_
    refine V_iadd rfl ?_
    -- at 15: .iaload
    rw [nI_add]
    refine V_frs rfl (by omega) ?_
    refine V_icmp_ge rfl (fun hc => ?_) (fun hc => ?_)
    · exact absurd (show nI (fr (n + 1)) ≤ nI i from hc) (nI_ge hi (by omega))
    · refine V_stat (v := .ref 1002) rfl rfl ?_
      refine V_iload rfl rfl ?_
      -- at 24: .iaload
      refine V_fms rfl hi53 ?_
      refine V_iload_n rfl rfl ?_
      -- at 26: .if_icmp .eq 20
      refine V_icmp_eq rfl (fun he => ?_) (fun he => ?_)
      · have he := (own_iff hn hf hni hi).mp (nI_inj (by omega) (by omega) he)
        exact next (by unfold inP; rw [decide_eq_true he, Bool.not_true, Bool.false_and, Bool.and_false])
      · have he : ¬ i = ownF n f := fun q => he (by rw [(own_iff hn hf hni hi).mpr q])
        have hdk := isDk i hi53
        have hb2 := deck_b hdk
        obtain ⟨_, hi4⟩ := fr_sz i hi53 n hn h3 hni hi
        have ei : inP n (ownF n f) s i = hcB (dT (ownF n f)) (dT i) s := by unfold inP; rw [decide_eq_true hni, decide_eq_false he]; rfl
        refine V_aload_n rfl rfl rfl ?_
        refine V_aload_n rfl rfl rfl ?_
        refine V_getR (r := 36) rfl rfl ?_
        refine V_iload rfl rfl ?_
        refine V_a36 rfl (by first | omega | assumption) ?_
        refine V_iload_n rfl rfl ?_
        -- at 38: .invokevirtual 78
        refine V_cV rfl rfl rfl rfl rfl (c_hc hA (DA_T hd hi4 hi53) hs) ?_
        refine V_if_eq rfl (fun hg => ?_) (fun hg => ?_)
        · exact next (by rw [ei]; exact bI_z.mp hg)
        · refine V_ic (v := nI 1) rfl rfl ?_
          -- at 45: .ireturn
          refine V_zret rfl rfl (by first | exact Or.inl rfl | exact Or.inr rfl | assumption) ?_
          exact Rt.of (by rw [show inA n (ownF n f) s = true from anyB_yes hi (by rw [ei]; exact bI_nz.mp hg)]; rfl)
def cfw (n own : Nat) : Nat → Nat
  | 0 => n
  | k + 1 => if k = 0 then n else if pop k < cfw n own k ∧ inA n own k = false then pop k else cfw n own k
theorem cfw_le (n own : Nat) : ∀ k, cfw n own k ≤ n := by
  intro k
  induction k with
  | zero => exact Nat.le_refl _
  | succ k ih =>
    rw [cfw]
    split
    · exact Nat.le_refl _
    · split
      · omega
      · exact ih
theorem c_few2 {S : mScr} {dep n f : Nat} {h : Hp} (hn : n < 6) (h3 : 3 ≤ n) (hf : f ∈ fms n) (hd : DA h 53) : Cal S (dep + 3) 78 [.ref 33, .int (nI n), .int (nI f)] h (fun q h' => q = some (.int (nI (cfw n (ownF n f) (2 ^ n)))) ∧ Fr [37, 38] h h') := by
  have hL : (2 : Nat) ^ n ≤ 32 := Nat.pow_le_pow_right (n := 2) (j := 5) (by decide) (by omega)
  have h2p := Nat.two_pow_pos n
  show V S (dep + 3) 78 0 [.ref 33, .int (nI n), .int (nI f), .null, .null, .null] [] h _
  refine V_aload_n rfl rfl rfl ?_
  refine V_iload_n rfl rfl ?_
  refine V_iload_n rfl rfl ?_
  -- at 3: .invokevirtual 65
  refine V_callV rfl rfl rfl rfl rfl (c_ask hn h3 hf hd) ?_
  rintro _ h1 ⟨rfl, hA1, f1⟩
  show V S (dep + 3) 78 6 [.ref 33, .int (nI n), .int (nI f), .null, .null, .null] [] h1 _
  have hd1 : DA h1 53 := fun i h4 h5 => (hd i h4 h5).fr f1 (by simp; omega) (by simp; omega)
  refine V_iload_n rfl rfl ?_
  refine V_istore_n (L' := [_, _, _, _, _, _]) rfl rfl rfl ?_
  refine V_ic (v := nI 1) rfl rfl ?_
  refine V_istore (L' := [_, _, _, _, _, _]) rfl rfl rfl ?_
  -- at 11: .iload 4
  have lp := loopUp (P := fun k => 1 ≤ k → ∀ v5, V S (dep + 3) 78 11 [.ref 33, .int (nI n), .int (nI f), .int (nI (cfw n (ownF n f) k)), .int (nI k), v5] [] h1 (fun q h' => q = some (.int (nI (cfw n (ownF n f) (2 ^ n)))) ∧ Fr [37, 38] h h')) (2 ^ n) ?_ ?_ 1 (by omega)
  · exact lp (Nat.le_refl _) _
  · intro _ v5
    refine V_iload rfl rfl ?_
    refine V_ic (v := nI 1) rfl rfl ?_
    refine V_iload_n rfl rfl ?_
    refine V_ishl rfl ?_
    -- at 16: .if_icmp .ge 36
    rw [nI_2p _ (by omega)]
    refine V_icmp_ge rfl (fun hc => ?_) (fun hc => ?_)
    · refine V_iload_n rfl rfl ?_
      -- at 53: .ireturn
      refine V_iret rfl rfl ?_
      exact ⟨rfl, f1⟩
    · exact absurd (nI_le (Nat.le_refl _) (by omega)) hc
  · intro k hk ih hk1 v5
    have hpk := pop7 (show k < 128 by omega)
    have hcl := cfw_le n (ownF n f) k
    rw [cfw, if_neg (show ¬ k = 0 by omega)] at ih
    refine V_iload rfl rfl ?_
    refine V_ic (v := nI 1) rfl rfl ?_
    refine V_iload_n rfl rfl ?_
    refine V_ishl rfl ?_
    -- at 16: .if_icmp .ge 36
    rw [nI_2p _ (by omega)]
    refine V_icmp_ge rfl (fun hc => ?_) (fun hc => ?_)
    · exact absurd hc (nI_ge hk (by omega))
    · refine V_iload rfl rfl ?_
      -- at 21: .invokestatic 68
      refine V_cS rfl rfl rfl rfl (c_bc (by omega)) ?_
      refine V_istore (L' := [_, _, _, _, _, _]) rfl rfl rfl ?_
      refine V_iload rfl rfl ?_
      refine V_iload_n rfl rfl ?_
      -- at 29: .if_icmp .ge 17
      have next : ∀ c v5, c = (if pop k < cfw n (ownF n f) k ∧ inA n (ownF n f) k = false then pop k else cfw n (ownF n f) k) → V S (dep + 3) 78 46 [.ref 33, .int (nI n), .int (nI f), .int (nI c), .int (nI k), v5] [] h1 (fun q h' => q = some (.int (nI (cfw n (ownF n f) (2 ^ n)))) ∧ Fr [37, 38] h h') := by
        intro c v5 e
        rw [e]
        refine V_iinc (L' := [_, _, _, _, _, _]) rfl rfl rfl ?_
        refine V_goto rfl ?_
        -- at 11: .iload 4
        rw [show Int32.ofInt 1 = nI 1 from rfl, nI_add]
        exact ih (by omega) _
      refine V_icmp_ge rfl (fun he => ?_) (fun he => ?_)
      · have he := (nI_leI (by omega) (by omega)).mp he
        exact next _ _ (by rw [if_neg (by omega)])
      · have he := nI_ngt (by omega) (by omega) he
        refine V_aload_n rfl rfl rfl ?_
        refine V_iload_n rfl rfl ?_
        refine V_iload_n rfl rfl ?_
        refine V_iload rfl rfl ?_
        -- at 37: .invokevirtual 74
        refine V_cV rfl rfl rfl rfl rfl (c_inA hn h3 hf hd1 hA1 (by omega)) ?_
        refine V_if_ne rfl (fun hg => ?_) (fun hg => ?_)
        · exact next _ _ (by rw [if_neg (fun q => by rw [bI_nz.mp hg] at q; exact Bool.noConfusion q.2)])
        · have hg := bI_z.mp (Decidable.of_not_not hg)
          refine V_iload rfl rfl ?_
          refine V_istore_n (L' := [_, _, _, _, _, _]) rfl rfl rfl ?_
          -- at 46: .iinc 4 1
          exact next _ _ (by rw [if_pos ⟨he, hg⟩])
def shr1 (c o : List Nat) : Nat := if c.length = o.length then (shr c o c.length).1 else 0
def srl (n own : Nat) : Nat → Nat
  | 0 => 0
  | i + 1 => if fr n ≤ i ∧ i ≠ own then max (srl n own i) (shr1 (dT own) (dT i)) else srl n own i
theorem shr1_le {c o : List Nat} (h : c.length ≤ 7) : shr1 c o ≤ 7 := by
  unfold shr1
  split
  · exact Nat.le_trans (shr_le c o c.length).2 h
  · omega
theorem srl_le {n own : Nat} (h : (dT own).length ≤ 7) : ∀ i, srl n own i ≤ 7 := by
  intro i
  induction i with
  | zero => exact Nat.zero_le _
  | succ i ih =>
    rw [srl]
    split
    · have := shr1_le (o := dT i) h; omega
    · exact ih
theorem srl_low {n own : Nat} : ∀ i, i ≤ fr n → srl n own i = 0 := by
  intro i
  induction i with
  | zero => intro _; rfl
  | succ i ih => intro h; rw [srl, if_neg (by omega)]; exact ih (by omega)
theorem c_sure {S : mScr} {dep n f : Nat} {h : Hp} (hn : n < 6) (h3 : 3 ≤ n) (hf : f ∈ fms n) (hd : DA h 53) : Cal S (dep + 3) 81 [.ref 33, .int (nI n), .int (nI f)] h (fun q h' => q = some (.int (nI (srl n (ownF n f) (fr (n + 1)) + 1))) ∧ Fr [37, 38] h h') := by
  obtain ⟨o1, o2, o3, o4⟩ := ownF_spec hn hf
  have hfr := fr_f n hn
  have hfl : f < 2 ^ 21 := by rw [← o4]; exact fmsT21 _ o3
  show V S (dep + 3) 81 0 [.ref 33, .int (nI n), .int (nI f), .null, .null] [] h _
  refine V_aload_n rfl rfl rfl ?_
  refine V_iload_n rfl rfl ?_
  refine V_iload_n rfl rfl ?_
  -- at 3: .invokevirtual 65
  refine V_callV rfl rfl rfl rfl rfl (c_ask hn h3 hf hd) ?_
  rintro _ h1 ⟨rfl, hA1, f1⟩
  show V S (dep + 3) 81 6 [.ref 33, .int (nI n), .int (nI f), .null, .null] [] h1 _
  have hd1 : DA h1 53 := fun i h4 h5 => (hd i h4 h5).fr f1 (by simp; omega) (by simp; omega)
  have hdl := hA1.2.1
  refine V_ic (v := nI 0) rfl rfl ?_
  refine V_istore_n (L' := [_, _, _, _, _]) rfl rfl rfl ?_
  refine V_stat (v := .ref 1001) rfl rfl ?_
  refine V_iload_n rfl rfl ?_
  -- at 12: .iaload
  refine V_frs rfl (by omega) ?_
  refine V_istore (L' := [_, _, _, _, _]) rfl rfl rfl ?_
  -- at 15: .iload 4
  have lp := loopUp (P := fun i => fr n ≤ i → V S (dep + 3) 81 15 [.ref 33, .int (nI n), .int (nI f), .int (nI (srl n (ownF n f) i)), .int (nI i)] [] h1 (fun q h' => q = some (.int (nI (srl n (ownF n f) (fr (n + 1)) + 1))) ∧ Fr [37, 38] h h')) (fr (n + 1)) ?_ ?_ (fr n) (by omega)
  · have := lp (Nat.le_refl _)
    rw [srl_low _ (Nat.le_refl _)] at this
    exact this
  · intro _
    refine V_iload rfl rfl ?_
    refine V_stat (v := .ref 1001) rfl rfl ?_
    refine V_iload_n rfl rfl ?_
    refine V_ic (v := nI 1) rfl rfl ?_
    refine V_iadd rfl ?_
    -- at 23: .iaload
    rw [nI_add]
    refine V_frs rfl (by omega) ?_
    refine V_icmp_ge rfl (fun hc => ?_) (fun hc => ?_)
    · refine V_iload_n rfl rfl ?_
      refine V_ic (v := nI 1) rfl rfl ?_
      refine V_iadd rfl ?_
      -- at 65: .ireturn
      rw [nI_add]
      refine V_iret rfl rfl ?_
      exact ⟨rfl, f1⟩
    · exact absurd (show nI (fr (n + 1)) ≤ nI (fr (n + 1)) from nI_le (Nat.le_refl _) (by omega)) hc
  · intro i hi ih hni
    have hi53 : i < 53 := by omega
    have hil := fmsT21 i hi53
    rw [srl] at ih
    refine V_iload rfl rfl ?_
    refine V_stat (v := .ref 1001) rfl rfl ?_
    refine V_iload_n rfl rfl ?_
    refine V_ic (v := nI 1) rfl rfl ?_
    refine V_iadd rfl ?_
    -- at 23: .iaload
    rw [nI_add]
    refine V_frs rfl (by omega) ?_
    refine V_icmp_ge rfl (fun hc => ?_) (fun hc => ?_)
    · exact absurd (show nI (fr (n + 1)) ≤ nI i from hc) (nI_ge hi (by omega))
    · refine V_stat (v := .ref 1002) rfl rfl ?_
      refine V_iload rfl rfl ?_
      -- at 32: .iaload
      refine V_fms rfl hi53 ?_
      refine V_iload_n rfl rfl ?_
      -- at 34: .if_icmp .eq 22
      refine V_icmp_eq rfl (fun he => ?_) (fun he => ?_)
      · have he := (own_iff hn hf hni hi).mp (nI_inj (by omega) (by omega) he)
        rw [if_neg (by omega)] at ih
        refine V_iinc (L' := [_, _, _, _, _]) rfl rfl rfl ?_
        refine V_goto rfl ?_
        -- at 15: .iload 4
        rw [show Int32.ofInt 1 = nI 1 from rfl, nI_add]
        exact ih (by omega)
      · have he : ¬ i = ownF n f := fun q => he (by rw [(own_iff hn hf hni hi).mpr q])
        have hdk := isDk i hi53
        have hb2 := deck_b hdk
        obtain ⟨_, hi4⟩ := fr_sz i hi53 n hn h3 hni hi
        have hs1 := srl_le (n := n) hdl i
        have hs2 := shr1_le (o := dT i) hdl
        rw [if_pos ⟨hni, he⟩] at ih
        refine V_iload_n rfl rfl ?_
        refine V_aload_n rfl rfl rfl ?_
        refine V_getR (r := 37) rfl rfl ?_
        refine V_aload_n rfl rfl rfl ?_
        refine V_getR (r := 36) rfl rfl ?_
        refine V_iload rfl rfl ?_
        refine V_a36 rfl (by first | omega | assumption) ?_
        -- at 49: .invokevirtual 89
        refine V_cV rfl rfl rfl rfl rfl (c_shr hA1 (DA_T hd1 hi4 hi53)) ?_
        rw [show (if (dT (ownF n f)).length = (dT i).length then (shr (dT (ownF n f)) (dT i) (dT (ownF n f)).length).1 else 0) = shr1 (dT (ownF n f)) (dT i) from rfl]
        refine V_max rfl rfl rfl ?_
        rw [nI_max (by omega) (by omega)]
        refine V_istore_n (L' := [_, _, _, _, _]) rfl rfl rfl ?_
        refine V_iinc (L' := [_, _, _, _, _]) rfl rfl rfl ?_
        refine V_goto rfl ?_
        -- at 15: .iload 4
        rw [show Int32.ofInt 1 = nI 1 from rfl, nI_add]
        exact ih (by omega)
def leaA (n own j : Nat) : Nat := if j = 0 then cfw n own (2 ^ n) else srl n own (fr (n + 1)) + 1
def aLeas (st : St) (x w : Int32) : Int32 := match ix 6 x, ix 2 w with
  | some i, some j => if st.1.1 i < 3 ∨ 5 < st.1.1 i then -5 else nI (leaA (st.1.1 i) (ownF (st.1.1 i) (frm (st.1.1 i) (st.1.2.1 i))) j)
  | _, _ => -2
theorem x_leas {S : mScr} {dep : Nat} {x w : Int32} {st : St} {h : Hp} (hi : InvX h st) : Cal S (dep + 20) 136 [.ref 0, .int x, .int w] h (XR h (aLeas st x w, st)) := by
  obtain ⟨hs, hw, hx, _, _, _, _, _, _, hsn⟩ := id hi
  have z0 : (0 : Int32).toInt = 0 := rfl
  show V S (dep + 20) 136 0 [.ref 0, .int x, .int w, .null, .null] [] h _
  have bad : aLeas st x w = -2 → V S (dep + 20) 136 16 [.ref 0, .int x, .int w, .null, .null] [] h (XR h (aLeas st x w, st)) := by
    intro e
    rw [e]
    refine V_bi (v := -2) rfl rfl ?_
    -- at 18: .ireturn
    refine V_iret rfl rfl ?_
    exact xq0 hi
  refine V_iload_n rfl rfl ?_
  -- at 1: .invokestatic 143
  refine V_cS rfl rfl rfl rfl (c_noS) ?_
  refine V_if_ne rfl (fun hc => ?_) (fun hc => ?_)
  · have hc := ix_no hc
    exact bad (by unfold aLeas; rw [hc])
  · obtain ⟨i, e1, rfl, hi6⟩ := ix_yes (Decidable.of_not_not hc)
    refine V_iload_n rfl rfl ?_
    -- at 8: .ifCond .lt 8
    refine V_if_lt rfl (fun hd => ?_) (fun hd => ?_)
    · refine bad ?_
      have : ix 2 w = none := by
        unfold ix
        rw [if_neg]
        intro q
        rw [Int32.lt_iff_toInt_lt] at hd
        omega
      unfold aLeas; rw [e1, this]
    · refine V_iload_n rfl rfl ?_
      refine V_ic (v := nI 1) rfl rfl ?_
      -- at 13: .if_icmp .le 6
      refine V_icmp_le rfl (fun he => ?_) (fun he => ?_)
      · obtain ⟨j, e2, rfl, hj⟩ : ∃ j, ix 2 w = some j ∧ w = nI j ∧ j < 2 := by
          have : (ix 2 w).isSome = true := by
            rw [ix_is]
            refine decide_eq_true ?_
            rw [Int32.lt_iff_toInt_lt] at hd
            rw [Int32.le_iff_toInt_le, nI_toInt (by omega)] at he
            omega
          obtain ⟨j, hj⟩ := Option.isSome_iff_exists.mp this
          exact ⟨j, hj, ix_some hj⟩
        have hn := isS i hi6
        have hb1 := net_b hn
        have hN := hs.1 i hi6
        have h7 := hN.1.2.1
        obtain ⟨n, hnn⟩ : ∃ n, n = st.1.1 i := ⟨_, rfl⟩
        obtain ⟨f, hff⟩ : ∃ f, f = frm (st.1.1 i) (st.1.2.1 i) := ⟨_, rfl⟩
        have ev : aLeas st (nI i) (nI j) = if n < 3 ∨ 5 < n then -5 else nI (leaA n (ownF n f) j) := by unfold aLeas; rw [e1, e2, hnn, hff]
        rw [ev]
        have hN0 : h.1 (170 + 2 * i) 0 = nI n := by rw [hnn]; exact hN.1.2.2.1
        rw [← hnn] at h7
        have no : (n < 3 ∨ 5 < n) → V S (dep + 20) 136 42 [.ref 0, .int (nI i), .int (nI j), .ref (170 + 2 * i), .null] [] h (XR h (if n < 3 ∨ 5 < n then -5 else nI (leaA n (ownF n f) j), st)) := by
          intro e
          rw [if_pos e]
          refine V_bi (v := -5) rfl rfl ?_
          -- at 44: .ireturn
          refine V_iret rfl rfl ?_
          exact xq0 hi
        refine V_aload_n rfl rfl rfl ?_
        refine V_getR (r := 1) rfl rfl ?_
        refine V_iload_n rfl rfl ?_
        refine V_a1 rfl (by first | omega | assumption) ?_
        refine V_astore_n (L' := [_, _, _, _, _]) rfl (by first | rfl | (rw [Bool.and_eq_true]; exact ⟨rfl, by first | assumption | rfl⟩)) rfl ?_
        refine V_aload_n rfl rfl (by first | assumption | rfl) ?_
        refine V_gi 0 rfl (net_sz (by first | assumption | rfl)) rfl ?_
        refine V_ic (v := nI 3) rfl rfl ?_
        -- at 31: .if_icmp .lt 11
        rw [hN0]
        refine V_icmp_lt rfl (fun hg => ?_) (fun hg => ?_)
        · exact no (Or.inl ((nI_ltI (by omega) (by omega)).mp hg))
        · have hg : ¬ n < 3 := fun q => hg (nI_lt q (by omega))
          refine V_aload_n rfl rfl (by first | assumption | rfl) ?_
          refine V_gi 0 rfl (net_sz (by first | assumption | rfl)) rfl ?_
          refine V_ic (v := nI 5) rfl rfl ?_
          -- at 39: .if_icmp .le 6
          rw [hN0]
          refine V_icmp_le rfl (fun hk => ?_) (fun hk => ?_)
          · have hk := (nI_leI (by omega) (by omega)).mp hk
            rw [if_neg (by omega)]
            refine V_aload_n rfl rfl rfl ?_
            refine V_getR (r := 33) rfl rfl ?_
            -- at 49: .invokevirtual 250
            refine V_callV rfl rfl rfl rfl rfl (c_dall hsn) ?_
            rintro _ h1 ⟨rfl, g1, g2, g3⟩
            show V S (dep + 20) 136 52 [.ref 0, .int (nI i), .int (nI j), .ref (170 + 2 * i), .null] [] h1 _
            obtain ⟨hi1, fx1⟩ := hi.fa g3 g1 g2
            have hN1 := hi1.1.1 i hi6
            refine V_aload_n rfl rfl rfl ?_
            refine V_getR (r := 6) rfl rfl ?_
            refine V_aload_n rfl rfl (by first | assumption | rfl) ?_
            -- at 57: .invokevirtual 163
            refine V_callV rfl rfl rfl rfl rfl (c_frm hN1) ?_
            rintro _ h2 ⟨rfl, f2⟩
            rw [← hff]
            show V S (dep + 20) 136 60 [.ref 0, .int (nI i), .int (nI j), .ref (170 + 2 * i), .null] [.int (nI f)] h2 _
            have hN2 := hN1.fr f2 (by simp; omega) (by simp; omega)
            have hN20 : h2.1 (170 + 2 * i) 0 = nI n := by rw [hnn]; exact hN2.1.2.2.1
            have d2 : DA h2 53 := fun i h4 h5 => (g2 i h4 h5).fr f2 (by simp; omega) (by simp; omega)
            have hfm : f ∈ fms n := by rw [hff, hnn]; exact frm_mem (by omega) hN.2
            have fin : ∀ h3 v, Fr [37, 38] h2 h3 → XR h (v, st) (some (.int v)) h3 := fun h3 v f3 => by
              have f4 : Fr [6, 7, 8, 9, 37, 38] h1 h3 := (f2.mono (by simp)).tr (f3.mono (by simp))
              exact ⟨rfl, hi1.fr f4 (by simp; decide), fx1.tr (f4.fo (by simp; decide))⟩
            refine V_istore (L' := [_, _, _, _, _]) rfl rfl rfl ?_
            refine V_iload_n rfl rfl ?_
            -- at 63: .ifCond .ne 19
            refine V_if_ne rfl (fun hl => ?_) (fun hl => ?_)
            · have hl : ¬ j = 0 := fun q => hl (by rw [q]; rfl)
              refine V_aload_n rfl rfl rfl ?_
              refine V_getR (r := 33) rfl rfl ?_
              refine V_aload_n rfl rfl (by first | assumption | rfl) ?_
              refine V_gi 0 rfl (net_sz (by first | assumption | rfl)) rfl ?_
              refine V_iload rfl rfl ?_
              -- at 92: .invokevirtual 257
              rw [hN20]
              refine V_callV rfl rfl rfl rfl rfl (c_sure (by omega) (by omega) hfm d2) ?_
              rintro _ h3 ⟨rfl, f3⟩
              refine V_iret rfl rfl ?_
              rw [show leaA n (ownF n f) j = srl n (ownF n f) (fr (n + 1)) + 1 from if_neg hl]
              exact fin h3 _ f3
            · have hl := nI_inj (b := 0) (by omega) (by omega) (Decidable.of_not_not hl)
              refine V_aload_n rfl rfl rfl ?_
              refine V_getR (r := 33) rfl rfl ?_
              refine V_aload_n rfl rfl (by first | assumption | rfl) ?_
              refine V_gi 0 rfl (net_sz (by first | assumption | rfl)) rfl ?_
              refine V_iload rfl rfl ?_
              -- at 76: .invokevirtual 253
              rw [hN20]
              refine V_callV rfl rfl rfl rfl rfl (c_few2 (by omega) (by omega) hfm d2) ?_
              rintro _ h3 ⟨rfl, f3⟩
              rw [show leaA n (ownF n f) j = cfw n (ownF n f) (2 ^ n) from if_pos hl]
              refine V_goto rfl ?_
              -- at 95: .ireturn
              refine V_iret rfl rfl ?_
              exact fin h3 _ f3
          · have hk := nI_ngt (by omega) (by omega) hk
            exact no (Or.inr hk)
      · refine bad ?_
        have : ix 2 w = none := by
          unfold ix
          rw [if_neg]
          intro q
          rw [Int32.le_iff_toInt_le, nI_toInt (by omega)] at he
          omega
        unfold aLeas; rw [e1, this]
