/-! the four texts -/
theorem V_cT {S : mScr} {dep k pc nx i k' a : Nat} {L st : List Value} {h : Hp} {Q : Option Value → Hp → Prop} {as rest : List Value} {x : Int32} (hp : prog k pc = some (.invokevirtual i, nx, k')) (hk : (Nat.beq (mKind k') 1 && Nat.beq (mCls k') 50) = true) (ha : (Nat.ble 1010 a && Nat.ble a 1013) = true) (ho : okC k' (.ref a :: as) rest = true) (hst : st = (.ref a :: as).reverse ++ rest) (hc : Cal S dep k' (.ref a :: as) h (Rt x h)) (kk : V S (dep + 1) k nx L (.int x :: rest) h Q) : V S (dep + 1) k pc L st h Q := V_callT hp hk ha ho hst hc (fun r h' hq => by obtain ⟨rfl, rfl⟩ := hq; exact kk)
def wds (t : Nat) : List Nat := [[110, 101, 116], [100, 101, 99, 107], [99, 97, 114, 100], [32, 110, 101, 116, 32, 100, 101, 99, 107, 32, 99, 97, 114, 100, 32]].getD t []
theorem wds_l : ∀ t, t < 4 → sLens.getD t 0 = (wds t).length ∧ (wds t).length ≤ 15 := by decide
theorem wds_c : ∀ t, t < 4 → ∀ j, j < 15 → (sTexts.getD t []).getD j 0 = nI ((wds t).getD j 0) ∧ (wds t).getD j 0 < 128 := by decide +kernel
theorem ch_v : ∀ c, c < 128 → ((nI c &&& nI 255).toUInt32 % 65536).toInt32 = nI c := by decide +kernel
theorem xl_t {S : mScr} {t : Nat} (ht : t < 4) : lenA S.1 S.2 [] (1003 + t) = some (wds t).length := by
  rcases (by omega : t = 0 ∨ t = 1 ∨ t = 2 ∨ t = 3) with rfl | rfl | rfl | rfl <;> rfl
theorem xb_t {S : mScr} {t : Nat} (ht : t < 4) : arrI S.1 S.2 [] 1 (1003 + t) = some ((wds t).length, fun j => (sTexts.getD t []).getD j 0) := by
  rcases (by omega : t = 0 ∨ t = 1 ∨ t = 2 ∨ t = 3) with rfl | rfl | rfl | rfl <;> rfl
theorem ch_r : ∀ c, c < 128 → retOk (mRet 261) (nI c) = true := by decide +kernel
theorem ch_r2 : ∀ c, c < 128 → retOk (mRet 256) (nI c) = true := by decide +kernel
theorem c_pci {S : mScr} {dep j n a : Nat} {h : Hp} (hj : j < n) (hn : n < 1000) : Cal S dep 262 [.int (nI j), .int (nI n), .ref a] h (Rt (nI j) h) := by
  show V S dep 262 0 [.int (nI j), .int (nI n), .ref a] [] h _
  refine V_iload_n rfl rfl ?_
  -- at 1: .ifCond .lt 8
  refine V_if_lt rfl (fun hc => ?_) (fun hc => ?_)
  · exact absurd hc (nI_nlt (a := j) (b := 0) (by omega) (by omega))
  · refine V_iload_n rfl rfl ?_
    refine V_iload_n rfl rfl ?_
    -- at 6: .if_icmp .lt 10
    refine V_icmp_lt rfl (fun hd => ?_) (fun hd => ?_)
    · refine V_iload_n rfl rfl ?_
      -- at 17: .ireturn
      refine V_iret rfl rfl ?_
      exact Rt.rf
    · exact absurd (nI_lt hj (by omega)) hd
theorem c_sci {S : mScr} {dep j n : Nat} {h : Hp} (hj : j < n) (hn : n < 1000) : Cal S (dep + 1) 257 [.int (nI j), .int (nI n)] h (fun q h' => q = none ∧ h' = h) := by
  show V S (dep + 1) 257 0 [.int (nI j), .int (nI n)] [] h _
  refine V_iload_n rfl rfl ?_
  refine V_iload_n rfl rfl ?_
  refine V_stat (v := .ref 1020) rfl rfl ?_
  -- at 5: .invokestatic 1059
  refine V_cS rfl rfl rfl rfl (c_pci hj hn) ?_
  refine V_pop rfl rfl ?_
  -- at 9: .return_
  refine V_return rfl rfl ?_
  exact ⟨rfl, rfl⟩
theorem c_lat {S : mScr} {dep t j : Nat} {h : Hp} (ht : t < 4) (hj : j < (wds t).length) : Cal S (dep + 2) 261 [.ref (1003 + t), .int (nI j)] h (Rt (nI ((wds t).getD j 0)) h) := by
  have hb : Nat.blt (1003 + t) 1020 = true := blt_t (by omega)
  have hl := (wds_l t ht).2
  have hc := wds_c t ht j (by omega)
  have e : (nI j).toNatClampNeg = j := nI_clamp (by omega)
  show V S (dep + 2) 261 0 [.ref (1003 + t), .int (nI j)] [] h _
  refine V_iload_n rfl rfl ?_
  refine V_aload_n rfl rfl (by first | assumption | rfl) ?_
  -- at 2: .arraylength
  refine V_xlen rfl (xl_t ht) (by omega) ?_
  show V S (dep + 2) 261 3 [.ref (1003 + t), .int (nI j)] [.int (nI (wds t).length), .int (nI j)] h _
  refine V_callS rfl rfl rfl rfl (c_sci hj (by omega)) ?_
  rintro _ h' ⟨rfl, eh⟩
  rw [eh]
  show V S (dep + 2) 261 6 [.ref (1003 + t), .int (nI j)] [] h _
  refine V_aload_n rfl rfl (by first | assumption | rfl) ?_
  refine V_iload_n rfl rfl ?_
  -- at 8: .baload
  refine V_xbald rfl (xb_t ht) (by omega) (inB_nI (nI_le (a := 0) (b := j) (Nat.zero_le _) (by omega)) (by rw [e]; exact hj)) ?_
  rw [e]
  show V S (dep + 2) 261 9 [.ref (1003 + t), .int (nI j)] [.int ((sTexts.getD t []).getD j 0)] h _
  rw [hc.1]
  refine V_si (v := nI 255) rfl rfl ?_
  refine V_iand rfl ?_
  refine V_i2c rfl ?_
  -- at 14: .ireturn
  rw [ch_v _ hc.2]
  refine V_ireturn rfl (ch_r _ hc.2) ?_
  exact Rt.rf
theorem c_cod {S : mScr} {dep a : Nat} {h : Hp} (ha : (Nat.ble 1010 a && Nat.ble a 1013) = true) (hb : Nat.blt a 1020 = true) : Cal S dep 258 [.ref a] h (Rt (nI 0) h) := by
  show V S dep 258 0 [.ref a] [] h _
  refine V_stat (v := .int 1) rfl rfl ?_
  -- at 3: .ifCond .eq 10
  refine V_if_eq rfl (fun hc => ?_) (fun hc => ?_)
  · exact absurd hc (by decide)
  · refine V_aload_n rfl rfl (by first | assumption | rfl) ?_
    refine V_strc rfl (by assumption) ?_
    refine V_goto rfl ?_
    -- at 14: .ireturn
    refine V_ireturn rfl (by decide) ?_
    exact Rt.rf
theorem c_isl {S : mScr} {dep a : Nat} {h : Hp} (ha : (Nat.ble 1010 a && Nat.ble a 1013) = true) (hb : Nat.blt a 1020 = true) : Cal S dep 259 [.ref a] h (Rt (nI 1) h) := by
  show V S dep 259 0 [.ref a] [] h _
  refine V_stat (v := .int 1) rfl rfl ?_
  -- at 3: .ifCond .eq 14
  refine V_if_eq rfl (fun hc => ?_) (fun hc => ?_)
  · exact absurd hc (by decide)
  · refine V_aload_n rfl rfl (by first | assumption | rfl) ?_
    refine V_strc rfl (by assumption) ?_
    -- at 10: .ifCond .ne 7
    refine V_if_ne rfl (fun hd => ?_) (fun hd => ?_)
    · exact absurd rfl hd
    · refine V_ic (v := nI 1) rfl rfl ?_
      refine V_goto rfl ?_
      -- at 18: .ireturn
      refine V_zret rfl rfl (by first | exact Or.inl rfl | exact Or.inr rfl | assumption) ?_
      exact Rt.rf
theorem c_sln {S : mScr} {dep t : Nat} {h : Hp} (ht : t < 4) : Cal S (dep + 1) 260 [.ref (1010 + t)] h (Rt (nI (wds t).length) h) := by
  have ha : (Nat.ble 1010 (1010 + t) && Nat.ble (1010 + t) 1013) = true := by rcases (by omega : t = 0 ∨ t = 1 ∨ t = 2 ∨ t = 3) with rfl | rfl | rfl | rfl <;> rfl
  have hb : Nat.blt (1010 + t) 1020 = true := blt_t (by omega)
  have hr : (Nat.ble 1010 (1010 + t) && Nat.ble (1010 + t) 1013 && Nat.beq (1010 + t - 7) (1003 + t)) = true := by rcases (by omega : t = 0 ∨ t = 1 ∨ t = 2 ∨ t = 3) with rfl | rfl | rfl | rfl <;> rfl
  have hl := (wds_l t ht).2
  show V S (dep + 1) 260 0 [.ref (1010 + t)] [] h _
  refine V_aload_n rfl rfl (by first | assumption | rfl) ?_
  -- at 1: .getfield 9
  refine V_strv (r := 1003 + t) rfl hr ?_
  refine V_xlen rfl (xl_t ht) (by omega) ?_
  show V S (dep + 1) 260 5 [.ref (1010 + t)] [.int (nI (wds t).length)] h _
  refine V_aload_n rfl rfl (by first | assumption | rfl) ?_
  -- at 6: .invokevirtual 335
  refine V_cT rfl rfl (by first | assumption | rfl) rfl rfl (c_cod ha hb) ?_
  refine V_ishr rfl ?_
  -- at 10: .ireturn
  rw [nI_shr (by omega) (by decide)]
  refine V_iret rfl rfl ?_
  exact Rt.rf
theorem c_sat {S : mScr} {dep t j : Nat} {h : Hp} (ht : t < 4) (hj : j < (wds t).length) : Cal S (dep + 3) 256 [.ref (1010 + t), .int (nI j)] h (Rt (nI ((wds t).getD j 0)) h) := by
  have ha : (Nat.ble 1010 (1010 + t) && Nat.ble (1010 + t) 1013) = true := by rcases (by omega : t = 0 ∨ t = 1 ∨ t = 2 ∨ t = 3) with rfl | rfl | rfl | rfl <;> rfl
  have hb : Nat.blt (1010 + t) 1020 = true := blt_t (by omega)
  have hr : (Nat.ble 1010 (1010 + t) && Nat.ble (1010 + t) 1013 && Nat.beq (1010 + t - 7) (1003 + t)) = true := by rcases (by omega : t = 0 ∨ t = 1 ∨ t = 2 ∨ t = 3) with rfl | rfl | rfl | rfl <;> rfl
  have hl := (wds_l t ht).2
  have hc := wds_c t ht j (by omega)
  show V S (dep + 3) 256 0 [.ref (1010 + t), .int (nI j)] [] h _
  refine V_aload_n rfl rfl (by first | assumption | rfl) ?_
  -- at 1: .invokevirtual 492
  refine V_cT rfl rfl (by first | assumption | rfl) rfl rfl (c_isl ha hb) ?_
  refine V_if_eq rfl (fun hd => ?_) (fun hd => ?_)
  · exact absurd hd (by decide)
  · refine V_aload_n rfl rfl (by first | assumption | rfl) ?_
    -- at 8: .getfield 9
    refine V_strv (r := 1003 + t) rfl hr ?_
    refine V_iload_n rfl rfl ?_
    -- at 12: .invokestatic 495
    refine V_cS rfl rfl rfl rfl (c_lat ht hj) ?_
    refine V_ireturn rfl (ch_r2 _ hc.2) ?_
    exact Rt.rf
/-! the reading of a text, as mathematics -/
def dgB (c : Int32) : Bool := decide (48 ≤ c.toInt ∧ c.toInt ≤ 57)
def leB (c : Int32) : Bool := decide (97 ≤ c.toInt ∧ c.toInt ≤ 122)
def spB (c : Int32) : Bool := decide (c = nI 32)
def rnF (T : Nat → Int32) (N : Nat) (c : Int32 → Bool) : Nat → Nat → Nat
  | 0, p => p
  | f + 1, p => if p < N ∧ c (T p) = true then rnF T N c f (p + 1) else p
def rn (T : Nat → Int32) (N : Nat) (c : Int32 → Bool) (p : Nat) : Nat := rnF T N c (N - p) p
theorem rn_yes {T : Nat → Int32} {N : Nat} {c : Int32 → Bool} {p : Nat} (h1 : p < N) (h2 : c (T p) = true) : rn T N c p = rn T N c (p + 1) := by
  unfold rn
  rw [show N - p = (N - (p + 1)) + 1 by omega, rnF, if_pos ⟨h1, h2⟩]
theorem rn_no {T : Nat → Int32} {N : Nat} {c : Int32 → Bool} {p : Nat} (h : ¬ (p < N ∧ c (T p) = true)) : rn T N c p = p := by
  unfold rn
  cases e : N - p with
  | zero => rfl
  | succ m => rw [rnF, if_neg h]
theorem rn_ind {T : Nat → Int32} {N : Nat} {c : Int32 → Bool} : ∀ f p, N - p ≤ f → p ≤ rn T N c p ∧ (p ≤ N → rn T N c p ≤ N) ∧ (∀ i, p ≤ i → i < rn T N c p → i < N ∧ c (T i) = true) ∧ ¬ (rn T N c p < N ∧ c (T (rn T N c p)) = true) := by
  intro f
  induction f with
  | zero =>
    intro p hp
    rw [rn_no (by omega)]
    exact ⟨Nat.le_refl _, fun h => h, fun i h1 h2 => by omega, by omega⟩
  | succ f ih =>
    intro p hp
    by_cases h : p < N ∧ c (T p) = true
    · rw [rn_yes h.1 h.2]
      obtain ⟨a1, a2, a3, a4⟩ := ih (p + 1) (by omega)
      refine ⟨by omega, fun _ => a2 (by omega), fun i h1 h2 => ?_, a4⟩
      by_cases e : i = p
      · rw [e]; exact h
      · exact a3 i (by omega) h2
    · rw [rn_no h]
      exact ⟨Nat.le_refl _, fun q => q, fun i h1 h2 => by omega, h⟩
theorem rn_ge {T : Nat → Int32} {N : Nat} {c : Int32 → Bool} (p : Nat) : p ≤ rn T N c p := (rn_ind _ p (Nat.le_refl _)).1
theorem rn_le {T : Nat → Int32} {N : Nat} {c : Int32 → Bool} {p : Nat} (h : p ≤ N) : rn T N c p ≤ N := (rn_ind _ p (Nat.le_refl _)).2.1 h
theorem rn_all {T : Nat → Int32} {N : Nat} {c : Int32 → Bool} {p i : Nat} (h1 : p ≤ i) (h2 : i < rn T N c p) : i < N ∧ c (T i) = true := (rn_ind _ p (Nat.le_refl _)).2.2.1 i h1 h2
theorem rn_end {T : Nat → Int32} {N : Nat} {c : Int32 → Bool} (p : Nat) : ¬ (rn T N c p < N ∧ c (T (rn T N c p)) = true) := (rn_ind _ p (Nat.le_refl _)).2.2.2
theorem rn_st {T : Nat → Int32} {N : Nat} {c : Int32 → Bool} {p : Nat} (h : p < N ∧ c (T p) = true) : p < rn T N c p := by
  rw [rn_yes h.1 h.2]
  exact rn_ge (p + 1)
def sk (T : Nat → Int32) (N p : Nat) : Nat := rn T N spB p
theorem sk_sk (T : Nat → Int32) (N p : Nat) : sk T N (sk T N p) = sk T N p := rn_no (rn_end p)
def kd (T : Nat → Int32) (N p : Nat) : Nat := if p < N then (if dgB (T p) = true then 1 else if leB (T p) = true then 2 else 3) else 0
def en (T : Nat → Int32) (N p : Nat) : Nat := if kd T N p = 1 then rn T N dgB p else if kd T N p = 2 then rn T N leB p else if kd T N p = 3 then p + 1 else p
theorem dl_no {c : Int32} (h : dgB c = true) : leB c = false := by
  unfold dgB at h
  unfold leB
  have := of_decide_eq_true h
  exact decide_eq_false (by omega)
theorem kd_1 {T : Nat → Int32} {N p : Nat} : kd T N p = 1 ↔ p < N ∧ dgB (T p) = true := by
  unfold kd
  by_cases h1 : p < N
  · by_cases h2 : dgB (T p) = true
    · simp [h1, h2]
    · by_cases h3 : leB (T p) = true <;> simp [h1, h2, h3]
  · simp [h1]
theorem kd_2 {T : Nat → Int32} {N p : Nat} : kd T N p = 2 ↔ p < N ∧ leB (T p) = true := by
  unfold kd
  by_cases h1 : p < N
  · by_cases h2 : dgB (T p) = true
    · have := dl_no h2
      simp [h1, h2, this]
    · by_cases h3 : leB (T p) = true <;> simp [h1, h2, h3]
  · simp [h1]
theorem kd_0 {T : Nat → Int32} {N p : Nat} : kd T N p = 0 ↔ N ≤ p := by
  unfold kd
  by_cases h1 : p < N
  · by_cases h2 : dgB (T p) = true
    · simp [h1, h2]
    · by_cases h3 : leB (T p) = true <;> simp [h1, h2, h3]
  · simp [h1]; omega
theorem kd_le (T : Nat → Int32) (N p : Nat) : kd T N p ≤ 3 := by
  unfold kd
  split
  · split
    · decide
    · split <;> decide
  · decide
theorem en_le {T : Nat → Int32} {N p : Nat} (h : p ≤ N) : p ≤ en T N p ∧ en T N p ≤ N ∧ (p < N → p < en T N p) := by
  unfold en
  by_cases h1 : kd T N p = 1
  · rw [if_pos h1]
    have := kd_1.mp h1
    exact ⟨rn_ge p, rn_le h, fun _ => rn_st this⟩
  · rw [if_neg h1]
    by_cases h2 : kd T N p = 2
    · rw [if_pos h2]
      have := kd_2.mp h2
      exact ⟨rn_ge p, rn_le h, fun _ => rn_st this⟩
    · rw [if_neg h2]
      by_cases h3 : kd T N p = 3
      · rw [if_pos h3]
        have : p < N := by
          rcases Nat.lt_or_ge p N with q | q
          · exact q
          · rw [kd_0.mpr q] at h3; omega
        omega
      · rw [if_neg h3]
        have : kd T N p = 0 := by have := kd_le T N p; omega
        have := kd_0.mp this
        omega
def dv (T : Nat → Int32) (p : Nat) : Nat := (T p).toInt.toNat - 48
theorem dv_eq {T : Nat → Int32} {p : Nat} (h : dgB (T p) = true) : T p = nI (48 + dv T p) ∧ dv T p ≤ 9 := by
  unfold dgB at h
  have := of_decide_eq_true h
  unfold dv
  refine ⟨?_, by omega⟩
  rw [show 48 + ((T p).toInt.toNat - 48) = (T p).toInt.toNat by omega]
  apply Int32.toInt_inj.mp
  rw [nI_toNat (by omega)]
  omega
def isW (T : Nat → Int32) (N p t : Nat) : Bool := decide (kd T N p = 2 ∧ en T N p - p = (wds t).length ∧ ∀ i, i < (wds t).length → T (p + i) = nI ((wds t).getD i 0))
theorem isW_one {T : Nat → Int32} {N p t u : Nat} (ht : t < 3) (hu : u < 3) (h1 : isW T N p t = true) (h2 : isW T N p u = true) : t = u := by
  unfold isW at h1 h2
  obtain ⟨_, _, a3⟩ := of_decide_eq_true h1
  obtain ⟨_, _, b3⟩ := of_decide_eq_true h2
  have hl : ∀ t, t < 3 → 0 < (wds t).length := by decide
  have a := a3 0 (hl t ht)
  have b := b3 0 (hl u hu)
  rw [a] at b
  have hv : ∀ t, t < 3 → ∀ u, u < 3 → nI ((wds t).getD 0 0) = nI ((wds u).getD 0 0) → t = u := by decide
  exact hv t ht u hu b
abbrev RP (α : Type) : Type := Sum (Nat × Nat) (α × Nat)
def dig (T : Nat → Int32) (N lo hi q : Nat) : RP Nat := if kd T N (sk T N q) = 1 then (if rn T N dgB (sk T N q) - sk T N q = 1 ∧ lo ≤ dv T (sk T N q) ∧ dv T (sk T N q) ≤ hi then .inr (dv T (sk T N q), rn T N dgB (sk T N q)) else .inl (2, sk T N q)) else .inl (1, sk T N q)
def prOk (T : Nat → Int32) (n C p : Nat) : Bool := decide (dv T p < n ∧ dv T (p + 1) < n ∧ dv T p ≠ dv T (p + 1) ∧ adj C (dv T p) (dv T (p + 1)) = false)
def prs (T : Nat → Int32) (N n : Nat) : Nat → Nat → Nat → RP Nat
  | 0, C, q => .inr (C, q)
  | f + 1, C, q => if kd T N (sk T N q) = 1 then (if rn T N dgB (sk T N q) - sk T N q = 2 then (if prOk T n C (sk T N q) = true then prs T N n f (C ||| 2 ^ bt (dv T (sk T N q)) (dv T (sk T N q + 1))) (rn T N dgB (sk T N q)) else .inl (3, sk T N q)) else .inl (2, sk T N q)) else .inr (C, sk T N q)
def eol (T : Nat → Int32) (N q : Nat) : Bool := decide (sk T N q < N ∧ T (sk T N q) = nI 59)
def eop {α : Type} (T : Nat → Int32) (N : Nat) (a : α) (q : Nat) : RP α := if eol T N q = true then .inr (a, sk T N q + 1) else .inl (1, sk T N q)
def cds (T : Nat → Int32) (N n : Nat) : Nat → List Nat → Nat → RP (List Nat)
  | 0, cs, q => .inr (cs, q)
  | f + 1, cs, q => if isW T N (sk T N q) 2 = true then (if cs.length = n then .inl (4, sk T N q) else (match prs T N (n - 1) (N + 1) 0 (en T N (sk T N q)) with
    | .inl e => .inl e
    | .inr (C, q') => cds T N n f (cs ++ [C]) q')) else .inr (cs, sk T N q)
def netP (T : Nat → Int32) (N : Nat) (s : Sl) (q : Nat) : RP Sl := match dig T N 0 5 q with
  | .inl e => .inl e
  | .inr (i, q1) => match dig T N 0 7 q1 with
    | .inl e => .inl e
    | .inr (n, q2) => match prs T N n (N + 1) 0 q2 with
      | .inl e => .inl e
      | .inr (C, q3) => eop T N (setN s i n C) q3
def decP (T : Nat → Int32) (N : Nat) (s : Sl) (q : Nat) : RP Sl := match dig T N 0 2 q with
  | .inl e => .inl e
  | .inr (d, q1) => match dig T N 2 7 q1 with
    | .inl e => .inl e
    | .inr (n, q2) => match cds T N n (n + 1) [] q2 with
      | .inl e => .inl e
      | .inr (cs, q3) => if cs.length = 0 then .inl (1, sk T N q3) else if cs.length < n ∧ eol T N q3 = true then .inl (4, sk T N q3) else eop T N (setD s d cs) q3
def linP (T : Nat → Int32) (N : Nat) (s : Sl) (q : Nat) : RP Sl := if isW T N (sk T N q) 0 = true then netP T N s (en T N (sk T N q)) else if isW T N (sk T N q) 1 = true then decP T N s (en T N (sk T N q)) else .inl (1, sk T N q)
def lnsP (T : Nat → Int32) (N : Nat) : Nat → Nat → Sl → Nat → RP (Sl × Nat)
  | 0, m, s, q => .inr ((s, m), q)
  | f + 1, m, s, q => if sk T N q < N then (match linP T N s q with
    | .inl e => .inl e
    | .inr (s', q') => lnsP T N f (m + 1) s' q') else .inr ((s, m), sk T N q)
def s00 : Sl := (fun _ => 0, fun _ => 0, fun _ => [])
noncomputable def fin (s : Sl) : Sl := (s.1, s.2.1, fun d => srt ((s.2.2 d).map (frm ((s.2.2 d).length - 1))))
noncomputable def aTell (st : St) (x : Int32) : Int32 × St := match ix (st.2.2.2.1 + 1) x with
  | none => (-3, st)
  | some N => match lnsP st.2.2.1 N (N + 1) 0 s00 0 with
    | .inl (k, p) => (Int32.ofInt (-30) - nI k, (st.1, st.2.1, st.2.2.1, 0, k, nI p))
    | .inr ((s, m), _) => (nI m, (fin s, [], st.2.2.1, 0, 0, -1))
