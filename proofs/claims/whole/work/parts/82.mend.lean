/-! the reference: mends -/
theorem adv_mid {o : List Nat} {x : Nat} : ∀ f t, t ≤ adv o x f t ∧ ∀ j, t ≤ j → j < adv o x f t → o.getD j 0 < x := by
  intro f
  induction f with
  | zero => intro t; rw [adv]; exact ⟨Nat.le_refl _, fun j h1 h2 => by omega⟩
  | succ f ih =>
    intro t
    rw [adv]
    by_cases e : t < o.length ∧ o.getD t 0 < x
    · rw [if_pos e]
      obtain ⟨h1, h2⟩ := ih (t + 1)
      exact ⟨by omega, fun j h3 h4 => if q : j = t then q ▸ e.2 else h2 j (by omega) h4⟩
    · rw [if_neg e]
      exact ⟨Nat.le_refl _, fun j h1 h2 => by omega⟩
theorem getD_el {l : List Nat} {i : Nat} (h : i < l.length) : l[i] = l.getD i 0 := by
  rw [List.getD_eq_getElem?_getD, List.getElem?_eq_getElem h]; rfl
theorem drop_skip {ds : List Nat} {a : Nat} {r : List Nat} {t : Nat} : ∀ d, t + d ≤ ds.length → (∀ j, t ≤ j → j < t + d → ds.getD j 0 < a) → (a :: r).Sublist (ds.drop t) → (a :: r).Sublist (ds.drop (t + d)) := by
  intro d
  induction d with
  | zero => intro _ _ h; exact h
  | succ d ih =>
    intro h1 h2 h3
    have h4 := ih (by omega) (fun j q1 q2 => h2 j q1 (by omega)) h3
    have h5 := h2 (t + d) (by omega) (by omega)
    rw [List.drop_eq_getElem_cons (show t + d < ds.length by omega), getD_el] at h4
    rcases List.sublist_cons_iff.mp h4 with q | ⟨r', e, _⟩
    · exact q
    · injection e with e1 e2
      omega
theorem hcS_sub {as ds : List Nat} {s : Nat} (hd : Srtd ds) : ∀ i, (∀ t, hcS as ds s i = some t → (selL as s i).Sublist (ds.take t) ∧ ∀ r, (selL as s i ++ r).Sublist ds → r.Sublist (ds.drop t)) ∧ (hcS as ds s i = none → ∀ r, ¬ (selL as s i ++ r).Sublist ds) := by
  intro i
  induction i with
  | zero =>
    refine ⟨fun t ht => ?_, fun q => by cases q⟩
    cases ht
    exact ⟨List.nil_sublist _, fun r h => h⟩
  | succ i ih =>
    rw [hcS, selL]
    cases q : hcS as ds s i with
    | none =>
      refine ⟨fun t ht => (by cases ht), fun _ r hr => ?_⟩
      split at hr
      · rw [List.append_assoc] at hr
        exact ih.2 q _ hr
      · exact ih.2 q _ hr
    | some t =>
      obtain ⟨i1, i2⟩ := ih.1 t q
      have htl := hcS_le i t q
      dsimp only
      by_cases e : s.testBit i = true
      · rw [if_pos e, if_pos e]
        obtain ⟨a, ha⟩ : ∃ a, a = as.getD i 0 := ⟨_, rfl⟩
        rw [← ha]
        obtain ⟨m1, m2⟩ := adv_mid (o := ds) (x := a) ds.length t
        have ml := adv_le (o := ds) (x := a) ds.length t htl
        have ms := adv_stop (o := ds) (x := a) ds.length t (by omega)
        obtain ⟨u, hu⟩ : ∃ u, u = adv ds a ds.length t := ⟨_, rfl⟩
        rw [← hu] at m1 m2 ml ms ⊢
        have key : ∀ r, (selL as s i ++ [a] ++ r).Sublist ds → (a :: r).Sublist (ds.drop u) := by
          intro r hr
          rw [List.append_assoc] at hr
          have h1 : (a :: r).Sublist (ds.drop t) := i2 (a :: r) hr
          have h2 := drop_skip (u - t) (by omega) (fun j q1 q2 => m2 j q1 (by omega)) h1
          rw [show t + (u - t) = u by omega] at h2
          exact h2
        by_cases g : u < ds.length ∧ ds.getD u 0 = a
        · rw [if_pos g]
          refine ⟨fun t' ht => ?_, fun q => by cases q⟩
          injection ht with ht
          subst ht
          refine ⟨?_, fun r hr => ?_⟩
          · rw [take_getD ds u g.1, g.2]
            refine List.Sublist.append (i1.trans ?_) (List.Sublist.refl _)
            have : (ds.take u).take t = ds.take t := by rw [List.take_take, Nat.min_eq_left m1]
            rw [← this]
            exact List.take_sublist _ _
          · have h2 := key r hr
            rw [List.drop_eq_getElem_cons g.1, getD_el, g.2] at h2
            exact List.cons_sublist_cons.mp h2
        · rw [if_neg g]
          refine ⟨fun t' ht => (by cases ht), fun _ r hr => ?_⟩
          have h2 := key r hr
          by_cases h3 : u < ds.length
          · have hne : ds.getD u 0 ≠ a := fun q => g ⟨h3, q⟩
            have hgt : a < ds.getD u 0 := by have : ¬ ds.getD u 0 < a := fun q => ms ⟨h3, q⟩
                                             omega
            have hs := List.Pairwise.drop (i := u) hd
            rw [List.drop_eq_getElem_cons h3, getD_el] at h2 hs
            have hm : a ∈ ds.getD u 0 :: ds.drop (u + 1) := h2.subset (by simp)
            rcases List.mem_cons.mp hm with q | q
            · omega
            · have := (List.pairwise_cons.mp hs).1 a q
              omega
          · rw [List.drop_eq_nil_of_le (by omega)] at h2
            have := h2.length_le
            simp at this
      · rw [if_neg e, if_neg e]
        refine ⟨fun t' ht => ?_, fun q => by cases q⟩
        injection ht with ht
        subst ht
        exact ⟨i1, i2⟩
theorem hcB_iff {as ds : List Nat} {s : Nat} (hd : Srtd ds) : hcB as ds s = true ↔ (selL as s as.length).Sublist ds := by
  obtain ⟨h1, h2⟩ := hcS_sub (as := as) (s := s) hd as.length
  unfold hcB
  cases q : hcS as ds s as.length with
  | none =>
    constructor
    · intro e; cases e
    · intro e
      refine absurd ?_ (h2 q [])
      rw [List.append_nil]; exact e
  | some t => exact ⟨fun _ => (h1 t q).1.trans (List.take_sublist _ _), fun _ => rfl⟩
theorem selL_cs {cs : List Nat} {k : Nat} (hk : k < cs.length) : ∀ i, i ≤ cs.length → selL cs (cset cs.length k) i = if i ≤ k then cs.take i else cs.take k ++ (cs.take i).drop (k + 1) := by
  intro i
  induction i with
  | zero => intro _; rw [if_pos (Nat.zero_le _)]; rfl
  | succ i ih =>
    intro hi
    rw [selL, ih (by omega), cset_tb, decide_eq_true (show i < cs.length by omega), Bool.true_and]
    by_cases e : i = k
    · subst e
      rw [decide_eq_false (by simp), if_neg (by simp), if_pos (Nat.le_refl _), if_neg (by omega), List.drop_eq_nil_of_le (by rw [List.length_take]; omega), List.append_nil]
    · rw [decide_eq_true e, if_pos rfl]
      by_cases g : i ≤ k
      · rw [if_pos g, if_pos (by omega), take_getD cs i (by omega)]
      · rw [if_neg g, if_neg (by omega), take_getD cs i (by omega), List.append_assoc, List.drop_append_of_le_length (by rw [List.length_take]; omega)]
theorem selL_er {cs : List Nat} {k : Nat} (hk : k < cs.length) : selL cs (cset cs.length k) cs.length = cs.eraseIdx k := by
  rw [selL_cs hk _ (Nat.le_refl _), if_neg (by omega), List.take_length, List.eraseIdx_eq_take_drop_succ]
theorem set_perm {cs : List Nat} {k x : Nat} (hk : k < cs.length) : List.Perm (cs.set k x) (x :: cs.eraseIdx k) := by
  rw [List.set_eq_take_append_cons_drop, if_pos hk, List.eraseIdx_eq_take_drop_succ]
  exact List.perm_middle
theorem hc_ex {cs ds : List Nat} {k : Nat} (hk : k < cs.length) (hc : Srtd cs) (hd : Srtd ds) (hl : ds.length = cs.length) : hcB cs ds (cset cs.length k) = true ↔ ∃ x, ds = rpl cs k x := by
  have hel : (cs.eraseIdx k).length = cs.length - 1 := List.length_eraseIdx_of_lt hk
  rw [hcB_iff hd, selL_er hk]
  constructor
  · intro h
    obtain ⟨l, hp⟩ := h.exists_perm_append
    have h1 := hp.length_eq
    rw [List.length_append] at h1
    obtain ⟨x, rfl⟩ := List.length_eq_one_iff.mp (show l.length = 1 by omega)
    refine ⟨x, ((srt_eq hd).mpr ?_).symm⟩
    exact (set_perm hk).trans ((List.perm_append_singleton x _).symm.trans hp.symm)
  · rintro ⟨x, e⟩
    have hp : List.Perm ds (x :: cs.eraseIdx k) := by
      rw [e]
      exact (srt_perm _).trans (set_perm hk)
    have h2 := hp.erase x
    rw [List.erase_cons_head] at h2
    have h3 : ds.erase x = cs.eraseIdx k := srtd_uniq (List.Pairwise.sublist List.erase_sublist hd) (List.Pairwise.sublist (List.eraseIdx_sublist cs k) hc) h2
    rw [← h3]
    exact List.erase_sublist
theorem rpl_inj {cs : List Nat} {k x y : Nat} (hk : k < cs.length) (h : rpl cs k x = rpl cs k y) : x = y := by
  have h1 : List.Perm (x :: cs.eraseIdx k) (y :: cs.eraseIdx k) := (set_perm hk).symm.trans (((srt_perm _).symm.trans (List.Perm.of_eq h)).trans ((srt_perm _).trans (set_perm hk)))
  have h2 := (h1.map id)
  have h3 : (x :: cs.eraseIdx k).sum = (y :: cs.eraseIdx k).sum := List.Perm.sum_nat h1
  rw [List.sum_cons, List.sum_cons] at h3
  omega
theorem cnt_one {p : Nat → Bool} : ∀ {n : Nat}, (∀ i j, i < n → j < n → p i = true → p j = true → i = j) → cnt p n = if anyB p n = true then 1 else 0 := by
  intro n
  induction n with
  | zero => intro _; rfl
  | succ n ih =>
    intro h
    have h1 := ih (fun i j hi hj => h i j (by omega) (by omega))
    rw [cnt]
    by_cases e : p n = true
    · rw [if_pos e, cnt_none (fun i hi => bfalse (fun q => by have := h i n (by omega) (by omega) q e; omega)), if_pos (anyB_yes (Nat.lt_succ_self n) e)]
    · rw [if_neg e, h1, Nat.add_zero]
      by_cases g : anyB p n = true
      · obtain ⟨i, hi, q⟩ := anyB_iff.mp g
        rw [if_pos g, if_pos (anyB_yes (show i < n + 1 by omega) q)]
      · rw [if_neg g, if_neg (fun q => g (by
          obtain ⟨i, hi, q⟩ := anyB_iff.mp q
          exact anyB_yes (show i < n from by
            by_cases z : i = n
            · rw [z] at q; exact absurd q e
            · omega) q))]
theorem fnd_yes {cs : List Nat} : ∀ j, (∃ i, i < j ∧ okA cs i = true) → fnd cs j ≠ [] := by
  intro j
  induction j with
  | zero => rintro ⟨i, hi, _⟩; omega
  | succ j ih =>
    rintro ⟨i, hi, e⟩ q
    rw [fnd] at q
    by_cases g : okA cs j = true
    · rw [if_pos g] at q
      have : frm cs.length (acd cs j) ∈ insU (frm cs.length (acd cs j)) (fnd cs j) := insU_mem.mpr (Or.inl rfl)
      rw [q] at this
      cases this
    · rw [if_neg g] at q
      exact ih ⟨i, by
        by_cases z : i = j
        · rw [z] at e; exact absurd e g
        · omega, e⟩ q
theorem ans_iff {cs : List Nat} : ansL cs ≠ [] ↔ ∃ j, j < 2 ^ (cs.length - 1) ∧ okA cs j = true := by
  constructor
  · intro h
    refine Classical.byContradiction (fun q => h ?_)
    exact fnd_none _ (fun i hi => bfalse (fun e => q ⟨i, hi, e⟩))
  · exact fnd_yes _
theorem eT_all {n a j : Nat} (h3 : 3 ≤ n) (h5 : n ≤ 5) (ha : a < fr n - fr (n - 1)) (hj : j < 2 ^ (n - 1)) : dck n (fmsT.getD (fr (n - 1) + a) 0 ||| j <<< tri (n - 1)) = dT (eI n a j) ∧ fr n ≤ eI n a j ∧ eI n a j < fr (n + 1) := by
  rcases (by omega : n = 3 ∨ n = 4 ∨ n = 5) with rfl | rfl | rfl
  · exact ⟨eT_3 a ha j hj, eI_b3 a ha j hj⟩
  · exact ⟨eT_4 a ha j hj, eI_b4 a ha j hj⟩
  · exact ⟨eT_5 a ha j hj, eI_b5 a ha j hj⟩
theorem ans_T {cs : List Nat} (hW : WD cs) (h3 : 3 ≤ cs.length) (h5 : cs.length ≤ 5) : ansL cs ≠ [] ↔ ∃ i, i < fr (cs.length + 1) ∧ fr cs.length ≤ i ∧ dT i = cs := by
  obtain ⟨n, hn⟩ : ∃ n, n = cs.length := ⟨_, rfl⟩
  have hfr := fr_f n (by omega)
  rw [ans_iff]
  constructor
  · rintro ⟨j, hj, ho⟩
    have ho := of_decide_eq_true ho
    have hm : cs.getD 0 0 ∈ fms (n - 1) := by
      have := hW.2.2.2 _ (getD_mem (show 0 < cs.length by omega))
      rw [← hn] at this
      exact fms_mem.mpr this
    obtain ⟨o1, o2, o3, o4⟩ := ownF_spec (show n - 1 < 6 by omega) hm
    rw [show n - 1 + 1 = n by omega] at o2
    obtain ⟨e1, e2, e3⟩ := eT_all (n := n) (a := ownF (n - 1) (cs.getD 0 0) - fr (n - 1)) (j := j) (by omega) (by omega) (by omega) (by rw [hn]; exact hj)
    rw [show fr (n - 1) + (ownF (n - 1) (cs.getD 0 0) - fr (n - 1)) = ownF (n - 1) (cs.getD 0 0) by omega, o4] at e1
    unfold acd at ho
    rw [← hn] at ho
    rw [ho] at e1
    exact ⟨_, by rw [← hn]; exact e3, by rw [← hn]; exact e2, e1.symm⟩
  · rintro ⟨i, hi1, hi2, e⟩
    rw [← hn] at hi1 hi2
    obtain ⟨hsz, hi4⟩ := fr_sz i (by omega) n (by omega) (by omega) hi2 hi1
    obtain ⟨g1, g2, g3⟩ := gT_ok i (by omega) hi4
    rw [hsz] at g1 g2 g3
    have hj : gT.getD i 0 % 2 ^ (n - 1) < 2 ^ (n - 1) := Nat.mod_lt _ (Nat.two_pow_pos _)
    obtain ⟨e1, e2, e3⟩ := eT_all (n := n) (j := gT.getD i 0 % 2 ^ (n - 1)) (by omega) (by omega) g3 hj
    rw [g2, g1, e] at e1
    refine ⟨_, by rw [← hn]; exact hj, decide_eq_true ?_⟩
    unfold acd
    rw [← hn]
    exact e1
def mnR (cs : List Nat) (k x i : Nat) : Bool := decide (frm (cs.length - 1) x = x) && (decide (fr cs.length ≤ i) && decide (dT i = rpl cs k x))
noncomputable def mnX (cs : List Nat) (k x : Nat) : Bool := decide (frm (cs.length - 1) x = x) && decide (0 < (ansL (rpl cs k x)).length)
theorem mend_eq {cs : List Nat} {k : Nat} (hW : WD cs) (h3 : 3 ≤ cs.length) (h5 : cs.length ≤ 5) (hk : k < cs.length) : cnt (mnP cs k) (fr (cs.length + 1)) = cnt (mnX cs k) (2 ^ tri (cs.length - 1)) := by
  have hfr := fr_f cs.length (by omega)
  have hrl : ∀ x, (rpl cs k x).length = cs.length := fun x => by unfold rpl; rw [srt_len, List.length_set]
  have hdw : ∀ i, fr cs.length ≤ i → i < fr (cs.length + 1) → WD (dT i) ∧ (dT i).length = cs.length := by
    intro i h1 h2
    obtain ⟨hsz, hi4⟩ := fr_sz i (by omega) cs.length (by omega) h3 h1 h2
    have e : dck cs.length (fmsT.getD i 0) = dT i := by rw [← hsz]; exact dck_T i (by omega) hi4
    rw [← e]
    exact ⟨dck_WD (by omega) (by omega), dck_len _ _⟩
  have hA : ∀ x, x < 2 ^ tri (cs.length - 1) → (if mnX cs k x = true then 1 else 0) = sumN (fun i => if mnR cs k x i = true then 1 else 0) (fr (cs.length + 1)) := by
    intro x hx
    rw [← cnt_sumN (mnR cs k x), cnt_one (fun i j hi hj q1 q2 => by
      unfold mnR at q1 q2
      simp only [Bool.and_eq_true, decide_eq_true_eq] at q1 q2
      have h4 := fr_sz i (by omega) cs.length (by omega) h3 q1.2.1 hi
      have h5 := fr_sz j (by omega) cs.length (by omega) h3 q2.2.1 hj
      exact dT_inj i (by omega) j (by omega) ⟨h4.2, h5.2, by rw [q1.2.2, q2.2.2]⟩)]
    have : mnX cs k x = true ↔ anyB (mnR cs k x) (fr (cs.length + 1)) = true := by
      rw [anyB_iff]
      unfold mnX mnR
      simp only [Bool.and_eq_true, decide_eq_true_eq]
      constructor
      · rintro ⟨q1, q2⟩
        obtain ⟨i, a1, a2, a3⟩ := (ans_T (rpl_WD hW hx q1) (by rw [hrl]; exact h3) (by rw [hrl]; exact h5)).mp (fun q => by rw [q] at q2; exact Nat.lt_irrefl 0 q2)
        rw [hrl] at a1 a2
        exact ⟨i, a1, q1, a2, a3⟩
      · rintro ⟨i, a1, q1, a2, a3⟩
        refine ⟨q1, List.length_pos_iff.mpr ?_⟩
        exact (ans_T (rpl_WD hW hx q1) (by rw [hrl]; exact h3) (by rw [hrl]; exact h5)).mpr ⟨i, by rw [hrl]; exact a1, by rw [hrl]; exact a2, a3⟩
    by_cases e : mnX cs k x = true
    · rw [if_pos e, if_pos (this.mp e)]
    · rw [if_neg e, if_neg (fun q => e (this.mpr q))]
  have hB : ∀ i, i < fr (cs.length + 1) → (if mnP cs k i = true then 1 else 0) = sumN (fun x => if mnR cs k x i = true then 1 else 0) (2 ^ tri (cs.length - 1)) := by
    intro i hi
    rw [← cnt_sumN (fun x => mnR cs k x i), cnt_one (fun x y hx hy q1 q2 => by
      unfold mnR at q1 q2
      simp only [Bool.and_eq_true, decide_eq_true_eq] at q1 q2
      exact rpl_inj hk (by rw [← q1.2.2, ← q2.2.2]))]
    have : mnP cs k i = true ↔ anyB (fun x => mnR cs k x i) (2 ^ tri (cs.length - 1)) = true := by
      rw [anyB_iff]
      unfold mnP mnR
      simp only [Bool.and_eq_true, decide_eq_true_eq]
      constructor
      · rintro ⟨q1, q2⟩
        obtain ⟨w1, w2⟩ := hdw i q1 hi
        obtain ⟨x, ex⟩ := (hc_ex hk hW.2.2.1 w1.2.2.1 w2).mp q2
        have hxm : x ∈ dT i := by
          rw [ex]
          exact srt_mem.mpr ((set_perm hk).mem_iff.mpr (by simp))
        have := w1.2.2.2 x hxm
        rw [w2] at this
        exact ⟨x, this.1, this.2, q1, ex⟩
      · rintro ⟨x, hx, q1, q2, q3⟩
        obtain ⟨w1, w2⟩ := hdw i q2 hi
        exact ⟨q2, (hc_ex hk hW.2.2.1 w1.2.2.1 w2).mpr ⟨x, q3⟩⟩
    by_cases e : mnP cs k i = true
    · rw [if_pos e, if_pos (this.mp e)]
    · rw [if_neg e, if_neg (fun q => e (this.mpr q))]
  rw [cnt_sumN, cnt_sumN, sumN_ext hB, sumN_ext hA]
  exact sumN_swap (fun i x => if mnR cs k x i = true then 1 else 0) _ _
theorem y_mend {S : mScr} {dep : Nat} {x y : Int32} {st : St} {h : Hp} (hi : InvM h st) : Cal S (dep + 20) 253 [.ref 188, .int x, .int y] h (MR h (aMend st x y, st)) := by
  obtain ⟨hi0, fm0⟩ := hi.thr
  obtain ⟨h0, hh0⟩ : ∃ h0, h0 = wI h 188 4 (nI 0) := ⟨_, rfl⟩
  rw [← hh0] at hi0 fm0
  obtain ⟨hs, hw, _⟩ := id hi0
  show V S (dep + 20) 253 0 [.ref 188, .int x, .int y, .null, .null, .null] [] h _
  refine V_aload_n rfl rfl rfl ?_
  refine V_ic (v := nI 0) rfl rfl ?_
  refine V_pi 4 rfl rfl rfl rfl ?_
  refine V_aload_n rfl rfl rfl ?_
  refine V_iload_n rfl rfl ?_
  -- at 7: .invokevirtual 209
  rw [← hh0]
  refine V_cV rfl rfl rfl rfl rfl (m_deckOf hs) ?_
  refine V_istore_n (L' := [_, _, _, _, _, _]) rfl rfl rfl ?_
  refine V_aload_n rfl rfl rfl ?_
  refine V_iload_n rfl rfl ?_
  refine V_iload_n rfl rfl ?_
  -- at 14: .invokevirtual 249
  refine V_cV rfl rfl rfl rfl rfl (m_isCard hs hw) ?_
  refine V_if_ne rfl (fun hc => ?_) (fun hc => ?_)
  · obtain ⟨k, e1⟩ := bI_som hc
    obtain ⟨rfl, hk⟩ := ix_some e1
    obtain ⟨d, e3, rfl, hd3, e4⟩ := dln_pos (s := st.1) (x := x) (by omega)
    rw [e4] at hk
    rw [e4]
    obtain ⟨cs, hcs⟩ : ∃ cs, cs = st.1.2.2 d := ⟨_, rfl⟩
    have hW : WD cs := by rw [hcs]; exact hw.wd hd3 (by omega)
    have ev : aMend st (nI d) (nI k) = if cs.length < 3 ∨ 5 < cs.length then -5 else nI (cnt (mnP cs k) (fr (cs.length + 1))) := by unfold aMend; rw [e1, e3, hcs]
    rw [ev, ← hcs]
    rw [← hcs] at hk
    have h7 := hW.2.1
    refine V_iload_n rfl rfl ?_
    refine V_i2l rfl ?_
    refine V_l2 (v := 3) rfl rfl ?_
    refine V_l2 (v := 5) rfl rfl ?_
    -- at 31: .invokestatic 134
    refine V_cS rfl rfl rfl rfl (m_isIn) ?_
    rw [Int32.toInt_toInt64, nI_toInt (by omega), show (3 : Int64).toInt = 3 from rfl, show (5 : Int64).toInt = 5 from rfl]
    refine V_if_ne rfl (fun he => ?_) (fun he => ?_)
    · have he := of_decide_eq_true (bI_nz.mp he)
      have h3 : 3 ≤ cs.length := by omega
      have h5 : cs.length ≤ 5 := by omega
      rw [if_neg (by omega), mend_eq hW h3 h5 hk]
      have ht : tri (cs.length - 1) ≤ 6 := by
        have : ∀ n, n ≤ 5 → tri (n - 1) ≤ 6 := by decide
        exact this _ h5
      have hL : (2 : Nat) ^ tri (cs.length - 1) ≤ 2 ^ 6 := Nat.pow_le_pow_right (by decide) ht
      have h2p := Nat.two_pow_pos (tri (cs.length - 1))
      obtain ⟨F, hF⟩ : ∃ F : Nat → Bool, F = mnX cs k := ⟨_, rfl⟩
      rw [← hF]
      refine V_ic (v := nI 0) rfl rfl ?_
      refine V_istore (L' := [_, _, _, _, _, _]) rfl rfl rfl ?_
      refine V_ic (v := nI 0) rfl rfl ?_
      refine V_istore (L' := [_, _, _, _, _, _]) rfl rfl rfl ?_
      -- at 46: .iload 5
      have lp := loopUp (P := fun c => ∀ h1, MF [6, 7] [192, 193, 195, 206, 207] h0 h1 → V S (dep + 20) 253 46 [.ref 188, .int (nI d), .int (nI k), .int (nI cs.length), .int (nI (cnt F c)), .int (nI c)] [] h1 (MR h (nI (cnt F (2 ^ tri (cs.length - 1))), st))) (2 ^ tri (cs.length - 1)) ?_ ?_ 0 (Nat.zero_le _)
      · exact lp h0 MF.rf
      · intro h1 f1
        refine V_iload rfl rfl ?_
        refine V_iload_n rfl rfl ?_
        refine V_ic (v := nI 1) rfl rfl ?_
        refine V_isub rfl ?_
        -- at 51: .invokestatic 235
        rw [nI_sub (by omega)]
        refine V_cS rfl rfl rfl rfl (m_whole (by omega)) ?_
        refine V_icmp_gt rfl (fun hd => ?_) (fun hd => ?_)
        · refine V_iload rfl rfl ?_
          -- at 121: .ireturn
          refine V_iret rfl rfl ?_
          exact mq hi0 fm0 f1 (by simp; decide) (by simp; decide) (by simp)
        · exact absurd (nI_lt (by omega) (by omega)) hd
      · intro c hcl ih h1 f1
        have hFc : F c = mnX cs k c := by rw [hF]
        rw [cnt] at ih
        have up : ∀ h5 b, F c = b → MF [6, 7] [192, 193, 195, 206, 207] h0 h5 → V S (dep + 20) 253 113 [.ref 188, .int (nI d), .int (nI k), .int (nI cs.length), .int (nI (cnt F c + if b = true then 1 else 0)), .int (nI c)] [] h5 (MR h (nI (cnt F (2 ^ tri (cs.length - 1))), st)) := by
          intro h5 b hb f5
          rw [hb] at ih
          refine V_iinc (L' := [_, _, _, _, _, _]) rfl rfl rfl ?_
          refine V_goto rfl ?_
          -- at 46: .iload 5
          rw [show Int32.ofInt 1 = nI 1 from rfl, nI_add]
          exact ih h5 f5
        refine V_iload rfl rfl ?_
        refine V_iload_n rfl rfl ?_
        refine V_ic (v := nI 1) rfl rfl ?_
        refine V_isub rfl ?_
        -- at 51: .invokestatic 235
        rw [nI_sub (by omega)]
        refine V_cS rfl rfl rfl rfl (m_whole (by omega)) ?_
        refine V_icmp_gt rfl (fun hd => ?_) (fun hd => ?_)
        · exact absurd hd (nI_nlt (by omega) (by omega))
        · refine V_aload_n rfl rfl rfl ?_
          refine V_iload_n rfl rfl ?_
          refine V_ic (v := nI 1) rfl rfl ?_
          refine V_isub rfl ?_
          -- at 61: .iload 5
          rw [nI_sub (by omega)]
          refine V_iload rfl rfl ?_
          -- at 63: .invokevirtual 115
          refine V_callV rfl rfl rfl rfl rfl (m_frm (by omega) hcl) ?_
          rintro _ h2 ⟨rfl, f2⟩
          show V S (dep + 20) 253 66 [.ref 188, .int (nI d), .int (nI k), .int (nI cs.length), .int (nI (cnt F c)), .int (nI c)] [.int (nI (frm (cs.length - 1) c))] h2 _
          have hfk := frm21 (n := cs.length - 1) (C := c) (by omega)
          have f2 : MF [6, 7] [192, 193, 195, 206, 207] h0 h2 := f1.tr (f2.mono (by simp) (by simp))
          refine V_iload rfl rfl ?_
          -- at 68: .if_icmp .eq 6
          refine V_icmp_eq rfl (fun hg => ?_) (fun hg => ?_)
          · have hg := nI_inj (by omega) (by omega) hg
            have hs2 := hs.mf f2 (by simp)
            refine V_aload_n rfl rfl rfl ?_
            refine V_iload_n rfl rfl ?_
            -- at 76: .invokevirtual 252
            refine V_callV rfl rfl rfl rfl rfl (m_takes hs2 hw hd3) ?_
            rintro _ h3 ⟨rfl, hA3, f3⟩
            rw [← hcs] at hA3
            show V S (dep + 20) 253 79 [.ref 188, .int (nI d), .int (nI k), .int (nI cs.length), .int (nI (cnt F c)), .int (nI c)] [] h3 _
            have f3 : MF [6, 7] [192, 193, 195, 206, 207] h0 h3 := f2.tr (f3.mono (by simp) (by simp))
            refine V_aload_n rfl rfl rfl ?_
            refine V_getR (r := 195) rfl rfl ?_
            refine V_iload_n rfl rfl ?_
            refine V_iload rfl rfl ?_
            refine V_as 7 rfl rfl (by first | with_reducible rfl | assumption | exact nI_sub (by omega) | exact nI_add _ _) (by first | omega | assumption) rfl ?_
            -- at 87: .aload_n 0
            have hA4 := hA3.set (k := k) (x := c)
            have hb4 : ∀ x ∈ cs.set k c, x < 2 ^ 21 := by
              intro y hy
              rcases List.mem_or_eq_of_mem_set hy with q | q
              · exact c21 (by omega) (hW.2.2.2 y q).1
              · rw [q]; omega
            have hW5 := rpl_WD (k := k) hW hcl hg
            have hl5 : (rpl cs k c).length = cs.length := by unfold rpl; rw [srt_len, List.length_set]
            refine V_aload_n rfl rfl rfl ?_
            refine V_getR (r := 195) rfl rfl ?_
            refine V_iload_n rfl rfl ?_
            -- at 92: .invokestatic 212
            have hsr := m_srt (S := S) (dep := dep + 19) (r := 195) (N := 7) rfl rfl rfl hA4 (by rw [List.length_set]; omega) (fun x hx => by have := hb4 x hx; omega)
            rw [List.length_set] at hsr
            refine V_callS rfl rfl rfl rfl (hsr) ?_
            rintro _ h5 ⟨rfl, hA5, _, f5⟩
            show V S (dep + 20) 253 95 [.ref 188, .int (nI d), .int (nI k), .int (nI cs.length), .int (nI (cnt F c)), .int (nI c)] [] h5 _
            have f5 : MF [6, 7] [192, 193, 195, 206, 207] h0 h5 := (f3.tr (MF.w (by simp) (by decide))).tr (MF.of f5 (by simp) (by decide))
            have han := m_ans (S := S) (dep := dep + 6) (cs := rpl cs k c) hA5 hW5
            rw [hl5] at han
            refine V_iload rfl rfl ?_
            refine V_aload_n rfl rfl rfl ?_
            refine V_iload_n rfl rfl ?_
            -- at 99: .invokevirtual 255
            refine V_callV rfl rfl rfl rfl rfl (han) ?_
            rintro _ h6 ⟨rfl, _, f6⟩
            show V S (dep + 20) 253 102 [.ref 188, .int (nI d), .int (nI k), .int (nI cs.length), .int (nI (cnt F c)), .int (nI c)] [.int (nI (ansL (rpl cs k c)).length), .int (nI (cnt F c))] h6 _
            have f6 : MF [6, 7] [192, 193, 195, 206, 207] h0 h6 := f5.tr (f6.mono (by simp) (by simp))
            have hal : (ansL (rpl cs k c)).length ≤ 64 := by
              refine Nat.le_trans (fnd_len _ _) ?_
              rw [hl5]
              exact Nat.pow_le_pow_right (n := 2) (j := 6) (by decide) (by omega)
            have eX : F c = decide (0 < (ansL (rpl cs k c)).length) := by rw [hFc]; unfold mnX; rw [decide_eq_true hg]; rfl
            refine V_if_le rfl (fun hz => ?_) (fun hz => ?_)
            · have hz := (nI_leI (b := 0) (by omega) (by omega)).mp hz
              refine V_ic (v := nI 0) rfl rfl ?_
              refine V_iadd rfl ?_
              -- at 111: .istore 4
              rw [nI_add]
              refine V_istore (L' := [_, _, _, _, _, _]) rfl rfl rfl ?_
              -- at 113: .iinc 5 1
              exact up h6 false (by rw [eX, decide_eq_false (by omega)]) f6
            · have hz := nI_ngt (b := 0) (by omega) (by omega) hz
              refine V_ic (v := nI 1) rfl rfl ?_
              refine V_goto rfl ?_
              refine V_iadd rfl ?_
              -- at 111: .istore 4
              rw [nI_add]
              refine V_istore (L' := [_, _, _, _, _, _]) rfl rfl rfl ?_
              -- at 113: .iinc 5 1
              exact up h6 true (by rw [eX, decide_eq_true (by omega)]) f6
          · have hg : ¬ frm (cs.length - 1) c = c := fun q => hg (by rw [q])
            refine V_goto rfl ?_
            -- at 113: .iinc 5 1
            exact up h2 false (by rw [hFc]; unfold mnX; rw [decide_eq_false hg]; rfl) f2
    · have he := bI_z.mp (Decidable.of_not_not he)
      have he := of_decide_eq_false he
      rw [if_pos (by omega)]
      refine V_bi (v := -5) rfl rfl ?_
      -- at 39: .ireturn
      refine V_iret rfl rfl ?_
      exact mq0 hi0 fm0
  · have hc := bI_non (Decidable.of_not_not hc)
    have ev : aMend st x y = -2 := by unfold aMend; rw [hc]
    rw [ev]
    refine V_bi (v := -2) rfl rfl ?_
    -- at 22: .ireturn
    refine V_iret rfl rfl ?_
    exact mq0 hi0 fm0
