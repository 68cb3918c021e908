/-! the search finds the least code of all arrangements: the whole -/
theorem lrw_lt2 {x v : Nat} {cl : List Nat} (hs : popS cl ≤ 7) (hne : 0 < cl.length) (hl : (lastC cl).testBit v = true) (hv : v < 24) (hx : x.testBit v = false) : (lrw x cl cl.length).1 < 2 ^ (popS cl - 1) := by
  obtain ⟨k, hk⟩ : ∃ k, cl.length = k + 1 := ⟨cl.length - 1, by omega⟩
  have hlast : lastC cl = cl.getD k 0 := by unfold lastC; rw [hk]; rfl
  have hfull : cl.take (k + 1) = cl := by rw [← hk, List.take_length]
  have hp1 : popS cl = popS (cl.take k) + pop (cl.getD k 0) := by
    have := popS_take1 cl k (by omega)
    rwa [hfull] at this
  have h1 := lrw_lt (x := x) hs k (by omega)
  have hlow := lrw_low x cl k (by omega)
  have hout := pop_out (c := cl.getD k 0) hv
  rw [← hlast, if_pos hl, hlast] at hout
  have hdx : (cl.getD k 0 ^^^ (cl.getD k 0 &&& 2 ^ v)) &&& x = cl.getD k 0 &&& x := by
    apply Nat.eq_of_testBit_eq
    intro i
    rw [Nat.testBit_and, tb_sub, Nat.testBit_and]
    by_cases e : i = v
    · rw [e, hx]; simp
    · simp [e]
  have hle : pop (cl.getD k 0 &&& x) ≤ pop (cl.getD k 0 ^^^ (cl.getD k 0 &&& 2 ^ v)) := by rw [← hdx]; exact pop_and_le
  rw [hk, lrw, or_add h1]
  dsimp only
  rw [hlow] at h1 ⊢
  have h2 : 2 ^ (popS cl - 1) = 2 ^ popS (cl.take k) * 2 ^ (pop (cl.getD k 0) - 1) := by rw [← Nat.pow_add]; congr 1; omega
  have h3 : 2 ^ pop (cl.getD k 0 &&& x) ≤ 2 ^ (pop (cl.getD k 0) - 1) := Nat.pow_le_pow_right (by decide) (by omega)
  have h4 := Nat.two_pow_pos (pop (cl.getD k 0 &&& x))
  have h5 : (2 ^ pop (cl.getD k 0 &&& x) - 1 + 1) * 2 ^ popS (cl.take k) ≤ 2 ^ (pop (cl.getD k 0) - 1) * 2 ^ popS (cl.take k) := Nat.mul_le_mul_right _ (by omega)
  rw [h2, Nat.mul_comm (2 ^ popS (cl.take k))]
  rw [Nat.add_mul] at h5
  omega
theorem row_ge {n p : Nat} {g q : Nat → Nat} {cl : List Nat} (hn : n ≤ 7) (hg : NG n g) (hpn : p < n) (hI : CLI n p cl) (hA : Arr n p cl q) : (lrw (g (q p)) cl cl.length).1 ≤ bsum (fun j => (g (q p)).testBit (q j)) p ∧ ((lrw (g (q p)) cl cl.length).1 = bsum (fun j => (g (q p)).testBit (q j)) p ↔ BEq (g (q p)) q cl cl.length) := by
  have h1 := hI.1
  have h := lrw_ge (x := g (q p)) (q := q) (cl := cl) hA.2.2 (fun j hj => by have := hA.1 j (by omega); omega) (fun i j hi hj => hA.2.1 i j (by omega) (by omega)) (by omega) cl.length (Nat.le_refl _)
  rw [List.take_length, h1, bsum_succ, hg.1 (q p)] at h
  simpa using h
theorem Adm_sw {cl : List Nat} {q : Nat → Nat} {v w : Nat} (h : ∀ c ∈ cl, c.testBit v = c.testBit w) : ∀ {s : Nat}, Adm q s cl → Adm (fun i => sw v w (q i)) s cl := by
  induction cl with
  | nil => intro s _; trivial
  | cons c cl ih =>
    intro s hA
    refine ⟨fun j hj => ?_, ih (fun c hc => h c (List.mem_cons_of_mem _ hc)) hA.2⟩
    have h1 := hA.1 j hj
    have h2 := h c List.mem_cons_self
    show c.testBit (sw v w (q (s + j))) = true
    unfold sw
    by_cases e : q (s + j) = v
    · rw [if_pos e, ← h2, ← e]; exact h1
    · rw [if_neg e]
      by_cases e2 : q (s + j) = w
      · rw [if_pos e2, h2, ← e2]; exact h1
      · rw [if_neg e2]; exact h1
theorem nlr_dich {g : Nat → Nat} {cl : List Nat} : ∀ v, (∃ u, (nlr g cl v).1.testBit u = true) ∨ nlr g cl v = (0, 2147483647) := by
  intro v
  induction v with
  | zero => exact Or.inr rfl
  | succ v ih =>
    rw [nlr]
    split
    · refine Or.inl ⟨v, ?_⟩
      dsimp only
      split
      · rw [tb2]; simp
      · rw [Nat.testBit_or, tb2]; simp
    · exact ih
theorem nlr_ne {g : Nat → Nat} {cl : List Nat} (hs : popS cl ≤ 7) (v w : Nat) (hw : w < v) (hb : (lastC cl).testBit w = true) : ∃ u, (nlr g cl v).1.testBit u = true := by
  rcases nlr_dich (g := g) (cl := cl) v with h | h
  · exact h
  · have h1 := (nlr_spec (g := g) hs v).2 w hw hb
    have h2 := lrw_lt (x := g w) hs cl.length (Nat.le_refl _)
    rw [lrw_low _ _ _ (Nat.le_refl _), List.take_length] at h2
    have h3 : 2 ^ popS cl ≤ 128 := Nat.pow_le_pow_right (n := 2) (j := 7) (by decide) hs
    rw [h] at h1
    dsimp only at h1
    omega
theorem lcd_aut {g q f : Nat → Nat} (h : ∀ a b, (g (f a)).testBit (f b) = (g a).testBit b) (m : Nat) : lcd g (fun i => f (q i)) m = lcd g q m := by
  induction m with
  | zero => rfl
  | succ m ih =>
    rw [lcd, lcd, ih]
    congr 2
    exact bsum_ext fun i _ => h _ _
theorem fil_ok {n : Nat} {g : Nat → Nat} (hn : n ≤ 7) (hg : NG n g) : ∀ p cl code best, CLI n p cl → p < n → (∃ m, code = m * 2 ^ tri (p + 1)) → (fil g n p cl code best = best ∨ ∃ q, Arr n p cl q ∧ fil g n p cl code best = code + lcd g q (p + 1)) ∧ (∀ q, Arr n p cl q → fil g n p cl code best ≤ code + lcd g q (p + 1)) ∧ fil g n p cl code best < code + 2 ^ tri (p + 1) := by
  intro p
  induction p with
  | zero =>
    intro cl code best hI hpn _
    rw [fil]
    have hl : ∀ q, lcd g q (0 + 1) = 0 := fun q => by simp [lcd, bsum]
    refine ⟨?_, fun q _ => by rw [hl]; exact Nat.min_le_right _ _, by have := Nat.min_le_right best code; have := Nat.two_pow_pos (tri (0 + 1)); omega⟩
    rcases Nat.le_total best code with e | e
    · left; exact Nat.min_eq_left e
    · right
      have h1 := len_pop (hI.sz hn)
      have h2 := hI.1
      have h3 := hI.ne
      match cl, hI, h1, h2, h3 with
      | [c], hI, _, h2, _ =>
        obtain ⟨v, hv1, hv2⟩ := ex_bit (hI.2.2 c List.mem_cons_self).1 (hI.2.2 c List.mem_cons_self).2
        refine ⟨fun _ => v, ⟨fun _ _ => hv1, fun i j hi hj _ => by omega, ⟨fun _ _ => hv2, trivial⟩⟩, ?_⟩
        rw [hl]; exact Nat.min_eq_right e
      | _ :: _ :: _, _, h1, h2, _ => rw [h2] at h1; simp at h1
  | succ p ih =>
    intro cl code best hI hpn hcode
    obtain ⟨m, hm⟩ := hcode
    have hlc := lastC_mem hI.ne
    obtain ⟨v0, hv0, hv0b⟩ := ex_bit (hI.2.2 _ hlc).1 (hI.2.2 _ hlc).2
    have hpop := hI.1
    have hspec := nlr_spec (g := g) (cl := cl) (by omega) n
    have hN : (nlr g cl n).2 < 2 ^ (p + 1) := by
      have h1 := hspec.2 v0 hv0 hv0b
      have h2 := lrw_lt2 (x := g v0) (by omega) hI.ne hv0b (by omega) (hg.1 v0)
      rw [hpop] at h2
      exact Nat.lt_of_le_of_lt h1 h2
    generalize hNe : (nlr g cl n).2 = N at hN hspec
    generalize hFe : (nlr g cl n).1 = F at hspec
    have hts : tri (p + 1 + 1) = tri (p + 1) + (p + 1) := tri_succ (p + 1)
    rw [hts] at hm ⊢
    generalize hse : tri (p + 1) = s at hm ih hts ⊢
    have hNs : N <<< s < 2 ^ (s + (p + 1)) := by
      rw [Nat.shiftLeft_eq, Nat.pow_add, Nat.mul_comm]
      exact Nat.mul_lt_mul_of_pos_left hN (Nat.two_pow_pos _)
    have hlon : code ||| N <<< s = code + N * 2 ^ s := by
      have := or_add (y := m) hNs
      rw [Nat.shiftLeft_eq m, ← hm, Nat.or_comm] at this
      rw [this, Nat.shiftLeft_eq, Nat.add_comm]
    have hdiv : code + N * 2 ^ s = (m * 2 ^ (p + 1) + N) * 2 ^ s := by
      rw [hm, Nat.add_mul, Nat.mul_assoc, ← Nat.pow_add, Nat.add_comm (p + 1)]
    have hpos := Nat.two_pow_pos s
    have hcl : ∀ q, lcd g q (p + 1 + 1) = lcd g q (p + 1) + bsum (fun i => (g (q (p + 1))).testBit (q i)) (p + 1) * 2 ^ s := fun q => by rw [lcd, hse]
    have hup : N * 2 ^ s + 2 ^ s ≤ 2 ^ (s + (p + 1)) := by
      have : (N + 1) * 2 ^ s ≤ 2 ^ (p + 1) * 2 ^ s := Nat.mul_le_mul_right _ hN
      rw [Nat.add_mul, Nat.one_mul] at this
      rw [Nat.pow_add, Nat.mul_comm (2 ^ s)]
      exact this
    have hrow : ∀ q, Arr n (p + 1) cl q → N * 2 ^ s ≤ bsum (fun i => (g (q (p + 1))).testBit (q i)) (p + 1) * 2 ^ s := by
      intro q hA
      apply Nat.mul_le_mul_right
      exact Nat.le_trans (hspec.2 (q (p + 1)) (hA.1 _ (Nat.le_refl _)) (hA.last hn hI)) (row_ge hn hg hpn hI hA).1
    rw [fil, hNe, hFe, hse, hlon]
    split
    · rename_i hpr
      have hlt : best < code + N * 2 ^ s := by
        rw [hdiv] at hpr ⊢
        rw [Nat.shiftRight_eq_div_pow, Nat.shiftRight_eq_div_pow, Nat.mul_div_cancel _ hpos] at hpr
        exact (Nat.div_lt_iff_lt_mul hpos).mp hpr
      refine ⟨Or.inl rfl, fun q hA => ?_, by omega⟩
      have := hrow q hA
      rw [hcl]
      omega
    · rename_i hpr
      have hfl : ∀ c l b, fil g n p c l b ≤ b := fun c l b => fil_le p c l b
      have hIs : ∀ v, F.testBit v = true → CLI n p (spl g cl v cl.length) := fun v hv => hI.spl hn ((hspec.1 v).mp hv).1 ((hspec.1 v).mp hv).2.1
      have hih : ∀ v b, F.testBit v = true → _ := fun v b hv => ih (spl g cl v cl.length) (code + N * 2 ^ s) b (hIs v hv) (by omega) ⟨_, hdiv⟩
      -- what a fitting node brings
      have hfitv : ∀ v, v < n → F.testBit v = true → ∃ w b, F.testBit w = true ∧ (filV (fil g n p) g n cl F (code + N * 2 ^ s) best n).2 ≤ fil g n p (spl g cl w cl.length) (code + N * 2 ^ s) b ∧ (w = v ∨ (g v ^^^ (g v &&& (2 ^ v ||| 2 ^ w))) = (g w ^^^ (g w &&& (2 ^ v ||| 2 ^ w)))) := by
        intro v hv hF
        have hmono := filV_mono (g := g) (n := n) (fit := F) (longer := code + N * 2 ^ s) (best := best) (cl := cl) hfl (v := v + 1) (u := n) (by omega)
        cases ht : htw g v (filV (fil g n p) g n cl F (code + N * 2 ^ s) best v).1 n with
        | false =>
          rw [filV, if_pos ⟨hF, ht⟩] at hmono
          exact ⟨v, _, hF, hmono, Or.inl rfl⟩
        | true =>
          obtain ⟨w, hw1, hw2, hw3⟩ := htw_ex ht
          obtain ⟨h1, h2, b, h3⟩ := filV_tried hfl v w hw2
          have hmono2 := filV_mono (g := g) (n := n) (fit := F) (longer := code + N * 2 ^ s) (best := best) (cl := cl) hfl (v := v) (u := n) (by omega)
          exact ⟨w, b, h2, Nat.le_trans hmono2 h3, Or.inr hw3⟩
      have hF0 : ∃ v, v < n ∧ F.testBit v = true := by
        have hlm := nlr_ne (g := g) (cl := cl) (by omega) n v0 hv0 hv0b
        rw [hFe] at hlm
        obtain ⟨v, h1⟩ := hlm
        exact ⟨v, ((hspec.1 v).mp h1).1, h1⟩
      have hC : (filV (fil g n p) g n cl F (code + N * 2 ^ s) best n).2 < code + N * 2 ^ s + 2 ^ s := by
        obtain ⟨v, h1, h2⟩ := hF0
        obtain ⟨w, b, h3, h4, _⟩ := hfitv v h1 h2
        exact Nat.lt_of_le_of_lt h4 (hih w b h3).2.2
      refine ⟨?_, fun q hA => ?_, by omega⟩
      · have : ∀ v, v ≤ n → (filV (fil g n p) g n cl F (code + N * 2 ^ s) best v).2 = best ∨ ∃ q, Arr n (p + 1) cl q ∧ (filV (fil g n p) g n cl F (code + N * 2 ^ s) best v).2 = code + lcd g q (p + 1 + 1) := by
          intro v
          induction v with
          | zero => intro _; exact Or.inl rfl
          | succ v ihv =>
            intro hvn
            rw [filV]
            split
            · rename_i hc
              dsimp only
              rcases (hih v (filV (fil g n p) g n cl F (code + N * 2 ^ s) best v).2 hc.1).1 with e | ⟨q', hA', e⟩
              · rw [e]; exact ihv (by omega)
              · right
                have hvl := ((hspec.1 v).mp hc.1).2.1
                obtain ⟨Q, hqp, hQ⟩ : ∃ Q : Nat → Nat, Q (p + 1) = v ∧ ∀ i, i < p + 1 → q' i = Q i := ⟨fun i => if i = p + 1 then v else q' i, if_pos rfl, fun i hi => (if_neg (by omega)).symm⟩
                have hA2 : Adm Q 0 (spl g cl v cl.length) := Adm_ext (fun j hj => hQ j (by have := (hIs v hc.1).1; omega)) hA'.2.2
                have hqv : ∀ i, i ≤ p → q' i ≠ v := by
                  intro i hi e
                  obtain ⟨c, hc1, hc2⟩ := Adm_in hA'.2.2 (Nat.zero_le i) (by have := (hIs v hc.1).1; omega)
                  have h0 := spl_cv (g := g) (cl := cl) (v := v) (w := v) cl.length (Nat.le_refl _)
                  rw [if_pos rfl] at h0
                  have := cv_zero h0 c hc1
                  rw [e, this] at hc2
                  exact Bool.noConfusion hc2
                have hinj : ∀ i j, i ≤ p + 1 → j ≤ p + 1 → Q i = Q j → i = j := by
                  intro i j hi hj he
                  by_cases h1 : i = p + 1
                  · by_cases h2 : j = p + 1
                    · omega
                    · rw [h1, hqp, ← hQ j (by omega)] at he; exact absurd he.symm (hqv j (by omega))
                  · by_cases h2 : j = p + 1
                    · rw [h2, hqp, ← hQ i (by omega)] at he; exact absurd he (hqv i (by omega))
                    · rw [← hQ i (by omega), ← hQ j (by omega)] at he; exact hA'.2.1 i j (by omega) (by omega) he
                have hS := (Adm_spl (g := g) (q := Q) hn hI hinj (by rw [hqp]; omega) (by rw [hqp]; exact hvl) (by rw [hqp]; exact hg.1 v)).mp (by rw [hqp]; exact hA2)
                have hArr : Arr n (p + 1) cl Q := ⟨fun i hi => by
                  by_cases h1 : i = p + 1
                  · rw [h1, hqp]; omega
                  · rw [← hQ i (by omega)]; exact hA'.1 i (by omega), hinj, hS.1⟩
                refine ⟨Q, hArr, ?_⟩
                have hre := (row_ge hn hg hpn hI hArr).2.mpr hS.2
                rw [hcl, e, lcd_ext hQ, ← hre, hqp, ((hspec.1 v).mp hc.1).2.2]
                omega
            · exact ihv (by omega)
        exact this n (Nat.le_refl _)
      · have hr := hrow q hA
        have hge := row_ge hn hg hpn hI hA
        have hql := hA.last hn hI
        have hqn := hA.1 (p + 1) (Nat.le_refl _)
        rw [hcl]
        rcases Nat.lt_or_ge N (bsum (fun i => (g (q (p + 1))).testBit (q i)) (p + 1)) with e | e
        · have : (N + 1) * 2 ^ s ≤ bsum (fun i => (g (q (p + 1))).testBit (q i)) (p + 1) * 2 ^ s := Nat.mul_le_mul_right _ e
          rw [Nat.add_mul] at this
          omega
        · have hle := hspec.2 (q (p + 1)) hqn hql
          have hF : F.testBit (q (p + 1)) = true := (hspec.1 _).mpr ⟨hqn, hql, by omega⟩
          have hB := hge.2.mp (by omega)
          obtain ⟨w, b, hw, hle2, hwv⟩ := hfitv (q (p + 1)) hqn hF
          have hbs : bsum (fun i => (g (q (p + 1))).testBit (q i)) (p + 1) = N := by omega
          rw [hbs]
          rcases hwv with hwv | hwv
          · subst hwv
            have hS := (Adm_spl (g := g) (q := q) hn hI hA.2.1 hqn hql (hg.1 _)).mpr ⟨hA.2.2, hB⟩
            have := (hih (q (p + 1)) b hF).2.1 q ⟨fun i hi => hA.1 i (by omega), fun i j hi hj => hA.2.1 i j (by omega) (by omega), hS⟩
            omega
          · have haut := sw_aut hg hwv
            have hwl := ((hspec.1 w).mp hw).2.1
            have hwn := ((hspec.1 w).mp hw).1
            have hcc : ∀ c ∈ cl, c.testBit (q (p + 1)) = c.testBit w := by
              intro c hc
              obtain ⟨i, hi, hic⟩ := List.getElem_of_mem hc
              have hgd : cl.getD i 0 = c := by rw [List.getD_eq_getElem?_getD, List.getElem?_eq_getElem hi]; exact hic
              have hlen := hI.ne
              cases h1 : c.testBit (q (p + 1)) with
              | true =>
                have : i = cl.length - 1 := cv_idx (hI.2.1 _) hi (by omega) (by rw [hgd]; exact h1) hql
                rw [← hgd, this]; exact hwl.symm
              | false =>
                cases h2 : c.testBit w with
                | false => rfl
                | true =>
                  have : i = cl.length - 1 := cv_idx (hI.2.1 _) hi (by omega) (by rw [hgd]; exact h2) hwl
                  rw [← hgd, this] at h1
                  have hql' : (cl.getD (cl.length - 1) 0).testBit (q (p + 1)) = true := hql
                  rw [hql'] at h1
                  exact h1.symm
            obtain ⟨Q, hQ⟩ : ∃ Q : Nat → Nat, Q = fun i => sw (q (p + 1)) w (q i) := ⟨_, rfl⟩
            have hQi : ∀ i, Q i = sw (q (p + 1)) w (q i) := fun i => by rw [hQ]
            have hA2 : Arr n (p + 1) cl Q := by
              refine ⟨fun i hi => ?_, fun i j hi hj he => ?_, by rw [hQ]; exact Adm_sw hcc hA.2.2⟩
              · rw [hQi]
                unfold sw
                split
                · exact hwn
                · split
                  · exact hqn
                  · exact hA.1 i hi
              · rw [hQi, hQi] at he
                have := congrArg (sw (q (p + 1)) w) he
                rw [sw_sw, sw_sw] at this
                exact hA.2.1 i j hi hj this
            have hqp : Q (p + 1) = w := by rw [hQi]; exact if_pos rfl
            have hrw2 : bsum (fun j => (g w).testBit (Q j)) (p + 1) = N := by
              rw [← hbs]
              apply bsum_ext
              intro i hi
              have h1 := haut (q (p + 1)) (q i)
              rw [show sw (q (p + 1)) w (q (p + 1)) = w from if_pos rfl] at h1
              rw [hQi]; exact h1
            have hge2 := row_ge hn hg hpn hI hA2
            rw [hqp] at hge2
            have hB2 := hge2.2.mp (by rw [((hspec.1 w).mp hw).2.2]; exact hrw2.symm)
            have hS := (Adm_spl (g := g) (q := Q) hn hI hA2.2.1 (by rw [hqp]; exact hwn) (by rw [hqp]; exact hwl) (by rw [hqp]; exact hg.1 _)).mpr ⟨hA2.2.2, by rw [hqp]; exact hB2⟩
            rw [hqp] at hS
            have := (hih w b hw).2.1 Q ⟨fun i hi => hA2.1 i (by omega), fun i j hi hj => hA2.2.1 i j (by omega) (by omega), hS⟩
            have hl : lcd g Q (p + 1) = lcd g q (p + 1) := by rw [hQ]; exact lcd_aut haut _
            omega
