/-! pieces: closures -/
def Sub (p q : Nat) : Prop := ∀ i, p.testBit i = true → q.testBit i = true
theorem Sub.rf (p : Nat) : Sub p p := fun _ h => h
theorem Sub.tr {p q r : Nat} (h : Sub p q) (g : Sub q r) : Sub p r := fun i hi => g i (h i hi)
theorem Sub.eq {p q : Nat} (h : Sub p q) (g : Sub q p) : p = q := by
  apply Nat.eq_of_testBit_eq
  intro i
  rw [Bool.eq_iff_iff]
  exact ⟨h i, g i⟩
theorem Sub.or {p q r : Nat} (h : Sub p r) (g : Sub q r) : Sub (p ||| q) r := fun i hi => by
  rw [Nat.testBit_or, Bool.or_eq_true] at hi
  exact hi.elim (h i) (g i)
theorem Sub.orl (p q : Nat) : Sub p (p ||| q) := fun i hi => by rw [Nat.testBit_or, hi]; rfl
theorem Sub.orr (p q : Nat) : Sub q (p ||| q) := fun i hi => by rw [Nat.testBit_or, hi, Bool.or_true]
theorem tb_lt {p n i : Nat} (hp : p < 2 ^ n) (h : p.testBit i = true) : i < n := by
  apply Classical.byContradiction
  intro q
  have := Nat.testBit_lt_two_pow (x := p) (i := i) (Nat.lt_of_lt_of_le hp (Nat.pow_le_pow_right (by decide) (by omega)))
  rw [h] at this
  exact Bool.noConfusion this
theorem cnt_mono {p q : Nat → Bool} : ∀ {n : Nat}, (∀ i, i < n → p i = true → q i = true) → cnt p n ≤ cnt q n := by
  intro n
  induction n with
  | zero => intro _; exact Nat.le_refl _
  | succ n ih =>
    intro h
    have h1 := ih (fun i hi => h i (by omega))
    have h2 := h n (by omega)
    rw [cnt, cnt]
    cases e : p n with
    | true => rw [h2 e]; simp; omega
    | false => simp; split <;> omega
theorem cnt_slt {p q : Nat → Bool} : ∀ {n : Nat}, (∀ i, i < n → p i = true → q i = true) → (∃ i, i < n ∧ q i = true ∧ p i = false) → cnt p n < cnt q n := by
  intro n
  induction n with
  | zero => rintro _ ⟨i, hi, _⟩; omega
  | succ n ih =>
    intro h hx
    have h1 := cnt_mono (p := p) (q := q) (n := n) (fun i hi => h i (by omega))
    have h2 := h n (by omega)
    rw [cnt, cnt]
    obtain ⟨i, hi, h3, h4⟩ := hx
    by_cases e : i = n
    · subst e; rw [h3, h4]; simp; omega
    · have := ih (fun i hi => h i (by omega)) ⟨i, by omega, h3, h4⟩
      cases e : p n with
      | true => rw [h2 e]; simp; omega
      | false => simp; split <;> omega
theorem cnt_full {p : Nat → Bool} {n : Nat} (h : n ≤ cnt p n) : ∀ i, i < n → p i = true := by
  intro i hi
  cases e : p i with
  | true => rfl
  | false =>
    have := cnt_slt (p := p) (q := fun _ => true) (n := n) (fun _ _ _ => rfl) ⟨i, hi, rfl, e⟩
    rw [cnt_true] at this
    omega
def Clo (g : Nat → Nat) (n p : Nat) : Prop := ∀ u, u < n → p.testBit u = true → Sub (g u) p
def itF (F : Nat → Nat) (p : Nat) : Nat → Nat
  | 0 => p
  | k + 1 => F (itF F p k)
def Gro (g : Nat → Nat) (n : Nat) (F : Nat → Nat) : Prop := ∀ p, p < 2 ^ n → F p < 2 ^ n ∧ Sub p (F p) ∧ (F p = p → Clo g n p) ∧ ∀ q, Clo g n q → Sub p q → Sub (F p) q
theorem itF_clo {g : Nat → Nat} {n : Nat} {F : Nat → Nat} {p k : Nat} (hn : n ≤ 24) (hF : Gro g n F) (hp : p < 2 ^ n) (hp0 : p ≠ 0) (hk : n ≤ k + 1) : itF F p k < 2 ^ n ∧ Sub p (itF F p k) ∧ Clo g n (itF F p k) ∧ ∀ q, Clo g n q → Sub p q → Sub (itF F p k) q := by
  have h1 : ∀ k, itF F p k < 2 ^ n ∧ Sub p (itF F p k) ∧ ∀ q, Clo g n q → Sub p q → Sub (itF F p k) q := by
    intro k
    induction k with
    | zero => exact ⟨hp, Sub.rf _, fun q _ h => h⟩
    | succ k ih =>
      obtain ⟨a, b, c⟩ := ih
      obtain ⟨d, e, _, f⟩ := hF _ a
      exact ⟨d, b.tr e, fun q hq hs => f q hq (c q hq hs)⟩
  have h2 : ∀ k, F (itF F p k) = itF F p k ∨ k + 1 ≤ pop (itF F p k) := by
    intro k
    induction k with
    | zero =>
      right
      obtain ⟨v, hv, hb⟩ := ex_bit hp hp0
      show 0 + 1 ≤ pop p
      rw [pop_eq hp hn]
      have := cnt_slt (p := fun _ => false) (q := p.testBit) (n := n) (fun _ _ h => Bool.noConfusion h) ⟨v, hv, hb, rfl⟩
      omega
    | succ k ih =>
      rcases ih with ih | ih
      · left
        show F (F (itF F p k)) = F (itF F p k)
        rw [ih, ih]
      · by_cases e : F (itF F p k) = itF F p k
        · left
          show F (F (itF F p k)) = F (itF F p k)
          rw [e, e]
        · right
          obtain ⟨a, _, _⟩ := h1 k
          obtain ⟨d, s, _, _⟩ := hF _ a
          show k + 1 + 1 ≤ pop (F (itF F p k))
          rw [pop_eq a hn] at ih
          rw [pop_eq d hn]
          have : ∃ i, i < n ∧ (F (itF F p k)).testBit i = true ∧ (itF F p k).testBit i = false := by
            apply Classical.byContradiction
            intro q
            apply e
            refine Sub.eq (fun i hi => ?_) s
            cases z : (itF F p k).testBit i with
            | true => rfl
            | false => exact absurd ⟨i, tb_lt d hi, hi, z⟩ q
          have := cnt_slt (n := n) (fun i _ => s i) this
          omega
  obtain ⟨a, b, c⟩ := h1 k
  refine ⟨a, b, ?_, c⟩
  obtain ⟨d, s, e, _⟩ := hF _ a
  apply e
  rcases h2 k with h | h
  · exact h
  · rw [pop_eq a hn] at h
    have hf := cnt_full (p := (itF F p k).testBit) (n := n) (by omega)
    exact (Sub.eq s (fun i hi => hf i (tb_lt d hi))).symm
theorem wnb_tb {g : Nat → Nat} {s : Nat} : ∀ k i, (wnb g s k).testBit i = true ↔ s.testBit i = true ∨ ∃ v, v < k ∧ s.testBit v = true ∧ (g v).testBit i = true := by
  intro k
  induction k with
  | zero => intro i; rw [wnb]; exact ⟨Or.inl, fun h => h.elim id (fun ⟨v, hv, _⟩ => by omega)⟩
  | succ k ih =>
    intro i
    rw [wnb]
    by_cases hb : s.testBit k = true
    · rw [if_pos hb, Nat.testBit_or, Bool.or_eq_true, ih]
      constructor
      · rintro ((h | ⟨v, hv, h1, h2⟩) | h)
        · exact Or.inl h
        · exact Or.inr ⟨v, by omega, h1, h2⟩
        · exact Or.inr ⟨k, by omega, hb, h⟩
      · rintro (h | ⟨v, hv, h1, h2⟩)
        · exact Or.inl (Or.inl h)
        · by_cases e : v = k
          · subst e; exact Or.inr h2
          · exact Or.inl (Or.inr ⟨v, by omega, h1, h2⟩)
    · rw [if_neg hb, ih]
      constructor
      · rintro (h | ⟨v, hv, h1, h2⟩)
        · exact Or.inl h
        · exact Or.inr ⟨v, by omega, h1, h2⟩
      · rintro (h | ⟨v, hv, h1, h2⟩)
        · exact Or.inl h
        · by_cases e : v = k
          · subst e; exact absurd h1 hb
          · exact Or.inr ⟨v, by omega, h1, h2⟩
theorem lt_of_tb {p n : Nat} (h : ∀ i, p.testBit i = true → i < n) : p < 2 ^ n := by
  apply Nat.lt_pow_two_of_testBit
  intro i hi
  cases q : p.testBit i with
  | false => rfl
  | true => have := h i q; omega
theorem wnb_gro {g : Nat → Nat} {n : Nat} (hg : ∀ u, g u < 2 ^ n) : Gro g n (fun p => wnb g p n) := by
  intro p hp
  refine ⟨lt_of_tb (fun i hi => ?_), fun i hi => (wnb_tb n i).mpr (Or.inl hi), fun e u hu hb i hi => ?_, fun q hq hs i hi => ?_⟩
  · rcases (wnb_tb n i).mp hi with h | ⟨v, _, _, h⟩
    · exact tb_lt hp h
    · exact tb_lt (hg v) h
  · have e : wnb g p n = p := e
    rw [← e]; exact (wnb_tb n i).mpr (Or.inr ⟨u, hu, hb, hi⟩)
  · rcases (wnb_tb n i).mp hi with h | ⟨v, hv, h1, h2⟩
    · exact hs i h
    · exact hq v hv (hs v h1) i h2
/-- one round in place, as the reference goes -/
def wip (g : Nat → Nat) (s : Nat) : Nat → Nat
  | 0 => s
  | a + 1 => if (wip g s a).testBit a = true then wip g s a ||| g a else wip g s a
theorem wip_mono {g : Nat → Nat} {s a : Nat} : ∀ {b : Nat}, a ≤ b → Sub (wip g s a) (wip g s b) := by
  intro b
  induction b with
  | zero => intro h; obtain rfl : a = 0 := by omega
            exact Sub.rf _
  | succ b ih =>
    intro h
    by_cases e : a = b + 1
    · subst e; exact Sub.rf _
    · refine (ih (by omega)).tr ?_
      rw [wip]
      split
      · exact Sub.orl _ _
      · exact Sub.rf _
theorem wip_gro {g : Nat → Nat} {n : Nat} (hg : ∀ u, g u < 2 ^ n) : Gro g n (fun p => wip g p n) := by
  intro p hp
  have hlt : ∀ a, wip g p a < 2 ^ n := by
    intro a
    induction a with
    | zero => exact hp
    | succ a ih =>
      rw [wip]; split
      · exact Nat.or_lt_two_pow ih (hg a)
      · exact ih
  refine ⟨hlt n, wip_mono (Nat.zero_le _), fun e u hu hb => ?_, fun q hq hs => ?_⟩
  · have e : wip g p n = p := e
    have h1 := wip_mono (g := g) (s := p) (a := u + 1) (b := n) (by omega)
    rw [e, wip, if_pos (wip_mono (g := g) (s := p) (Nat.zero_le u) u hb)] at h1
    exact (Sub.orr _ _).tr h1
  · show Sub (wip g p n) q
    have : ∀ a, a ≤ n → Sub (wip g p a) q := by
      intro a
      induction a with
      | zero => intro _; exact hs
      | succ a ih =>
        intro ha
        have ih := ih (by omega)
        rw [wip]; split
        · rename_i hb
          exact ih.or (hq a (by omega) (ih a hb))
        · exact ih
    exact this n (Nat.le_refl _)
theorem wnI_it (g : Nat → Nat) (n s : Nat) : ∀ j, wnI g n s j = itF (fun p => wnb g p n) s j := by
  intro j
  induction j with
  | zero => rfl
  | succ j ih => rw [wnI, itF, ih]
theorem rowOf_lt' (n C u : Nat) : rowOf n C u < 2 ^ n := by
  unfold rowOf; split
  · exact bsum_lt _ _
  · exact Nat.two_pow_pos n
theorem pcO_spec {g : Nat → Nat} {n v : Nat} (hn : n ≤ 7) (hg : ∀ u, g u < 2 ^ n) (hv : v < n) : pcO g n v < 2 ^ n ∧ Sub (2 ^ v) (pcO g n v) ∧ Clo g n (pcO g n v) ∧ ∀ q, Clo g n q → Sub (2 ^ v) q → Sub (pcO g n v) q := by
  unfold pcO
  rw [wnI_it]
  exact itF_clo (by omega) (wnb_gro hg) (Nat.pow_lt_pow_right (by decide) hv) (Nat.ne_of_gt (Nat.two_pow_pos v)) (by omega)
theorem wip_pcO {g : Nat → Nat} {n v : Nat} (hn : n ≤ 7) (hg : ∀ u, g u < 2 ^ n) (hv : v < n) : itF (fun p => wip g p n) (2 ^ v) n = pcO g n v := by
  obtain ⟨_, a1, a2, a3⟩ := pcO_spec hn hg hv
  obtain ⟨_, b1, b2, b3⟩ := itF_clo (k := n) (by omega) (wip_gro hg) (Nat.pow_lt_pow_right (by decide) hv) (Nat.ne_of_gt (Nat.two_pow_pos v)) (by omega)
  exact Sub.eq (b3 _ a2 a1) (a3 _ b2 b1)
def pcN (n C : Nat) : Nat := (pcs (rowOf n C) n n).2
theorem row128 {n C v : Nat} (hn : n ≤ 7) : rowOf n C v < 128 := rowOf_lt hn
theorem m_pieces {S : mScr} {dep n C : Nat} {h : Hp} (hn : n ≤ 7) (hC : C < 2 ^ 21) : Cal S (dep + 3) 176 [.int (nI n), .int (nI C)] h (Rt (nI (pcN n C)) h) := by
  have hg : ∀ u, rowOf n C u < 2 ^ n := rowOf_lt' n C
  have hL : (2 : Nat) ^ n ≤ 128 := Nat.pow_le_pow_right (n := 2) (j := 7) (by decide) hn
  show V S (dep + 3) 176 0 [.int (nI n), .int (nI C), .null, .null, .null, .null, .null, .null] [] h _
  refine V_ic (v := nI 0) rfl rfl ?_
  refine V_istore_n (L' := [_, _, _, _, _, _, _, _]) rfl rfl rfl ?_
  refine V_ic (v := nI 0) rfl rfl ?_
  refine V_istore_n (L' := [_, _, _, _, _, _, _, _]) rfl rfl rfl ?_
  refine V_ic (v := nI 0) rfl rfl ?_
  refine V_istore (L' := [_, _, _, _, _, _, _, _]) rfl rfl rfl ?_
  -- at 7: .iload 4
  have lp := loopUp (P := fun v => ∀ v5 v6 v7, V S (dep + 3) 176 7 [.int (nI n), .int (nI C), .int (nI (pcs (rowOf n C) n v).1), .int (nI (pcs (rowOf n C) n v).2), .int (nI v), v5, v6, v7] [] h (Rt (nI (pcN n C)) h)) n ?_ ?_ 0 (Nat.zero_le _)
  · exact lp _ _ _
  · intro v5 v6 v7
    refine V_iload rfl rfl ?_
    refine V_iload_n rfl rfl ?_
    -- at 10: .if_icmp .ge 89
    refine V_icmp_ge rfl (fun hc => ?_) (fun hc => ?_)
    · refine V_iload_n rfl rfl ?_
      -- at 100: .ireturn
      refine V_iret rfl rfl ?_
      exact Rt.rf
    · exact absurd (nI_le (Nat.le_refl _) (by omega)) hc
  · intro v hv ih v5 v6 v7
    have hl := pcs_lt (g := rowOf n C) (fun v => row128 hn) (n := n) v (by omega)
    refine V_iload rfl rfl ?_
    refine V_iload_n rfl rfl ?_
    -- at 10: .if_icmp .ge 89
    refine V_icmp_ge rfl (fun hc => ?_) (fun hc => ?_)
    · exact absurd hc (nI_ge hv (by omega))
    · refine V_iload_n rfl rfl ?_
      refine V_iload rfl rfl ?_
      refine V_ishr rfl ?_
      refine V_ic (v := nI 1) rfl rfl ?_
      refine V_iand rfl ?_
      -- at 19: .iconst 1
      rw [tb_one (by omega) (by omega)]
      refine V_ic (v := nI 1) rfl rfl ?_
      -- at 20: .if_icmp .ne 6
      refine V_icmp_ne rfl (fun hd => ?_) (fun hd => ?_)
      · have hd : (pcs (rowOf n C) n v).1.testBit v = false := by
          cases q : (pcs (rowOf n C) n v).1.testBit v with
          | false => rfl
          | true => rw [q] at hd; exact absurd rfl hd
        rw [pcs, if_neg (by rw [hd]; simp)] at ih
        refine V_iinc (L' := [_, _, _, _, _, _, _, _]) rfl rfl rfl ?_
        refine V_ic (v := nI 1) rfl rfl ?_
        refine V_iload rfl rfl ?_
        refine V_ishl rfl ?_
        -- at 33: .istore 5
        rw [show Int32.ofInt 1 = nI 1 from rfl, nI_add, nI_2p _ (by omega)]
        refine V_istore (L' := [_, _, _, _, _, _, _, _]) rfl rfl rfl ?_
        refine V_ic (v := nI 0) rfl rfl ?_
        refine V_istore (L' := [_, _, _, _, _, _, _, _]) rfl rfl rfl ?_
        -- at 38: .iload 6
        have hF := wip_gro hg
        have hit : ∀ k, itF (fun p => wip (rowOf n C) p n) (2 ^ v) k < 2 ^ n := by
          intro k
          induction k with
          | zero => exact Nat.pow_lt_pow_right (by decide) hv
          | succ k ih => exact (hF _ ih).1
        have lq := loopUp (P := fun k => ∀ v7, V S (dep + 3) 176 38 [.int (nI n), .int (nI C), .int (nI (pcs (rowOf n C) n v).1), .int (nI ((pcs (rowOf n C) n v).2 + 1)), .int (nI v), .int (nI (itF (fun p => wip (rowOf n C) p n) (2 ^ v) k)), .int (nI k), v7] [] h (Rt (nI (pcN n C)) h)) n ?_ ?_ 0 (Nat.zero_le _)
        · exact lq _
        · intro v7
          refine V_iload rfl rfl ?_
          refine V_iload_n rfl rfl ?_
          -- at 41: .if_icmp .ge 47
          refine V_icmp_ge rfl (fun he => ?_) (fun he => ?_)
          · refine V_iload_n rfl rfl ?_
            refine V_iload rfl rfl ?_
            refine V_ior rfl ?_
            -- at 92: .istore_n 2
            rw [nI_or, wip_pcO hn hg hv]
            refine V_istore_n (L' := [_, _, _, _, _, _, _, _]) rfl rfl rfl ?_
            refine V_iinc (L' := [_, _, _, _, _, _, _, _]) rfl rfl rfl ?_
            refine V_goto rfl ?_
            -- at 7: .iload 4
            rw [show Int32.ofInt 1 = nI 1 from rfl, nI_add]
            exact ih _ _ _
          · exact absurd (nI_le (Nat.le_refl _) (by omega)) he
        · intro k hk ih2 v7
          refine V_iload rfl rfl ?_
          refine V_iload_n rfl rfl ?_
          -- at 41: .if_icmp .ge 47
          refine V_icmp_ge rfl (fun he => ?_) (fun he => ?_)
          · exact absurd he (nI_ge hk (by omega))
          · refine V_ic (v := nI 0) rfl rfl ?_
            refine V_istore (L' := [_, _, _, _, _, _, _, _]) rfl rfl rfl ?_
            -- at 47: .iload 7
            rw [itF] at ih2
            obtain ⟨s, hs⟩ : ∃ s, s = itF (fun p => wip (rowOf n C) p n) (2 ^ v) k := ⟨_, rfl⟩
            rw [← hs] at ih2 ⊢
            have hsl : s < 2 ^ n := by rw [hs]; exact hit k
            have lr := loopUp (P := fun a => V S (dep + 3) 176 47 [.int (nI n), .int (nI C), .int (nI (pcs (rowOf n C) n v).1), .int (nI ((pcs (rowOf n C) n v).2 + 1)), .int (nI v), .int (nI (wip (rowOf n C) s a)), .int (nI k), .int (nI a)] [] h (Rt (nI (pcN n C)) h)) n ?_ ?_ 0 (Nat.zero_le _)
            · exact lr
            · refine V_iload rfl rfl ?_
              refine V_iload_n rfl rfl ?_
              -- at 50: .if_icmp .ge 32
              refine V_icmp_ge rfl (fun hf => ?_) (fun hf => ?_)
              · refine V_iinc (L' := [_, _, _, _, _, _, _, _]) rfl rfl rfl ?_
                refine V_goto rfl ?_
                -- at 38: .iload 6
                rw [show Int32.ofInt 1 = nI 1 from rfl, nI_add]
                exact ih2 _
              · exact absurd (nI_le (Nat.le_refl _) (by omega)) hf
            · intro a ha ih3
              have hwl : wip (rowOf n C) s a < 2 ^ n := lt_of_tb (fun i hi => tb_lt (hF s hsl).1 (wip_mono (by omega) i hi))
              rw [wip] at ih3
              refine V_iload rfl rfl ?_
              refine V_iload_n rfl rfl ?_
              -- at 50: .if_icmp .ge 32
              refine V_icmp_ge rfl (fun hf => ?_) (fun hf => ?_)
              · exact absurd hf (nI_ge ha (by omega))
              · refine V_iload rfl rfl ?_
                refine V_iload rfl rfl ?_
                refine V_ishr rfl ?_
                refine V_ic (v := nI 1) rfl rfl ?_
                refine V_iand rfl ?_
                -- at 60: .iconst 1
                rw [tb_one (by omega) (by omega)]
                refine V_ic (v := nI 1) rfl rfl ?_
                -- at 61: .if_icmp .ne 15
                refine V_icmp_ne rfl (fun hj => ?_) (fun hj => ?_)
                · have hj : (wip (rowOf n C) s a).testBit a = false := by
                    cases q : (wip (rowOf n C) s a).testBit a with
                    | false => rfl
                    | true => rw [q] at hj; exact absurd rfl hj
                  rw [if_neg (by rw [hj]; simp)] at ih3
                  refine V_iinc (L' := [_, _, _, _, _, _, _, _]) rfl rfl rfl ?_
                  refine V_goto rfl ?_
                  -- at 47: .iload 7
                  rw [show Int32.ofInt 1 = nI 1 from rfl, nI_add]
                  exact ih3
                · have hj := bI_one.mp (Decidable.of_not_not hj)
                  rw [if_pos hj] at ih3
                  refine V_iload rfl rfl ?_
                  refine V_iload_n rfl rfl ?_
                  refine V_iload_n rfl rfl ?_
                  refine V_iload rfl rfl ?_
                  -- at 70: .invokestatic 112
                  refine V_cS rfl rfl rfl rfl (m_near hn hC (by omega)) ?_
                  refine V_ior rfl ?_
                  -- at 74: .istore 5
                  rw [nI_or, mnr_row ha]
                  refine V_istore (L' := [_, _, _, _, _, _, _, _]) rfl rfl rfl ?_
                  refine V_iinc (L' := [_, _, _, _, _, _, _, _]) rfl rfl rfl ?_
                  refine V_goto rfl ?_
                  -- at 47: .iload 7
                  rw [show Int32.ofInt 1 = nI 1 from rfl, nI_add]
                  exact ih3
      · have hd := bI_one.mp (Decidable.of_not_not hd)
        rw [pcs, if_pos hd] at ih
        refine V_goto rfl ?_
        refine V_iinc (L' := [_, _, _, _, _, _, _, _]) rfl rfl rfl ?_
        refine V_goto rfl ?_
        -- at 7: .iload 4
        rw [show Int32.ofInt 1 = nI 1 from rfl, nI_add]
        exact ih _ _ _
