/-! what a reading that is not refused gives -/
theorem sk_le {T : Nat → Int32} {N q : Nat} (h : q ≤ N) : q ≤ sk T N q ∧ sk T N q ≤ N := ⟨rn_ge q, rn_le h⟩
theorem dig_ok {T : Nat → Int32} {N lo hi q v q' : Nat} (h : dig T N lo hi q = .inr (v, q')) (hq : q ≤ N) : lo ≤ v ∧ v ≤ hi ∧ q < q' ∧ q' ≤ N := by
  unfold dig at h
  by_cases k1 : kd T N (sk T N q) = 1
  · rw [if_pos k1] at h
    by_cases h2 : rn T N dgB (sk T N q) - sk T N q = 1 ∧ lo ≤ dv T (sk T N q) ∧ dv T (sk T N q) ≤ hi
    · rw [if_pos h2] at h
      injection h with h
      injection h with e1 e2
      have a := sk_le (T := T) hq
      have b := rn_st (c := dgB) (kd_1.mp k1)
      have c := rn_le (T := T) (c := dgB) a.2
      omega
    · rw [if_neg h2] at h; cases h
  · rw [if_neg k1] at h; cases h
theorem or_lt {C n x y : Nat} (hn : n ≤ 7) (hC : C < 2 ^ tri n) (hxy : x ≠ y) (hx : x < n) (hy : y < n) : C ||| 2 ^ bt x y < 2 ^ tri n := Nat.or_lt_two_pow hC (Nat.pow_lt_pow_right (by decide) (bt_lt' hn hxy hx hy))
theorem prs_ok {T : Nat → Int32} {N n : Nat} (hn : n ≤ 7) : ∀ f C q C' q', C < 2 ^ tri n → q ≤ N → N < q + f → prs T N n f C q = .inr (C', q') → C' < 2 ^ tri n ∧ q ≤ q' ∧ q' ≤ N ∧ sk T N q' = q' := by
  intro f
  induction f with
  | zero => intro C q C' q' _ h1 h2; omega
  | succ f ih =>
    intro C q C' q' hC hq hf h
    have a := sk_le (T := T) hq
    rw [prs] at h
    by_cases k1 : kd T N (sk T N q) = 1
    · rw [if_pos k1] at h
      by_cases h2 : rn T N dgB (sk T N q) - sk T N q = 2
      · rw [if_pos h2] at h
        by_cases h3 : prOk T n C (sk T N q) = true
        · rw [if_pos h3] at h
          have b := rn_st (c := dgB) (kd_1.mp k1)
          have c := rn_le (T := T) (c := dgB) a.2
          unfold prOk at h3
          obtain ⟨w1, w2, w3, w4⟩ := of_decide_eq_true h3
          have := ih _ _ _ _ (or_lt hn hC w3 w1 w2) c (by omega) h
          exact ⟨this.1, by omega, this.2.2⟩
        · rw [if_neg h3] at h; cases h
      · rw [if_neg h2] at h; cases h
    · rw [if_neg k1] at h
      injection h with h
      injection h with e1 e2
      rw [← e1, ← e2]
      exact ⟨hC, a.1, a.2, sk_sk _ _ _⟩
theorem cds_ok {T : Nat → Int32} {N n : Nat} (hn : n ≤ 7) : ∀ f cs q cs' q', (∀ x ∈ cs, x < 2 ^ tri (n - 1)) → cs.length + f = n + 1 → cs.length ≤ n → q ≤ N → cds T N n f cs q = .inr (cs', q') → (∀ x ∈ cs', x < 2 ^ tri (n - 1)) ∧ cs'.length ≤ n ∧ q ≤ q' ∧ q' ≤ N ∧ sk T N q' = q' := by
  intro f
  induction f with
  | zero => intro cs q cs' q' _ h1 h2; omega
  | succ f ih =>
    intro cs q cs' q' hcs hl hln hq h
    have a := sk_le (T := T) hq
    have b := en_le (T := T) a.2
    rw [cds] at h
    by_cases w : isW T N (sk T N q) 2 = true
    · rw [if_pos w] at h
      by_cases e : cs.length = n
      · rw [if_pos e] at h; cases h
      · rw [if_neg e] at h
        cases hp : prs T N (n - 1) (N + 1) 0 (en T N (sk T N q)) with
        | inl x => rw [hp] at h; cases h
        | inr x =>
          obtain ⟨C, q1⟩ := x
          rw [hp] at h
          dsimp only at h
          have hk := prs_ok (by omega) _ _ _ _ _ (Nat.two_pow_pos _) b.2.1 (by omega) hp
          have := ih (cs ++ [C]) q1 cs' q' (fun x hx => by
            rcases List.mem_append.mp hx with z | z
            · exact hcs x z
            · rw [List.mem_singleton.mp z]; exact hk.1) (by rw [List.length_append]; simp; omega) (by rw [List.length_append]; simp; omega) hk.2.2.1 h
          exact ⟨this.1, this.2.1, by omega, this.2.2.2⟩
    · rw [if_neg w] at h
      injection h with h
      injection h with e1 e2
      rw [← e1, ← e2]
      exact ⟨hcs, hln, a.1, a.2, sk_sk _ _ _⟩
theorem eop_ok {α : Type} {T : Nat → Int32} {N q q' : Nat} {a a' : α} (h : eop T N a q = .inr (a', q')) : a' = a ∧ eol T N q = true ∧ q' = sk T N q + 1 ∧ q' ≤ N := by
  unfold eop at h
  by_cases e : eol T N q = true
  · rw [if_pos e] at h
    injection h with h
    injection h with e1 e2
    have := of_decide_eq_true (show decide (sk T N q < N ∧ T (sk T N q) = nI 59) = true from e)
    exact ⟨e1.symm, e, e2.symm, by omega⟩
  · rw [if_neg e] at h; cases h
/-- a state as told, before the cards are forms -/
def RWf (s : Sl) : Prop := (∀ i, i < 6 → s.1 i ≤ 7 ∧ s.2.1 i < 2 ^ tri (s.1 i)) ∧ ∀ d, d < 3 → s.2.2 d = [] ∨ (2 ≤ (s.2.2 d).length ∧ (s.2.2 d).length ≤ 7 ∧ ∀ x ∈ s.2.2 d, x < 2 ^ tri ((s.2.2 d).length - 1))
theorem RWf.setN {s : Sl} {i n C : Nat} (hw : RWf s) (hn : n ≤ 7) (hC : C < 2 ^ tri n) : RWf (setN s i n C) := by
  refine ⟨fun j hj => ?_, hw.2⟩
  show updN s.1 i n j ≤ 7 ∧ updN s.2.1 i C j < 2 ^ tri (updN s.1 i n j)
  unfold updN
  by_cases e : j = i
  · rw [if_pos e, if_pos e]; exact ⟨hn, hC⟩
  · rw [if_neg e, if_neg e]; exact hw.1 j hj
theorem RWf.setD {s : Sl} {d : Nat} {cs : List Nat} (hw : RWf s) (h2 : 2 ≤ cs.length) (h7 : cs.length ≤ 7) (hc : ∀ x ∈ cs, x < 2 ^ tri (cs.length - 1)) : RWf (setD s d cs) := by
  refine ⟨hw.1, fun e he => ?_⟩
  show (if e = d then cs else s.2.2 e) = [] ∨ (2 ≤ (if e = d then cs else s.2.2 e).length ∧ (if e = d then cs else s.2.2 e).length ≤ 7 ∧ ∀ x ∈ (if e = d then cs else s.2.2 e), x < 2 ^ tri ((if e = d then cs else s.2.2 e).length - 1))
  by_cases q : e = d
  · rw [if_pos q]; exact Or.inr ⟨h2, h7, hc⟩
  · rw [if_neg q]; exact hw.2 e he
theorem net_ok {T : Nat → Int32} {N q q' : Nat} {s s' : Sl} (hw : RWf s) (hq : q ≤ N) (h : netP T N s q = .inr (s', q')) : RWf s' ∧ q < q' ∧ q' ≤ N := by
  unfold netP at h
  cases h1 : dig T N 0 5 q with
  | inl x => rw [h1] at h; cases h
  | inr x =>
    obtain ⟨i, q1⟩ := x
    rw [h1] at h
    dsimp only at h
    have k1 := dig_ok h1 hq
    cases h2 : dig T N 0 7 q1 with
    | inl x => rw [h2] at h; cases h
    | inr x =>
      obtain ⟨n, q2⟩ := x
      rw [h2] at h
      dsimp only at h
      have k2 := dig_ok h2 k1.2.2.2
      cases h3 : prs T N n (N + 1) 0 q2 with
      | inl x => rw [h3] at h; cases h
      | inr x =>
        obtain ⟨C, q3⟩ := x
        rw [h3] at h
        dsimp only at h
        have k3 := prs_ok k2.2.1 _ _ _ _ _ (Nat.two_pow_pos _) k2.2.2.2 (by omega) h3
        obtain ⟨e1, e2, e3, e4⟩ := eop_ok h
        have := sk_le (T := T) k3.2.2.1
        rw [e1]
        exact ⟨hw.setN k2.2.1 k3.1, by omega, e4⟩
theorem dec_ok {T : Nat → Int32} {N q q' : Nat} {s s' : Sl} (hw : RWf s) (hq : q ≤ N) (h : decP T N s q = .inr (s', q')) : RWf s' ∧ q < q' ∧ q' ≤ N := by
  unfold decP at h
  cases h1 : dig T N 0 2 q with
  | inl x => rw [h1] at h; cases h
  | inr x =>
    obtain ⟨i, q1⟩ := x
    rw [h1] at h
    dsimp only at h
    have k1 := dig_ok h1 hq
    cases h2 : dig T N 2 7 q1 with
    | inl x => rw [h2] at h; cases h
    | inr x =>
      obtain ⟨n, q2⟩ := x
      rw [h2] at h
      dsimp only at h
      have k2 := dig_ok h2 k1.2.2.2
      cases h3 : cds T N n (n + 1) [] q2 with
      | inl x => rw [h3] at h; cases h
      | inr x =>
        obtain ⟨cs, q3⟩ := x
        rw [h3] at h
        dsimp only at h
        have k3 := cds_ok k2.2.1 _ _ _ _ _ (by simp) (by simp) (by simp) k2.2.2.2 h3
        by_cases z : cs.length = 0
        · rw [if_pos z] at h; cases h
        · rw [if_neg z] at h
          by_cases y : cs.length < n ∧ eol T N q3 = true
          · rw [if_pos y] at h; cases h
          · rw [if_neg y] at h
            obtain ⟨e1, e2, e3, e4⟩ := eop_ok h
            have := sk_le (T := T) k3.2.2.2.1
            have hn : cs.length = n := by
              have : ¬ cs.length < n := fun w => y ⟨w, e2⟩
              omega
            rw [e1]
            exact ⟨hw.setD (by omega) (by omega) (by rw [hn]; exact k3.1), by omega, e4⟩
theorem lin_ok {T : Nat → Int32} {N q q' : Nat} {s s' : Sl} (hw : RWf s) (hq : q ≤ N) (h : linP T N s q = .inr (s', q')) : RWf s' ∧ q < q' ∧ q' ≤ N := by
  have a := sk_le (T := T) hq
  have b := en_le (T := T) a.2
  unfold linP at h
  by_cases w : isW T N (sk T N q) 0 = true
  · rw [if_pos w] at h
    have := net_ok hw b.2.1 h
    exact ⟨this.1, by omega, this.2.2⟩
  · rw [if_neg w] at h
    by_cases w : isW T N (sk T N q) 1 = true
    · rw [if_pos w] at h
      have := dec_ok hw b.2.1 h
      exact ⟨this.1, by omega, this.2.2⟩
    · rw [if_neg w] at h; cases h
theorem RWf.fin {s : Sl} (hw : RWf s) : WF (fin s) := by
  refine ⟨hw.1, fun d hd => ?_⟩
  show srt ((s.2.2 d).map (frm ((s.2.2 d).length - 1))) = [] ∨ WD (srt ((s.2.2 d).map (frm ((s.2.2 d).length - 1))))
  rcases hw.2 d hd with e | ⟨e1, e2, e3⟩
  · left; rw [e]; rfl
  · right
    have hl : (srt ((s.2.2 d).map (frm ((s.2.2 d).length - 1)))).length = (s.2.2 d).length := by rw [srt_len, List.length_map]
    refine ⟨by omega, by omega, srt_srtd _, fun x hx => ?_⟩
    rw [hl]
    obtain ⟨y, hy, rfl⟩ := List.mem_map.mp (srt_mem.mp hx)
    exact ⟨frm_lt (by omega), frm_frm (by omega) (e3 y hy)⟩
/-! the class: pairs, cards, lines -/
theorem RS.sk {h : Hp} {T : Nat → Int32} {N m q : Nat} (hs : RS h T N m q) : RS h T N m (sk T N q) := by
  obtain ⟨a, b, c, d⟩ := hs
  refine ⟨?_, ?_, ?_, (sk_le d).2⟩
  · rw [sk_sk]; exact a
  · rw [sk_sk]; exact b
  · rw [sk_sk]; exact c
theorem c_prs {S : mScr} {dep N m q f a n C : Nat} {T : Nat → Int32} {h : Hp} (hs : RS h T N m q) (hN : NC h a n C) (ha : 147 < a) (hf : N < q + f) : Cal S (dep + 7) 110 [.ref 147, .ref a] h (fun r h' => r = none ∧ ((∃ k p, prs T N n f C q = .inl (k, p) ∧ BD h' N k p) ∨ (∃ C' q', prs T N n f C q = .inr (C', q') ∧ RS h' T N m q' ∧ NC h' a n C')) ∧ Fr [147, a + 1] h h') := by
  have hnb := hN.1.1
  have hb1 := net_b hnb
  show V S (dep + 7) 110 0 [.ref 147, .ref a, .null] [] h _
  refine V_ic (v := nI 0) rfl rfl ?_
  refine V_istore_n (L' := [_, _, _]) rfl rfl rfl ?_
  -- at 2: .iload_n 2
  have lp : ∀ f q C i h1, RS h1 T N m q → NC h1 a n C → N < q + f → i ≤ q → Fr [147, a + 1] h h1 → V S (dep + 7) 110 2 [.ref 147, .ref a, .int (nI i)] [] h1 (fun r h' => r = none ∧ ((∃ k p, prs T N n f C q = .inl (k, p) ∧ BD h' N k p) ∨ (∃ C' q', prs T N n f C q = .inr (C', q') ∧ RS h' T N m q' ∧ NC h' a n C')) ∧ Fr [147, a + 1] h h') := by
    intro f
    induction f with
    | zero =>
      intro q C i h1 hs1 _ hf
      have := hs1.2.2.2
      omega
    | succ f ih =>
      intro q C i h1 hs1 hN1 hf hi f1
      have hle := hs1.le
      have h600 := hs1.1.2.2.2.2.2.2
      have hk := kd_le T N (sk T N q)
      refine V_iload_n rfl rfl ?_
      refine V_aload_n rfl rfl rfl ?_
      refine V_gi 8 rfl rfl rfl ?_
      -- at 7: .if_icmp .gt 29
      rw [hs1.1.1]
      refine V_icmp_gt rfl (fun hc => ?_) (fun hc => ?_)
      · exact absurd hc (nI_nlt (by omega) (by omega))
      · refine V_aload_n rfl rfl rfl ?_
        refine V_gi 2 rfl rfl rfl ?_
        -- at 14: .ifCond .ne 22
        rw [hs1.1.2.2.1]
        refine V_if_ne rfl (fun hd => ?_) (fun hd => ?_)
        · exact absurd rfl hd
        · refine V_aload_n rfl rfl rfl ?_
          refine V_gi 9 rfl rfl rfl ?_
          refine V_ic (v := nI 1) rfl rfl ?_
          -- at 22: .if_icmp .ne 14
          rw [hs1.2.2.1]
          refine V_icmp_ne rfl (fun he => ?_) (fun he => ?_)
          · have he : ¬ kd T N (sk T N q) = 1 := fun w => he (by rw [w])
            refine V_return rfl rfl ?_
            refine ⟨rfl, Or.inr ⟨C, sk T N q, ?_, hs1.sk, hN1⟩, f1⟩
            rw [prs, if_neg he]
          · have k1 := nI_inj (by omega) (by omega) (Decidable.of_not_not he)
            refine V_aload_n rfl rfl rfl ?_
            refine V_aload_n rfl rfl (by first | assumption | rfl) ?_
            -- at 27: .invokevirtual 143
            refine V_callV rfl rfl rfl rfl rfl (c_rpr hs1 k1 hN1 (by omega) (by omega) (by omega)) ?_
            rintro _ h2 ⟨rfl, hr, f2⟩
            show V S (dep + 7) 110 30 [.ref 147, .ref a, .int (nI i)] [] h2 _
            have f12 := f1.tr f2
            have bad : ∀ k p, BD h2 N k p → prs T N n (f + 1) C q = .inl (k, p) → V S (dep + 7) 110 30 [.ref 147, .ref a, .int (nI i)] [] h2 (fun r h' => r = none ∧ ((∃ k p, prs T N n (f + 1) C q = .inl (k, p) ∧ BD h' N k p) ∨ (∃ C' q', prs T N n (f + 1) C q = .inr (C', q') ∧ RS h' T N m q' ∧ NC h' a n C')) ∧ Fr [147, a + 1] h h') := by
              intro k p hB e
              have h0 := hB.2.2.1
              have h4 := hB.2.2.2.1
              refine V_iinc (L' := [_, _, _]) rfl rfl rfl ?_
              refine V_goto rfl ?_
              refine V_iload_n rfl rfl ?_
              refine V_aload_n rfl rfl rfl ?_
              refine V_gi 8 rfl rfl rfl ?_
              -- at 7: .if_icmp .gt 29
              refine V_icmp_gt rfl (fun hx => ?_) (fun hx => ?_)
              · refine V_return rfl rfl ?_
                exact ⟨rfl, Or.inl ⟨k, p, e, hB⟩, f12⟩
              · refine V_aload_n rfl rfl rfl ?_
                refine V_gi 2 rfl rfl rfl ?_
                -- at 14: .ifCond .ne 22
                rw [hB.1]
                refine V_if_ne rfl (fun hy => ?_) (fun hy => ?_)
                · refine V_return rfl rfl ?_
                  exact ⟨rfl, Or.inl ⟨k, p, e, hB⟩, f12⟩
                · exact absurd (nI_inj (b := 0) (by omega) (by omega) (Decidable.of_not_not hy)) (by omega)
            rcases hr with ⟨w1, hB⟩ | ⟨w1, w2, hB⟩ | ⟨w1, w2, hR, hN2⟩
            · exact bad _ _ hB (by rw [prs, if_pos k1, if_neg w1])
            · exact bad _ _ hB (by rw [prs, if_pos k1, if_pos w1, if_neg (by rw [w2]; decide)])
            · have hst := rn_st (c := dgB) (kd_1.mp k1)
              refine V_iinc (L' := [_, _, _]) rfl rfl rfl ?_
              refine V_goto rfl ?_
              -- at 2: .iload_n 2
              rw [show Int32.ofInt 1 = nI 1 from rfl, nI_add]
              have := ih _ _ (i + 1) h2 hR hN2 (by omega) (by omega) f12
              rw [prs, if_pos k1, if_pos w1, if_pos w2]
              exact this
  exact lp f q C 0 h hs hN hf (Nat.zero_le _) Fr.rf
theorem DK.app {h : Hp} {b C : Nat} {cs : List Nat} (hD : DK h b cs) (hl : cs.length < 7) (hC : C < 2 ^ 21) : DK (wI (wI h (b + 1) cs.length (nI C)) b 0 (nI (cs.length + 1))) b (cs ++ [C]) := by
  obtain ⟨a1, a2, a3, a4, a5⟩ := hD
  refine ⟨a1, by rw [List.length_append]; simp; omega, by rw [wI_same, List.length_append]; rfl, fun i hi => ?_, fun x hx => ?_⟩
  · rw [List.length_append] at hi
    have hi : i < cs.length + 1 := hi
    rw [wI_oth (by omega), List.getD_eq_getElem?_getD]
    by_cases e : i = cs.length
    · rw [e, wI_same, List.getElem?_append_right (Nat.le_refl _), Nat.sub_self]; rfl
    · rw [wI_ne (by omega), List.getElem?_append_left (by omega), ← List.getD_eq_getElem?_getD]
      exact a4 i (by omega)
  · rcases List.mem_append.mp hx with z | z
    · exact a5 x z
    · rw [List.mem_singleton.mp z]; exact hC
theorem c_rcd {S : mScr} {dep N m q b n : Nat} {cs : List Nat} {T : Nat → Int32} {h : Hp} (hs : RS h T N m q) (hD : DK h b cs) (hb : 163 < b) (hn : n ≤ 7) (hn1 : 1 ≤ n) (hl : cs.length ≤ n) : Cal S (dep + 8) 109 [.ref 147, .ref b, .int (nI n)] h (fun r h' => r = none ∧ ((cs.length = n ∧ BD h' N 4 (sk T N q)) ∨ (cs.length < n ∧ ∃ k p, prs T N (n - 1) (N + 1) 0 (en T N (sk T N q)) = .inl (k, p) ∧ BD h' N k p) ∨ (cs.length < n ∧ ∃ C q', prs T N (n - 1) (N + 1) 0 (en T N (sk T N q)) = .inr (C, q') ∧ RS h' T N m q' ∧ DK h' b (cs ++ [C]))) ∧ Fr [147, 150, 151, b, b + 1] h h') := by
  have hle := hs.le
  have hnb := hD.1
  have hb1 := deck_b hnb
  have hb2 := deck_b1 hnb
  show V S (dep + 8) 109 0 [.ref 147, .ref b, .int (nI n)] [] h _
  refine V_aload_n rfl rfl (by first | assumption | rfl) ?_
  refine V_gi 0 rfl (deck_sz (by first | assumption | rfl)) rfl ?_
  -- at 4: .iload_n 2
  rw [hD.2.2.1]
  refine V_iload_n rfl rfl ?_
  -- at 5: .if_icmp .ge 12
  refine V_icmp_ge rfl (fun hc => ?_) (fun hc => ?_)
  · have hc := (nI_leI (by omega) (by omega)).mp hc
    refine V_aload_n rfl rfl rfl ?_
    refine V_ic (v := nI 4) rfl rfl ?_
    -- at 19: .invokevirtual 77
    refine V_callV rfl rfl rfl rfl rfl (c_refu (k := 4) hs (by decide) (by decide)) ?_
    rintro _ h1 ⟨rfl, hB, f1⟩
    show V S (dep + 8) 109 22 [.ref 147, .ref b, .int (nI n)] [] h1 _
    refine V_return rfl rfl ?_
    exact ⟨rfl, Or.inl ⟨by omega, hB⟩, f1.mono (by simp)⟩
  · have hc := nI_ngt (by omega) (by omega) hc
    refine V_aload_n rfl rfl (by first | assumption | rfl) ?_
    refine V_gi 0 rfl (deck_sz (by first | assumption | rfl)) rfl ?_
    -- at 12: .bipush 7
    rw [hD.2.2.1]
    refine V_bi (v := nI 7) rfl rfl ?_
    -- at 14: .if_icmp .lt 9
    refine V_icmp_lt rfl (fun hd => ?_) (fun hd => ?_)
    · refine V_aload_n rfl rfl rfl ?_
      -- at 24: .invokevirtual 97
      refine V_callV rfl rfl rfl rfl rfl (c_adv hs.1 hle.2.1) ?_
      rintro _ h1 ⟨rfl, hR1, f1⟩
      show V S (dep + 8) 109 27 [.ref 147, .ref b, .int (nI n)] [] h1 _
      refine V_aload_n rfl rfl rfl ?_
      refine V_getR (r := 150) rfl rfl ?_
      refine V_iload_n rfl rfl ?_
      refine V_ic (v := nI 1) rfl rfl ?_
      refine V_isub rfl ?_
      -- at 34: .invokevirtual 83
      rw [nI_sub (by omega)]
      refine V_callV rfl rfl rfl rfl rfl (c_clear (a := 150) rfl (by omega)) ?_
      rintro _ h2 ⟨rfl, hN2, f2⟩
      show V S (dep + 8) 109 37 [.ref 147, .ref b, .int (nI n)] [] h2 _
      have hR2 := hR1.fr f2 (by simp) (by simp)
      refine V_aload_n rfl rfl rfl ?_
      refine V_aload_n rfl rfl rfl ?_
      refine V_getR (r := 150) rfl rfl ?_
      -- at 42: .invokevirtual 123
      refine V_callV rfl rfl rfl rfl rfl (c_prs (f := N + 1) hR2 hN2 (by decide) (by omega)) ?_
      rintro _ h3 ⟨rfl, hr, f3⟩
      show V S (dep + 8) 109 45 [.ref 147, .ref b, .int (nI n)] [] h3 _
      have f123 : Fr [147, 150, 151] h h3 := ((f1.mono (by simp)).tr (f2.mono (by simp))).tr (f3.mono (by simp))
      have hD3 : DK h3 b cs := hD.fr f123 (by simp; omega) (by simp; omega)
      refine V_aload_n rfl rfl rfl ?_
      refine V_gi 2 rfl rfl rfl ?_
      -- at 49: .ifCond .ne 29
      rcases hr with ⟨k, p, e, hB⟩ | ⟨C, q', e, hR3, hN3⟩
      · rw [hB.1]
        have h0 := hB.2.2.1
        have h4 := hB.2.2.2.1
        refine V_if_ne rfl (fun he => ?_) (fun he => ?_)
        · refine V_return rfl rfl ?_
          exact ⟨rfl, Or.inr (Or.inl ⟨hc, k, p, e, hB⟩), f123.mono (by simp)⟩
        · exact absurd (nI_inj (b := 0) (by omega) (by omega) (Decidable.of_not_not he)) (by omega)
      · rw [hR3.1.2.2.1]
        refine V_if_ne rfl (fun he => ?_) (fun he => ?_)
        · exact absurd rfl he
        · refine V_aload_n rfl rfl (by first | assumption | rfl) ?_
          refine V_getR rfl (deck_cd (by first | assumption | rfl)) ?_
          refine V_aload_n rfl rfl (by first | assumption | rfl) ?_
          refine V_gi 0 rfl (deck_sz (by first | assumption | rfl)) rfl ?_
          -- at 60: .aload_n 0
          rw [hD3.2.2.1]
          refine V_aload_n rfl rfl rfl ?_
          refine V_getR (r := 150) rfl rfl ?_
          -- at 64: .invokevirtual 139
          refine V_cV rfl rfl rfl rfl rfl (c_code hN3) ?_
          refine V_as 7 rfl (deck_ar (by first | assumption | rfl)) (by first | with_reducible rfl | assumption | exact nI_sub (by omega) | exact nI_add _ _) (by first | omega | assumption) rfl ?_
          refine V_aload_n rfl rfl (by first | assumption | rfl) ?_
          refine V_dup rfl rfl ?_
          refine V_gi 0 rfl (deck_sz (by first | assumption | rfl)) rfl ?_
          -- at 73: .iconst 1
          rw [wI_oth (by omega), hD3.2.2.1]
          refine V_ic (v := nI 1) rfl rfl ?_
          refine V_iadd rfl ?_
          -- at 75: .putfield 100
          rw [nI_add]
          refine V_pi 0 rfl (deck_sz (by first | assumption | rfl)) rfl rfl ?_
          -- at 78: .return_
          refine V_return rfl rfl ?_
          have hC := hN3.lt
          have f4 : Fr [147, 150, 151, b, b + 1] h3 (wI (wI h3 (b + 1) cs.length (nI C)) b 0 (nI (cs.length + 1))) := (Fr.w (by simp)).tr (Fr.w (by simp))
          have f5 : Fr [b, b + 1] h3 (wI (wI h3 (b + 1) cs.length (nI C)) b 0 (nI (cs.length + 1))) := (Fr.w (by simp)).tr (Fr.w (by simp))
          exact ⟨rfl, Or.inr (Or.inr ⟨hc, C, q', e, hR3.fr f5 (by simp; omega) (by simp; omega), hD3.app (by omega) hC⟩), (f123.mono (by simp)).tr f4⟩
    · exact absurd (nI_lt (by omega) (by omega)) hd
