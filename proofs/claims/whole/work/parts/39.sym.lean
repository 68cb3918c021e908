/-! the class: symmetries -/
theorem c_ajC {S : mScr} {dep a n C x y : Nat} {h : Hp} (hN : NC h a n C) (hx : x < n) (hy : y < n) : Cal S (dep + 1) 64 [.ref a, .int (nI x), .int (nI y)] h (Rt (bI (adj C x y)) h) := by
  have hn := hN.1.2.1
  have := c_aj (S := S) (dep := dep) hN.1 (x := x) (y := y) (by omega) (by omega)
  rw [rowOf_tb, decide_eq_true hx, decide_eq_true hy, adj_comm] at this
  exact this
theorem c_degC {S : mScr} {dep a n C x : Nat} {h : Hp} (hN : NC h a n C) (hx : x < n) : Cal S (dep + 1) 62 [.ref a, .int (nI x)] h (Rt (nI (pop (rowOf n C x))) h) := by
  have hn := hN.1.2.1
  have := c_deg (S := S) (dep := dep) hN.1 (j := x) (by omega)
  rw [if_pos hx] at this
  exact this
theorem pop_row {n C v : Nat} (hn : n ≤ 7) (hv : v < n) : pop (rowOf n C v) = cnt (fun u => adj C u v) n := by
  unfold rowOf
  rw [if_pos hv]
  exact pop_bsum (by omega)
theorem cnt_perm {p : Nat → Bool} {n : Nat} {q : Nat → Nat} (h : PM n q) : cnt (fun i => p (q i)) n = cnt p n := by
  have e1 := sumN_cnt (p := p) (m := 1) n
  have e2 := sumN_cnt (p := fun i => p (q i)) (m := 1) n
  rw [Nat.mul_one] at e1 e2
  rw [← e1, ← e2]
  exact sumN_perm (f := fun v => if p v = true then 1 else 0) h
theorem Aut.deg {n C a : Nat} {u : Nat → Nat} (hn : n ≤ 7) (h : Aut n C u) (ha : a < n) : pop (rowOf n C (u a)) = pop (rowOf n C a) := by
  rw [pop_row hn (h.1.1 a ha), pop_row hn ha, ← cnt_perm h.1]
  exact cnt_ext (fun i hi => h.2 i a hi ha)
theorem bI_inj {a b : Bool} : bI a = bI b ↔ a = b := by cases a <;> cases b <;> decide
theorem pop7 {x : Nat} (h : x < 128) : pop x ≤ 7 := pop_le (n := 7) h (by decide)
theorem oI_none {o : Option Nat} (h : ∀ x, o = some x → x < 2 ^ 31) : oI o = -1 ↔ o = none := by
  cases o with
  | none => exact ⟨fun _ => rfl, fun _ => rfl⟩
  | some x =>
    refine ⟨fun q => ?_, fun q => by cases q⟩
    have hx := h x rfl
    have q : nI x = -1 := q
    have := congrArg Int32.toInt q
    rw [nI_toInt hx] at this
    have e : (-1 : Int32).toInt = -1 := rfl
    rw [e] at this
    omega
def kn (w : Nat → Option Nat) (im : Nat → Nat) (node o : Nat) : Option Nat := if o < node then some (im o) else w o
def mgo (C : Nat) (w : Nat → Option Nat) (im : Nat → Nat) (node image o : Nat) : Prop := o ≠ node → ∀ x, kn w im node o = some x → x ≠ image ∧ adj C node o = adj C image x
def mgP (n C : Nat) (w : Nat → Option Nat) (im : Nat → Nat) (node image : Nat) : Prop := pop (rowOf n C node) = pop (rowOf n C image) ∧ (∀ x, w node = some x → x = image) ∧ ∀ o, o < n → mgo C w im node image o
def SYI (h : Hp) (n node : Nat) (w : Nat → Option Nat) (im : Nat → Nat) : Prop := (∀ i, i < 7 → h.1 11 i = oI (w i)) ∧ (∀ i x, w i = some x → x < n) ∧ (∀ i, i < node → h.1 12 i = nI (im i) ∧ im i < n)
theorem c_mg {S : mScr} {dep a n C node image : Nat} {w : Nat → Option Nat} {im : Nat → Nat} {h : Hp} (hN : NC h a n C) (hI : SYI h n node w im) (h1 : node < n) (h2 : image < n) : Cal S (dep + 2) 99 [.ref 10, .ref a, .int (nI node), .int (nI image)] h (fun q h' => h' = h ∧ ∃ b : Bool, q = some (.int (bI b)) ∧ (b = true ↔ mgP n C w im node image)) := by
  obtain ⟨⟨ha, hn, h0, hg, hb⟩, hC⟩ := id hN
  obtain ⟨i1, i2, i3⟩ := hI
  have hb1 := net_b ha
  have hp1 := pop7 (hb node)
  have hp2 := pop7 (hb image)
  show V S (dep + 2) 99 0 [.ref 10, .ref a, .int (nI node), .int (nI image), .null, .null, .null] [] h _
  refine V_aload_n rfl rfl (by first | assumption | rfl) ?_
  refine V_iload_n rfl rfl ?_
  -- at 2: .invokevirtual 24
  refine V_cV rfl rfl (by first | assumption | rfl) rfl rfl (c_degC hN h1) ?_
  refine V_aload_n rfl rfl (by first | assumption | rfl) ?_
  refine V_iload_n rfl rfl ?_
  -- at 7: .invokevirtual 24
  refine V_cV rfl rfl (by first | assumption | rfl) rfl rfl (c_degC hN h2) ?_
  refine V_icmp_eq rfl (fun hc => ?_) (fun hc => ?_)
  · have hc := nI_inj (by omega) (by omega) hc
    have key : (∀ x, w node = some x → x = image) → V S (dep + 2) 99 37 [.ref 10, .ref a, .int (nI node), .int (nI image), .null, .null, .null] [] h (fun q h' => h' = h ∧ ∃ b : Bool, q = some (.int (bI b)) ∧ (b = true ↔ mgP n C w im node image)) := by
      intro hw
      refine V_ic (v := nI 0) rfl rfl ?_
      refine V_istore (L' := [_, _, _, _, _, _, _]) rfl rfl rfl ?_
      -- at 40: .iload 4
      have lp := loopUp (P := fun o => (∀ p, p < o → mgo C w im node image p) → ∀ v5 v6, V S (dep + 2) 99 40 [.ref 10, .ref a, .int (nI node), .int (nI image), .int (nI o), v5, v6] [] h (fun q h' => h' = h ∧ ∃ b : Bool, q = some (.int (bI b)) ∧ (b = true ↔ mgP n C w im node image))) n ?_ ?_ 0 (Nat.zero_le _)
      · exact lp (fun p hp => by omega) _ _
      · intro hall v5 v6
        refine V_iload rfl rfl ?_
        refine V_aload_n rfl rfl (by first | assumption | rfl) ?_
        refine V_gi 0 rfl (net_sz (by first | assumption | rfl)) rfl ?_
        -- at 46: .if_icmp .ge 83
        rw [h0]
        refine V_icmp_ge rfl (fun hd => ?_) (fun hd => ?_)
        · refine V_ic (v := nI 1) rfl rfl ?_
          -- at 130: .ireturn
          refine V_zret rfl rfl (by first | exact Or.inl rfl | exact Or.inr rfl | assumption) ?_
          exact ⟨rfl, true, rfl, fun _ => ⟨hc, hw, hall⟩, fun _ => rfl⟩
        · exact absurd (nI_le (Nat.le_refl _) (by omega)) hd
      · intro o ho ih hall v5 v6
        refine V_iload rfl rfl ?_
        refine V_aload_n rfl rfl (by first | assumption | rfl) ?_
        refine V_gi 0 rfl (net_sz (by first | assumption | rfl)) rfl ?_
        -- at 46: .if_icmp .ge 83
        rw [h0]
        refine V_icmp_ge rfl (fun hd => ?_) (fun hd => ?_)
        · exact absurd hd (nI_ge ho (by omega))
        · have key2 : V S (dep + 2) 99 72 [.ref 10, .ref a, .int (nI node), .int (nI image), .int (nI o), v5, v6] [.int (oI (kn w im node o))] h (fun q h' => h' = h ∧ ∃ b : Bool, q = some (.int (bI b)) ∧ (b = true ↔ mgP n C w im node image)) := by
            have hkl : ∀ x, kn w im node o = some x → x < n := by
              intro x hx
              unfold kn at hx
              by_cases hl : o < node
              · rw [if_pos hl] at hx; cases hx; exact (i3 o hl).2
              · rw [if_neg hl] at hx; exact i2 o x hx
            have next : mgo C w im node image o → ∀ v5 v6, V S (dep + 2) 99 123 [.ref 10, .ref a, .int (nI node), .int (nI image), .int (nI o), v5, v6] [] h (fun q h' => h' = h ∧ ∃ b : Bool, q = some (.int (bI b)) ∧ (b = true ↔ mgP n C w im node image)) := by
              intro hm v5 v6
              refine V_iinc (L' := [_, _, _, _, _, _, _]) rfl rfl rfl ?_
              refine V_goto rfl ?_
              -- at 40: .iload 4
              rw [show Int32.ofInt 1 = nI 1 from rfl, nI_add]
              exact ih (fun p hp => if e : p = o then e ▸ hm else hall p (by omega)) _ _
            have skip : mgo C w im node image o → V S (dep + 2) 99 90 [.ref 10, .ref a, .int (nI node), .int (nI image), .int (nI o), .int (oI (kn w im node o)), v6] [] h (fun q h' => h' = h ∧ ∃ b : Bool, q = some (.int (bI b)) ∧ (b = true ↔ mgP n C w im node image)) := by
              intro hm
              refine V_ic (v := nI 0) rfl rfl ?_
              refine V_istore (L' := [_, _, _, _, _, _, _]) rfl rfl rfl ?_
              refine V_iload rfl rfl ?_
              -- at 95: .ifCond .eq 28
              refine V_if_eq rfl (fun hz => ?_) (fun hz => ?_)
              · exact next hm _ _
              · exact absurd rfl hz
            have fail : ¬ mgo C w im node image o → ∀ v6, V S (dep + 2) 99 121 [.ref 10, .ref a, .int (nI node), .int (nI image), .int (nI o), .int (oI (kn w im node o)), v6] [] h (fun q h' => h' = h ∧ ∃ b : Bool, q = some (.int (bI b)) ∧ (b = true ↔ mgP n C w im node image)) := by
              intro hm v6
              refine V_ic (v := nI 0) rfl rfl ?_
              -- at 122: .ireturn
              refine V_zret rfl rfl (by first | exact Or.inl rfl | exact Or.inr rfl | assumption) ?_
              exact ⟨rfl, false, rfl, fun q => Bool.noConfusion q, fun q => absurd (q.2.2 o ho) hm⟩
            refine V_istore (L' := [_, _, _, _, _, _, _]) rfl rfl rfl ?_
            refine V_iload rfl rfl ?_
            refine V_iload_n rfl rfl ?_
            -- at 77: .if_icmp .eq 13
            refine V_icmp_eq rfl (fun he => ?_) (fun he => ?_)
            · have he := nI_inj (by omega) (by omega) he
              exact skip (fun q => absurd he q)
            · have he : o ≠ node := fun q => he (by rw [q])
              refine V_iload rfl rfl ?_
              refine V_ic (v := -1) rfl rfl ?_
              -- at 83: .if_icmp .eq 7
              refine V_icmp_eq rfl (fun hf => ?_) (fun hf => ?_)
              · have hf := (oI_none (fun x hx => by have := hkl x hx; omega)).mp hf
                exact skip (fun _ x hx => by rw [hf] at hx; cases hx)
              · obtain ⟨x, hx⟩ : ∃ x, kn w im node o = some x := by
                  cases q : kn w im node o with
                  | none => rw [q] at hf; exact absurd rfl hf
                  | some x => exact ⟨x, rfl⟩
                have hxn := hkl x hx
                refine V_ic (v := nI 1) rfl rfl ?_
                refine V_goto rfl ?_
                refine V_istore (L' := [_, _, _, _, _, _, _]) rfl rfl rfl ?_
                refine V_iload rfl rfl ?_
                -- at 95: .ifCond .eq 28
                refine V_if_eq rfl (fun hz => ?_) (fun hz => ?_)
                · exact absurd hz (by decide)
                · refine V_iload rfl rfl ?_
                  refine V_iload_n rfl rfl ?_
                  -- at 101: .if_icmp .eq 20
                  rw [hx]
                  refine V_icmp_eq rfl (fun hj => ?_) (fun hj => ?_)
                  · have hj := nI_inj (by omega) (by omega) hj
                    rw [← hx]
                    exact fail (fun q => (q he x hx).1 hj) _
                  · have hj : x ≠ image := fun q => hj (by rw [q]; rfl)
                    refine V_aload_n rfl rfl (by first | assumption | rfl) ?_
                    refine V_iload_n rfl rfl ?_
                    refine V_iload rfl rfl ?_
                    -- at 108: .invokevirtual 40
                    refine V_cV rfl rfl (by first | assumption | rfl) rfl rfl (c_ajC hN h1 ho) ?_
                    refine V_aload_n rfl rfl (by first | assumption | rfl) ?_
                    refine V_iload_n rfl rfl ?_
                    refine V_iload rfl rfl ?_
                    -- at 115: .invokevirtual 40
                    refine V_cV rfl rfl (by first | assumption | rfl) rfl rfl (c_ajC hN h2 hxn) ?_
                    refine V_icmp_eq rfl (fun hl => ?_) (fun hl => ?_)
                    · have hl := bI_inj.mp hl
                      rw [← hx]
                      refine next (fun _ y hy => ?_) _ _
                      rw [hx] at hy; cases hy
                      exact ⟨hj, hl⟩
                    · rw [← hx]
                      exact fail (fun q => hl (bI_inj.mpr (q he x hx).2)) _
          refine V_iload rfl rfl ?_
          refine V_iload_n rfl rfl ?_
          -- at 52: .if_icmp .ge 13
          refine V_icmp_ge rfl (fun he => ?_) (fun he => ?_)
          · have he := (nI_leI (by omega) (by omega)).mp he
            refine V_aload_n rfl rfl rfl ?_
            refine V_getR (r := 11) rfl rfl ?_
            refine V_iload rfl rfl ?_
            refine V_al 7 rfl rfl (by first | with_reducible rfl | assumption | exact nI_sub (by omega) | exact nI_add _ _) (by first | omega | assumption) rfl ?_
            -- at 72: .istore 5
            rw [i1 o (by omega), show w o = kn w im node o by unfold kn; rw [if_neg (by omega)]]
            exact key2
          · have he := nI_ngt (by omega) (by omega) he
            refine V_aload_n rfl rfl rfl ?_
            refine V_getR (r := 12) rfl rfl ?_
            refine V_iload rfl rfl ?_
            refine V_al 7 rfl rfl (by first | with_reducible rfl | assumption | exact nI_sub (by omega) | exact nI_add _ _) (by first | omega | assumption) rfl ?_
            refine V_goto rfl ?_
            -- at 72: .istore 5
            rw [(i3 o he).1, show nI (im o) = oI (kn w im node o) by unfold kn; rw [if_pos he]; rfl]
            exact key2
    refine V_aload_n rfl rfl rfl ?_
    refine V_getR (r := 11) rfl rfl ?_
    refine V_iload_n rfl rfl ?_
    refine V_al 7 rfl rfl (by first | with_reducible rfl | assumption | exact nI_sub (by omega) | exact nI_add _ _) (by first | omega | assumption) rfl ?_
    refine V_ic (v := -1) rfl rfl ?_
    -- at 22: .if_icmp .eq 15
    rw [i1 node (by omega)]
    refine V_icmp_eq rfl (fun hd => ?_) (fun hd => ?_)
    · have hd := (oI_none (fun x hx => by have := i2 _ x hx; omega)).mp hd
      exact key (fun x hx => by rw [hd] at hx; cases hx)
    · obtain ⟨x, hx⟩ : ∃ x, w node = some x := by
        cases q : w node with
        | none => rw [q] at hd; exact absurd rfl hd
        | some x => exact ⟨x, rfl⟩
      have hxn := i2 _ _ hx
      refine V_aload_n rfl rfl rfl ?_
      refine V_getR (r := 11) rfl rfl ?_
      refine V_iload_n rfl rfl ?_
      refine V_al 7 rfl rfl (by first | with_reducible rfl | assumption | exact nI_sub (by omega) | exact nI_add _ _) (by first | omega | assumption) rfl ?_
      refine V_iload_n rfl rfl ?_
      -- at 32: .if_icmp .eq 5
      rw [i1 node (by omega), hx]
      refine V_icmp_eq rfl (fun he => ?_) (fun he => ?_)
      · have he := nI_inj (by omega) (by omega) he
        exact key (fun y hy => by rw [hx] at hy; cases hy; exact he)
      · refine V_ic (v := nI 0) rfl rfl ?_
        -- at 36: .ireturn
        refine V_zret rfl rfl (by first | exact Or.inl rfl | exact Or.inr rfl | assumption) ?_
        exact ⟨rfl, false, rfl, fun q => Bool.noConfusion q, fun q => absurd (by rw [q.2.1 x hx]; rfl) he⟩
  · refine V_ic (v := nI 0) rfl rfl ?_
    -- at 14: .ireturn
    refine V_zret rfl rfl (by first | exact Or.inl rfl | exact Or.inr rfl | assumption) ?_
    exact ⟨rfl, false, rfl, fun q => Bool.noConfusion q, fun q => absurd (by rw [q.1]) hc⟩
def IMV (n C node : Nat) (w : Nat → Option Nat) (im : Nat → Nat) : Prop := (∀ i, i < node → im i < n) ∧ (∀ i j, i < node → j < node → im i = im j → i = j) ∧ (∀ i j, i < node → j < node → adj C (im i) (im j) = adj C i j) ∧ ∀ i, i < node → ∀ x, w i = some x → im i = x
def EXU (n C node : Nat) (w : Nat → Option Nat) (im u : Nat → Nat) : Prop := Aut n C u ∧ (∀ i, i < node → u i = im i) ∧ ∀ i, i < n → ∀ x, w i = some x → u i = x
theorem mg_of {n C node : Nat} {w : Nat → Option Nat} {im u : Nat → Nat} (hn : n ≤ 7) (hnode : node < n) (hu : EXU n C node w im u) : mgP n C w im node (u node) := by
  obtain ⟨h1, h2, h3⟩ := hu
  have hk : ∀ o, o < n → ∀ x, kn w im node o = some x → u o = x := by
    intro o ho x hx
    unfold kn at hx
    by_cases hl : o < node
    · rw [if_pos hl] at hx; cases hx; exact h2 o hl
    · rw [if_neg hl] at hx; exact h3 o ho x hx
  refine ⟨(h1.deg hn hnode).symm, fun x hx => (h3 node hnode x hx).symm, fun o ho hne x hx => ?_⟩
  have := hk o ho x hx
  rw [← this]
  exact ⟨fun q => hne (h1.1.2 o node ho hnode q), (h1.2 node o hnode ho).symm⟩
theorem IMV.step {n C node image : Nat} {w : Nat → Option Nat} {im : Nat → Nat} (h : IMV n C node w im) (hnode : node < n) (hi : image < n) (hm : mgP n C w im node image) : IMV n C (node + 1) w (updN im node image) := by
  obtain ⟨h1, h2, h3, h4⟩ := h
  have hk : ∀ o, o < node → im o ≠ image ∧ adj C node o = adj C image (im o) := fun o ho => hm.2.2 o (by omega) (by omega) (im o) (by unfold kn; rw [if_pos ho])
  have e0 : updN im node image node = image := by unfold updN; rw [if_pos rfl]
  have e1 : ∀ i, i < node → updN im node image i = im i := fun i hi => by unfold updN; rw [if_neg (by omega)]
  refine ⟨fun i hl => ?_, fun i j hl hr e => ?_, fun i j hl hr => ?_, fun i hl x hx => ?_⟩
  · by_cases q : i = node
    · rw [q, e0]; exact hi
    · rw [e1 i (by omega)]; exact h1 i (by omega)
  · by_cases q : i = node
    · by_cases q2 : j = node
      · omega
      · rw [q, e0, e1 j (by omega)] at e; exact absurd e.symm (hk j (by omega)).1
    · by_cases q2 : j = node
      · rw [q2, e0, e1 i (by omega)] at e; exact absurd e (hk i (by omega)).1
      · rw [e1 i (by omega), e1 j (by omega)] at e; exact h2 i j (by omega) (by omega) e
  · by_cases q : i = node
    · by_cases q2 : j = node
      · rw [q, q2, adj_self, adj_self]
      · rw [q, e0, e1 j (by omega)]; exact (hk j (by omega)).2.symm
    · by_cases q2 : j = node
      · rw [q2, e0, e1 i (by omega), adj_comm, adj_comm C i]; exact (hk i (by omega)).2.symm
      · rw [e1 i (by omega), e1 j (by omega)]; exact h3 i j (by omega) (by omega)
  · by_cases q : i = node
    · rw [q, e0]; rw [q] at hx; exact (hm.2.1 x hx).symm
    · rw [e1 i (by omega)]; exact h4 i (by omega) x hx
def FE (node : Nat) (h h' : Hp) : Prop := h'.2 = h.2 ∧ ∀ b i, ¬(b = 12 ∧ node ≤ i) → h'.1 b i = h.1 b i
theorem FE.rf {p : Nat} {h : Hp} : FE p h h := ⟨rfl, fun _ _ _ => rfl⟩
theorem FE.tr {p q : Nat} {h h1 h2 : Hp} (hq : p ≤ q) (a : FE p h h1) (b : FE q h1 h2) : FE p h h2 := ⟨b.1.trans a.1, fun c i h1 => (b.2 c i (by omega)).trans (a.2 c i h1)⟩
theorem FE.fr {p : Nat} {h h' : Hp} (f : FE p h h') : Fr [12] h h' := ⟨fun b hb => by
  funext i
  exact f.2 b i (by simp at hb; omega), f.1⟩
theorem NC.ne12 {h : Hp} {a n C : Nat} (hN : NC h a n C) : a ∉ [12] ∧ a + 1 ∉ [12] := by
  have := net_ge hN.1.1
  constructor <;> (simp; omega)
theorem c_ext {S : mScr} {a n C : Nat} {w : Nat → Option Nat} : ∀ (r D node : Nat) (im : Nat → Nat) (h : Hp), NC h a n C → SYI h n node w im → node + r = n → IMV n C node w im → r + 3 ≤ D → Cal S D 98 [.ref 10, .ref a, .int (nI node)] h (fun q h' => FE node h h' ∧ ∃ b : Bool, q = some (.int (bI b)) ∧ (b = true ↔ ∃ u, EXU n C node w im u)) := by
  intro r
  induction r with
  | zero =>
    intro D node im h hN hI hnr hV hD
    obtain ⟨⟨ha, hn, h0, hg, hb⟩, hC⟩ := id hN
    have hb1 := net_b ha
    obtain rfl : node = n := by omega
    show V S D 98 0 [.ref 10, .ref a, .int (nI node), .null] [] h _
    refine V_iload_n rfl rfl ?_
    refine V_aload_n rfl rfl (by first | assumption | rfl) ?_
    refine V_gi 0 rfl (net_sz (by first | assumption | rfl)) rfl ?_
    -- at 5: .if_icmp .ge 9
    rw [h0]
    refine V_icmp_ge rfl (fun hc => ?_) (fun hc => ?_)
    · refine V_ic (v := nI 1) rfl rfl ?_
      -- at 15: .ireturn
      refine V_zret rfl rfl (by first | exact Or.inl rfl | exact Or.inr rfl | assumption) ?_
      refine ⟨FE.rf, true, rfl, fun _ => ⟨im, ⟨⟨hV.1, hV.2.1⟩, hV.2.2.1⟩, fun _ _ => rfl, hV.2.2.2⟩, fun _ => rfl⟩
    · exact absurd (nI_le (Nat.le_refl _) (by omega)) hc
  | succ r ihr =>
    intro D node im h hN hI hnr hV hD
    obtain ⟨⟨ha, hn, h0, hg, hb⟩, hC⟩ := id hN
    have hb1 := net_b ha
    obtain ⟨d, rfl⟩ : ∃ d, D = d + 2 + 1 := ⟨D - 3, by omega⟩
    show V S (d + 2 + 1) 98 0 [.ref 10, .ref a, .int (nI node), .null] [] h _
    refine V_iload_n rfl rfl ?_
    refine V_aload_n rfl rfl (by first | assumption | rfl) ?_
    refine V_gi 0 rfl (net_sz (by first | assumption | rfl)) rfl ?_
    -- at 5: .if_icmp .ge 9
    rw [h0]
    refine V_icmp_ge rfl (fun hc => ?_) (fun hc => ?_)
    · exact absurd hc (nI_ge (by omega) (by omega))
    · refine V_iload_n rfl rfl ?_
      refine V_bi (v := nI 7) rfl rfl ?_
      -- at 11: .if_icmp .lt 5
      refine V_icmp_lt rfl (fun hd => ?_) (fun hd => ?_)
      · refine V_ic (v := nI 0) rfl rfl ?_
        refine V_istore_n (L' := [_, _, _, _]) rfl rfl rfl ?_
        -- at 18: .iload_n 3
        have lp := loopUp (P := fun image => ∀ h1, FE node h h1 → (∀ u, EXU n C node w im u → image ≤ u node) → V S (d + 2 + 1) 98 18 [.ref 10, .ref a, .int (nI node), .int (nI image)] [] h1 (fun q h' => FE node h h' ∧ ∃ b : Bool, q = some (.int (bI b)) ∧ (b = true ↔ ∃ u, EXU n C node w im u))) n ?_ ?_ 0 (Nat.zero_le _)
        · exact lp h FE.rf (fun u _ => Nat.zero_le _)
        · intro h1 f1 hall
          have hN1 := hN.fr f1.fr hN.ne12.1 hN.ne12.2
          have h01 := hN1.1.2.2.1
          refine V_iload_n rfl rfl ?_
          refine V_aload_n rfl rfl (by first | assumption | rfl) ?_
          refine V_gi 0 rfl (net_sz (by first | assumption | rfl)) rfl ?_
          -- at 23: .if_icmp .ge 39
          rw [h01]
          refine V_icmp_ge rfl (fun he => ?_) (fun he => ?_)
          · refine V_ic (v := nI 0) rfl rfl ?_
            -- at 63: .ireturn
            refine V_zret rfl rfl (by first | exact Or.inl rfl | exact Or.inr rfl | assumption) ?_
            refine ⟨f1, false, rfl, fun q => Bool.noConfusion q, fun ⟨u, hu⟩ => ?_⟩
            have := hall u hu
            have := hu.1.1.1 node (by omega)
            omega
          · exact absurd (nI_le (Nat.le_refl _) (by omega)) he
        · intro image hi ih h1 f1 hall
          have hN1 := hN.fr f1.fr hN.ne12.1 hN.ne12.2
          have h01 := hN1.1.2.2.1
          have hI1 : SYI h1 n node w im := ⟨fun i hi => by rw [f1.2 11 i (by omega)]; exact hI.1 i hi, hI.2.1, fun i hi => by rw [f1.2 12 i (by omega)]; exact hI.2.2 i hi⟩
          have next : ∀ h2, FE node h h2 → (∀ u, EXU n C node w im u → u node ≠ image) → V S (d + 2 + 1) 98 56 [.ref 10, .ref a, .int (nI node), .int (nI image)] [] h2 (fun q h' => FE node h h' ∧ ∃ b : Bool, q = some (.int (bI b)) ∧ (b = true ↔ ∃ u, EXU n C node w im u)) := by
            intro h2 f2 hno
            refine V_iinc (L' := [_, _, _, _]) rfl rfl rfl ?_
            refine V_goto rfl ?_
            -- at 18: .iload_n 3
            rw [show Int32.ofInt 1 = nI 1 from rfl, nI_add]
            exact ih h2 f2 (fun u hu => by have := hall u hu; have := hno u hu; omega)
          refine V_iload_n rfl rfl ?_
          refine V_aload_n rfl rfl (by first | assumption | rfl) ?_
          refine V_gi 0 rfl (net_sz (by first | assumption | rfl)) rfl ?_
          -- at 23: .if_icmp .ge 39
          rw [h01]
          refine V_icmp_ge rfl (fun he => ?_) (fun he => ?_)
          · exact absurd he (nI_ge hi (by omega))
          · refine V_aload_n rfl rfl rfl ?_
            refine V_aload_n rfl rfl (by first | assumption | rfl) ?_
            refine V_iload_n rfl rfl ?_
            refine V_iload_n rfl rfl ?_
            -- at 30: .invokevirtual 36
            refine V_callV rfl rfl rfl rfl rfl (c_mg hN1 hI1 (by omega) hi) ?_
            rintro _ hz ⟨hz2, b, rfl, hbq⟩
            have hz3 := hz2.symm
            subst hz3
            refine V_if_eq rfl (fun hf => ?_) (fun hf => ?_)
            · have hf := bI_z.mp hf
              refine next h1 f1 (fun u hu q => ?_)
              have := hbq.mpr (q ▸ mg_of hn (by omega) hu)
              rw [hf] at this; exact Bool.noConfusion this
            · have hf : b = true := by
                cases q : b with
                | true => rfl
                | false => rw [q] at hf; exact absurd rfl hf
              have hm := hbq.mp hf
              refine V_aload_n rfl rfl rfl ?_
              refine V_getR (r := 12) rfl rfl ?_
              refine V_iload_n rfl rfl ?_
              refine V_iload_n rfl rfl ?_
              refine V_as 7 rfl rfl (by first | with_reducible rfl | assumption | exact nI_sub (by omega) | exact nI_add _ _) (by first | omega | assumption) rfl ?_
              refine V_aload_n rfl rfl rfl ?_
              refine V_aload_n rfl rfl (by first | assumption | rfl) ?_
              refine V_iload_n rfl rfl ?_
              refine V_ic (v := nI 1) rfl rfl ?_
              refine V_iadd rfl ?_
              -- at 48: .invokestatic 28
              have f2 : FE node h (wI h1 12 node (nI image)) := ⟨f1.1, fun b i q => by rw [wI_ne (by omega)]; exact f1.2 b i q⟩
              have hN2 := hN.fr f2.fr hN.ne12.1 hN.ne12.2
              have hI2 : SYI (wI h1 12 node (nI image)) n (node + 1) w (updN im node image) := by
                refine ⟨fun i hi => by rw [f2.2 11 i (by omega)]; exact hI.1 i hi, hI.2.1, fun i hi => ?_⟩
                unfold updN
                by_cases q : i = node
                · rw [if_pos q, q, wI_same]; exact ⟨rfl, by omega⟩
                · rw [if_neg q, f2.2 12 i (by omega)]; exact hI.2.2 i (by omega)
              rw [nI_add]
              refine V_callS rfl rfl rfl rfl (ihr (d + 2) (node + 1) (updN im node image) _ hN2 hI2 (by omega) (hV.step (by omega) hi hm) (by omega)) ?_
              rintro _ h3 ⟨f3, b3, rfl, hb3⟩
              have f4 := f2.tr (by omega) f3
              refine V_if_eq rfl (fun hj => ?_) (fun hj => ?_)
              · have hj := bI_z.mp hj
                refine next h3 f4 (fun u hu q => ?_)
                have : b3 = true := hb3.mpr ⟨u, hu.1, fun i hi => by
                  unfold updN
                  by_cases q2 : i = node
                  · rw [if_pos q2, q2, q]
                  · rw [if_neg q2]; exact hu.2.1 i (by omega), hu.2.2⟩
                rw [hj] at this; exact Bool.noConfusion this
              · have hj : b3 = true := by
                  cases q : b3 with
                  | true => rfl
                  | false => rw [q] at hj; exact absurd rfl hj
                refine V_ic (v := nI 1) rfl rfl ?_
                -- at 55: .ireturn
                refine V_zret rfl rfl (by first | exact Or.inl rfl | exact Or.inr rfl | assumption) ?_
                refine ⟨f4, true, rfl, fun _ => ?_, fun _ => rfl⟩
                obtain ⟨u, hu⟩ := hb3.mp hj
                exact ⟨u, hu.1, fun i hi => by rw [hu.2.1 i (by omega)]; unfold updN; rw [if_neg (by omega)], hu.2.2⟩
      · exact absurd (by exact nI_lt (by omega) (by omega)) hd
