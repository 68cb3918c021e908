/-! the reference: all numberings -/
def updN (t : Nat → Nat) (i v : Nat) : Nat → Nat := fun j => if j = i then v else t j
def mor (C node : Nat) (t : Nat → Nat) (v made : Nat) : Nat → Nat
  | 0 => made
  | a + 1 => if adj C a node = true then mor C node t v made a ||| 2 ^ bt (t a) v else mor C node t v made a
abbrev gst := Nat × Nat × (Nat → Nat)
def gleaf (n C made : Nat) (t : Nat → Nat) (st : gst) : gst := (if made < st.1 then made else st.1, if made = C then (st.2.1 + 1, fun v => if v < n ∧ t v < st.2.2 v then t v else st.2.2 v) else st.2)
def gosV (f : (Nat → Nat) → Nat → Nat → gst → gst) (C node : Nat) (t : Nat → Nat) (given made : Nat) (st : gst) : Nat → gst
  | 0 => st
  | v + 1 => if given.testBit v = true then gosV f C node t given made st v else f (updN t node v) (given ||| 2 ^ v) (mor C node t v made node) (gosV f C node t given made st v)
def gos (n C : Nat) : Nat → Nat → (Nat → Nat) → Nat → Nat → gst → gst
  | 0, _, t, _, made, st => gleaf n C made t st
  | r + 1, node, t, given, made, st => gosV (gos n C r (node + 1)) C node t given made st n
def GB (st : gst) : Prop := st.1 < 2 ^ 31 ∧ ∀ v, v < 7 → st.2.2 v < 2 ^ 31
theorem gleaf_GB {n C made : Nat} {t : Nat → Nat} {st : gst} (h : GB st) : GB (gleaf n C made t st) := by
  unfold gleaf
  refine ⟨?_, fun v hv => ?_⟩
  · dsimp only; split
    · have := h.1; omega
    · exact h.1
  · dsimp only
    split
    · dsimp only; split
      · have := h.2 v hv; omega
      · exact h.2 v hv
    · exact h.2 v hv
theorem gos_GB {n C : Nat} : ∀ r node t given made st, GB st → GB (gos n C r node t given made st) := by
  intro r
  induction r with
  | zero => intro node t given made st h; exact gleaf_GB h
  | succ r ih =>
    intro node t given made st h
    rw [gos]
    have : ∀ v, GB (gosV (gos n C r (node + 1)) C node t given made st v) := by
      intro v
      induction v with
      | zero => exact h
      | succ v ihv =>
        rw [gosV]
        split
        · exact ihv
        · exact ih _ _ _ _ _ ihv
    exact this n
theorem gosV_GB {n C r node given made : Nat} {t : Nat → Nat} {st : gst} (h : GB st) (v : Nat) : GB (gosV (gos n C r (node + 1)) C node t given made st v) := by
  induction v with
  | zero => exact h
  | succ v ihv =>
    rw [gosV]
    split
    · exact ihv
    · exact gos_GB _ _ _ _ _ _ ihv
def GS (h : Hp) (st : gst) : Prop := h.1 188 6 = nI st.1 ∧ h.1 188 7 = nI st.2.1 ∧ ∀ v, v < 7 → h.1 193 v = nI (st.2.2 v)
def GF (node : Nat) (h h' : Hp) : Prop := h'.2 = h.2 ∧ ∀ b i, ¬(b = 188 ∧ (i = 6 ∨ i = 7)) → b ≠ 193 → ¬(b = 192 ∧ node ≤ i) → h'.1 b i = h.1 b i
theorem GF.rf {p : Nat} {h : Hp} : GF p h h := ⟨rfl, fun _ _ _ _ _ => rfl⟩
theorem GF.tr {p q : Nat} {h h1 h2 : Hp} (hq : p ≤ q) (a : GF p h h1) (b : GF q h1 h2) : GF p h h2 := ⟨b.1.trans a.1, fun c i h1 h2 h3 => (b.2 c i h1 h2 (by omega)).trans (a.2 c i h1 h2 h3)⟩
theorem mor_lt {C node v made n : Nat} {t : Nat → Nat} (hn : n ≤ 7) (hm : made < 2 ^ 21) (hv : v < n) (ht : ∀ a, a < node → t a < n ∧ t a ≠ v) : ∀ a, a ≤ node → mor C node t v made a < 2 ^ 21 := by
  intro a
  induction a with
  | zero => intro _; exact hm
  | succ a ih =>
    intro ha
    rw [mor]
    split
    · have := bt_lt' hn (ht a (by omega)).2 (ht a (by omega)).1 hv
      have h2 := tri_le hn
      exact Nat.or_lt_two_pow (ih (by omega)) (Nat.pow_lt_pow_right (by decide) (by omega))
    · exact ih (by omega)
theorem m_goes {S : mScr} {n C : Nat} (hn : n ≤ 7) (hC : C < 2 ^ 21) : ∀ (r D node : Nat) (t : Nat → Nat) (given made : Nat) (st : gst) (h : Hp), node + r = n → (∀ a, a < node → h.1 192 a = nI (t a) ∧ t a < n ∧ given.testBit (t a) = true) → given < 128 → made < 2 ^ 21 → GB st → GS h st → r + 2 ≤ D → Cal S D 170 [.ref 188, .int (nI n), .int (nI C), .int (nI node), .int (nI given), .int (nI made)] h (fun q h' => q = none ∧ GF node h h' ∧ GS h' (gos n C r node t given made st)) := by
  intro r
  induction r with
  | zero =>
    intro D node t given made st h hnr ht hg hm hB hS hD
    obtain ⟨b1, b2⟩ := hB
    obtain ⟨s1, s2, s3⟩ := hS
    show V S D 170 0 [.ref 188, .int (nI n), .int (nI C), .int (nI node), .int (nI given), .int (nI made), .null, .null, .null] [] h _
    refine V_iload_n rfl rfl ?_
    refine V_iload_n rfl rfl ?_
    -- at 2: .if_icmp .ne 99
    refine V_icmp_ne rfl (fun hc => ?_) (fun hc => ?_)
    · exact absurd (by rw [show node = n by omega]) hc
    · have key : ∀ x, x = (if made < st.1 then made else st.1) → V S D 170 24 [.ref 188, .int (nI n), .int (nI C), .int (nI node), .int (nI given), .int (nI made), .null, .null, .null] [.int (nI x), .ref 188] h (fun q h' => q = none ∧ GF node h h' ∧ GS h' (gos n C 0 node t given made st)) := by
        intro x hx
        refine V_pi 6 rfl rfl rfl rfl ?_
        refine V_iload rfl rfl ?_
        refine V_iload_n rfl rfl ?_
        -- at 30: .if_icmp .eq 4
        refine V_icmp_eq rfl (fun he => ?_) (fun he => ?_)
        · have he := nI_inj (by omega) (by omega) he
          refine V_aload_n rfl rfl rfl ?_
          refine V_dup rfl rfl ?_
          refine V_gi 7 rfl rfl rfl ?_
          refine V_ic (v := nI 1) rfl rfl ?_
          refine V_iadd rfl ?_
          -- at 41: .putfield 92
          rw [wI_ne (by omega), s2, nI_add]
          refine V_pi 7 rfl rfl rfl rfl ?_
          refine V_ic (v := nI 0) rfl rfl ?_
          refine V_istore (L' := [_, _, _, _, _, _, _, _, _]) rfl rfl rfl ?_
          -- at 47: .iload 6
          have lp := loopUp (P := fun v => ∀ h1, GF node h h1 → h1.1 188 6 = nI x → h1.1 188 7 = nI (st.2.1 + 1) → (∀ u, u < 7 → h1.1 193 u = nI (if u < v ∧ t u < st.2.2 u then t u else st.2.2 u)) → V S D 170 47 [.ref 188, .int (nI n), .int (nI C), .int (nI node), .int (nI given), .int (nI made), .int (nI v), .null, .null] [] h1 (fun q h' => q = none ∧ GF node h h' ∧ GS h' (gos n C 0 node t given made st))) n ?_ ?_ 0 (Nat.zero_le _)
          · refine lp _ ⟨rfl, fun b i q1 q2 q3 => ?_⟩ ?_ ?_ ?_
            · rw [wI_ne (by omega), wI_ne (by omega)]
            · rw [wI_ne (by omega), wI_same]
            · rw [wI_same]
            · intro u hu
              rw [wI_oth (by omega), wI_oth (by omega), s3 u hu, if_neg (by omega)]
          · intro h1 f1 e1 e2 e3
            refine V_iload rfl rfl ?_
            refine V_iload_n rfl rfl ?_
            -- at 50: .if_icmp .ge 50
            refine V_icmp_ge rfl (fun hf => ?_) (fun hf => ?_)
            · refine V_return rfl rfl ?_
              refine ⟨rfl, f1, ?_, ?_, fun v hv => ?_⟩
              · rw [e1, hx]; rfl
              · rw [e2, gos, gleaf, if_pos he]
              · rw [e3 v hv, gos, gleaf, if_pos he]
            · exact absurd (nI_le (Nat.le_refl _) (by omega)) hf
          · intro v hv ih h1 f1 e1 e2 e3
            obtain ⟨t1, t2, _⟩ := ht v (by omega)
            have t3 : h1.1 192 v = nI (t v) := by rw [f1.2 192 v (by omega) (by omega) (by omega)]; exact t1
            have b2v := b2 v (by omega)
            have e3v := e3 v (by omega)
            rw [if_neg (by omega)] at e3v
            have fin : ∀ y, y = (if t v < st.2.2 v then t v else st.2.2 v) → V S D 170 93 [.ref 188, .int (nI n), .int (nI C), .int (nI node), .int (nI given), .int (nI made), .int (nI v), .null, .null] [.int (nI y), .int (nI v), .ref 193] h1 (fun q h' => q = none ∧ GF node h h' ∧ GS h' (gos n C 0 node t given made st)) := by
              intro y hy
              refine V_as 7 rfl rfl (by first | with_reducible rfl | assumption | exact nI_sub (by omega) | exact nI_add _ _) (by first | omega | assumption) rfl ?_
              refine V_iinc (L' := [_, _, _, _, _, _, _, _, _]) rfl rfl rfl ?_
              refine V_goto rfl ?_
              -- at 47: .iload 6
              rw [show Int32.ofInt 1 = nI 1 from rfl, nI_add]
              refine ih _ ⟨f1.1, fun b i q1 q2 q3 => ?_⟩ ?_ ?_ ?_
              · rw [wI_ne (by omega)]; exact f1.2 b i q1 q2 q3
              · rw [wI_oth (by omega)]; exact e1
              · rw [wI_oth (by omega)]; exact e2
              · intro u hu
                by_cases e : u = v
                · subst e
                  rw [wI_same, hy]
                  by_cases z : t u < st.2.2 u
                  · rw [if_pos z, if_pos ⟨by omega, z⟩]
                  · rw [if_neg z, if_neg (by omega)]
                · rw [wI_ne (by omega), e3 u hu]
                  by_cases z : u < v ∧ t u < st.2.2 u
                  · rw [if_pos z, if_pos ⟨by omega, z.2⟩]
                  · rw [if_neg z, if_neg (by omega)]
            refine V_iload rfl rfl ?_
            refine V_iload_n rfl rfl ?_
            -- at 50: .if_icmp .ge 50
            refine V_icmp_ge rfl (fun hf => ?_) (fun hf => ?_)
            · exact absurd hf (nI_ge hv (by omega))
            · refine V_aload_n rfl rfl rfl ?_
              refine V_getR (r := 193) rfl rfl ?_
              refine V_iload rfl rfl ?_
              refine V_aload_n rfl rfl rfl ?_
              refine V_getR (r := 192) rfl rfl ?_
              refine V_iload rfl rfl ?_
              refine V_al 7 rfl rfl (by first | with_reducible rfl | assumption | exact nI_sub (by omega) | exact nI_add _ _) (by first | omega | assumption) rfl ?_
              refine V_aload_n rfl rfl rfl ?_
              refine V_getR (r := 193) rfl rfl ?_
              refine V_iload rfl rfl ?_
              refine V_al 7 rfl rfl (by first | with_reducible rfl | assumption | exact nI_sub (by omega) | exact nI_add _ _) (by first | omega | assumption) rfl ?_
              -- at 73: .if_icmp .ge 13
              rw [t3, e3v]
              refine V_icmp_ge rfl (fun hj => ?_) (fun hj => ?_)
              · have hj := (nI_leI b2v (by omega)).mp hj
                refine V_aload_n rfl rfl rfl ?_
                refine V_getR (r := 193) rfl rfl ?_
                refine V_iload rfl rfl ?_
                refine V_al 7 rfl rfl (by first | with_reducible rfl | assumption | exact nI_sub (by omega) | exact nI_add _ _) (by first | omega | assumption) rfl ?_
                -- at 93: .iastore
                rw [e3v]
                exact fin _ (by rw [if_neg (by omega)])
              · have hj := nI_ngt b2v (by omega) hj
                refine V_aload_n rfl rfl rfl ?_
                refine V_getR (r := 192) rfl rfl ?_
                refine V_iload rfl rfl ?_
                refine V_al 7 rfl rfl (by first | with_reducible rfl | assumption | exact nI_sub (by omega) | exact nI_add _ _) (by first | omega | assumption) rfl ?_
                refine V_goto rfl ?_
                -- at 93: .iastore
                rw [t3]
                exact fin _ (by rw [if_pos hj])
        · have he : made ≠ C := fun q => he (by rw [q])
          refine V_return rfl rfl ?_
          refine ⟨rfl, ⟨rfl, fun b i q1 q2 q3 => wI_ne (by omega)⟩, ?_, ?_, fun v hv => ?_⟩
          · rw [wI_same, hx]; rfl
          · rw [wI_ne (by omega), s2, gos, gleaf, if_neg he]
          · rw [wI_oth (by omega), s3 v hv, gos, gleaf, if_neg he]
      refine V_aload_n rfl rfl rfl ?_
      refine V_iload rfl rfl ?_
      refine V_aload_n rfl rfl rfl ?_
      refine V_gi 6 rfl rfl rfl ?_
      -- at 12: .if_icmp .ge 8
      rw [s1]
      refine V_icmp_ge rfl (fun hd => ?_) (fun hd => ?_)
      · have hd := (nI_leI b1 (by omega)).mp hd
        refine V_aload_n rfl rfl rfl ?_
        refine V_gi 6 rfl rfl rfl ?_
        -- at 24: .putfield 89
        rw [s1]
        exact key _ (by rw [if_neg (by omega)])
      · have hd := nI_ngt b1 (by omega) hd
        refine V_iload rfl rfl ?_
        refine V_goto rfl ?_
        -- at 24: .putfield 89
        exact key _ (by rw [if_pos hd])
  | succ r ihr =>
    intro D node t given made st h hnr ht hg hm hB hS hD
    obtain ⟨d, rfl⟩ : ∃ d, D = d + 2 + 1 := ⟨D - 3, by omega⟩
    show V S (d + 2 + 1) 170 0 [.ref 188, .int (nI n), .int (nI C), .int (nI node), .int (nI given), .int (nI made), .null, .null, .null] [] h _
    refine V_iload_n rfl rfl ?_
    refine V_iload_n rfl rfl ?_
    -- at 2: .if_icmp .ne 99
    refine V_icmp_ne rfl (fun hc => ?_) (fun hc => ?_)
    · refine V_ic (v := nI 0) rfl rfl ?_
      refine V_istore (L' := [_, _, _, _, _, _, _, _, _]) rfl rfl rfl ?_
      -- at 104: .iload 6
      have lp := loopUp (P := fun v => ∀ h1 v7 v8, GF node h h1 → GS h1 (gosV (gos n C r (node + 1)) C node t given made st v) → V S (d + 2 + 1) 170 104 [.ref 188, .int (nI n), .int (nI C), .int (nI node), .int (nI given), .int (nI made), .int (nI v), v7, v8] [] h1 (fun q h' => q = none ∧ GF node h h' ∧ GS h' (gos n C (r + 1) node t given made st))) n ?_ ?_ 0 (Nat.zero_le _)
      · exact lp _ _ _ GF.rf hS
      · intro h1 v7 v8 f1 g1
        refine V_iload rfl rfl ?_
        refine V_iload_n rfl rfl ?_
        -- at 107: .if_icmp .ge 97
        refine V_icmp_ge rfl (fun hd => ?_) (fun hd => ?_)
        · refine V_return rfl rfl ?_
          exact ⟨rfl, f1, g1⟩
        · exact absurd (nI_le (Nat.le_refl _) (by omega)) hd
      · intro v hv ih h1 v7 v8 f1 g1
        refine V_iload rfl rfl ?_
        refine V_iload_n rfl rfl ?_
        -- at 107: .if_icmp .ge 97
        refine V_icmp_ge rfl (fun hd => ?_) (fun hd => ?_)
        · exact absurd hd (nI_ge hv (by omega))
        · refine V_iload rfl rfl ?_
          refine V_iload rfl rfl ?_
          refine V_ishr rfl ?_
          refine V_ic (v := nI 1) rfl rfl ?_
          refine V_iand rfl ?_
          refine V_ic (v := nI 1) rfl rfl ?_
          -- at 118: .if_icmp .ne 6
          rw [tb_one (by omega) (by omega)]
          refine V_icmp_ne rfl (fun he => ?_) (fun he => ?_)
          · have he : given.testBit v = false := by
              cases q : given.testBit v with
              | false => rfl
              | true => rw [q] at he; exact absurd rfl he
            have htv : ∀ a, a < node → t a < n ∧ t a ≠ v := fun a ha => ⟨(ht a ha).2.1, fun q => by have := (ht a ha).2.2; rw [q, he] at this; exact Bool.noConfusion this⟩
            have hmor := mor_lt (C := C) hn hm hv htv
            refine V_aload_n rfl rfl rfl ?_
            refine V_getR (r := 192) rfl rfl ?_
            refine V_iload_n rfl rfl ?_
            refine V_iload rfl rfl ?_
            refine V_as 7 rfl rfl (by first | with_reducible rfl | assumption | exact nI_sub (by omega) | exact nI_add _ _) (by first | omega | assumption) rfl ?_
            refine V_iload rfl rfl ?_
            refine V_istore (L' := [_, _, _, _, _, _, _, _, _]) rfl rfl rfl ?_
            refine V_ic (v := nI 0) rfl rfl ?_
            refine V_istore (L' := [_, _, _, _, _, _, _, _, _]) rfl rfl rfl ?_
            -- at 139: .iload 8
            have f2 : GF node h (wI h1 192 node (nI v)) := ⟨f1.1, fun b i q1 q2 q3 => by rw [wI_ne (by omega)]; exact f1.2 b i q1 q2 q3⟩
            have g2 : GS (wI h1 192 node (nI v)) (gosV (gos n C r (node + 1)) C node t given made st v) := ⟨by rw [wI_oth (by omega)]; exact g1.1, by rw [wI_oth (by omega)]; exact g1.2.1, fun u hu => by rw [wI_oth (by omega)]; exact g1.2.2 u hu⟩
            have t2 : ∀ a, a < node → (wI h1 192 node (nI v)).1 192 a = nI (t a) := fun a ha => by rw [f2.2 192 a (by omega) (by omega) (by omega)]; exact (ht a ha).1
            have lq := loopUp (P := fun a => V S (d + 2 + 1) 170 139 [.ref 188, .int (nI n), .int (nI C), .int (nI node), .int (nI given), .int (nI made), .int (nI v), .int (nI (mor C node t v made a)), .int (nI a)] [] (wI h1 192 node (nI v)) (fun q h' => q = none ∧ GF node h h' ∧ GS h' (gos n C (r + 1) node t given made st))) node ?_ ?_ 0 (Nat.zero_le _)
            · exact lq
            · refine V_iload rfl rfl ?_
              refine V_iload_n rfl rfl ?_
              -- at 142: .if_icmp .ge 38
              refine V_icmp_ge rfl (fun hf => ?_) (fun hf => ?_)
              · refine V_aload_n rfl rfl rfl ?_
                refine V_iload_n rfl rfl ?_
                refine V_iload_n rfl rfl ?_
                refine V_iload_n rfl rfl ?_
                refine V_ic (v := nI 1) rfl rfl ?_
                refine V_iadd rfl ?_
                -- at 186: .iload 4
                rw [nI_add]
                refine V_iload rfl rfl ?_
                refine V_ic (v := nI 1) rfl rfl ?_
                refine V_iload rfl rfl ?_
                refine V_ishl rfl ?_
                refine V_ior rfl ?_
                -- at 193: .iload 7
                rw [nI_2p _ (by omega), nI_or]
                refine V_iload rfl rfl ?_
                -- at 195: .invokevirtual 99
                have h2v : given ||| 2 ^ v < 128 := Nat.or_lt_two_pow (n := 7) hg (Nat.pow_lt_pow_right (by decide) (by omega))
                refine V_callV rfl rfl rfl rfl rfl (ihr (d + 2) (node + 1) (updN t node v) (given ||| 2 ^ v) (mor C node t v made node) _ (wI h1 192 node (nI v)) (by omega) (fun a ha => ?hh) h2v (hmor node (Nat.le_refl _)) (gosV_GB hB v) g2 (by omega)) ?_
                case hh =>
                  unfold updN
                  by_cases e : a = node
                  · subst e
                    rw [wI_same, if_pos rfl]
                    exact ⟨rfl, hv, by rw [Nat.testBit_or, tb2]; simp⟩
                  · rw [if_neg e]
                    exact ⟨t2 a (by omega), (ht a (by omega)).2.1, by rw [Nat.testBit_or, (ht a (by omega)).2.2]; rfl⟩
                rintro _ h3 ⟨rfl, f3, g3⟩
                show V S (d + 2 + 1) 170 198 [.ref 188, .int (nI n), .int (nI C), .int (nI node), .int (nI given), .int (nI made), .int (nI v), .int (nI (mor C node t v made node)), .int (nI node)] [] h3 _
                refine V_iinc (L' := [_, _, _, _, _, _, _, _, _]) rfl rfl rfl ?_
                refine V_goto rfl ?_
                -- at 104: .iload 6
                rw [show Int32.ofInt 1 = nI 1 from rfl, nI_add]
                refine ih h3 _ _ (f2.tr (by omega) f3) ?_
                rw [gosV, if_neg (by rw [he]; simp)]
                exact g3
              · exact absurd (nI_le (Nat.le_refl _) (by omega)) hf
            · intro a ha ih2
              have hma := hmor a (by omega)
              have hta := htv a ha
              refine V_iload rfl rfl ?_
              refine V_iload_n rfl rfl ?_
              -- at 142: .if_icmp .ge 38
              refine V_icmp_ge rfl (fun hf => ?_) (fun hf => ?_)
              · exact absurd hf (nI_ge ha (by omega))
              · refine V_iload_n rfl rfl ?_
                refine V_iload rfl rfl ?_
                refine V_iload_n rfl rfl ?_
                -- at 149: .invokestatic 95
                refine V_cS rfl rfl rfl rfl (m_aj (by omega) (by omega) (by omega)) ?_
                refine V_if_eq rfl (fun hj => ?_) (fun hj => ?_)
                · have hj := bI_z.mp hj
                  rw [mor, if_neg (by rw [hj]; simp)] at ih2
                  refine V_iinc (L' := [_, _, _, _, _, _, _, _, _]) rfl rfl rfl ?_
                  refine V_goto rfl ?_
                  -- at 139: .iload 8
                  rw [show Int32.ofInt 1 = nI 1 from rfl, nI_add]
                  exact ih2
                · have hj : adj C a node = true := by
                    cases q : adj C a node with
                    | true => rfl
                    | false => rw [q] at hj; exact absurd rfl hj
                  rw [mor, if_pos hj] at ih2
                  refine V_iload rfl rfl ?_
                  refine V_ic (v := nI 1) rfl rfl ?_
                  refine V_aload_n rfl rfl rfl ?_
                  refine V_getR (r := 192) rfl rfl ?_
                  refine V_iload rfl rfl ?_
                  refine V_al 7 rfl rfl (by first | with_reducible rfl | assumption | exact nI_sub (by omega) | exact nI_add _ _) (by first | omega | assumption) rfl ?_
                  refine V_iload rfl rfl ?_
                  -- at 167: .invokestatic 79
                  rw [t2 a ha]
                  refine V_cS rfl rfl rfl rfl (m_bit hta.2 (by omega) (by omega)) ?_
                  have hbt := bt_lt' hn hta.2 hta.1 hv
                  have htl := tri_le hn
                  refine V_ishl rfl ?_
                  refine V_ior rfl ?_
                  -- at 172: .istore 7
                  rw [nI_2p _ (by omega), nI_or]
                  refine V_istore (L' := [_, _, _, _, _, _, _, _, _]) rfl rfl rfl ?_
                  refine V_iinc (L' := [_, _, _, _, _, _, _, _, _]) rfl rfl rfl ?_
                  refine V_goto rfl ?_
                  -- at 139: .iload 8
                  rw [show Int32.ofInt 1 = nI 1 from rfl, nI_add]
                  exact ih2
          · have he : given.testBit v = true := bI_one.mp (Decidable.of_not_not he)
            refine V_goto rfl ?_
            refine V_iinc (L' := [_, _, _, _, _, _, _, _, _]) rfl rfl rfl ?_
            refine V_goto rfl ?_
            -- at 104: .iload 6
            rw [show Int32.ofInt 1 = nI 1 from rfl, nI_add]
            refine ih h1 v7 v8 f1 ?_
            rw [gosV, if_pos he]
            exact g1
    · exact absurd (by
        intro q
        have := nI_inj (by omega) (by omega) q
        omega) hc
/-- all numberings, from nothing -/
def gall (n C : Nat) : gst := gos n C n 0 (fun _ => 0) 0 0 (2147483647, 0, fun v => v)
theorem m_numbers {S : mScr} {dep n C : Nat} {h : Hp} (hn : n ≤ 7) (hC : C < 2 ^ 21) : Cal S (dep + 10) 171 [.ref 188, .int (nI n), .int (nI C)] h (fun q h' => q = none ∧ GF 0 h h' ∧ GS h' (gall n C)) := by
  show V S (dep + 10) 171 0 [.ref 188, .int (nI n), .int (nI C), .null] [] h _
  refine V_aload_n rfl rfl rfl ?_
  refine V_ldc (v := .int (nI 2147483647)) rfl rfl ?_
  refine V_pi 6 rfl rfl rfl rfl ?_
  refine V_aload_n rfl rfl rfl ?_
  refine V_ic (v := nI 0) rfl rfl ?_
  refine V_pi 7 rfl rfl rfl rfl ?_
  refine V_ic (v := nI 0) rfl rfl ?_
  refine V_istore_n (L' := [_, _, _, _]) rfl rfl rfl ?_
  -- at 13: .iload_n 3
  have lp := loopUp (P := fun v => ∀ h1, GF 0 h h1 → h1.1 188 6 = nI 2147483647 → h1.1 188 7 = nI 0 → (∀ u, u < v → h1.1 193 u = nI u) → V S (dep + 10) 171 13 [.ref 188, .int (nI n), .int (nI C), .int (nI v)] [] h1 (fun q h' => q = none ∧ GF 0 h h' ∧ GS h' (gall n C))) 7 ?_ ?_ 0 (Nat.zero_le _)
  · refine lp _ ⟨rfl, fun b i q1 q2 q3 => ?_⟩ ?_ ?_ (fun u hu => by omega)
    · rw [wI_ne (by omega), wI_ne (by omega)]
    · rw [wI_ne (by omega), wI_same]
    · rw [wI_same]
  · intro h1 f1 e1 e2 e3
    refine V_iload_n rfl rfl ?_
    refine V_bi (v := nI 7) rfl rfl ?_
    -- at 16: .if_icmp .ge 16
    refine V_icmp_ge rfl (fun hc => ?_) (fun hc => ?_)
    · refine V_aload_n rfl rfl rfl ?_
      refine V_iload_n rfl rfl ?_
      refine V_iload_n rfl rfl ?_
      refine V_ic (v := nI 0) rfl rfl ?_
      refine V_ic (v := nI 0) rfl rfl ?_
      refine V_ic (v := nI 0) rfl rfl ?_
      -- at 38: .invokevirtual 99
      refine V_callV rfl rfl rfl rfl rfl (m_goes hn hC n _ 0 (fun _ => 0) 0 0 (2147483647, 0, fun v => v) h1 (by omega) (fun a ha => by omega) (by decide) (by decide) ⟨by decide, ?hx⟩ ⟨e1, e2, e3⟩ (by omega)) ?_
      case hx => exact fun v hv => Nat.lt_of_lt_of_le hv (by decide)
      rintro _ h3 ⟨rfl, f3, g3⟩
      refine V_return rfl rfl ?_
      exact ⟨rfl, f1.tr (Nat.le_refl _) f3, g3⟩
    · exact absurd (nI_le (Nat.le_refl _) (by omega)) hc
  · intro v hv ih h1 f1 e1 e2 e3
    refine V_iload_n rfl rfl ?_
    refine V_bi (v := nI 7) rfl rfl ?_
    -- at 16: .if_icmp .ge 16
    refine V_icmp_ge rfl (fun hc => ?_) (fun hc => ?_)
    · exact absurd hc (nI_ge hv (by decide))
    · refine V_aload_n rfl rfl rfl ?_
      refine V_getR (r := 193) rfl rfl ?_
      refine V_iload_n rfl rfl ?_
      refine V_iload_n rfl rfl ?_
      refine V_as 7 rfl rfl (by first | with_reducible rfl | assumption | exact nI_sub (by omega) | exact nI_add _ _) (by first | omega | assumption) rfl ?_
      refine V_iinc (L' := [_, _, _, _]) rfl rfl rfl ?_
      refine V_goto rfl ?_
      -- at 13: .iload_n 3
      rw [show Int32.ofInt 1 = nI 1 from rfl, nI_add]
      refine ih _ ⟨f1.1, fun b i q1 q2 q3 => ?_⟩ ?_ ?_ (fun u hu => ?_)
      · rw [wI_ne (by omega)]; exact f1.2 b i q1 q2 q3
      · rw [wI_oth (by omega)]; exact e1
      · rw [wI_oth (by omega)]; exact e2
      · by_cases e : u = v
        · subst e; rw [wI_same]
        · rw [wI_ne (by omega)]; exact e3 u (by omega)
theorem m_form {S : mScr} {dep n C : Nat} {h : Hp} (hn : n ≤ 7) (hC : C < 2 ^ 21) : Cal S (dep + 11) 172 [.ref 188, .int (nI n), .int (nI C)] h (fun q h' => q = some (.int (nI (gall n C).1)) ∧ GF 0 h h' ∧ GS h' (gall n C)) := by
  show V S (dep + 11) 172 0 [.ref 188, .int (nI n), .int (nI C)] [] h _
  refine V_aload_n rfl rfl rfl ?_
  refine V_iload_n rfl rfl ?_
  refine V_iload_n rfl rfl ?_
  -- at 3: .invokevirtual 104
  refine V_callV rfl rfl rfl rfl rfl (m_numbers hn hC) ?_
  rintro _ h3 ⟨rfl, f3, g3⟩
  show V S (dep + 11) 172 6 [.ref 188, .int (nI n), .int (nI C)] [] h3 _
  refine V_aload_n rfl rfl rfl ?_
  refine V_gi 6 rfl rfl rfl ?_
  -- at 10: .ireturn
  refine V_iret rfl rfl ?_
  exact ⟨by rw [g3.1], f3, g3⟩
