/-! the reference: what holds of its heap -/
def dS : Sl := (fun _ => 0, fun _ => 0, fun _ => [])
def MAct (h : Hp) (Hs : List Sl) : Prop := Hs.length ≤ 10 ∧ (∀ t ∈ Hs, WF t) ∧ h.1 188 3 = nI Hs.length ∧ ∀ j, j < Hs.length → ∀ k, k < 36 → h.1 191 (36 * (Hs.length - 1 - j) + k) = enc (Hs.getD j dS) k
def MAll (h : Hp) : Prop := h.1 188 24 = -1 ∨ ∃ n, n ≤ 5 ∧ h.1 188 24 = nI n ∧ h.1 188 23 = nI (fms n).length ∧ AL h 198 (fms n) ∧ (1 < n → ∀ k v, k < (fms n).length → v < n → h.1 199 (5 * k + v) = nI ((dck n ((fms n).getD k 0)).getD v 0))
def InvM (h : Hp) (st : St) : Prop := MSt h st.1 ∧ WF st.1 ∧ MAct h st.2.1 ∧ (∀ i, i < 600 → h.1 194 i = st.2.2.1 i) ∧ h.1 188 10 = nI st.2.2.2.1 ∧ st.2.2.2.1 ≤ 600 ∧ h.1 188 13 = nI st.2.2.2.2.1 ∧ st.2.2.2.2.1 ≤ 4 ∧ h.1 188 14 = st.2.2.2.2.2 ∧ MAll h
def FM (h h' : Hp) : Prop := ∀ b, b < 188 → h'.1 b = h.1 b ∧ h'.2 b = h.2 b
theorem FM.rf {h : Hp} : FM h h := fun _ _ => ⟨rfl, rfl⟩
theorem FM.tr {h h1 h2 : Hp} (a : FM h h1) (b : FM h1 h2) : FM h h2 := fun c hc => ⟨(b c hc).1.trans (a c hc).1, (b c hc).2.trans (a c hc).2⟩
theorem MF.fm {fs A : List Nat} {h h' : Hp} (f : MF fs A h h') (hA : ∀ a ∈ A, 188 ≤ a) : FM h h' := fun b hb => ⟨f.2.1 b (by omega) (fun q => by have := hA b q; omega), by rw [f.1]⟩
/-- all but the slots and decks -/
def InvR (h : Hp) (Hs : List Sl) (r : (Nat → Int32) × Nat × Nat × Int32) : Prop := MAct h Hs ∧ (∀ i, i < 600 → h.1 194 i = r.1 i) ∧ h.1 188 10 = nI r.2.1 ∧ r.2.1 ≤ 600 ∧ h.1 188 13 = nI r.2.2.1 ∧ r.2.2.1 ≤ 4 ∧ h.1 188 14 = r.2.2.2 ∧ MAll h
theorem InvM.r {h : Hp} {st : St} (hi : InvM h st) : InvR h st.2.1 st.2.2 := ⟨hi.2.2.1, hi.2.2.2⟩
theorem InvM.of {h : Hp} {st : St} (h1 : MSt h st.1) (h2 : WF st.1) (h3 : InvR h st.2.1 st.2.2) : InvM h st := ⟨h1, h2, h3.1, h3.2⟩
def okM (a : Nat) : Bool := a == 189 || a == 190 || a == 192 || a == 193 || (Nat.ble 195 a && Nat.ble a 197) || (Nat.ble 200 a && Nat.ble a 207)
def okF (i : Nat) : Bool := i == 4 || i == 6 || i == 7 || i == 11 || i == 12 || i == 15
theorem MAct.eq {h h' : Hp} {Hs : List Sl} (ha : MAct h Hs) (e1 : h'.1 188 3 = h.1 188 3) (e2 : h'.1 191 = h.1 191) : MAct h' Hs := ⟨ha.1, ha.2.1, by rw [e1]; exact ha.2.2.1, fun j hj k hk => by rw [e2]; exact ha.2.2.2 j hj k hk⟩
theorem MAll.eq {h h' : Hp} (ha : MAll h) (e1 : h'.1 188 24 = h.1 188 24) (e2 : h'.1 188 23 = h.1 188 23) (e3 : h'.1 198 = h.1 198) (e4 : h'.1 199 = h.1 199) : MAll h' := by
  rcases ha with e | ⟨n, a1, a2, a3, a4, a5⟩
  · exact Or.inl (by rw [e1]; exact e)
  · exact Or.inr ⟨n, a1, by rw [e1]; exact a2, by rw [e2]; exact a3, fun i hi => by rw [e3]; exact a4 i hi, fun h1 k v hk hv => by rw [e4]; exact a5 h1 k v hk hv⟩
theorem InvR.mf {fs A : List Nat} {h h' : Hp} {Hs : List Sl} {r : (Nat → Int32) × Nat × Nat × Int32} (hi : InvR h Hs r) (f : MF fs A h h') (hf : ∀ i ∈ fs, okF i = true) (hA : ∀ a ∈ A, okM a = true) : InvR h' Hs r := by
  obtain ⟨a1, a2, a3, a4, a5, a6, a7, a8⟩ := hi
  have no : ∀ b, b ≠ 188 → okM b = false → h'.1 b = h.1 b := fun b hb hk => f.2.1 b hb (fun q => by rw [hA b q] at hk; exact Bool.noConfusion hk)
  have nf : ∀ i, okF i = false → h'.1 188 i = h.1 188 i := fun i hk => f.2.2 i (fun q => by rw [hf i q] at hk; exact Bool.noConfusion hk)
  exact ⟨a1.eq (nf 3 rfl) (no 191 (by decide) rfl), fun i hi => by rw [no 194 (by decide) rfl]; exact a2 i hi, by rw [nf 10 rfl]; exact a3, a4, by rw [nf 13 rfl]; exact a5, a6, by rw [nf 14 rfl]; exact a7, a8.eq (nf 24 rfl) (nf 23 rfl) (no 198 (by decide) rfl) (no 199 (by decide) rfl)⟩
theorem InvR.jf {A : List Nat} {h h' : Hp} {Hs : List Sl} {r : (Nat → Int32) × Nat × Nat × Int32} (hi : InvR h Hs r) (f : JF A h h') : InvR h' Hs r := by
  obtain ⟨a1, a2, a3, a4, a5, a6, a7, a8⟩ := hi
  have e := f.1
  exact ⟨a1.eq (by rw [e]) (by rw [e]), fun i hi => by rw [e]; exact a2 i hi, by rw [e]; exact a3, a4, by rw [e]; exact a5, a6, by rw [e]; exact a7, a8.eq (by rw [e]) (by rw [e]) (by rw [e]) (by rw [e])⟩
theorem MSt.mf {fs A : List Nat} {h h' : Hp} {s : Sl} (hs : MSt h s) (f : MF fs A h h') (hA : 189 ∉ A) : MSt h' s := fun k hk => by rw [f.2.1 189 (by decide) hA]; exact hs k hk
theorem InvM.mf {fs A : List Nat} {h h' : Hp} {st : St} (hi : InvM h st) (f : MF fs A h h') (hf : ∀ i ∈ fs, okF i = true) (hA : ∀ a ∈ A, okM a = true) (h9 : 189 ∉ A) : InvM h' st := InvM.of (hi.1.mf f h9) hi.2.1 (hi.r.mf f hf hA)
def MR (h : Hp) (r : Int32 × St) : Option Value → Hp → Prop := fun q h' => q = some (.int r.1) ∧ InvM h' r.2 ∧ FM h h'
theorem m_rem0 {S : mScr} {dep : Nat} {st : St} {h : Hp} (hi : InvM h st) : Cal S dep 204 [.ref 188] h (fun q h' => q = none ∧ MSt h' st.1 ∧ InvR h' ((st.1 :: st.2.1).take 10) st.2.2 ∧ FM h h' ∧ MF [3] [191] h h') := by
  obtain ⟨hs, hw, ha, hrest⟩ := id hi
  obtain ⟨hl, hW, h3, hrow⟩ := id ha
  obtain ⟨Hs, hHs⟩ : ∃ Hs, Hs = st.2.1 := ⟨_, rfl⟩
  rw [← hHs] at hl hW h3 hrow ⊢
  have step2 : ∀ h1 m v1, m < 10 → m = min 9 Hs.length → MF [3] [191] h h1 → h1.1 188 3 = nI m → (∀ j, j < m → ∀ k, k < 36 → h1.1 191 (36 * (m - 1 - j) + k) = enc (Hs.getD j dS) k) → V S dep 204 49 [.ref 188, v1] [] h1 (fun q h' => q = none ∧ MSt h' st.1 ∧ InvR h' ((st.1 :: Hs).take 10) st.2.2 ∧ FM h h' ∧ MF [3] [191] h h') := by
    intro h1 m v1 hm hm2 f1 e1 r1
    have hs1 : ∀ h2, MF [3] [191] h h2 → MSt h2 st.1 := fun h2 f2 => hs.mf f2 (by simp)
    refine V_ic (v := nI 0) rfl rfl ?_
    refine V_istore_n (L' := [_, _]) rfl rfl rfl ?_
    -- at 51: .iload_n 1
    have lp := loopUp (P := fun k => ∀ h2, MF [3] [191] h h2 → h2.1 188 3 = nI m → (∀ i, ¬(36 * m ≤ i ∧ i < 36 * m + 36) → h2.1 191 i = h1.1 191 i) → (∀ i, i < k → h2.1 191 (36 * m + i) = enc st.1 i) → V S dep 204 51 [.ref 188, .int (nI k)] [] h2 (fun q h' => q = none ∧ MSt h' st.1 ∧ InvR h' ((st.1 :: Hs).take 10) st.2.2 ∧ FM h h' ∧ MF [3] [191] h h')) 36 ?_ ?_ 0 (Nat.zero_le _)
    · exact lp h1 f1 e1 (fun i _ => rfl) (fun i hi => by omega)
    · intro h2 f2 e2 o2 w2
      refine V_iload_n rfl rfl ?_
      refine V_bi (v := nI 36) rfl rfl ?_
      -- at 54: .if_icmp .ge 29
      refine V_icmp_ge rfl (fun hc => ?_) (fun hc => ?_)
      · refine V_aload_n rfl rfl rfl ?_
        refine V_dup rfl rfl ?_
        refine V_gi 3 rfl rfl rfl ?_
        refine V_ic (v := nI 1) rfl rfl ?_
        refine V_iadd rfl ?_
        -- at 90: .putfield 196
        rw [e2, nI_add]
        refine V_pi 3 rfl rfl rfl rfl ?_
        -- at 93: .return_
        refine V_return rfl rfl ?_
        have f3 : MF [3] [191] h (wI h2 188 3 (nI (m + 1))) := f2.tr (MF.f (by simp))
        have hlen : ((st.1 :: Hs).take 10).length = m + 1 := by rw [List.length_take, List.length_cons]; omega
        refine ⟨rfl, hs1 _ f3, ⟨⟨by omega, fun t ht => ?_, by rw [wI_same, hlen], fun j hj k hk => ?_⟩, ?_⟩, f3.fm (by simp), f3⟩
        · rcases List.mem_cons.mp (List.mem_of_mem_take ht) with q | q
          · rw [q]; exact hw
          · exact hW t q
        · rw [hlen] at hj ⊢
          rw [wI_oth (by decide), List.getD_eq_getElem?_getD, List.getElem?_take_of_lt (by omega)]
          cases j with
          | zero =>
            rw [show 36 * (m + 1 - 1 - 0) + k = 36 * m + k by omega, w2 k hk]; rfl
          | succ j =>
            rw [o2 _ (by omega), show m + 1 - 1 - (j + 1) = m - 1 - j by omega, r1 j (by omega) k hk, List.getElem?_cons_succ, ← List.getD_eq_getElem?_getD]
        · obtain ⟨a2, a3, a4, a5, a6, a7, a8⟩ := hrest
          have no : ∀ b, b ≠ 188 → b ≠ 191 → (wI h2 188 3 (nI (m + 1))).1 b = h.1 b := fun b hb hk => f3.2.1 b hb (by simp; exact hk)
          have nf : ∀ i, i ≠ 3 → (wI h2 188 3 (nI (m + 1))).1 188 i = h.1 188 i := fun i hk => f3.2.2 i (by simp; exact hk)
          exact ⟨fun i hi => by rw [no 194 (by decide) (by decide)]; exact a2 i hi, by rw [nf 10 (by decide)]; exact a3, a4, by rw [nf 13 (by decide)]; exact a5, a6, by rw [nf 14 (by decide)]; exact a7, a8.eq (nf 24 (by decide)) (nf 23 (by decide)) (no 198 (by decide) (by decide)) (no 199 (by decide) (by decide))⟩
      · exact absurd (by decide) hc
    · intro k hk ih h2 f2 e2 o2 w2
      have hs2 := hs1 h2 f2
      refine V_iload_n rfl rfl ?_
      refine V_bi (v := nI 36) rfl rfl ?_
      -- at 54: .if_icmp .ge 29
      refine V_icmp_ge rfl (fun hc => ?_) (fun hc => ?_)
      · exact absurd hc (nI_ge hk (by decide))
      · refine V_aload_n rfl rfl rfl ?_
        refine V_getR (r := 191) rfl rfl ?_
        refine V_bi (v := nI 36) rfl rfl ?_
        refine V_aload_n rfl rfl rfl ?_
        refine V_gi 3 rfl rfl rfl ?_
        refine V_imul rfl ?_
        refine V_iload_n rfl rfl ?_
        refine V_iadd rfl ?_
        -- at 70: .aload_n 0
        rw [e2, nI_mul, nI_add]
        refine V_aload_n rfl rfl rfl ?_
        refine V_getR (r := 189) rfl rfl ?_
        refine V_iload_n rfl rfl ?_
        refine V_al 36 rfl rfl (by first | with_reducible rfl | assumption | exact nI_sub (by omega) | exact nI_add _ _) (by first | omega | assumption) rfl ?_
        -- at 76: .iastore
        rw [hs2 k hk]
        refine V_as 360 rfl rfl (by first | with_reducible rfl | assumption | exact nI_sub (by omega) | exact nI_add _ _) (by first | omega | assumption) rfl ?_
        refine V_iinc (L' := [_, _]) rfl rfl rfl ?_
        refine V_goto rfl ?_
        -- at 51: .iload_n 1
        rw [show Int32.ofInt 1 = nI 1 from rfl, nI_add]
        refine ih _ (f2.tr (MF.w (by simp) (by decide))) (by rw [wI_oth (by decide)]; exact e2) (fun i hi => by rw [wI_ne (by omega)]; exact o2 i hi) (fun i hi => ?_)
        by_cases q : i = k
        · rw [q, wI_same]
        · rw [wI_ne (by omega)]; exact w2 i (by omega)
  show V S dep 204 0 [.ref 188, .null] [] h _
  refine V_aload_n rfl rfl rfl ?_
  refine V_gi 3 rfl rfl rfl ?_
  refine V_bi (v := nI 10) rfl rfl ?_
  -- at 6: .if_icmp .ne 43
  rw [h3]
  refine V_icmp_ne rfl (fun hc => ?_) (fun hc => ?_)
  · have hc : Hs.length ≠ 10 := fun q => hc (by rw [q])
    exact step2 h Hs.length _ (by omega) (by omega) MF.rf h3 hrow
  · have hc := nI_inj (by omega) (by omega) (Decidable.of_not_not hc)
    refine V_ic (v := nI 0) rfl rfl ?_
    refine V_istore_n (L' := [_, _]) rfl rfl rfl ?_
    -- at 11: .iload_n 1
    have lp := loopUp (P := fun k => ∀ h1, MF [3] [191] h h1 → h1.1 188 3 = nI 10 → (∀ i, i < k → h1.1 191 i = h.1 191 (i + 36)) → (∀ i, k ≤ i → h1.1 191 i = h.1 191 i) → V S dep 204 11 [.ref 188, .int (nI k)] [] h1 (fun q h' => q = none ∧ MSt h' st.1 ∧ InvR h' ((st.1 :: Hs).take 10) st.2.2 ∧ FM h h' ∧ MF [3] [191] h h')) 324 ?_ ?_ 0 (Nat.zero_le _)
    · exact lp h MF.rf (by rw [h3, hc]) (fun i hi => by omega) (fun i _ => rfl)
    · intro h1 f1 e1 w1 o1
      refine V_iload_n rfl rfl ?_
      refine V_si (v := nI 324) rfl rfl ?_
      -- at 15: .if_icmp .ge 24
      refine V_icmp_ge rfl (fun hd => ?_) (fun hd => ?_)
      · refine V_aload_n rfl rfl rfl ?_
        refine V_dup rfl rfl ?_
        refine V_gi 3 rfl rfl rfl ?_
        refine V_ic (v := nI 1) rfl rfl ?_
        refine V_isub rfl ?_
        -- at 46: .putfield 196
        rw [e1, nI_sub (by decide)]
        refine V_pi 3 rfl rfl rfl rfl ?_
        -- at 49: .iconst 0
        refine step2 _ 9 _ (by decide) (by omega) (f1.tr (MF.f (by simp))) wI_same (fun j hj k hk => ?_)
        rw [wI_oth (by decide), w1 _ (by omega)]
        have := hrow j (by omega) k hk
        rw [hc] at this
        rw [show 36 * (9 - 1 - j) + k + 36 = 36 * (10 - 1 - j) + k by omega]
        exact this
      · exact absurd (by decide) hd
    · intro k hk ih h1 f1 e1 w1 o1
      refine V_iload_n rfl rfl ?_
      refine V_si (v := nI 324) rfl rfl ?_
      -- at 15: .if_icmp .ge 24
      refine V_icmp_ge rfl (fun hd => ?_) (fun hd => ?_)
      · exact absurd hd (nI_ge hk (by decide))
      · refine V_aload_n rfl rfl rfl ?_
        refine V_getR (r := 191) rfl rfl ?_
        refine V_iload_n rfl rfl ?_
        refine V_aload_n rfl rfl rfl ?_
        refine V_getR (r := 191) rfl rfl ?_
        refine V_iload_n rfl rfl ?_
        refine V_bi (v := nI 36) rfl rfl ?_
        refine V_iadd rfl ?_
        -- at 31: .iaload
        rw [nI_add]
        refine V_al 360 rfl rfl (by first | with_reducible rfl | assumption | exact nI_sub (by omega) | exact nI_add _ _) (by first | omega | assumption) rfl ?_
        -- at 32: .iastore
        rw [o1 (k + 36) (by omega)]
        refine V_as 360 rfl rfl (by first | with_reducible rfl | assumption | exact nI_sub (by omega) | exact nI_add _ _) (by first | omega | assumption) rfl ?_
        refine V_iinc (L' := [_, _]) rfl rfl rfl ?_
        refine V_goto rfl ?_
        -- at 11: .iload_n 1
        rw [show Int32.ofInt 1 = nI 1 from rfl, nI_add]
        refine ih _ (f1.tr (MF.w (by simp) (by decide))) (by rw [wI_oth (by decide)]; exact e1) (fun i hi => ?_) (fun i hi => by rw [wI_ne (by omega)]; exact o1 i (by omega))
        by_cases q : i = k
        · rw [q, wI_same]
        · rw [wI_ne (by omega)]; exact w1 i (by omega)
theorem m_rem {S : mScr} {dep : Nat} {st : St} {h : Hp} (hi : InvM h st) : Cal S dep 204 [.ref 188] h (fun q h' => q = none ∧ MSt h' st.1 ∧ InvR h' ((st.1 :: st.2.1).take 10) st.2.2 ∧ FM h h') := V_imp (m_rem0 hi) (fun _ _ q => ⟨q.1, q.2.1, q.2.2.1, q.2.2.2.1⟩)
/-- behind an act -/
theorem InvM.act {fs A : List Nat} {h h1 h2 : Hp} {st : St} {s' : Sl} (h3 : InvR h1 ((st.1 :: st.2.1).take 10) st.2.2) (hm : FM h h1) (f : MF fs A h1 h2) (hf : ∀ i ∈ fs, okF i = true) (hA : ∀ a ∈ A, okM a = true) (hs : MSt h2 s') (hw : WF s') : InvM h2 (psh st s') ∧ FM h h2 := by
  refine ⟨InvM.of hs hw (h3.mf f hf hA), hm.tr (f.fm (fun a ha => ?_))⟩
  have := hA a ha
  unfold okM at this
  simp only [Bool.or_eq_true, Bool.and_eq_true, Nat.ble_eq, beq_iff_eq] at this
  omega
theorem InvM.thr {h : Hp} {st : St} (hi : InvM h st) : InvM (wI h 188 4 (nI 0)) st ∧ FM h (wI h 188 4 (nI 0)) := ⟨hi.mf (fs := [4]) (A := []) (MF.f (by simp)) (by simp; rfl) (by simp) (by simp), fun b hb => ⟨wI_oth (by omega), rfl⟩⟩
theorem bI_som {α : Type} {o : Option α} (h : ¬ bI o.isSome = 0) : ∃ x, o = some x := Option.isSome_iff_exists.mp (bI_nz.mp h)
theorem bI_non {α : Type} {o : Option α} (h : bI o.isSome = 0) : o = none := by
  have := bI_z.mp h
  cases o with
  | none => rfl
  | some x => exact Bool.noConfusion this
theorem setN_n (s : Sl) (i n C : Nat) : (setN s i n C).1 i = n := if_pos rfl
theorem setN_c (s : Sl) (i n C : Nat) : (setN s i n C).2.1 i = C := if_pos rfl
theorem y_join {S : mScr} {dep : Nat} {x a b : Int32} {st : St} {h : Hp} (hi : InvM h st) : Cal S (dep + 20) 205 [.ref 188, .int x, .int a, .int b] h (MR h (aJoin st x a b)) := by
  obtain ⟨hi0, fm0⟩ := hi.thr
  obtain ⟨h0, hh0⟩ : ∃ h0, h0 = wI h 188 4 (nI 0) := ⟨_, rfl⟩
  rw [← hh0] at hi0 fm0
  obtain ⟨hs, hw, _⟩ := id hi0
  show V S (dep + 20) 205 0 [.ref 188, .int x, .int a, .int b] [] h _
  have bad : aJoin st x a b = (-2, st) → V S (dep + 20) 205 35 [.ref 188, .int x, .int a, .int b] [] h0 (MR h (aJoin st x a b)) := by
    intro e
    rw [e]
    refine V_bi (v := -2) rfl rfl ?_
    -- at 37: .ireturn
    refine V_iret rfl rfl ?_
    exact ⟨rfl, hi0, fm0⟩
  refine V_aload_n rfl rfl rfl ?_
  refine V_ic (v := nI 0) rfl rfl ?_
  refine V_pi 4 rfl rfl rfl rfl ?_
  refine V_iload_n rfl rfl ?_
  -- at 6: .invokestatic 222
  rw [← hh0]
  refine V_cS rfl rfl rfl rfl (m_isSlot) ?_
  refine V_if_eq rfl (fun hc => ?_) (fun hc => ?_)
  · have hc := bI_non hc
    exact bad (by unfold aJoin; rw [hc])
  · obtain ⟨i, e1⟩ := bI_som hc
    obtain ⟨rfl, hi6⟩ := ix_some e1
    have hwi := hw.1 i hi6
    refine V_aload_n rfl rfl rfl ?_
    refine V_iload_n rfl rfl ?_
    refine V_iload_n rfl rfl ?_
    -- at 15: .invokevirtual 225
    refine V_cV rfl rfl rfl rfl rfl (m_isNode hs hw hi6) ?_
    refine V_if_eq rfl (fun hd => ?_) (fun hd => ?_)
    · have hd := bI_non hd
      exact bad (by unfold aJoin; rw [e1]; dsimp only; rw [hd])
    · obtain ⟨u, e2⟩ := bI_som hd
      obtain ⟨rfl, hui⟩ := ix_some e2
      refine V_aload_n rfl rfl rfl ?_
      refine V_iload_n rfl rfl ?_
      refine V_iload_n rfl rfl ?_
      -- at 24: .invokevirtual 225
      refine V_cV rfl rfl rfl rfl rfl (m_isNode hs hw hi6) ?_
      refine V_if_eq rfl (fun he => ?_) (fun he => ?_)
      · have he := bI_non he
        exact bad (by unfold aJoin; rw [e1]; dsimp only; rw [e2, he])
      · obtain ⟨v, e3⟩ := bI_som he
        obtain ⟨rfl, hvi⟩ := ix_some e3
        have ev : aJoin st (nI i) (nI u) (nI v) = if u = v then (-2, st) else (nI (pop (st.1.2.1 i ^^^ 2 ^ bt u v)), psh st (setN st.1 i (st.1.1 i) (st.1.2.1 i ^^^ 2 ^ bt u v))) := by
          unfold aJoin; rw [e1]; dsimp only; rw [e2, e3]
        refine V_iload_n rfl rfl ?_
        refine V_iload_n rfl rfl ?_
        -- at 32: .if_icmp .ne 6
        refine V_icmp_ne rfl (fun hf => ?_) (fun hf => ?_)
        · have hf : u ≠ v := fun q => hf (by rw [q])
          rw [ev, if_neg hf]
          have hbl := bt_lt' hwi.1 hf hui hvi
          have htl := tri_le hwi.1
          refine V_aload_n rfl rfl rfl ?_
          -- at 39: .invokevirtual 229
          refine V_callV rfl rfl rfl rfl rfl (m_rem hi0) ?_
          rintro _ h1 ⟨rfl, hs1, hr1, fm1⟩
          show V S (dep + 20) 205 42 [.ref 188, .int (nI i), .int (nI u), .int (nI v)] [] h1 _
          have fm1 := fm0.tr fm1
          refine V_aload_n rfl rfl rfl ?_
          refine V_getR (r := 189) rfl rfl ?_
          refine V_ic (v := nI 2) rfl rfl ?_
          refine V_iload_n rfl rfl ?_
          refine V_imul rfl ?_
          refine V_ic (v := nI 1) rfl rfl ?_
          refine V_iadd rfl ?_
          -- at 51: .dup2
          rw [nI_mul, nI_add]
          refine V_dup2 rfl rfl ?_
          refine V_al 36 rfl rfl (by first | with_reducible rfl | assumption | exact nI_sub (by omega) | exact nI_add _ _) (by first | omega | assumption) rfl ?_
          -- at 53: .iconst 1
          rw [hs1 _ (by omega), enc_c hi6]
          refine V_ic (v := nI 1) rfl rfl ?_
          refine V_iload_n rfl rfl ?_
          refine V_iload_n rfl rfl ?_
          -- at 56: .invokestatic 79
          refine V_cS rfl rfl rfl rfl (m_bit hf (by omega) (by omega)) ?_
          refine V_ishl rfl ?_
          refine V_ixor rfl ?_
          -- at 61: .iastore
          rw [nI_2p _ (by omega), nI_xor]
          have hCl : st.1.2.1 i ^^^ 2 ^ bt u v < 2 ^ tri (st.1.1 i) := flip_lt hwi.1 hwi.2 hf hui hvi
          have hs2 : MSt (wI h1 189 (2 * i + 1) (nI (st.1.2.1 i ^^^ 2 ^ bt u v))) (setN st.1 i (st.1.1 i) (st.1.2.1 i ^^^ 2 ^ bt u v)) := by
            intro k hk
            rw [enc_setN hi6 hk]
            by_cases q1 : k = 2 * i
            · rw [if_pos q1, wI_ne (by omega), hs1 k hk, q1, enc_n hi6]
            · rw [if_neg q1]
              by_cases q2 : k = 2 * i + 1
              · rw [if_pos q2, q2, wI_same]
              · rw [if_neg q2, wI_ne (by omega)]; exact hs1 k hk
          refine V_as 36 rfl rfl (by first | with_reducible rfl | assumption | exact nI_sub (by omega) | exact nI_add _ _) (by first | omega | assumption) rfl ?_
          refine V_aload_n rfl rfl rfl ?_
          refine V_iload_n rfl rfl ?_
          -- at 64: .invokevirtual 204
          refine V_cV rfl rfl rfl rfl rfl (m_code hs2 hi6) ?_
          rw [setN_c]
          refine V_cS rfl rfl rfl rfl (m_lines (Nat.lt_trans (c21 hwi.1 hCl) (by decide))) ?_
          refine V_iret rfl rfl ?_
          have := InvM.act (fs := []) (A := [189]) hr1 fm1 (MF.w (by simp) (by decide)) (by simp) (by simp; rfl) hs2 (hw.setN hwi.1 hCl)
          exact ⟨rfl, this.1, this.2⟩
        · have hf := nI_inj (by omega) (by omega) (Decidable.of_not_not hf)
          exact bad (by rw [ev, if_pos hf])
