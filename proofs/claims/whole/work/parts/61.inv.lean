/-! the whole state, and what holds of the two heaps -/
abbrev St : Type := Sl × List Sl × (Nat → Int32) × Nat × Nat × Int32
def fms (n : Nat) : List Nat := (List.range (2 ^ tri n)).filter (fun C => decide (frm n C = C))
def frsT : List Nat := [0, 1, 2, 4, 8, 19, 53]
def fmsT : List Nat := [0, 0, 0, 1, 0, 1, 3, 7, 0, 1, 3, 7, 11, 12, 13, 15, 30, 31, 63, 0, 1, 3, 7, 11, 12, 13, 15, 30, 31, 63, 75, 76, 77, 79, 86, 87, 94, 95, 116, 117, 119, 127, 222, 223, 235, 236, 237, 239, 254, 255, 507, 511, 1023]
def szT (i : Nat) : Nat := if i < 8 then 3 else if i < 19 then 4 else 5
def SNs (h : Hp) : Prop := h.1 33 5 = nI 0 ∨ (h.1 33 5 = nI 1 ∧ ∀ i, 4 ≤ i → i < 53 → DK h (41 + 2 * i) (dck (szT i) (fmsT.getD i 0)))
def InvX (h : Hp) (st : St) : Prop := XSt h st.1 ∧ WF st.1 ∧ XHist h st.1 st.2.1 ∧ (∀ i, i < 600 → h.1 3 i = st.2.2.1 i) ∧ h.1 0 3 = nI st.2.2.2.1 ∧ st.2.2.2.1 ≤ 600 ∧ h.1 0 4 = nI st.2.2.2.2.1 ∧ st.2.2.2.2.1 ≤ 4 ∧ h.1 0 5 = st.2.2.2.2.2 ∧ SNs h
def okX (a : Nat) : Bool := (Nat.ble 6 a && Nat.ble a 32) || a == 34 || a == 35 || (Nat.ble 37 a && Nat.ble a 40) || (Nat.ble 147 a && Nat.ble a 169)
theorem okX_iff {a : Nat} (h : okX a = true) : (6 ≤ a ∧ a ≤ 32) ∨ a = 34 ∨ a = 35 ∨ (37 ≤ a ∧ a ≤ 40) ∨ (147 ≤ a ∧ a ≤ 169) := by
  unfold okX at h
  simp only [Bool.or_eq_true, Bool.and_eq_true, Nat.ble_eq, beq_iff_eq] at h
  omega
theorem SNs.fr {A : List Nat} {h h' : Hp} (hs : SNs h) (hf : Fr A h h') (h33 : 33 ∉ A) (hA : ∀ a ∈ A, ¬(49 ≤ a ∧ a ≤ 146)) : SNs h' := by
  rcases hs with e | ⟨e, hd⟩
  · exact Or.inl (by rw [hf.1 33 h33]; exact e)
  · exact Or.inr ⟨by rw [hf.1 33 h33]; exact e, fun i h1 h2 => (hd i h1 h2).fr hf (fun q => by have := hA _ q; omega) (fun q => by have := hA _ q; omega)⟩
theorem InvX.fr {A : List Nat} {h h' : Hp} {st : St} (hi : InvX h st) (hf : Fr A h h') (hA : ∀ a ∈ A, okX a = true) : InvX h' st := by
  obtain ⟨a1, a2, a3, a4, a5, a6, a7, a8, a9, a10⟩ := hi
  have no : ∀ b, okX b = false → b ∉ A := fun b hb q => by rw [hA b q] at hb; exact Bool.noConfusion hb
  refine ⟨a1.fr hf (fun a ha => by have := okX_iff (hA a ha); omega), a2, a3.fr hf (no 4 rfl) (no 5 rfl), fun i hi => by rw [hf.1 3 (no 3 rfl)]; exact a4 i hi, by rw [hf.1 0 (no 0 rfl)]; exact a5, a6, by rw [hf.1 0 (no 0 rfl)]; exact a7, a8, by rw [hf.1 0 (no 0 rfl)]; exact a9, a10.fr hf (no 33 rfl) (fun a ha => by have := okX_iff (hA a ha); omega)⟩
def FX (h h' : Hp) : Prop := ∀ b, 188 ≤ b → h'.1 b = h.1 b ∧ h'.2 b = h.2 b
theorem FX.rf {h : Hp} : FX h h := fun _ _ => ⟨rfl, rfl⟩
theorem FX.tr {h h1 h2 : Hp} (a : FX h h1) (b : FX h1 h2) : FX h h2 := fun c hc => ⟨(b c hc).1.trans (a c hc).1, (b c hc).2.trans (a c hc).2⟩
theorem Fr.fx {A : List Nat} {h h' : Hp} (f : Fr A h h') (hA : ∀ a ∈ A, a < 188) : FX h h' := fun b hb => ⟨f.1 b (fun q => by have := hA b q; omega), by rw [f.2]⟩
theorem Fr.fo {A : List Nat} {h h' : Hp} (f : Fr A h h') (hA : ∀ a ∈ A, okX a = true) : FX h h' := f.fx (fun a ha => by have := okX_iff (hA a ha); omega)
/-- an act: the state before it is kept -/
def psh (st : St) (s' : Sl) : St := (s', (st.1 :: st.2.1).take 10, st.2.2)
theorem WF.setN {s : Sl} {i n C : Nat} (hw : WF s) (hn : n ≤ 7) (hC : C < 2 ^ tri n) : WF (setN s i n C) := by
  refine ⟨fun j hj => ?_, hw.2⟩
  show updN s.1 i n j ≤ 7 ∧ updN s.2.1 i C j < 2 ^ tri (updN s.1 i n j)
  unfold updN
  by_cases e : j = i
  · rw [if_pos e, if_pos e]; exact ⟨hn, hC⟩
  · rw [if_neg e, if_neg e]; exact hw.1 j hj
theorem WF.setD {s : Sl} {d : Nat} {cs : List Nat} (hw : WF s) (hc : WD cs) : WF (setD s d cs) := by
  refine ⟨hw.1, fun e he => ?_⟩
  show (if e = d then cs else s.2.2 e) = [] ∨ WD (if e = d then cs else s.2.2 e)
  by_cases q : e = d
  · rw [if_pos q]; exact Or.inr hc
  · rw [if_neg q]; exact hw.2 e he
theorem setN_back (s : Sl) (i n C : Nat) : s = setN (setN s i n C) i (s.1 i) (s.2.1 i) := by
  unfold setN
  obtain ⟨a, b, c⟩ := s
  have e1 : updN (updN a i n) i (a i) = a := by
    funext j; unfold updN
    by_cases q : j = i
    · rw [if_pos q, q]
    · rw [if_neg q, if_neg q]
  have e2 : updN (updN b i C) i (b i) = b := by
    funext j; unfold updN
    by_cases q : j = i
    · rw [if_pos q, q]
    · rw [if_neg q, if_neg q]
  dsimp only
  rw [e1, e2]
theorem setD_back (s : Sl) (d : Nat) (cs : List Nat) : s = setD (setD s d cs) d (s.2.2 d) := by
  unfold setD
  obtain ⟨a, b, c⟩ := s
  have e1 : (fun e => if e = d then c d else (if e = d then cs else c e)) = c := by
    funext e
    by_cases q : e = d
    · rw [if_pos q, q]
    · rw [if_neg q, if_neg q]
  dsimp only
  rw [e1]
/-- an act on a slot -/
theorem InvX.actN {A : List Nat} {h h1 h2 : Hp} {st : St} {i n C : Nat} (hi : InvX h st) (h6 : i < 6) (f1 : Fr [4, 5] h h1) (hk : ∀ s', st.1 = setN s' i (st.1.1 i) (st.1.2.1 i) → XHist h1 s' ((st.1 :: st.2.1).take 10)) (f2 : Fr A h1 h2) (hA : ∀ a ∈ A, okX a = true ∨ a = 170 + 2 * i ∨ a = 171 + 2 * i) (hN : NC h2 (170 + 2 * i) n C) : InvX h2 (psh st (setN st.1 i n C)) ∧ FX h h2 := by
  obtain ⟨a1, a2, a3, a4, a5, a6, a7, a8, a9, a10⟩ := hi
  have no : ∀ b, b < 170 → okX b = false → b ∉ A := fun b hb hf q => by
    rcases hA b q with e | e
    · rw [e] at hf; exact Bool.noConfusion hf
    · omega
  have nA : ∀ a ∈ A, a < 170 ∨ a = 170 + 2 * i ∨ a = 171 + 2 * i := fun a ha => by
    rcases hA a ha with e | e
    · have := okX_iff e; omega
    · omega
  have f12 : ∀ b, b ≠ 4 → b ≠ 5 → b < 170 → okX b = false → h2.1 b = h.1 b := fun b h4 h5 hb hf => by rw [f2.1 b (no b hb hf), f1.1 b (by simp; omega)]
  refine ⟨⟨(a1.fr f1 (by simp)).setN h6 hN f2 nA, a2.setN hN.1.2.1 hN.2, (hk _ (setN_back _ _ _ _)).fr f2 (no 4 (by decide) rfl) (no 5 (by decide) rfl), fun j hj => ?_, ?_, a6, ?_, a8, ?_, ?_⟩, ?_⟩
  · rw [f12 3 (by decide) (by decide) (by decide) rfl]; exact a4 j hj
  · rw [f12 0 (by decide) (by decide) (by decide) rfl]; exact a5
  · rw [f12 0 (by decide) (by decide) (by decide) rfl]; exact a7
  · rw [f12 0 (by decide) (by decide) (by decide) rfl]; exact a9
  · exact (a10.fr f1 (by simp) (by simp)).fr f2 (no 33 (by decide) rfl) (fun a ha => by
      rcases hA a ha with e | e
      · have := okX_iff e; omega
      · omega)
  · exact (f1.fx (by simp)).tr (f2.fx (fun a ha => by have := nA a ha; omega))
theorem InvX.actD {A : List Nat} {h h1 h2 : Hp} {st : St} {d : Nat} {cs : List Nat} (hi : InvX h st) (h3 : d < 3) (f1 : Fr [4, 5] h h1) (hk : ∀ s', st.1 = setD s' d (st.1.2.2 d) → XHist h1 s' ((st.1 :: st.2.1).take 10)) (f2 : Fr A h1 h2) (hA : ∀ a ∈ A, okX a = true ∨ a = 182 + 2 * d ∨ a = 183 + 2 * d) (hD : DK h2 (182 + 2 * d) cs) (hW : WD cs) : InvX h2 (psh st (setD st.1 d cs)) ∧ FX h h2 := by
  obtain ⟨a1, a2, a3, a4, a5, a6, a7, a8, a9, a10⟩ := hi
  have no : ∀ b, b < 170 → okX b = false → b ∉ A := fun b hb hf q => by
    rcases hA b q with e | e
    · rw [e] at hf; exact Bool.noConfusion hf
    · omega
  have nA : ∀ a ∈ A, a < 170 ∨ a = 182 + 2 * d ∨ a = 183 + 2 * d := fun a ha => by
    rcases hA a ha with e | e
    · have := okX_iff e; omega
    · omega
  have f12 : ∀ b, b ≠ 4 → b ≠ 5 → b < 170 → okX b = false → h2.1 b = h.1 b := fun b h4 h5 hb hf => by rw [f2.1 b (no b hb hf), f1.1 b (by simp; omega)]
  refine ⟨⟨(a1.fr f1 (by simp)).setD h3 hD f2 nA, a2.setD hW, (hk _ (setD_back _ _ _)).fr f2 (no 4 (by decide) rfl) (no 5 (by decide) rfl), fun j hj => ?_, ?_, a6, ?_, a8, ?_, ?_⟩, ?_⟩
  · rw [f12 3 (by decide) (by decide) (by decide) rfl]; exact a4 j hj
  · rw [f12 0 (by decide) (by decide) (by decide) rfl]; exact a5
  · rw [f12 0 (by decide) (by decide) (by decide) rfl]; exact a7
  · rw [f12 0 (by decide) (by decide) (by decide) rfl]; exact a9
  · exact (a10.fr f1 (by simp) (by simp)).fr f2 (no 33 (by decide) rfl) (fun a ha => by
      rcases hA a ha with e | e
      · have := okX_iff e; omega
      · omega)
  · exact (f1.fx (by simp)).tr (f2.fx (fun a ha => by have := nA a ha; omega))
theorem c_rest {S : mScr} {dep : Nat} {s t : Sl} {ts : List Sl} {h : Hp} (hs : XSt h s) (hx : XHist h s (t :: ts)) : Cal S (dep + 1) 46 [.ref 4, .ref 1, .ref 2] h (fun q h' => q = none ∧ XSt h' t ∧ XHist h' t ts ∧ ∃ A, Fr A h h' ∧ ∀ a ∈ A, a = 4 ∨ (170 ≤ a ∧ a < 188)) := by
  obtain ⟨hl, hW, h2, p, hp, h1, hR, hX⟩ := hx
  have hll : ts.length + 1 ≤ 10 := hl
  have h2 : h.1 4 2 = nI (ts.length + 1) := h2
  have hwt := hW t (by simp)
  have e0 : (nI 0).toNatClampNeg = 0 := rfl
  have e7 : (nI 7).toNatClampNeg = 7 := rfl
  obtain ⟨r, hr⟩ : ∃ r, r = (p + 9) % 10 := ⟨_, rfl⟩
  rw [← hr] at hR hX
  have hr10 : r < 10 := by omega
  have e3 : (nI (r * 10 + 3)).toNatClampNeg = r * 10 + 3 := nI_clamp (by omega)
  show V S (dep + 1) 46 0 [.ref 4, .ref 1, .ref 2, .null, .null] [] h _
  refine V_aload_n rfl rfl rfl ?_
  refine V_gi 2 rfl rfl rfl ?_
  -- at 4: .ifCond .gt 4
  rw [h2]
  refine V_if_gt rfl (fun hc => ?_) (fun hc => ?_)
  · refine V_aload_n rfl rfl rfl ?_
    refine V_dup rfl rfl ?_
    refine V_gi 2 rfl rfl rfl ?_
    refine V_ic (v := nI 1) rfl rfl ?_
    refine V_isub rfl ?_
    -- at 15: .putfield 19
    rw [h2, nI_sub (by omega), show ts.length + 1 - 1 = ts.length by omega]
    refine V_pi 2 rfl rfl rfl rfl ?_
    refine V_aload_n rfl rfl rfl ?_
    refine V_aload_n rfl rfl rfl ?_
    refine V_gi 1 rfl rfl rfl ?_
    refine V_bi (v := nI 10) rfl rfl ?_
    refine V_iadd rfl ?_
    refine V_ic (v := nI 1) rfl rfl ?_
    refine V_isub rfl ?_
    -- at 28: .bipush 10
    rw [wI_ne (by decide), h1, nI_add, nI_sub (by omega)]
    refine V_bi (v := nI 10) rfl rfl ?_
    refine V_irem rfl (by first | assumption | decide | omega) ?_
    -- at 31: .putfield 15
    rw [nI_rem (by omega) (by decide) (by decide), show (p + 10 - 1) % 10 = r by omega]
    refine V_pi 1 rfl rfl rfl rfl ?_
    refine V_aload_n rfl rfl rfl ?_
    refine V_gi 1 rfl rfl rfl ?_
    refine V_bi (v := nI 10) rfl rfl ?_
    refine V_imul rfl ?_
    -- at 41: .istore_n 3
    rw [wI_same, nI_mul]
    refine V_istore_n (L' := [_, _, _, _, _]) rfl rfl rfl ?_
    refine V_aload_n rfl rfl rfl ?_
    refine V_getR (r := 5) rfl rfl ?_
    refine V_iload_n rfl rfl ?_
    refine V_ic (v := nI 1) rfl rfl ?_
    refine V_iadd rfl ?_
    -- at 49: .iaload
    rw [nI_add]
    obtain ⟨h3, hh3⟩ : ∃ h3, h3 = wI (wI h 4 2 (nI ts.length)) 4 1 (nI r) := ⟨_, rfl⟩
    rw [← hh3]
    have f3 : Fr [4] h h3 := by rw [hh3]; exact (Fr.w (by simp)).tr (Fr.w (by simp))
    have e31 : h3.1 4 1 = nI r := by rw [hh3, wI_same]
    have e32 : h3.1 4 2 = nI ts.length := by rw [hh3, wI_ne (by decide), wI_same]
    have e5 : h3.1 5 = h.1 5 := f3.1 5 (by simp)
    have hist : ∀ h4 A, Fr A h3 h4 → (∀ a ∈ A, 170 ≤ a) → XHist h4 t ts := by
      intro h4 A f4 hA
      have n4 : 4 ∉ A := fun q => by have := hA 4 q; omega
      have n5 : 5 ∉ A := fun q => by have := hA 5 q; omega
      refine ⟨by omega, fun u hu => hW u (by simp [hu]), by rw [f4.1 4 n4]; exact e32, r, hr10, by rw [f4.1 4 n4]; exact e31, hX.fr ts r t hr10 (fun q _ _ j _ => by rw [f4.1 5 n5, e5]) (by omega) (fun u hu => hW u (by simp [hu]))⟩
    rcases hR with ⟨i, hi, b1, b2, b3, b4, b5⟩ | ⟨d, hd, b1, b2, b3, b4, b5⟩
    · rw [show 10 * r = r * 10 by omega] at b1 b2 b3 b4
      have hn := isS i hi
      have hb1 := net_b hn
      have hb2 := net_b1 hn
      have hwi := hwt.1 i hi
      refine V_al 100 rfl rfl (by first | with_reducible rfl | assumption | exact nI_sub (by omega) | exact nI_add _ _) (by first | omega | assumption) rfl ?_
      -- at 50: .istore 4
      rw [e5, b2]
      refine V_istore (L' := [_, _, _, _, _]) rfl rfl rfl ?_
      refine V_aload_n rfl rfl rfl ?_
      refine V_getR (r := 5) rfl rfl ?_
      refine V_iload_n rfl rfl ?_
      refine V_al 100 rfl rfl (by first | with_reducible rfl | assumption | exact nI_sub (by omega) | exact nI_add _ _) (by first | omega | assumption) rfl ?_
      -- at 58: .ifCond .ne 53
      rw [e5, b1]
      refine V_if_ne rfl (fun hd => ?_) (fun hd => ?_)
      · exact absurd rfl hd
      · refine V_iload rfl rfl ?_
        -- at 63: .ifCond .lt 48
        refine V_if_lt rfl (fun he => ?_) (fun he => ?_)
        · exact absurd he (nI_nlt (a := i) (b := 0) (by omega) (by omega))
        · refine V_iload rfl rfl ?_
          refine V_aload_n rfl rfl rfl ?_
          refine V_qlen (rs := [170, 172, 174, 176, 178, 180]) rfl rfl rfl ?_
          -- at 70: .if_icmp .ge 41
          refine V_icmp_ge rfl (fun hf => ?_) (fun hf => ?_)
          · exact absurd (show nI 6 ≤ nI i from hf) (nI_ge hi (by omega))
          · refine V_aload_n rfl rfl rfl ?_
            refine V_iload rfl rfl ?_
            refine V_a1 rfl (by first | omega | assumption) ?_
            refine V_aload_n rfl rfl rfl ?_
            refine V_getR (r := 5) rfl rfl ?_
            refine V_iload_n rfl rfl ?_
            refine V_ic (v := nI 2) rfl rfl ?_
            refine V_iadd rfl ?_
            -- at 84: .iaload
            rw [nI_add]
            refine V_al 100 rfl rfl (by first | with_reducible rfl | assumption | exact nI_sub (by omega) | exact nI_add _ _) (by first | omega | assumption) rfl ?_
            -- at 85: .putfield 22
            rw [e5, b3]
            refine V_pi 0 rfl (net_sz (by first | assumption | rfl)) rfl rfl ?_
            refine V_aload_n rfl rfl rfl ?_
            refine V_getR (r := 5) rfl rfl ?_
            refine V_iload_n rfl rfl ?_
            refine V_ic (v := nI 3) rfl rfl ?_
            refine V_iadd rfl ?_
            -- at 95: .aload_n 1
            rw [nI_add]
            refine V_aload_n rfl rfl rfl ?_
            refine V_iload rfl rfl ?_
            refine V_a1 rfl (by first | omega | assumption) ?_
            refine V_getR rfl (net_nr (by first | assumption | rfl)) ?_
            refine V_ic (v := nI 0) rfl rfl ?_
            refine V_bi (v := nI 7) rfl rfl ?_
            -- at 105: .invokestatic 38
            have nn : 170 + 2 * i ≠ 5 := by omega
            refine V_copy (a := 5) (b := 170 + 2 * i + 1) (n0 := 100) (n1 := 7) rfl rfl (net_ar hn) (by exact nI_nlt (a := r * 10 + 3) (b := 0) (by omega) (by omega)) (by decide) (by decide) (by rw [e3, e7]; omega) (by decide) rfl rfl ?_
            rw [e0, e7, e3]
            refine V_goto rfl ?_
            -- at 168: .return_
            refine V_return rfl rfl ?_
            have f4 : Fr [170 + 2 * i, 171 + 2 * i] h3 (wA (wI h3 (170 + 2 * i) 0 (nI (t.1 i))) (170 + 2 * i + 1) (va_cpy ((wI h3 (170 + 2 * i) 0 (nI (t.1 i))).1 5) ((wI h3 (170 + 2 * i) 0 (nI (t.1 i))).1 (170 + 2 * i + 1)) (r * 10 + 3) 0 7)) := (Fr.w (by simp)).tr (Fr.wr (by simp; omega))
            refine ⟨rfl, ?_, hist _ _ f4 (by simp; omega), [4, 170 + 2 * i, 171 + 2 * i], (f3.mono (by simp)).tr (f4.mono (by simp)), by simp; omega⟩
            refine (congrArg (XSt _) b5).mpr ?_
            refine (hs.fr f3 (by simp)).setN hi ⟨⟨hn, hwi.1, ?_, fun v hv => ?_, fun v => row128 hwi.1⟩, hwi.2⟩ f4 (by simp)
            · rw [wA_oth (by omega), wI_same]
            · rw [wA_row]
              unfold va_cpy
              rw [if_pos (by omega), show r * 10 + 3 + (v - 0) = r * 10 + 3 + v by omega, wI_oth (by omega), e5]
              exact b4 v hv
    · rw [show 10 * r = r * 10 by omega] at b1 b2 b3 b4
      have hn := isD d hd
      have hb1 := deck_b hn
      have hb2 := deck_b1 hn
      have hwd := hwt.dl hd
      refine V_al 100 rfl rfl (by first | with_reducible rfl | assumption | exact nI_sub (by omega) | exact nI_add _ _) (by first | omega | assumption) rfl ?_
      -- at 50: .istore 4
      rw [e5, b2]
      refine V_istore (L' := [_, _, _, _, _]) rfl rfl rfl ?_
      refine V_aload_n rfl rfl rfl ?_
      refine V_getR (r := 5) rfl rfl ?_
      refine V_iload_n rfl rfl ?_
      refine V_al 100 rfl rfl (by first | with_reducible rfl | assumption | exact nI_sub (by omega) | exact nI_add _ _) (by first | omega | assumption) rfl ?_
      -- at 58: .ifCond .ne 53
      rw [e5, b1]
      refine V_if_ne rfl (fun hd2 => ?_) (fun hd2 => ?_)
      · refine V_aload_n rfl rfl rfl ?_
        refine V_getR (r := 5) rfl rfl ?_
        refine V_iload_n rfl rfl ?_
        refine V_al 100 rfl rfl (by first | with_reducible rfl | assumption | exact nI_sub (by omega) | exact nI_add _ _) (by first | omega | assumption) rfl ?_
        refine V_ic (v := nI 1) rfl rfl ?_
        -- at 118: .if_icmp .ne 50
        rw [e5, b1]
        refine V_icmp_ne rfl (fun hd3 => ?_) (fun hd3 => ?_)
        · exact absurd rfl hd3
        · refine V_iload rfl rfl ?_
          -- at 123: .ifCond .lt 45
          refine V_if_lt rfl (fun he => ?_) (fun he => ?_)
          · exact absurd he (nI_nlt (a := d) (b := 0) (by omega) (by omega))
          · refine V_iload rfl rfl ?_
            refine V_aload_n rfl rfl rfl ?_
            refine V_qlen (rs := [182, 184, 186]) rfl rfl rfl ?_
            -- at 130: .if_icmp .ge 38
            refine V_icmp_ge rfl (fun hf => ?_) (fun hf => ?_)
            · exact absurd (show nI 3 ≤ nI d from hf) (nI_ge hd (by omega))
            · refine V_aload_n rfl rfl rfl ?_
              refine V_iload rfl rfl ?_
              refine V_a2 rfl (by first | omega | assumption) ?_
              refine V_aload_n rfl rfl rfl ?_
              refine V_getR (r := 5) rfl rfl ?_
              refine V_iload_n rfl rfl ?_
              refine V_ic (v := nI 2) rfl rfl ?_
              refine V_iadd rfl ?_
              -- at 144: .iaload
              rw [nI_add]
              refine V_al 100 rfl rfl (by first | with_reducible rfl | assumption | exact nI_sub (by omega) | exact nI_add _ _) (by first | omega | assumption) rfl ?_
              -- at 145: .putfield 32
              rw [e5, b3]
              refine V_pi 0 rfl (deck_sz (by first | assumption | rfl)) rfl rfl ?_
              refine V_aload_n rfl rfl rfl ?_
              refine V_getR (r := 5) rfl rfl ?_
              refine V_iload_n rfl rfl ?_
              refine V_ic (v := nI 3) rfl rfl ?_
              refine V_iadd rfl ?_
              -- at 155: .aload_n 2
              rw [nI_add]
              refine V_aload_n rfl rfl rfl ?_
              refine V_iload rfl rfl ?_
              refine V_a2 rfl (by first | omega | assumption) ?_
              refine V_getR rfl (deck_cd (by first | assumption | rfl)) ?_
              refine V_ic (v := nI 0) rfl rfl ?_
              refine V_bi (v := nI 7) rfl rfl ?_
              -- at 165: .invokestatic 38
              refine V_copy (a := 5) (b := 182 + 2 * d + 1) (n0 := 100) (n1 := 7) rfl rfl (deck_ar hn) (by exact nI_nlt (a := r * 10 + 3) (b := 0) (by omega) (by omega)) (by decide) (by decide) (by rw [e3, e7]; omega) (by decide) rfl rfl ?_
              rw [e0, e7, e3]
              refine V_return rfl rfl ?_
              have f4 : Fr [182 + 2 * d, 183 + 2 * d] h3 (wA (wI h3 (182 + 2 * d) 0 (nI (t.2.2 d).length)) (182 + 2 * d + 1) (va_cpy ((wI h3 (182 + 2 * d) 0 (nI (t.2.2 d).length)).1 5) ((wI h3 (182 + 2 * d) 0 (nI (t.2.2 d).length)).1 (182 + 2 * d + 1)) (r * 10 + 3) 0 7)) := (Fr.w (by simp)).tr (Fr.wr (by simp; omega))
              refine ⟨rfl, ?_, hist _ _ f4 (by simp; omega), [4, 182 + 2 * d, 183 + 2 * d], (f3.mono (by simp)).tr (f4.mono (by simp)), by simp; omega⟩
              refine (congrArg (XSt _) b5).mpr ?_
              refine (hs.fr f3 (by simp)).setD hd ⟨hn, hwd, ?_, fun v hv => ?_, fun x hx => ?_⟩ f4 (by simp)
              · rw [wA_oth (by omega), wI_same]
              · rw [wA_row]
                unfold va_cpy
                rw [if_pos (by omega), show r * 10 + 3 + (v - 0) = r * 10 + 3 + v by omega, wI_oth (by omega), e5]
                exact b4 v hv
              · rcases hwt.2 d hd with q | q
                · rw [q] at hx; simp at hx
                · exact c21 (by have := q.2.1; omega) (q.2.2.2 x hx).1
      · exact absurd (Decidable.of_not_not hd2) (by decide)
  · exact absurd (nI_lt (a := 0) (by omega) (by omega)) hc
