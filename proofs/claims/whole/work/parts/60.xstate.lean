/-! the class: its state, what it keeps of acts -/
theorem V_aq {S : mScr} {dep k pc nx aux a j r : Nat} {L st : List Value} {h : Hp} {Q : Option Value → Hp → Prop} {rs : List Nat} (hp : prog k pc = some (.aaload, nx, aux)) (hs : shQ a rs = true) (hj : j < rs.length) (hl : rs.length < 2 ^ 31) (hr : rs[j]? = some r) (hr2 : Nat.blt r 1000 = true) (kk : V S dep k nx L (.ref r :: st) h Q) : V S dep k pc L (.int (nI j) :: .ref a :: st) h Q := by
  have e : (nI j).toNatClampNeg = j := nI_clamp (by omega)
  refine V_aald hp hs (inB_nI ?_ ?_) ?_ hr2 kk
  · exact nI_le (a := 0) (b := j) (Nat.zero_le _) (by omega)
  · rw [e]; exact hj
  · rw [e]; exact hr
theorem V_a1 {S : mScr} {dep k pc nx aux i : Nat} {L st : List Value} {h : Hp} {Q : Option Value → Hp → Prop} (hp : prog k pc = some (.aaload, nx, aux)) (hi : i < 6) (kk : V S dep k nx L (.ref (170 + 2 * i) :: st) h Q) : V S dep k pc L (.int (nI i) :: .ref 1 :: st) h Q := by
  refine V_aq (rs := [170, 172, 174, 176, 178, 180]) hp rfl hi (by decide) ?_ (blt_t (by omega)) kk
  rcases (by omega : i = 0 ∨ i = 1 ∨ i = 2 ∨ i = 3 ∨ i = 4 ∨ i = 5) with rfl | rfl | rfl | rfl | rfl | rfl <;> rfl
theorem V_a2 {S : mScr} {dep k pc nx aux i : Nat} {L st : List Value} {h : Hp} {Q : Option Value → Hp → Prop} (hp : prog k pc = some (.aaload, nx, aux)) (hi : i < 3) (kk : V S dep k nx L (.ref (182 + 2 * i) :: st) h Q) : V S dep k pc L (.int (nI i) :: .ref 2 :: st) h Q := by
  refine V_aq (rs := [182, 184, 186]) hp rfl hi (by decide) ?_ (blt_t (by omega)) kk
  rcases (by omega : i = 0 ∨ i = 1 ∨ i = 2) with rfl | rfl | rfl <;> rfl
theorem V_a148 {S : mScr} {dep k pc nx aux i : Nat} {L st : List Value} {h : Hp} {Q : Option Value → Hp → Prop} (hp : prog k pc = some (.aaload, nx, aux)) (hi : i < 6) (kk : V S dep k nx L (.ref (152 + 2 * i) :: st) h Q) : V S dep k pc L (.int (nI i) :: .ref 148 :: st) h Q := by
  refine V_aq (rs := [152, 154, 156, 158, 160, 162]) hp rfl hi (by decide) ?_ (blt_t (by omega)) kk
  rcases (by omega : i = 0 ∨ i = 1 ∨ i = 2 ∨ i = 3 ∨ i = 4 ∨ i = 5) with rfl | rfl | rfl | rfl | rfl | rfl <;> rfl
theorem V_a149 {S : mScr} {dep k pc nx aux i : Nat} {L st : List Value} {h : Hp} {Q : Option Value → Hp → Prop} (hp : prog k pc = some (.aaload, nx, aux)) (hi : i < 3) (kk : V S dep k nx L (.ref (164 + 2 * i) :: st) h Q) : V S dep k pc L (.int (nI i) :: .ref 149 :: st) h Q := by
  refine V_aq (rs := [164, 166, 168]) hp rfl hi (by decide) ?_ (blt_t (by omega)) kk
  rcases (by omega : i = 0 ∨ i = 1 ∨ i = 2) with rfl | rfl | rfl <;> rfl
theorem V_a36 {S : mScr} {dep k pc nx aux i : Nat} {L st : List Value} {h : Hp} {Q : Option Value → Hp → Prop} (hp : prog k pc = some (.aaload, nx, aux)) (hi : i < 53) (kk : V S dep k nx L (.ref (41 + 2 * i) :: st) h Q) : V S dep k pc L (.int (nI i) :: .ref 36 :: st) h Q := by
  refine V_aq (rs := (List.range 53).map (fun i => 41 + 2 * i)) hp (by decide +kernel) (by simpa using hi) (by simp) ?_ (blt_t (by omega)) kk
  rw [List.getElem?_map, List.getElem?_range hi]; rfl
theorem isS (i : Nat) (h : i < 6) : isNet (170 + 2 * i) = true := by
  rcases (by omega : i = 0 ∨ i = 1 ∨ i = 2 ∨ i = 3 ∨ i = 4 ∨ i = 5) with rfl | rfl | rfl | rfl | rfl | rfl <;> rfl
theorem isD (i : Nat) (h : i < 3) : isDeck (182 + 2 * i) = true := by
  rcases (by omega : i = 0 ∨ i = 1 ∨ i = 2) with rfl | rfl | rfl <;> rfl
def XSt (h : Hp) (s : Sl) : Prop := (∀ i, i < 6 → NC h (170 + 2 * i) (s.1 i) (s.2.1 i)) ∧ ∀ d, d < 3 → DK h (182 + 2 * d) (s.2.2 d)
theorem XSt.fr {A : List Nat} {h h' : Hp} {s : Sl} (hs : XSt h s) (hf : Fr A h h') (hA : ∀ a ∈ A, a < 170) : XSt h' s := ⟨fun i hi => (hs.1 i hi).fr hf (fun q => by have := hA _ q; omega) (fun q => by have := hA _ q; omega), fun d hd => (hs.2 d hd).fr hf (fun q => by have := hA _ q; omega) (fun q => by have := hA _ q; omega)⟩
/-- only a slot has changed -/
theorem XSt.setN {A : List Nat} {h h' : Hp} {s : Sl} {i n C : Nat} (hs : XSt h s) (hi : i < 6) (hN : NC h' (170 + 2 * i) n C) (hf : Fr A h h') (hA : ∀ a ∈ A, a < 170 ∨ a = 170 + 2 * i ∨ a = 171 + 2 * i) : XSt h' (setN s i n C) := by
  refine ⟨fun j hj => ?_, fun d hd => (hs.2 d hd).fr hf (fun q => by have := hA _ q; omega) (fun q => by have := hA _ q; omega)⟩
  show NC h' (170 + 2 * j) (updN s.1 i n j) (updN s.2.1 i C j)
  unfold updN
  by_cases e : j = i
  · rw [if_pos e, if_pos e, e]; exact hN
  · rw [if_neg e, if_neg e]
    exact (hs.1 j hj).fr hf (fun q => by have := hA _ q; omega) (fun q => by have := hA _ q; omega)
theorem XSt.setD {A : List Nat} {h h' : Hp} {s : Sl} {d : Nat} {cs : List Nat} (hs : XSt h s) (hd : d < 3) (hD : DK h' (182 + 2 * d) cs) (hf : Fr A h h') (hA : ∀ a ∈ A, a < 170 ∨ a = 182 + 2 * d ∨ a = 183 + 2 * d) : XSt h' (setD s d cs) := by
  refine ⟨fun j hj => (hs.1 j hj).fr hf (fun q => by have := hA _ q; omega) (fun q => by have := hA _ q; omega), fun e he => ?_⟩
  show DK h' (182 + 2 * e) (if e = d then cs else s.2.2 e)
  by_cases q : e = d
  · rw [if_pos q, q]; exact hD
  · rw [if_neg q]
    exact (hs.2 e he).fr hf (fun q => by have := hA _ q; omega) (fun q => by have := hA _ q; omega)
def RowD (h : Hp) (r : Nat) (s t : Sl) : Prop := (∃ i, i < 6 ∧ h.1 5 (10 * r) = nI 0 ∧ h.1 5 (10 * r + 1) = nI i ∧ h.1 5 (10 * r + 2) = nI (t.1 i) ∧ (∀ v, v < 7 → h.1 5 (10 * r + 3 + v) = nI (rowOf (t.1 i) (t.2.1 i) v)) ∧ t = setN s i (t.1 i) (t.2.1 i)) ∨ ∃ d, d < 3 ∧ h.1 5 (10 * r) = nI 1 ∧ h.1 5 (10 * r + 1) = nI d ∧ h.1 5 (10 * r + 2) = nI (t.2.2 d).length ∧ (∀ k, k < (t.2.2 d).length → h.1 5 (10 * r + 3 + k) = nI ((t.2.2 d).getD k 0)) ∧ t = setD s d (t.2.2 d)
def XH (h : Hp) : Nat → Sl → List Sl → Prop
  | _, _, [] => True
  | p, s, t :: ts => RowD h ((p + 9) % 10) s t ∧ XH h ((p + 9) % 10) t ts
theorem RowD.fr {h h' : Hp} {r : Nat} {s t : Sl} (hr : RowD h r s t) (e : ∀ j, j < 10 → h'.1 5 (10 * r + j) = h.1 5 (10 * r + j)) (hl : ∀ d, d < 3 → (t.2.2 d).length ≤ 7) : RowD h' r s t := by
  have e0 := e 0 (by omega)
  rcases hr with ⟨i, h1, h2, h3, h4, h5, h6⟩ | ⟨d, h1, h2, h3, h4, h5, h6⟩
  · left
    refine ⟨i, h1, ?_, ?_, ?_, fun v hv => ?_, h6⟩
    · rw [← h2]; exact e 0 (by omega)
    · rw [← h3]; exact e 1 (by omega)
    · rw [← h4]; exact e 2 (by omega)
    · rw [← h5 v hv, Nat.add_assoc]; exact e (3 + v) (by omega)
  · right
    have := hl d h1
    refine ⟨d, h1, ?_, ?_, ?_, fun v hv => ?_, h6⟩
    · rw [← h2]; exact e 0 (by omega)
    · rw [← h3]; exact e 1 (by omega)
    · rw [← h4]; exact e 2 (by omega)
    · rw [← h5 v hv, Nat.add_assoc]; exact e (3 + v) (by omega)
/-- rows other than those of the latest acts may change -/
theorem XH.fr {h h' : Hp} : ∀ (ts : List Sl) (p : Nat) (s : Sl), p < 10 → XH h p s ts → (∀ q, q < 10 → (∃ m, 1 ≤ m ∧ m ≤ ts.length ∧ q = (p + 10 - m) % 10) → ∀ j, j < 10 → h'.1 5 (10 * q + j) = h.1 5 (10 * q + j)) → ts.length ≤ 10 → (∀ t ∈ ts, WF t) → XH h' p s ts := by
  intro ts
  induction ts with
  | nil => intro p s _ _ _ _ _; trivial
  | cons t ts ih =>
    intro p s hp hx he hl hw
    obtain ⟨h1, h2⟩ := hx
    have hll : ts.length + 1 ≤ 10 := hl
    refine ⟨h1.fr (he _ (by omega) ⟨1, by omega, by simp, by omega⟩) (fun d hd => (hw t (by simp)).dl hd), ih _ t (by omega) h2 (fun q hq hm => ?_) (by omega) (fun u hu => hw u (by simp [hu]))⟩
    obtain ⟨m, hm1, hm2, hm3⟩ := hm
    exact he q hq ⟨m + 1, by omega, by simp; omega, by omega⟩
theorem XH.take {h : Hp} : ∀ (ts : List Sl) (p : Nat) (s : Sl) (m : Nat), XH h p s ts → XH h p s (ts.take m) := by
  intro ts
  induction ts with
  | nil => intro p s m h; rw [List.take_nil]; trivial
  | cons t ts ih =>
    intro p s m hx
    cases m with
    | zero => trivial
    | succ m => exact ⟨hx.1, ih _ _ m hx.2⟩
def XHist (h : Hp) (s : Sl) (Hs : List Sl) : Prop := Hs.length ≤ 10 ∧ (∀ t ∈ Hs, WF t) ∧ h.1 4 2 = nI Hs.length ∧ ∃ p, p < 10 ∧ h.1 4 1 = nI p ∧ XH h p s Hs
theorem XHist.fr {A : List Nat} {h h' : Hp} {s : Sl} {Hs : List Sl} (hx : XHist h s Hs) (hf : Fr A h h') (h4 : 4 ∉ A) (h5 : 5 ∉ A) : XHist h' s Hs := by
  obtain ⟨a, b, c, p, hp, d, e⟩ := hx
  refine ⟨a, b, by rw [hf.1 4 h4]; exact c, p, hp, by rw [hf.1 4 h4]; exact d, e.fr Hs p s hp (fun q _ _ j _ => by rw [hf.1 5 h5]) a b⟩
/-- what keep leaves behind -/
theorem hist_keep {h h' : Hp} {s : Sl} {Hs : List Sl} {p : Nat} (hw : WF s) (hp : p < 10) (hl : Hs.length ≤ 10) (hW : ∀ t ∈ Hs, WF t) (hx : XH h p s Hs) (e4 : h'.1 4 1 = nI ((p + 1) % 10)) (e5 : h'.1 4 2 = nI (min 10 (Hs.length + 1))) (eo : ∀ j, ¬(10 * p ≤ j ∧ j < 10 * p + 10) → h'.1 5 j = h.1 5 j) {s' : Sl} (hr : RowD h' p s' s) : XHist h' s' ((s :: Hs).take 10) := by
  have hlen : ((s :: Hs).take 10).length = min 10 (Hs.length + 1) := by rw [List.length_take]; rfl
  refine ⟨by rw [hlen]; omega, fun t ht => ?_, by rw [hlen]; exact e5, (p + 1) % 10, by omega, e4, ?_⟩
  · rcases List.mem_cons.mp (List.mem_of_mem_take ht) with q | q
    · rw [q]; exact hw
    · exact hW t q
  · rw [List.take_succ_cons]
    have e9 : ((p + 1) % 10 + 9) % 10 = p := by omega
    refine ⟨by rw [e9]; exact hr, ?_⟩
    rw [e9]
    refine XH.fr (h := h) (Hs.take 9) p s hp (XH.take Hs p s 9 hx) (fun q hq hm j hj => ?_) (by rw [List.length_take]; omega) (fun t ht => hW t (List.mem_of_mem_take ht))
    obtain ⟨m, m1, m2, m3⟩ := hm
    rw [List.length_take] at m2
    refine eo _ (fun z => ?_)
    have : q = p := by omega
    omega
theorem c_keep0 {S : mScr} {dep kd i n p m a : Nat} {h : Hp} (hp : p < 10) (hm : m ≤ 10) (h1 : h.1 4 1 = nI p) (h2 : h.1 4 2 = nI m) (ha : shA a 0 7 = true) (hab : Nat.blt a 1020 = true) (ha4 : a ≠ 4) (ha5 : a ≠ 5) : Cal S (dep + 1) 45 [.ref 4, .int (nI kd), .int (nI i), .int (nI n), .ref a] h (fun q h' => q = none ∧ Fr [4, 5] h h' ∧ h'.1 4 1 = nI ((p + 1) % 10) ∧ h'.1 4 2 = nI (min 10 (m + 1)) ∧ h'.1 5 (10 * p) = nI kd ∧ h'.1 5 (10 * p + 1) = nI i ∧ h'.1 5 (10 * p + 2) = nI n ∧ (∀ v, v < 7 → h'.1 5 (10 * p + 3 + v) = h.1 a v) ∧ ∀ j, ¬(10 * p ≤ j ∧ j < 10 * p + 10) → h'.1 5 j = h.1 5 j) := by
  show V S (dep + 1) 45 0 [.ref 4, .int (nI kd), .int (nI i), .int (nI n), .ref a, .null] [] h _
  refine V_aload_n rfl rfl rfl ?_
  refine V_gi 1 rfl rfl rfl ?_
  refine V_bi (v := nI 10) rfl rfl ?_
  refine V_imul rfl ?_
  -- at 7: .istore 5
  rw [h1, nI_mul]
  refine V_istore (L' := [_, _, _, _, _, _]) rfl rfl rfl ?_
  refine V_aload_n rfl rfl rfl ?_
  refine V_getR (r := 5) rfl rfl ?_
  refine V_iload rfl rfl ?_
  refine V_iload_n rfl rfl ?_
  refine V_as 100 rfl rfl (by first | with_reducible rfl | assumption | exact nI_sub (by omega) | exact nI_add _ _) (by first | omega | assumption) rfl ?_
  refine V_aload_n rfl rfl rfl ?_
  refine V_getR (r := 5) rfl rfl ?_
  refine V_iload rfl rfl ?_
  refine V_ic (v := nI 1) rfl rfl ?_
  refine V_iadd rfl ?_
  -- at 25: .iload_n 2
  rw [nI_add]
  refine V_iload_n rfl rfl ?_
  refine V_as 100 rfl rfl (by first | with_reducible rfl | assumption | exact nI_sub (by omega) | exact nI_add _ _) (by first | omega | assumption) rfl ?_
  refine V_aload_n rfl rfl rfl ?_
  refine V_getR (r := 5) rfl rfl ?_
  refine V_iload rfl rfl ?_
  refine V_ic (v := nI 2) rfl rfl ?_
  refine V_iadd rfl ?_
  -- at 35: .iload_n 3
  rw [nI_add]
  refine V_iload_n rfl rfl ?_
  refine V_as 100 rfl rfl (by first | with_reducible rfl | assumption | exact nI_sub (by omega) | exact nI_add _ _) (by first | omega | assumption) rfl ?_
  refine V_aload rfl rfl (by first | assumption | rfl) ?_
  refine V_ic (v := nI 0) rfl rfl ?_
  refine V_aload_n rfl rfl rfl ?_
  refine V_getR (r := 5) rfl rfl ?_
  refine V_iload rfl rfl ?_
  refine V_ic (v := nI 3) rfl rfl ?_
  refine V_iadd rfl ?_
  -- at 48: .bipush 7
  rw [nI_add]
  refine V_bi (v := nI 7) rfl rfl ?_
  -- at 50: .invokestatic 38
  have e0 : (nI 0).toNatClampNeg = 0 := rfl
  have e7 : (nI 7).toNatClampNeg = 7 := rfl
  have e3 : (nI (p * 10 + 3)).toNatClampNeg = p * 10 + 3 := nI_clamp (by omega)
  refine V_copy (a := a) (b := 5) (n0 := 7) (n1 := 100) rfl ha rfl (by decide) (by exact nI_nlt (a := p * 10 + 3) (b := 0) (by omega) (by omega)) (by decide) (by decide) (by rw [e3, e7]; omega) rfl rfl ?_
  rw [e0, e7, e3]
  refine V_aload_n rfl rfl rfl ?_
  refine V_aload_n rfl rfl rfl ?_
  refine V_gi 1 rfl rfl rfl ?_
  refine V_ic (v := nI 1) rfl rfl ?_
  refine V_iadd rfl ?_
  -- at 60: .bipush 10
  rw [wA_oth (by decide), wI_oth (by decide), wI_oth (by decide), wI_oth (by decide), h1, nI_add]
  refine V_bi (v := nI 10) rfl rfl ?_
  refine V_irem rfl (by first | assumption | decide | omega) ?_
  -- at 63: .putfield 15
  rw [nI_rem (by omega) (by decide) (by decide)]
  refine V_pi 1 rfl rfl rfl rfl ?_
  refine V_aload_n rfl rfl rfl ?_
  refine V_bi (v := nI 10) rfl rfl ?_
  refine V_aload_n rfl rfl rfl ?_
  refine V_gi 2 rfl rfl rfl ?_
  refine V_ic (v := nI 1) rfl rfl ?_
  refine V_iadd rfl ?_
  -- at 75: .invokestatic 44
  rw [wI_ne (by decide), wA_oth (by decide), wI_oth (by decide), wI_oth (by decide), wI_oth (by decide), h2, nI_add]
  refine V_min rfl rfl rfl ?_
  rw [nI_min (by omega) (by omega)]
  refine V_pi 2 rfl rfl rfl rfl ?_
  -- at 81: .return_
  refine V_return rfl rfl ?_
  refine ⟨rfl, ?_, ?_, ?_, ?_, ?_, ?_, fun v hv => ?_, fun j hj => ?_⟩
  · exact ((((((Fr.w (by simp)).tr (Fr.w (by simp))).tr (Fr.w (by simp))).tr (Fr.wr (by simp))).tr (Fr.w (by simp))).tr (Fr.w (by simp)))
  · rw [wI_ne (by omega), wI_same]
  · rw [wI_same]
  · rw [wI_oth (by decide), wI_oth (by decide), wA_row]
    unfold va_cpy
    rw [if_neg (by omega), wI_ne (by omega), wI_ne (by omega), show 10 * p = p * 10 by omega, wI_same]
  · rw [wI_oth (by decide), wI_oth (by decide), wA_row]
    unfold va_cpy
    rw [if_neg (by omega), wI_ne (by omega), show 10 * p + 1 = p * 10 + 1 by omega, wI_same]
  · rw [wI_oth (by decide), wI_oth (by decide), wA_row]
    unfold va_cpy
    rw [if_neg (by omega), show 10 * p + 2 = p * 10 + 2 by omega, wI_same]
  · rw [wI_oth (by decide), wI_oth (by decide), wA_row]
    unfold va_cpy
    rw [if_pos (by omega), show 0 + (10 * p + 3 + v - (p * 10 + 3)) = v by omega, wI_oth (by omega), wI_oth (by omega), wI_oth (by omega)]
  · rw [wI_oth (by decide), wI_oth (by decide), wA_row]
    unfold va_cpy
    rw [if_neg (by omega), wI_ne (by omega), wI_ne (by omega), wI_ne (by omega)]
theorem c_keepN {S : mScr} {dep i : Nat} {s : Sl} {Hs : List Sl} {h : Hp} (hs : XSt h s) (hw : WF s) (hx : XHist h s Hs) (hi : i < 6) : Cal S (dep + 2) 43 [.ref 4, .int (nI i), .ref (170 + 2 * i)] h (fun q h' => q = none ∧ Fr [4, 5] h h' ∧ ∀ s', s = setN s' i (s.1 i) (s.2.1 i) → XHist h' s' ((s :: Hs).take 10)) := by
  obtain ⟨hl, hW, h2, p, hp, h1, hX⟩ := hx
  have hn := isS i hi
  have hb1 := net_b hn
  have hb2 := net_b1 hn
  obtain ⟨⟨_, hn7, hn0, hng, _⟩, _⟩ := hs.1 i hi
  show V S (dep + 2) 43 0 [.ref 4, .int (nI i), .ref (170 + 2 * i)] [] h _
  refine V_aload_n rfl rfl rfl ?_
  refine V_ic (v := nI 0) rfl rfl ?_
  refine V_iload_n rfl rfl ?_
  refine V_aload_n rfl rfl (by first | assumption | rfl) ?_
  refine V_gi 0 rfl (net_sz (by first | assumption | rfl)) rfl ?_
  refine V_aload_n rfl rfl (by first | assumption | rfl) ?_
  refine V_getR rfl (net_nr (by first | assumption | rfl)) ?_
  -- at 11: .invokevirtual 28
  rw [hn0]
  refine V_callV rfl rfl rfl rfl rfl (c_keep0 hp hl h1 h2 (net_ar hn) hb2 (by omega) (by omega)) ?_
  rintro _ h3 ⟨rfl, f3, a1, a2, a3, a4, a5, a6, a7⟩
  refine V_return rfl rfl ?_
  refine ⟨rfl, f3, fun s' hs' => hist_keep hw hp hl hW hX a1 a2 a7 (Or.inl ⟨i, hi, a3, a4, a5, fun v hv => ?_, hs'⟩)⟩
  rw [a6 v hv]; exact hng v hv
theorem c_keepD {S : mScr} {dep d : Nat} {s : Sl} {Hs : List Sl} {h : Hp} (hs : XSt h s) (hw : WF s) (hx : XHist h s Hs) (hd : d < 3) : Cal S (dep + 2) 44 [.ref 4, .int (nI d), .ref (182 + 2 * d)] h (fun q h' => q = none ∧ Fr [4, 5] h h' ∧ ∀ s', s = setD s' d (s.2.2 d) → XHist h' s' ((s :: Hs).take 10)) := by
  obtain ⟨hl, hW, h2, p, hp, h1, hX⟩ := hx
  have hn := isD d hd
  have hb1 := deck_b hn
  have hb2 := deck_b1 hn
  obtain ⟨_, hd7, hd0, hdA, _⟩ := hs.2 d hd
  show V S (dep + 2) 44 0 [.ref 4, .int (nI d), .ref (182 + 2 * d)] [] h _
  refine V_aload_n rfl rfl rfl ?_
  refine V_ic (v := nI 1) rfl rfl ?_
  refine V_iload_n rfl rfl ?_
  refine V_aload_n rfl rfl (by first | assumption | rfl) ?_
  refine V_gi 0 rfl (deck_sz (by first | assumption | rfl)) rfl ?_
  refine V_aload_n rfl rfl (by first | assumption | rfl) ?_
  refine V_getR rfl (deck_cd (by first | assumption | rfl)) ?_
  -- at 11: .invokevirtual 28
  rw [hd0]
  refine V_callV rfl rfl rfl rfl rfl (c_keep0 hp hl h1 h2 (deck_ar hn) hb2 (by omega) (by omega)) ?_
  rintro _ h3 ⟨rfl, f3, a1, a2, a3, a4, a5, a6, a7⟩
  refine V_return rfl rfl ?_
  refine ⟨rfl, f3, fun s' hs' => hist_keep hw hp hl hW hX a1 a2 a7 (Or.inr ⟨d, hd, a3, a4, a5, fun v hv => ?_, hs'⟩)⟩
  rw [a6 v (by omega)]; exact hdA v hv
