/-! THE HEAP BEHIND THE TWO CONSTRUCTORS: its shape stays; what its cells hold is an Hp -/
abbrev mS : Type := Nat × Nat × List Nat
set_option maxRecDepth 100000 in
def shT : Lean.RArray mS :=
  .branch 104 (.branch 52 (.branch 26 (.branch 13 (.branch 6 (.branch 3 (.branch 1 (.leaf (3, 11, [1, 2, 3, 0, 0, 0, 4, 6, 10, 13, 20, 25, 33, 147])) (.branch 2 (.leaf (2, 3, [170, 172, 174, 176, 178, 180])) (.leaf (2, 4, [182, 184, 186])))) (.branch 4 (.leaf (0, 1, [600])) (.branch 5 (.leaf (3, 4, [5, 0, 0])) (.leaf (0, 0, [100]))))) (.branch 9 (.branch 7 (.leaf (3, 3, [7, 8, 9, 0])) (.branch 8 (.leaf (0, 0, [49])) (.leaf (0, 0, [7])))) (.branch 11 (.branch 10 (.leaf (0, 0, [7])) (.leaf (3, 9, [11, 12]))) (.branch 12 (.leaf (0, 0, [7])) (.leaf (0, 0, [7])))))) (.branch 19 (.branch 16 (.branch 14 (.leaf (3, 2, [6, 14, 16, 17, 18, 19])) (.branch 15 (.leaf (3, 6, [0, 15])) (.leaf (0, 0, [7])))) (.branch 17 (.leaf (0, 0, [128])) (.branch 18 (.leaf (0, 0, [49])) (.leaf (0, 0, [49]))))) (.branch 22 (.branch 20 (.leaf (1, 2, [49])) (.branch 21 (.leaf (3, 0, [6, 21, 23])) (.leaf (3, 6, [0, 22])))) (.branch 24 (.branch 23 (.leaf (0, 0, [7])) (.leaf (3, 5, [0, 24]))) (.branch 25 (.leaf (0, 0, [21])) (.leaf (3, 8, [20, 13, 26, 28, 30, 31, 32, 0]))))))) (.branch 39 (.branch 32 (.branch 29 (.branch 27 (.leaf (3, 6, [0, 27])) (.branch 28 (.leaf (0, 0, [7])) (.leaf (3, 6, [0, 29])))) (.branch 30 (.leaf (0, 0, [7])) (.branch 31 (.leaf (0, 0, [7])) (.leaf (0, 0, [4]))))) (.branch 35 (.branch 33 (.leaf (0, 0, [64])) (.branch 34 (.leaf (3, 7, [20, 34, 36, 37, 39, 0])) (.leaf (3, 6, [0, 35])))) (.branch 37 (.branch 36 (.leaf (0, 0, [7])) (.leaf (2, 4, [41, 43, 45, 47, 49, 51, 53, 55, 57, 59, 61, 63, 65, 67, 69, 71, 73, 75, 77, 79, 81, 83, 85, 87, 89, 91, 93, 95, 97, 99, 101, 103, 105, 107, 109, 111, 113, 115, 117, 119, 121, 123, 125, 127, 129, 131, 133, 135, 137, 139, 141, 143, 145]))) (.branch 38 (.leaf (3, 1, [0, 38])) (.leaf (0, 0, [7])))))) (.branch 45 (.branch 42 (.branch 40 (.leaf (3, 5, [0, 40])) (.branch 41 (.leaf (0, 0, [21])) (.leaf (3, 1, [0, 42])))) (.branch 43 (.leaf (0, 0, [7])) (.branch 44 (.leaf (3, 1, [0, 44])) (.leaf (0, 0, [7]))))) (.branch 48 (.branch 46 (.leaf (3, 1, [0, 46])) (.branch 47 (.leaf (0, 0, [7])) (.leaf (3, 1, [0, 48])))) (.branch 50 (.branch 49 (.leaf (0, 0, [7])) (.leaf (3, 1, [0, 50]))) (.branch 51 (.leaf (0, 0, [7])) (.leaf (3, 1, [0, 52])))))))) (.branch 78 (.branch 65 (.branch 58 (.branch 55 (.branch 53 (.leaf (0, 0, [7])) (.branch 54 (.leaf (3, 1, [0, 54])) (.leaf (0, 0, [7])))) (.branch 56 (.leaf (3, 1, [0, 56])) (.branch 57 (.leaf (0, 0, [7])) (.leaf (3, 1, [0, 58]))))) (.branch 61 (.branch 59 (.leaf (0, 0, [7])) (.branch 60 (.leaf (3, 1, [0, 60])) (.leaf (0, 0, [7])))) (.branch 63 (.branch 62 (.leaf (3, 1, [0, 62])) (.leaf (0, 0, [7]))) (.branch 64 (.leaf (3, 1, [0, 64])) (.leaf (0, 0, [7])))))) (.branch 71 (.branch 68 (.branch 66 (.leaf (3, 1, [0, 66])) (.branch 67 (.leaf (0, 0, [7])) (.leaf (3, 1, [0, 68])))) (.branch 69 (.leaf (0, 0, [7])) (.branch 70 (.leaf (3, 1, [0, 70])) (.leaf (0, 0, [7]))))) (.branch 74 (.branch 72 (.leaf (3, 1, [0, 72])) (.branch 73 (.leaf (0, 0, [7])) (.leaf (3, 1, [0, 74])))) (.branch 76 (.branch 75 (.leaf (0, 0, [7])) (.leaf (3, 1, [0, 76]))) (.branch 77 (.leaf (0, 0, [7])) (.leaf (3, 1, [0, 78]))))))) (.branch 91 (.branch 84 (.branch 81 (.branch 79 (.leaf (0, 0, [7])) (.branch 80 (.leaf (3, 1, [0, 80])) (.leaf (0, 0, [7])))) (.branch 82 (.leaf (3, 1, [0, 82])) (.branch 83 (.leaf (0, 0, [7])) (.leaf (3, 1, [0, 84]))))) (.branch 87 (.branch 85 (.leaf (0, 0, [7])) (.branch 86 (.leaf (3, 1, [0, 86])) (.leaf (0, 0, [7])))) (.branch 89 (.branch 88 (.leaf (3, 1, [0, 88])) (.leaf (0, 0, [7]))) (.branch 90 (.leaf (3, 1, [0, 90])) (.leaf (0, 0, [7])))))) (.branch 97 (.branch 94 (.branch 92 (.leaf (3, 1, [0, 92])) (.branch 93 (.leaf (0, 0, [7])) (.leaf (3, 1, [0, 94])))) (.branch 95 (.leaf (0, 0, [7])) (.branch 96 (.leaf (3, 1, [0, 96])) (.leaf (0, 0, [7]))))) (.branch 100 (.branch 98 (.leaf (3, 1, [0, 98])) (.branch 99 (.leaf (0, 0, [7])) (.leaf (3, 1, [0, 100])))) (.branch 102 (.branch 101 (.leaf (0, 0, [7])) (.leaf (3, 1, [0, 102]))) (.branch 103 (.leaf (0, 0, [7])) (.leaf (3, 1, [0, 104]))))))))) (.branch 156 (.branch 130 (.branch 117 (.branch 110 (.branch 107 (.branch 105 (.leaf (0, 0, [7])) (.branch 106 (.leaf (3, 1, [0, 106])) (.leaf (0, 0, [7])))) (.branch 108 (.leaf (3, 1, [0, 108])) (.branch 109 (.leaf (0, 0, [7])) (.leaf (3, 1, [0, 110]))))) (.branch 113 (.branch 111 (.leaf (0, 0, [7])) (.branch 112 (.leaf (3, 1, [0, 112])) (.leaf (0, 0, [7])))) (.branch 115 (.branch 114 (.leaf (3, 1, [0, 114])) (.leaf (0, 0, [7]))) (.branch 116 (.leaf (3, 1, [0, 116])) (.leaf (0, 0, [7])))))) (.branch 123 (.branch 120 (.branch 118 (.leaf (3, 1, [0, 118])) (.branch 119 (.leaf (0, 0, [7])) (.leaf (3, 1, [0, 120])))) (.branch 121 (.leaf (0, 0, [7])) (.branch 122 (.leaf (3, 1, [0, 122])) (.leaf (0, 0, [7]))))) (.branch 126 (.branch 124 (.leaf (3, 1, [0, 124])) (.branch 125 (.leaf (0, 0, [7])) (.leaf (3, 1, [0, 126])))) (.branch 128 (.branch 127 (.leaf (0, 0, [7])) (.leaf (3, 1, [0, 128]))) (.branch 129 (.leaf (0, 0, [7])) (.leaf (3, 1, [0, 130]))))))) (.branch 143 (.branch 136 (.branch 133 (.branch 131 (.leaf (0, 0, [7])) (.branch 132 (.leaf (3, 1, [0, 132])) (.leaf (0, 0, [7])))) (.branch 134 (.leaf (3, 1, [0, 134])) (.branch 135 (.leaf (0, 0, [7])) (.leaf (3, 1, [0, 136]))))) (.branch 139 (.branch 137 (.leaf (0, 0, [7])) (.branch 138 (.leaf (3, 1, [0, 138])) (.leaf (0, 0, [7])))) (.branch 141 (.branch 140 (.leaf (3, 1, [0, 140])) (.leaf (0, 0, [7]))) (.branch 142 (.leaf (3, 1, [0, 142])) (.leaf (0, 0, [7])))))) (.branch 149 (.branch 146 (.branch 144 (.leaf (3, 1, [0, 144])) (.branch 145 (.leaf (0, 0, [7])) (.leaf (3, 1, [0, 146])))) (.branch 147 (.leaf (0, 0, [7])) (.branch 148 (.leaf (3, 10, [148, 149, 0, 0, 0, 6, 150, 3, 0, 0, 0, 0])) (.leaf (2, 3, [152, 154, 156, 158, 160, 162]))))) (.branch 152 (.branch 150 (.leaf (2, 4, [164, 166, 168])) (.branch 151 (.leaf (3, 6, [0, 151])) (.leaf (0, 0, [7])))) (.branch 154 (.branch 153 (.leaf (3, 6, [0, 153])) (.leaf (0, 0, [7]))) (.branch 155 (.leaf (3, 6, [0, 155])) (.leaf (0, 0, [7])))))))) (.branch 182 (.branch 169 (.branch 162 (.branch 159 (.branch 157 (.leaf (3, 6, [0, 157])) (.branch 158 (.leaf (0, 0, [7])) (.leaf (3, 6, [0, 159])))) (.branch 160 (.leaf (0, 0, [7])) (.branch 161 (.leaf (3, 6, [0, 161])) (.leaf (0, 0, [7]))))) (.branch 165 (.branch 163 (.leaf (3, 6, [0, 163])) (.branch 164 (.leaf (0, 0, [7])) (.leaf (3, 1, [0, 165])))) (.branch 167 (.branch 166 (.leaf (0, 0, [7])) (.leaf (3, 1, [0, 167]))) (.branch 168 (.leaf (0, 0, [7])) (.leaf (3, 1, [0, 169])))))) (.branch 175 (.branch 172 (.branch 170 (.leaf (0, 0, [7])) (.branch 171 (.leaf (3, 6, [0, 171])) (.leaf (0, 0, [7])))) (.branch 173 (.leaf (3, 6, [0, 173])) (.branch 174 (.leaf (0, 0, [7])) (.leaf (3, 6, [0, 175]))))) (.branch 178 (.branch 176 (.leaf (0, 0, [7])) (.branch 177 (.leaf (3, 6, [0, 177])) (.leaf (0, 0, [7])))) (.branch 180 (.branch 179 (.leaf (3, 6, [0, 179])) (.leaf (0, 0, [7]))) (.branch 181 (.leaf (3, 6, [0, 181])) (.leaf (0, 0, [7]))))))) (.branch 195 (.branch 188 (.branch 185 (.branch 183 (.leaf (3, 1, [0, 183])) (.branch 184 (.leaf (0, 0, [7])) (.leaf (3, 1, [0, 185])))) (.branch 186 (.leaf (0, 0, [7])) (.branch 187 (.leaf (3, 1, [0, 187])) (.leaf (0, 0, [7]))))) (.branch 191 (.branch 189 (.leaf (3, 12, [189, 190, 191, 0, 0, 192, 0, 0, 193, 194, 0, 0, 0, 0, 0, 0, 195, 196, 197, 198, 199, 200, 201, 0, 0, 202, 203, 204, 205, 206, 207])) (.branch 190 (.leaf (0, 0, [36])) (.leaf (0, 0, [36])))) (.branch 193 (.branch 192 (.leaf (0, 0, [360])) (.leaf (0, 0, [7]))) (.branch 194 (.leaf (0, 0, [7])) (.leaf (0, 1, [600])))))) (.branch 201 (.branch 198 (.branch 196 (.leaf (0, 0, [7])) (.branch 197 (.leaf (0, 0, [7])) (.leaf (0, 0, [7])))) (.branch 199 (.leaf (0, 0, [34])) (.branch 200 (.leaf (0, 0, [170])) (.leaf (0, 0, [21]))))) (.branch 204 (.branch 202 (.leaf (0, 0, [21])) (.branch 203 (.leaf (0, 0, [7])) (.leaf (1, 2, [8])))) (.branch 206 (.branch 205 (.leaf (1, 2, [49])) (.leaf (1, 2, [49]))) (.branch 207 (.leaf (0, 0, [64])) (.leaf (0, 0, [7])))))))))
abbrev Hp : Type := (Nat → Nat → Int32) × (Nat → Nat → Int64)
def cellF (h : Hp) (a i r : Nat) : Value := bif Nat.beq r 0 then .int (h.1 a i) else .ref r
def cellOf (h : Hp) (a : Nat) (e : mS) : mC := match e.1 with
  | 0 => .inl (e.2.1, e.2.2.getD 0 0, .inl (h.1 a))
  | 1 => .inl (2, e.2.2.getD 0 0, .inr (.inl (h.2 a)))
  | 2 => .inl (e.2.1, e.2.2.length, .inr (.inr (e.2.2.map some)))
  | _ => .inr (e.2.1, e.2.2.mapIdx (cellF h a))
def Gof (h : Hp) : mH := (List.range 208).map fun a => cellOf h a (shT.get a)
theorem Gof_len (h : Hp) : (Gof h).length = 208 := by simp [Gof]
theorem Gof_at {h : Hp} {a : Nat} (ha : a < 208) : (Gof h)[a]? = some (cellOf h a (shT.get a)) := by
  unfold Gof
  rw [List.getElem?_map, List.getElem?_range ha]; rfl
theorem Gof_set {h h' : Hp} {a : Nat} {q : mC} (hq : q = cellOf h' a (shT.get a)) (ho : ∀ b, b ≠ a → cellOf h' b (shT.get b) = cellOf h b (shT.get b)) : (Gof h).set a q = Gof h' := by
  apply List.ext_getElem?
  intro i
  rw [List.getElem?_set, Gof_len]
  by_cases hi : a = i
  · subst hi
    rw [if_pos rfl]
    by_cases hl : a < 208
    · rw [if_pos hl, Gof_at hl, hq]
    · rw [if_neg hl, List.getElem?_eq_none (by rw [Gof_len]; omega)]
  · rw [if_neg hi]
    by_cases hl : i < 208
    · rw [Gof_at hl, Gof_at hl, ho i (fun q => hi q.symm)]
    · rw [List.getElem?_eq_none (by rw [Gof_len]; omega), List.getElem?_eq_none (by rw [Gof_len]; omega)]
/-- the int field aux of the object a -/
def shI (a aux : Nat) : Bool := Nat.blt a 208 && Nat.blt aux 5000 && (match shT.get a with
  | (3, ci, fs) => Nat.beq ci (aux / 100) && Nat.beq (fs.getD (aux % 100) 1) 0
  | _ => false)
/-- the reference field aux of the object a -/
def shR (a aux r : Nat) : Bool := Nat.blt a 208 && Nat.blt aux 5000 && Nat.blt 0 r && (match shT.get a with
  | (3, ci, fs) => Nat.beq ci (aux / 100) && Nat.beq (fs.getD (aux % 100) 0) r
  | _ => false)
/-- an int or byte array of n at a -/
def shA (a t n : Nat) : Bool := Nat.blt a 208 && (match shT.get a with
  | (0, t', [n']) => Nat.beq t t' && Nat.beq n n'
  | _ => false)
def shJ (a n : Nat) : Bool := Nat.blt a 208 && (match shT.get a with
  | (1, _, [n']) => Nat.beq n n'
  | _ => false)
/-- an array of references -/
def shQ (a : Nat) (rs : List Nat) : Bool := Nat.blt a 208 && (match shT.get a with
  | (2, t, rs') => (Nat.beq t 3 || Nat.beq t 4) && decide (rs = rs')
  | _ => false)
/-- an object's class -/
def shC (a ci : Nat) : Bool := Nat.blt a 208 && (match shT.get a with
  | (3, ci', _) => Nat.beq ci ci'
  | _ => false)
def isNet (a : Nat) : Bool := shC a 6
def isDeck (a : Nat) : Bool := shC a 1
def isLD (a : Nat) : Bool := shC a 5
theorem net_all : ∀ a, a < 208 → isNet a = true → shI a 600 = true ∧ shR a 601 (a + 1) = true ∧ shA (a + 1) 0 7 = true ∧ 0 < a ∧ a < 200 := by decide +kernel
theorem deck_all : ∀ a, a < 208 → isDeck a = true → shI a 100 = true ∧ shR a 101 (a + 1) = true ∧ shA (a + 1) 0 7 = true ∧ 0 < a ∧ a < 200 := by decide +kernel
theorem ld_all : ∀ a, a < 208 → isLD a = true → shI a 500 = true ∧ shR a 501 (a + 1) = true ∧ shA (a + 1) 0 21 = true ∧ 0 < a ∧ a < 200 := by decide +kernel
theorem shC_lt {a ci : Nat} (h : shC a ci = true) : a < 208 := by
  unfold shC at h
  rw [Bool.and_eq_true] at h
  exact blt_l h.1
theorem net_sz {a : Nat} (h : isNet a = true) : shI a 600 = true := (net_all a (shC_lt h) h).1
theorem net_nr {a : Nat} (h : isNet a = true) : shR a 601 (a + 1) = true := (net_all a (shC_lt h) h).2.1
theorem net_ar {a : Nat} (h : isNet a = true) : shA (a + 1) 0 7 = true := (net_all a (shC_lt h) h).2.2.1
theorem net_lt {a : Nat} (h : isNet a = true) : 0 < a ∧ a < 200 := (net_all a (shC_lt h) h).2.2.2
theorem deck_sz {a : Nat} (h : isDeck a = true) : shI a 100 = true := (deck_all a (shC_lt h) h).1
theorem deck_cd {a : Nat} (h : isDeck a = true) : shR a 101 (a + 1) = true := (deck_all a (shC_lt h) h).2.1
theorem deck_ar {a : Nat} (h : isDeck a = true) : shA (a + 1) 0 7 = true := (deck_all a (shC_lt h) h).2.2.1
theorem deck_lt {a : Nat} (h : isDeck a = true) : 0 < a ∧ a < 200 := (deck_all a (shC_lt h) h).2.2.2
theorem ld_sz {a : Nat} (h : isLD a = true) : shI a 500 = true := (ld_all a (shC_lt h) h).1
theorem ld_fm {a : Nat} (h : isLD a = true) : shR a 501 (a + 1) = true := (ld_all a (shC_lt h) h).2.1
theorem ld_ar {a : Nat} (h : isLD a = true) : shA (a + 1) 0 21 = true := (ld_all a (shC_lt h) h).2.2.1
theorem ld_lt {a : Nat} (h : isLD a = true) : 0 < a ∧ a < 200 := (ld_all a (shC_lt h) h).2.2.2
theorem shI_eq {h : Hp} {a aux : Nat} (hs : shI a aux = true) : aux < 5000 ∧ ∃ fs, (Gof h)[a]? = some (.inr (aux / 100, fs)) ∧ fs[aux % 100]? = some (.int (h.1 a (aux % 100))) ∧ (∀ v, fs.set (aux % 100) v = (((shT.get a).2.2.mapIdx (cellF h a)).set (aux % 100) v)) ∧ (shT.get a).1 = 3 ∧ (shT.get a).2.1 = aux / 100 ∧ (shT.get a).2.2[aux % 100]? = some 0 := by
  unfold shI at hs
  simp only [Bool.and_eq_true] at hs
  obtain ⟨⟨h1, h0⟩, h2⟩ := hs
  have e1 := Gof_at (h := h) (blt_l h1)
  generalize shT.get a = e at h2 e1
  obtain ⟨t, ci, fs⟩ := e
  split at h2
  · rename_i x ci' fs' heq
    cases heq
    rw [Bool.and_eq_true] at h2
    have c1 := Nat.eq_of_beq_eq_true h2.1
    have c2 := Nat.eq_of_beq_eq_true h2.2
    subst c1
    have c3 : fs[aux % 100]? = some 0 := by
      rw [List.getD_eq_getElem?_getD] at c2
      cases hq : fs[aux % 100]? with
      | none => rw [hq] at c2; cases c2
      | some z => rw [hq] at c2; exact congrArg some c2
    refine ⟨blt_l h0, _, e1, ?_, fun v => rfl, rfl, rfl, c3⟩
    rw [List.getElem?_mapIdx, c3]; rfl
  · cases h2
theorem shR_eq {h : Hp} {a aux r : Nat} (hs : shR a aux r = true) : aux < 5000 ∧ ∃ fs, (Gof h)[a]? = some (.inr (aux / 100, fs)) ∧ fs[aux % 100]? = some (.ref r) := by
  unfold shR at hs
  simp only [Bool.and_eq_true] at hs
  obtain ⟨⟨⟨h1, h0⟩, h3⟩, h2⟩ := hs
  have h3 := blt_l h3
  have e1 := Gof_at (h := h) (blt_l h1)
  generalize shT.get a = e at h2 e1
  obtain ⟨t, ci, fs⟩ := e
  split at h2
  · rename_i x ci' fs' heq
    cases heq
    rw [Bool.and_eq_true] at h2
    have c1 := Nat.eq_of_beq_eq_true h2.1
    have c2 := Nat.eq_of_beq_eq_true h2.2
    subst c1
    have c3 : fs[aux % 100]? = some r := by
      rw [List.getD_eq_getElem?_getD] at c2
      cases hq : fs[aux % 100]? with
      | none => rw [hq] at c2; simp at c2; omega
      | some z => rw [hq] at c2; exact congrArg some c2
    refine ⟨blt_l h0, _, e1, ?_⟩
    rw [List.getElem?_mapIdx, c3]
    show some (cellF h a (aux % 100) r) = _
    unfold cellF
    cases hb : Nat.beq r 0 with
    | true => have := Nat.eq_of_beq_eq_true hb; omega
    | false => rfl
  · cases h2
theorem shA_eq {h : Hp} {a t n : Nat} (hs : shA a t n = true) : a < 208 ∧ (Gof h)[a]? = some (.inl (t, n, .inl (h.1 a))) ∧ (shT.get a) = (0, t, [n]) := by
  unfold shA at hs
  rw [Bool.and_eq_true] at hs
  obtain ⟨h1, h2⟩ := hs
  have e1 := Gof_at (h := h) (blt_l h1)
  generalize shT.get a = e at h2 e1
  obtain ⟨t', t2, fs⟩ := e
  split at h2
  · rename_i x y z heq
    cases heq
    rw [Bool.and_eq_true] at h2
    have c1 := Nat.eq_of_beq_eq_true h2.1
    have c2 := Nat.eq_of_beq_eq_true h2.2
    subst c1
    subst c2
    exact ⟨blt_l h1, e1, rfl⟩
  · cases h2
theorem shJ_eq {h : Hp} {a n : Nat} (hs : shJ a n = true) : a < 208 ∧ (Gof h)[a]? = some (.inl (2, n, .inr (.inl (h.2 a)))) ∧ ∃ y, (shT.get a) = (1, y, [n]) := by
  unfold shJ at hs
  rw [Bool.and_eq_true] at hs
  obtain ⟨h1, h2⟩ := hs
  have e1 := Gof_at (h := h) (blt_l h1)
  generalize shT.get a = e at h2 e1
  obtain ⟨t', t2, fs⟩ := e
  split at h2
  · rename_i x y z heq
    cases heq
    have c2 := Nat.eq_of_beq_eq_true h2
    subst c2
    exact ⟨blt_l h1, e1, _, rfl⟩
  · cases h2
theorem shQ_eq {h : Hp} {a : Nat} {rs : List Nat} (hs : shQ a rs = true) : ∃ t, (t = 3 ∨ t = 4) ∧ (Gof h)[a]? = some (.inl (t, rs.length, .inr (.inr (rs.map some)))) := by
  unfold shQ at hs
  rw [Bool.and_eq_true] at hs
  obtain ⟨h1, h2⟩ := hs
  have e1 := Gof_at (h := h) (blt_l h1)
  generalize shT.get a = e at h2 e1
  obtain ⟨t', t2, fs⟩ := e
  split at h2
  · rename_i x y z heq
    cases heq
    rw [Bool.and_eq_true, Bool.or_eq_true] at h2
    have c2 := of_decide_eq_true h2.2
    subst c2
    exact ⟨_, h2.1.imp Nat.eq_of_beq_eq_true Nat.eq_of_beq_eq_true, e1⟩
  · cases h2
theorem shC_eq {h : Hp} {a ci : Nat} (hs : shC a ci = true) : ∃ fs, (Gof h)[a]? = some (.inr (ci, fs)) := by
  unfold shC at hs
  rw [Bool.and_eq_true] at hs
  obtain ⟨h1, h2⟩ := hs
  have e1 := Gof_at (h := h) (blt_l h1)
  generalize shT.get a = e at h2 e1
  obtain ⟨t', t2, fs⟩ := e
  split at h2
  · rename_i x y z heq
    cases heq
    have c2 := Nat.eq_of_beq_eq_true h2
    subst c2
    exact ⟨_, e1⟩
  · cases h2
/-- writes: one int place, one long place, a whole row -/
def wI (h : Hp) (a i : Nat) (v : Int32) : Hp := (fun b j => if b = a ∧ j = i then v else h.1 b j, h.2)
def wJ (h : Hp) (a i : Nat) (v : Int64) : Hp := (h.1, fun b j => if b = a ∧ j = i then v else h.2 b j)
def wA (h : Hp) (a : Nat) (f : Nat → Int32) : Hp := (fun b j => if b = a then f j else h.1 b j, h.2)
theorem wI_same {h : Hp} {a i : Nat} {v : Int32} : (wI h a i v).1 a i = v := by simp [wI]
theorem wI_ne {h : Hp} {a i b j : Nat} {v : Int32} (hn : ¬ (b = a ∧ j = i)) : (wI h a i v).1 b j = h.1 b j := by simp [wI, hn]
theorem wI_oth {h : Hp} {a i b : Nat} {v : Int32} (hn : b ≠ a) : (wI h a i v).1 b = h.1 b := by funext j; simp [wI, hn]
theorem wI_row {h : Hp} {a i : Nat} {v : Int32} : (wI h a i v).1 a = upd (h.1 a) i v := by funext j; simp [wI, upd]
theorem wJ_row {h : Hp} {a i : Nat} {v : Int64} : (wJ h a i v).2 a = vp_updL (h.2 a) i v := by funext j; simp [wJ, vp_updL]
theorem wA_row {h : Hp} {a : Nat} {f : Nat → Int32} : (wA h a f).1 a = f := by funext j; simp [wA]
theorem wA_oth {h : Hp} {a b : Nat} {f : Nat → Int32} (hn : b ≠ a) : (wA h a f).1 b = h.1 b := by funext j; simp [wA, hn]
theorem cell_cong {h h' : Hp} {b : Nat} {e : mS} (h1 : h'.1 b = h.1 b) (h2 : h'.2 b = h.2 b) : cellOf h' b e = cellOf h b e := by
  have e1 : cellF h' b = cellF h b := by funext i r; unfold cellF; rw [h1]
  unfold cellOf
  rw [h1, h2, e1]
theorem Gof_arr {h : Hp} {a t n i : Nat} {v : Int32} (hs : shA a t n = true) : (Gof h).set a (.inl (t, n, .inl (upd (h.1 a) i v))) = Gof (wI h a i v) := by
  refine Gof_set ?_ (fun b hb => cell_cong (wI_oth hb) rfl)
  rw [(shA_eq (h := h) hs).2.2]
  show _ = (Sum.inl (t, n, Sum.inl ((wI h a i v).1 a)) : mC)
  rw [wI_row]
theorem Gof_row {h : Hp} {a t n : Nat} {f : Nat → Int32} (hs : shA a t n = true) : (Gof h).set a (.inl (t, n, .inl f)) = Gof (wA h a f) := by
  refine Gof_set ?_ (fun b hb => cell_cong (wA_oth hb) rfl)
  rw [(shA_eq (h := h) hs).2.2]
  show _ = (Sum.inl (t, n, Sum.inl ((wA h a f).1 a)) : mC)
  rw [wA_row]
theorem Gof_lng {h : Hp} {a n i : Nat} {v : Int64} (hs : shJ a n = true) : (Gof h).set a (.inl (2, n, .inr (.inl (vp_updL (h.2 a) i v)))) = Gof (wJ h a i v) := by
  refine Gof_set ?_ (fun b hb => cell_cong rfl (by funext j; simp [wJ, hb]))
  obtain ⟨y, hy⟩ := (shJ_eq (h := h) hs).2.2
  rw [hy]
  show _ = (Sum.inl (2, n, Sum.inr (Sum.inl ((wJ h a i v).2 a))) : mC)
  rw [wJ_row]
theorem Gof_fld {h : Hp} {a aux : Nat} {v : Int32} (hs : shI a aux = true) : ∃ fs, ownO (Gof h) a = some (aux / 100, fs) ∧ aux % 100 < fs.length ∧ (Gof h).set a (.inr (aux / 100, fs.set (aux % 100) (.int v))) = Gof (wI h a (aux % 100) v) := by
  obtain ⟨-, fs, h1, h2, h3, h4, h5, h6⟩ := shI_eq (h := h) hs
  refine ⟨fs, by unfold ownO; rw [h1], lt_of_at h2, Gof_set ?_ (fun b hb => cell_cong (wI_oth hb) rfl)⟩
  rw [h3]
  obtain ⟨t, ci, rs⟩ : ∃ t, t = shT.get a := ⟨_, rfl⟩
  generalize shT.get a = e at h4 h5 h6 ⊢
  obtain ⟨t, ci, rs⟩ := e
  dsimp only at h4 h5 h6 ⊢
  subst h4
  subst h5
  show (Sum.inr (aux / 100, _) : mC) = Sum.inr (aux / 100, rs.mapIdx (cellF (wI h a (aux % 100) v) a))
  congr 2
  apply List.ext_getElem?
  intro j
  rw [List.getElem?_set, List.getElem?_mapIdx, List.getElem?_mapIdx, List.length_mapIdx]
  by_cases hj : aux % 100 = j
  · subst hj
    rw [if_pos rfl, if_pos (lt_of_at h6), h6]
    show some (Value.int v) = some (cellF _ _ _ 0)
    unfold cellF
    rw [wI_same]; rfl
  · rw [if_neg hj]
    cases hr : rs[j]? with
    | none => rfl
    | some r =>
      show some (cellF h a j r) = some (cellF (wI h a (aux % 100) v) a j r)
      unfold cellF
      rw [wI_ne (fun q => hj q.2.symm)]
