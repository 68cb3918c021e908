/-! nets of few nodes: which decks have answers -/
def eT : List Nat := [4, 5, 5, 6, 5, 6, 6, 7, 8, 9, 9, 10, 9, 10, 10, 12, 9, 10, 10, 11, 13, 14, 14, 15, 10, 12, 14, 15, 14, 15, 16, 17, 11, 15, 15, 17, 15, 17, 17, 18, 19, 20, 20, 21, 20, 21, 21, 23, 20, 21, 21, 23, 21, 23, 23, 30, 20, 21, 21, 22, 24, 25, 25, 26, 24, 25, 25, 26, 31, 32, 32, 33, 21, 23, 25, 26, 25, 26, 27, 28, 31, 32, 34, 35, 34, 35, 36, 37, 22, 26, 26, 28, 26, 28, 28, 29, 38, 39, 39, 40, 39, 40, 40, 41, 23, 30, 32, 33, 32, 33, 36, 37, 32, 33, 36, 37, 36, 37, 42, 43, 24, 31, 31, 34, 31, 34, 38, 39, 31, 38, 34, 39, 34, 39, 39, 44, 25, 32, 32, 35, 34, 36, 39, 40, 34, 39, 36, 40, 45, 46, 46, 47, 26, 33, 35, 37, 35, 37, 40, 41, 39, 44, 46, 47, 46, 47, 48, 49, 27, 36, 36, 42, 36, 46, 46, 48, 36, 46, 46, 48, 42, 48, 48, 50, 28, 37, 37, 43, 40, 47, 47, 49, 40, 47, 47, 49, 48, 50, 50, 51, 29, 41, 41, 49, 41, 49, 49, 51, 41, 49, 49, 51, 49, 51, 51, 52]
def gT : List Nat := [0, 0, 0, 0, 0, 1, 3, 7, 0, 1, 3, 11, 7, 12, 13, 15, 22, 23, 31, 0, 1, 3, 19, 7, 20, 21, 23, 38, 39, 55, 15, 28, 29, 31, 42, 43, 46, 47, 56, 57, 59, 63, 78, 79, 95, 108, 109, 111, 126, 127, 143, 159, 175]
def oT (n : Nat) : Nat := if n = 3 then 0 else if n = 4 then 8 else 40
def eI (n a j : Nat) : Nat := eT.getD (oT n + 2 ^ (n - 1) * a + j) 0
theorem eT_3 : ∀ a, a < 2 → ∀ j, j < 4 → dck 3 (fmsT.getD (fr 2 + a) 0 ||| j <<< tri 2) = dT (eI 3 a j) := by decide +kernel
theorem eT_4 : ∀ a, a < 4 → ∀ j, j < 8 → dck 4 (fmsT.getD (fr 3 + a) 0 ||| j <<< tri 3) = dT (eI 4 a j) := by decide +kernel
def f4T : List Nat := [0, 1, 1, 3, 1, 3, 3, 7, 1, 3, 3, 11, 12, 13, 13, 15, 1, 3, 12, 13, 3, 11, 13, 15, 3, 7, 13, 15, 13, 15, 30, 31, 1, 12, 3, 13, 3, 13, 11, 15, 3, 13, 7, 15, 13, 30, 15, 31, 3, 13, 13, 30, 7, 15, 15, 31, 11, 15, 15, 31, 15, 31, 31, 63]
theorem f4_T0 : ∀ C, C < 32 → frm 4 C = f4T.getD C 0 := by decide +kernel
theorem f4_T1 : ∀ C, C < 32 → frm 4 (32 + C) = f4T.getD (32 + C) 0 := by decide +kernel
theorem f4_T {C : Nat} (h : C < 64) : frm 4 C = f4T.getD C 0 := by
  by_cases e : C < 32
  · exact f4_T0 C e
  · have := f4_T1 (C - 32) (by omega)
    rw [show 32 + (C - 32) = C by omega] at this
    exact this
def dk5 (C : Nat) : List Nat := srt ((List.range 5).map (fun v => f4T.getD (wot 5 C v) 0))
theorem dk5_eq (C : Nat) : dck 5 C = dk5 C := by
  unfold dck dk5 crds
  congr 1
  refine List.map_congr_left (fun v hv => ?_)
  have hv := List.mem_range.mp hv
  exact f4_T (wot_lt (n := 5) (C := C) hv)
theorem eT_5 : ∀ a, a < 11 → ∀ j, j < 16 → dck 5 (fmsT.getD (fr 4 + a) 0 ||| j <<< tri 4) = dT (eI 5 a j) := by
  have : ∀ a, a < 11 → ∀ j, j < 16 → dk5 (fmsT.getD (fr 4 + a) 0 ||| j <<< tri 4) = dT (eI 5 a j) := by decide +kernel
  intro a ha j hj
  rw [dk5_eq]
  exact this a ha j hj
theorem eI_b3 : ∀ a, a < 2 → ∀ j, j < 4 → fr 3 ≤ eI 3 a j ∧ eI 3 a j < fr 4 := by decide +kernel
theorem eI_b4 : ∀ a, a < 4 → ∀ j, j < 8 → fr 4 ≤ eI 4 a j ∧ eI 4 a j < fr 5 := by decide +kernel
theorem eI_b5 : ∀ a, a < 11 → ∀ j, j < 16 → fr 5 ≤ eI 5 a j ∧ eI 5 a j < fr 6 := by decide +kernel
theorem gT_ok : ∀ i, i < 53 → 4 ≤ i → eI (szT i) (gT.getD i 0 / 2 ^ (szT i - 1)) (gT.getD i 0 % 2 ^ (szT i - 1)) = i ∧ fmsT.getD (fr (szT i - 1) + gT.getD i 0 / 2 ^ (szT i - 1)) 0 = (dT i).getD 0 0 ∧ gT.getD i 0 / 2 ^ (szT i - 1) < fr (szT i) - fr (szT i - 1) := by decide +kernel
theorem dT_inj : ∀ i, i < 53 → ∀ j, j < 53 → (4 ≤ i ∧ 4 ≤ j ∧ dT i = dT j) → i = j := by decide +kernel
