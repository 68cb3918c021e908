/-! rows of numbers as lists; sorting -/
def AL (h : Hp) (r : Nat) (xs : List Nat) : Prop := ∀ i, i < xs.length → h.1 r i = nI (xs.getD i 0)
theorem AL.fr {A : List Nat} {h h' : Hp} {r : Nat} {xs : List Nat} (ha : AL h r xs) (hf : Fr A h h') (hr : r ∉ A) : AL h' r xs := fun i hi => by rw [hf.1 r hr]; exact ha i hi
def posR (v : Nat) (p : List Nat) : Nat → Nat
  | 0 => 0
  | k + 1 => if v < p.getD k 0 then posR v p k else k + 1
theorem posR_le (v : Nat) (p : List Nat) (k : Nat) : posR v p k ≤ k := by
  induction k with
  | zero => exact Nat.le_refl _
  | succ k ih => rw [posR]; split <;> omega
def ins (v : Nat) (p : List Nat) : List Nat := p.take (posR v p p.length) ++ v :: p.drop (posR v p p.length)
theorem ins_len (v : Nat) (p : List Nat) : (ins v p).length = p.length + 1 := by
  unfold ins
  have := posR_le v p p.length
  simp
  omega
theorem ins_at (v : Nat) (p : List Nat) (j : Nat) : (ins v p).getD j 0 = if j < posR v p p.length then p.getD j 0 else if j = posR v p p.length then v else p.getD (j - 1) 0 := by
  unfold ins
  have hle := posR_le v p p.length
  simp only [List.getD_eq_getElem?_getD]
  by_cases h1 : j < posR v p p.length
  · rw [if_pos h1, List.getElem?_append_left (by simp; omega), List.getElem?_take, if_pos h1]
  · rw [if_neg h1, List.getElem?_append_right (by simp; omega)]
    have e : (p.take (posR v p p.length)).length = posR v p p.length := by simp; omega
    rw [e]
    by_cases h2 : j = posR v p p.length
    · rw [if_pos h2, h2]; simp
    · rw [if_neg h2]
      obtain ⟨d, hd⟩ : ∃ d, j - posR v p p.length = d + 1 := ⟨j - posR v p p.length - 1, by omega⟩
      rw [hd, List.getElem?_cons_succ, List.getElem?_drop, show posR v p p.length + d = j - 1 by omega]
def srtF (xs : List Nat) : Nat → List Nat
  | 0 => []
  | k + 1 => ins (xs.getD k 0) (srtF xs k)
theorem srtF_len (xs : List Nat) (k : Nat) : (srtF xs k).length = k := by
  induction k with
  | zero => rfl
  | succ k ih => rw [srtF, ins_len, ih]
def srt (xs : List Nat) : List Nat := srtF xs xs.length
theorem srt_len (xs : List Nat) : (srt xs).length = xs.length := srtF_len _ _
theorem ins_mem {v x : Nat} {p : List Nat} : x ∈ ins v p ↔ x = v ∨ x ∈ p := by
  unfold ins
  rw [List.mem_append, List.mem_cons]
  constructor
  · rintro (h | h | h)
    · exact Or.inr (List.mem_of_mem_take h)
    · exact Or.inl h
    · exact Or.inr (List.mem_of_mem_drop h)
  · rintro (h | h)
    · exact Or.inr (Or.inl h)
    · rw [← List.take_append_drop (posR v p p.length) p, List.mem_append] at h
      exact h.imp id Or.inr
theorem srtF_mem {xs : List Nat} {x : Nat} : ∀ k, k ≤ xs.length → (x ∈ srtF xs k ↔ x ∈ xs.take k) := by
  intro k
  induction k with
  | zero => intro _; simp [srtF]
  | succ k ih =>
    intro hk
    rw [srtF, ins_mem, ih (by omega), List.take_succ, List.mem_append]
    rw [List.getD_eq_getElem?_getD, List.getElem?_eq_getElem (by omega)]
    simp [or_comm]
theorem srt_mem {xs : List Nat} {x : Nat} : x ∈ srt xs ↔ x ∈ xs := by
  unfold srt
  rw [srtF_mem _ (Nat.le_refl _), List.take_length]
theorem getD_mem {xs : List Nat} {i : Nat} (h : i < xs.length) : xs.getD i 0 ∈ xs := by
  rw [List.getD_eq_getElem?_getD, List.getElem?_eq_getElem h]; exact List.getElem_mem h
theorem nI_ngt {a b : Nat} (ha : a < 2 ^ 31) (hb : b < 2 ^ 31) : ¬ nI a ≤ nI b → b < a := by
  intro h
  rcases Nat.lt_or_ge b a with q | q
  · exact q
  · exact absurd (nI_le q hb) h
/-- what a row is while a number goes down to its place -/
def HoleAt (h0 h : Hp) (r i t : Nat) (p : List Nat) : Prop := (∀ j, j < t → h.1 r j = nI (p.getD j 0)) ∧ (∀ j, t < j → j ≤ i → h.1 r j = nI (p.getD (j - 1) 0)) ∧ (∀ j, i < j → h.1 r j = h0.1 r j) ∧ Fr [r] h0 h
theorem c_srt {S : mScr} {dep r N : Nat} {xs : List Nat} {h : Hp} (hs : shA r 0 N = true) (hr : Nat.blt r 1020 = true) (hN : Nat.blt N 2147483648 = true) (hx : AL h r xs) (hl : xs.length ≤ N) (hbd : ∀ x ∈ xs, x < 2 ^ 31) : Cal S dep 11 [.ref r, .int (nI xs.length)] h (fun q h' => q = none ∧ AL h' r (srt xs) ∧ (∀ j, xs.length ≤ j → h'.1 r j = h.1 r j) ∧ Fr [r] h h') := by
  have hN2 := blt_l hN
  show V S dep 11 0 [.ref r, .int (nI xs.length), .null, .null, .null] [] h _
  refine V_ic (v := nI 1) rfl rfl ?_
  refine V_istore_n (L' := [_, _, _, _, _]) rfl rfl rfl ?_
  -- at 2: .iload_n 2
  have lp := loopUp (P := fun i => 1 ≤ i → ∀ h1 v3 v4, (∀ j, j < i → j < xs.length → h1.1 r j = nI ((srtF xs (min i xs.length)).getD j 0)) → (∀ j, i ≤ j → h1.1 r j = h.1 r j) → (∀ j, xs.length ≤ j → h1.1 r j = h.1 r j) → Fr [r] h h1 → V S dep 11 2 [.ref r, .int (nI xs.length), .int (nI i), v3, v4] [] h1 (fun q h' => q = none ∧ AL h' r (srt xs) ∧ (∀ j, xs.length ≤ j → h'.1 r j = h.1 r j) ∧ Fr [r] h h')) (max 1 xs.length) ?_ ?_ 1 (by omega) (Nat.le_refl _)
  · refine lp h _ _ (fun j hj hj2 => ?_) (fun j _ => rfl) (fun j _ => rfl) Fr.rf
    rw [hx j hj2, show j = 0 by omega, show min 1 xs.length = 1 by omega]
    rfl
  · intro _ h1 v3 v4 g1 g2 g3 hF
    refine V_iload_n rfl rfl ?_
    refine V_iload_n rfl rfl ?_
    -- at 4: .if_icmp .ge 58
    refine V_icmp_ge rfl (fun hc => ?_) (fun hc => ?_)
    · refine V_return rfl rfl ?_
      refine ⟨rfl, fun i hi => ?_, fun j hj => ?_, hF⟩
      · rw [srt_len] at hi
        rw [g1 i (by omega) hi, show min (max 1 xs.length) xs.length = xs.length by omega]; rfl
      · exact g3 j hj
    · exact absurd (nI_le (show xs.length ≤ max 1 xs.length by omega) (by omega)) hc
  · intro i hi ih hi1 h1 v3 v4 g1 g2 g3 hF
    have hil : i < xs.length := by omega
    have hmi : min i xs.length = i := by omega
    rw [hmi] at g1
    have hp := srtF_len xs i
    have hv : xs.getD i 0 < 2 ^ 31 := hbd _ (getD_mem hil)
    have hpb : ∀ j, j < i → (srtF xs i).getD j 0 < 2 ^ 31 := fun j hj => hbd _ (List.mem_of_mem_take ((srtF_mem i (by omega)).mp (getD_mem (by omega))))
    refine V_iload_n rfl rfl ?_
    refine V_iload_n rfl rfl ?_
    -- at 4: .if_icmp .ge 58
    refine V_icmp_ge rfl (fun hc => ?_) (fun hc => ?_)
    · exact absurd hc (nI_ge hil (by omega))
    · refine V_iload_n rfl rfl ?_
      refine V_aload_n rfl rfl (by first | assumption | rfl) ?_
      refine V_alen (n := _) rfl (by assumption) rfl ?_
      -- at 10: .if_icmp .ge 52
      refine V_icmp_ge rfl (fun hd => ?_) (fun hd => ?_)
      · exact absurd hd (nI_ge (show i < N by omega) (by omega))
      · refine V_aload_n rfl rfl (by first | assumption | rfl) ?_
        refine V_iload_n rfl rfl ?_
        refine V_al _ rfl (by assumption) (by first | with_reducible rfl | assumption | exact nI_sub (by omega) | exact nI_add _ _) (by first | omega | assumption) (by first | rfl | assumption) ?_
        -- at 16: .istore_n 3
        rw [g2 i (Nat.le_refl i), hx i hil]
        refine V_istore_n (L' := [.ref r, .int (nI xs.length), .int (nI i), .int (nI (xs.getD i 0)), v4]) rfl rfl rfl ?_
        refine V_iload_n rfl rfl ?_
        refine V_istore (L' := [.ref r, .int (nI xs.length), .int (nI i), .int (nI (xs.getD i 0)), .int (nI i)]) rfl rfl rfl ?_
        have fin : ∀ t h2, t ≤ i → posR (xs.getD i 0) (srtF xs i) i = t → HoleAt h1 h2 r i t (srtF xs i) → V S dep 11 51 [.ref r, .int (nI xs.length), .int (nI i), .int (nI (xs.getD i 0)), .int (nI t)] [] h2 (fun q h' => q = none ∧ AL h' r (srt xs) ∧ (∀ j, xs.length ≤ j → h'.1 r j = h.1 r j) ∧ Fr [r] h h') := by
          intro t h2 ht hpos hH
          obtain ⟨k1, k2, k3, k4⟩ := hH
          refine V_aload_n rfl rfl (by first | assumption | rfl) ?_
          refine V_iload rfl rfl ?_
          refine V_iload_n rfl rfl ?_
          refine V_as _ rfl (by assumption) (by first | with_reducible rfl | assumption | exact nI_sub (by omega) | exact nI_add _ _) (by first | omega | assumption) (by first | rfl | assumption) ?_
          refine V_iinc (L' := [_, _, _, _, _]) rfl rfl rfl ?_
          refine V_goto rfl ?_
          -- at 2: .iload_n 2
          rw [show Int32.ofInt 1 = nI 1 from rfl, nI_add]
          refine ih (by omega) _ _ _ (fun j hj hj2 => ?_) (fun j hj => ?_) (fun j hj => ?_) (hF.tr (k4.tr (Fr.w (by simp))))
          · rw [show min (i + 1) xs.length = i + 1 by omega, srtF, ins_at, hp, hpos]
            by_cases h3 : j < t
            · rw [if_pos h3, wI_ne (by omega)]; exact k1 j h3
            · rw [if_neg h3]
              by_cases h4 : j = t
              · subst h4
                rw [if_pos rfl, wI_same]
              · rw [if_neg h4, wI_ne (by omega)]; exact k2 j (by omega) (by omega)
          · rw [wI_ne (by omega), k3 j (by omega)]; exact g2 j (by omega)
          · rw [wI_ne (by omega), k3 j (by omega)]; exact g3 j hj
        have lq : ∀ t, t ≤ i → ∀ h2, posR (xs.getD i 0) (srtF xs i) i = posR (xs.getD i 0) (srtF xs i) t → HoleAt h1 h2 r i t (srtF xs i) → V S dep 11 20 [.ref r, .int (nI xs.length), .int (nI i), .int (nI (xs.getD i 0)), .int (nI t)] [] h2 (fun q h' => q = none ∧ AL h' r (srt xs) ∧ (∀ j, xs.length ≤ j → h'.1 r j = h.1 r j) ∧ Fr [r] h h') := by
          intro t
          induction t with
          | zero =>
            intro _ h2 hpos hH
            refine V_iload rfl rfl ?_
            -- at 22: .ifCond .le 29
            refine V_if_le rfl (fun he => ?_) (fun he => ?_)
            · exact fin 0 h2 (by omega) hpos hH
            · exact absurd (by decide) he
          | succ t iht =>
            intro ht h2 hpos hH
            obtain ⟨k1, k2, k3, k4⟩ := id hH
            refine V_iload rfl rfl ?_
            -- at 22: .ifCond .le 29
            refine V_if_le rfl (fun he => ?_) (fun he => ?_)
            · exact absurd he (nI_nle (by omega) (by omega))
            · refine V_aload_n rfl rfl (by first | assumption | rfl) ?_
              refine V_iload rfl rfl ?_
              refine V_ic (v := nI 1) rfl rfl ?_
              refine V_isub rfl ?_
              refine V_al _ rfl (by assumption) (by first | with_reducible rfl | assumption | exact nI_sub (by omega) | exact nI_add _ _) (by first | omega | assumption) (by first | rfl | assumption) ?_
              refine V_iload_n rfl rfl ?_
              -- at 32: .if_icmp .le 19
              rw [show t + 1 - 1 = t by omega, k1 t (by omega)]
              refine V_icmp_le rfl (fun hf => ?_) (fun hf => ?_)
              · have hf := (nI_leI (hpb t (by omega)) hv).mp hf
                refine fin (t + 1) h2 ht ?_ hH
                rw [hpos, posR, if_neg (by omega)]
              · have hf := nI_ngt (hpb t (by omega)) hv hf
                refine V_aload_n rfl rfl (by first | assumption | rfl) ?_
                refine V_iload rfl rfl ?_
                refine V_aload_n rfl rfl (by first | assumption | rfl) ?_
                refine V_iload rfl rfl ?_
                refine V_ic (v := nI 1) rfl rfl ?_
                refine V_isub rfl ?_
                refine V_al _ rfl (by assumption) (by first | with_reducible rfl | assumption | exact nI_sub (by omega) | exact nI_add _ _) (by first | omega | assumption) (by first | rfl | assumption) ?_
                refine V_as _ rfl (by assumption) (by first | with_reducible rfl | assumption | exact nI_sub (by omega) | exact nI_add _ _) (by first | omega | assumption) (by first | rfl | assumption) ?_
                -- at 45: .iinc 4 (-1)
                rw [show t + 1 - 1 = t by omega, k1 t (by omega)]
                refine V_iinc (L' := [_, _, _, _, _]) rfl rfl rfl ?_
                refine V_goto rfl ?_
                -- at 20: .iload 4
                rw [show Int32.ofInt (-1) = -1 from rfl, show nI (t + 1) + -1 = nI t by rw [nI_succ]; apply nI_ext; show (nI t).toBitVec + 1 + (-1) = (nI t).toBitVec; rw [BitVec.add_assoc]; simp]
                refine iht (by omega) _ ?_ ⟨fun j hj => ?_, fun j hj hj2 => ?_, fun j hj => ?_, k4.tr (Fr.w (by simp))⟩
                · rw [hpos, posR, if_pos hf]
                · rw [wI_ne (by omega)]; exact k1 j (by omega)
                · by_cases h5 : j = t + 1
                  · subst h5
                    rw [wI_same]; rfl
                  · rw [wI_ne (by omega)]; exact k2 j (by omega) hj2
                · rw [wI_ne (by omega)]; exact k3 j hj
        exact lq i (Nat.le_refl i) h1 rfl ⟨fun j hj => g1 j hj (by omega), fun j h3 h4 => by omega, fun j _ => rfl, Fr.rf⟩
