theorem zOk_c {w : Int64} {sh : Int32} {r : List Int32} (h : zBadB (zB w sh) = false) (hr : zOkL w r = true) : zOkL w (sh :: r) = true := by simp [zOkL, h, hr]
theorem zOk_r {w : Int64} {sh : Int32} {r : List Int32} (hr : zOkL w r = false) : zOkL w (sh :: r) = false := by simp [zOkL, hr]
theorem zOk_b {w : Int64} {sh : Int32} {r : List Int32} (h : zBadB (zB w sh) = true) : zOkL w (sh :: r) = false := by simp [zOkL, h]
theorem zC1_1 {b : Int32} (h : ¬ b = 0) : zC1 b = 1 := if_neg h
theorem zC1_0 {b : Int32} (h : b = 0) : zC1 b = 0 := if_pos h
theorem zAdd1 {acc : Nat} {b : Int32} (h : ¬ b = 0) : nI (acc + zC1 b) = nI acc + 1 := by rw [zC1_1 h]; exact nI_succ acc
theorem zAdd0 {acc : Nat} {b : Int32} (h : b = 0) : nI (acc + zC1 b) = nI acc + 0 := by rw [zC1_0 h]; exact (Int32.add_zero _).symm
theorem zLe240 {n T : Nat} (hn : n ≤ 240) (hT : T ≤ 8) : nI n + nI T ≤ 240 ↔ n + T ≤ 240 := by
  rw [nI_add]
  exact nI_leI (a := n + T) (b := 240) (by omega) (by omega)
theorem zPutF_0 {w : Int64} {sh : Int32} {r : List Int32} {g : Nat → Int32} {k : Nat} (h : zB w sh = 0) : zPutF w (sh :: r) g k = zPutF w r g k := if_pos h
theorem zPutF_1 {w : Int64} {sh : Int32} {r : List Int32} {g : Nat → Int32} {k : Nat} (h : ¬ zB w sh = 0) : zPutF w (sh :: r) g k = zPutF w r (upd g k (zB w sh)) (k + 1) := if_neg h
theorem zChar (w : Int64) (sh : Int32) : vp_nar .char ((zB w sh).toUInt32 % 65536).toInt32 = zB w sh := by
  have h1 : ((zB w sh).toUInt32 % 65536).toInt32 = zB w sh := sc_c2 _
  rw [h1]
  unfold vp_nar
  have h2 : narrow .char (.int (zB w sh)) = .int (zB w sh) := sc_nar _
  rw [h2]
theorem zIn_bad {b : Int32} (h : zIn b 33 126 = 0) (h0 : ¬ b = 0) : zBadB b = true := by
  unfold zIn at h
  by_cases h1 : b < 33
  · exact zBadB_t h0 (Or.inl h1)
  · rw [if_neg h1] at h
    by_cases h2 : 126 < b
    · exact zBadB_t h0 (Or.inr h2)
    · rw [if_neg h2] at h
      exact absurd h (by decide)
theorem zIn_good {b : Int32} (h : ¬ zIn b 33 126 = 0) : zBadB b = false := by
  unfold zIn at h
  by_cases h1 : b < 33
  · rw [if_pos h1] at h
    exact absurd rfl h
  · rw [if_neg h1] at h
    by_cases h2 : 126 < b
    · rw [if_pos h2] at h
      exact absurd rfl h
    · exact zBadB_f h1 (by
        rw [Int32.le_iff_toInt_le]
        rw [Int32.lt_iff_toInt_lt] at h2
        omega)
theorem zWrN_le {w : Int64} {n : Nat} (hn : n ≤ 240) : zWrN w n ≤ 240 := by
  unfold zWrN zWrB
  split
  · rename_i h
    simp only [Bool.and_eq_true, decide_eq_true_eq] at h
    exact h.2
  · exact hn
theorem zWrR_nar (w : Int64) (n : Nat) : narrow .boolean (.int (zWrR w n)) = .int (zWrR w n) := by
  unfold zWrR
  split <;> rfl
