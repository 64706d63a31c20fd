/-! Statements: the reference's state at a step of reading. -/
section ZE9
variable {I : Nat → Int32} {J : Nat → Int64} {B : Nat → Nat → Int32} {D : Nat → Nat → Int64}
def same (n : Nat) (f g : Nat → Int32) : Prop := ∀ k, k < n → g k = f k
theorem same_upd {n k : Nat} {f : Nat → Int32} {x : Int32} (h : n ≤ k) : same n f (upd f k x) := by
  intro j hj
  have : ¬ j = k := by omega
  simp [upd, this]
theorem same.rf {n : Nat} {f : Nat → Int32} : same n f f := fun _ _ => rfl
theorem same.of {n : Nat} {f g : Nat → Int32} (h : g = f) : same n f g := fun _ _ => by rw [h]
theorem same.tr {n : Nat} {f g h : Nat → Int32} (a : same n f g) (b : same n g h) : same n f h := fun k hk => (b k hk).trans (a k hk)
theorem same.le {n m : Nat} {f g : Nat → Int32} (a : same n f g) (h : m ≤ n) : same m f g := fun k hk => a k (by omega)
/-- a node's kind, and what goes with it -/
def K1 (base p pt bs k : Nat) (B B9 : Nat → Nat → Int32) : Prop :=
  (B 18 k = 0 ∨ B 18 k = 1 ∨ B 18 k = 2 ∨ B 18 k = 3 ∨ B 18 k = 4 ∨ B 18 k = 5) ∧
  (B 18 k = 0 → ∃ b, b < bs ∧ B 26 k = nI b ∧ B9 18 b = nI (base + k) ∧ B9 5 (base + k) = B 6 b) ∧ (¬ B 18 k = 0 → B9 5 (base + k) = B 18 k + 5) ∧
  (B 18 k = 5 → (∃ l, l < 8 ∧ B 26 k = nI l) ∧ B9 12 (base + k) = B 26 k ∧ B9 16 (base + k) = B 27 k) ∧
  (¬ 2 < B 18 k → ∃ q, q < pt ∧ B 25 k = nI q ∧ B9 23 (31 * p + q) = nI (base + k)) ∧ (2 < B 18 k → B 25 k = -1)
def KR (base p pt bs sz : Nat) (B B9 : Nat → Nat → Int32) : Prop := ∀ k, k < sz → K1 base p pt bs k B B9
theorem K1.up {base p pt pt' bs bs' k : Nat} {B B' B9 B9' : Nat → Nat → Int32} (h : K1 base p pt bs k B B9) (hp : pt ≤ pt') (hb : bs ≤ bs') (h18 : B' 18 k = B 18 k) (h26 : B' 26 k = B 26 k) (h27 : B' 27 k = B 27 k) (h25 : B' 25 k = B 25 k) (h6 : same bs (B 6) (B' 6)) (n5 : B9' 5 (base + k) = B9 5 (base + k)) (n18 : same bs (B9 18) (B9' 18)) (n12 : B9' 12 (base + k) = B9 12 (base + k)) (n16 : B9' 16 (base + k) = B9 16 (base + k)) (n23 : ∀ q, q < pt → B9' 23 (31 * p + q) = B9 23 (31 * p + q)) : K1 base p pt' bs' k B' B9' := by
  obtain ⟨h1, h2, h3, h4, h5, h6'⟩ := h
  refine ⟨by rw [h18]; exact h1, fun z => ?_, fun z => ?_, fun z => ?_, fun z => ?_, fun z => ?_⟩
  · rw [h18] at z
    obtain ⟨b, e1, e2, e3, e4⟩ := h2 z
    exact ⟨b, by omega, by rw [h26]; exact e2, by rw [n18 b e1]; exact e3, by rw [n5, h6 b e1]; exact e4⟩
  · rw [h18] at z ⊢; rw [n5]; exact h3 z
  · rw [h18] at z; rw [h26, n12, n16, h27]; exact h4 z
  · rw [h18] at z
    obtain ⟨q, e1, e2, e3⟩ := h5 z
    exact ⟨q, by omega, by rw [h25]; exact e2, by rw [n23 q e1]; exact e3⟩
  · rw [h18] at z; rw [h25]; exact h6' z
/-- a basic statement, as both keep it -/
def B1 (kd : Nat → Int32) (ln cl N b : Nat) (B B9 : Nat → Nat → Int32) : Prop :=
  ∃ m, m < N ∧ B9 18 b = nI m ∧ B9 5 m = B 6 b ∧ B9 6 m = B 10 b ∧ (B 6 b = 0 ∨ B 6 b = 1 ∨ B 6 b = 2 ∨ B 6 b = 3 ∨ B 6 b = 4 ∨ B 6 b = 5) ∧
    (B 6 b = 0 → ∃ j, j < 8 ∧ B 8 b = nI j ∧ kd j = 1 ∧ B9 12 m = B9 1 j) ∧
    ((B 6 b = 2 ∨ B 6 b = 3) → ∃ j, j < 8 ∧ B 7 b = nI j ∧ kd j = 2 ∧ B9 12 m = B9 2 j) ∧
    (B 6 b = 3 → ∃ j, j < 8 ∧ B 8 b = nI j ∧ kd j = 1 ∧ B9 13 m = B9 1 j) ∧
    ((B 9 b = -1 ∧ (∃ c, c ≤ 1000 ∧ B9 14 m = nI c ∧ B9 15 m = nI c) ∧ ¬ (B 6 b = 0 ∨ B 6 b = 1 ∨ B 6 b = 2)) ∨
     (∃ lb cb out, B 9 b = nI lb ∧ rep (B 15) lb (22 :: out) ∧ lb + out.length < ln ∧ B9 14 m = nI cb ∧ B9 15 m = nI (cb + out.length) ∧ rep (B9 24) cb (out.map om) ∧ cb + out.length ≤ cl ∧ 1 ≤ out.length ∧ okR out ∧ ht out = 1 ∧ nod out ≤ 12 ∧ KN kd out ∧ (B 6 b = 0 ∨ B 6 b = 1 ∨ B 6 b = 2)))
theorem B1.up {kd : Nat → Int32} {ln ln' cl cl' N N' b : Nat} {B B' B9 B9' : Nat → Nat → Int32} (h : B1 kd ln cl N b B B9) (hl : ln ≤ ln') (hc : cl ≤ cl') (hN : N ≤ N') (h6 : B' 6 b = B 6 b) (h7 : B' 7 b = B 7 b) (h8 : B' 8 b = B 8 b) (h9 : B' 9 b = B 9 b) (h10 : B' 10 b = B 10 b) (h15 : same ln (B 15) (B' 15)) (n18 : B9' 18 b = B9 18 b) (n5 : same N (B9 5) (B9' 5)) (n6 : same N (B9 6) (B9' 6)) (n12 : same N (B9 12) (B9' 12)) (n13 : same N (B9 13) (B9' 13)) (n14 : same N (B9 14) (B9' 14)) (n15 : same N (B9 15) (B9' 15)) (n24 : same cl (B9 24) (B9' 24)) (n1 : B9' 1 = B9 1) (n2 : B9' 2 = B9 2) : B1 kd ln' cl' N' b B' B9' := by
  obtain ⟨m, e1, e2, e3, e4, e5, e6, e7, e8, e9⟩ := h
  refine ⟨m, by omega, by rw [n18]; exact e2, by rw [n5 m e1, h6]; exact e3, by rw [n6 m e1, h10]; exact e4, by rw [h6]; exact e5, fun z => ?_, fun z => ?_, fun z => ?_, ?_⟩
  · rw [h6] at z; rw [h8, n12 m e1, n1]; exact e6 z
  · rw [h6] at z; rw [h7, n12 m e1, n2]; exact e7 z
  · rw [h6] at z; rw [h8, n13 m e1, n1]; exact e8 z
  · rw [h6, h9, n14 m e1, n15 m e1]
    rcases e9 with w | ⟨lb, cb, out, w1, w2, w3, w4, w5, w6, w7, w8, w9⟩
    · exact Or.inl w
    · refine Or.inr ⟨lb, cb, out, w1, rep_eq w2 (fun k hk => h15 k (by simp at hk; omega)), by omega, w4, w5, rep_eq w6 (fun k hk => n24 k (by simp at hk; omega)), by omega, w8, w9⟩
def BRs (kd : Nat → Int32) (ln cl N bs : Nat) (B B9 : Nat → Nat → Int32) : Prop := ∀ b, b < bs → B1 kd ln cl N b B B9
/-- what stands of the processes before -/
def FB (base p bs0 : Nat) (B9 B9' : Nat → Nat → Int32) : Prop := (∀ k, k ∈ [5, 6, 7, 8, 9, 10, 11, 12, 16] → same base (B9 k) (B9' k)) ∧ (∀ q, q ≠ p → B9' 20 q = B9 20 q) ∧ (∀ j, ¬ (8 * p ≤ j ∧ j < 8 * p + 8) → B9' 22 j = B9 22 j) ∧ (∀ j, ¬ (31 * p ≤ j ∧ j < 31 * p + 31) → B9' 23 j = B9 23 j) ∧ (∀ k, k ∉ [5, 6, 7, 8, 9, 10, 11, 12, 13, 14, 15, 16, 18, 19, 20, 22, 23, 24, 25, 26, 27, 28] → B9' k = B9 k) ∧ same bs0 (B9 18) (B9' 18)
theorem FB.rf {base p bs0 : Nat} {B9 : Nat → Nat → Int32} : FB base p bs0 B9 B9 := ⟨fun _ _ => same.rf, fun _ _ => rfl, fun _ _ => rfl, fun _ _ => rfl, fun _ _ => rfl, same.rf⟩
theorem FB.tr {base p bs0 : Nat} {B9 B91 B92 : Nat → Nat → Int32} (h : FB base p bs0 B9 B91) (g : FB base p bs0 B91 B92) : FB base p bs0 B9 B92 := ⟨fun k hk => (h.1 k hk).tr (g.1 k hk), fun q hq => (g.2.1 q hq).trans (h.2.1 q hq), fun j hj => (g.2.2.1 j hj).trans (h.2.2.1 j hj), fun j hj => (g.2.2.2.1 j hj).trans (h.2.2.2.1 j hj), fun k hk => (g.2.2.2.2.1 k hk).trans (h.2.2.2.2.1 k hk), h.2.2.2.2.2.tr g.2.2.2.2.2⟩
theorem FB.le {base p bs0 bs : Nat} {B9 B91 : Nat → Nat → Int32} (h : FB base p bs B9 B91) (hb : bs0 ≤ bs) : FB base p bs0 B9 B91 := ⟨h.1, h.2.1, h.2.2.1, h.2.2.2.1, h.2.2.2.2.1, h.2.2.2.2.2.le hb⟩
def FI (I9 I9' : Nat → Int32) : Prop := ∀ k, k ∉ [2, 3, 8, 9, 11, 12, 13] → I9' k = I9 k
/-- the names are known alike -/
def knm (B9 : Nat → Nat → Int32) (kd : Nat → Int32) : Prop := ∀ j, j < 8 → (kd j = 0 ∨ kd j = 1 ∨ kd j = 2) ∧ (0 ≤ B9 1 j ↔ kd j = 1) ∧ (0 ≤ B9 2 j ↔ kd j = 2)
theorem knm.k9 {B9 : Nat → Nat → Int32} {kd : Nat → Int32} (h : knm B9 kd) : kn9 B9 kd := by
  intro j hj
  obtain ⟨h0, h1, h2⟩ := h j hj
  rw [h1, h2]
  constructor
  · rintro (w | w) <;> rw [w] <;> decide
  · intro w; exact h0.resolve_left w
/-- the reference at a step -/
def RB (f : Nat → Int32) (n : Nat) (kd : Nat → Int32) (base p : Nat) (s : zBo) (I9 : Nat → Int32) (B9 : Nat → Nat → Int32) : Prop := ∃ (a sz pt bs ln cl : Nat),
  (s.2.2.1 5 = nI a ∧ s.2.2.1 16 = nI sz ∧ s.2.2.1 17 = nI pt ∧ s.2.2.1 9 = nI bs ∧ s.2.2.1 11 = nI ln ∧ pt ≤ 30 ∧ bs ≤ 48 ∧ ln ≤ 480 ∧ s.2.2.1 10 = nI p) ∧
  (TY (B9 0) f (I9 2) (I9 1) a n ∧ I9 8 = nI (base + sz) ∧ I9 9 = nI bs ∧ I9 10 = nI p ∧ p < 4 ∧ I9 11 = nI cl ∧ cl ≤ a ∧ I9 12 = nI (s.2.1.length - 1) ∧ B9 20 p = nI pt) ∧
  2 * (base + sz) + 1 ≤ a + s.2.1.length + s.1 ∧
  (rep (B9 25) 0 (s.2.1.map (fun x => nI x.1)) ∧ rep (B9 26) 0 (s.2.1.map (fun x => off base x.2.1)) ∧ rep (B9 27) 0 (s.2.1.map (fun x => off base x.2.2))) ∧
  TR base p sz s.2.2.2.2.1 B9 ∧ KR base p pt bs sz s.2.2.2.2.1 B9 ∧ BRs kd ln cl (base + sz) bs s.2.2.2.2.1 B9 ∧
  (∀ l, l < 8 → B9 22 (8 * p + l) = off base (s.2.2.2.2.1 28 l) ∧ (s.2.2.2.2.1 28 l = -3 ∨ ∃ k, k ≤ sz ∧ s.2.2.2.2.1 28 l = nI k)) ∧ knm B9 kd
theorem rep_set {f : Nat → Int32} {b : Nat} {x y : Int32} {l : List Int32} (h : rep f b (x :: l)) {k : Nat} (hk : k = b + l.length) : rep (upd f k y) b (y :: l) := rep_push h.2 y hk
theorem rep_top {f : Nat → Int32} {x : Int32} {l : List Int32} (h : rep f 0 (x :: l)) : f l.length = x := by have := h.1; simpa using this
end ZE9
