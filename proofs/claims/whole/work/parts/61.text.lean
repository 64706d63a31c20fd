/-! The pure half. Rows on ints, rows of lists in arrays, the text. -/
section ZR
variable {I : Nat → Int32} {J : Nat → Int64} {B : Nat → Nat → Int32} {D : Nat → Nat → Int64}
/-- an index lies in an array -/
theorem vin {x : Int32} {n : Nat} (h0 : 0 ≤ x) (h1 : x.toInt < n) : vp_in x n := by
  unfold vp_in
  rw [Int32.lt_iff_toInt_lt]
  rw [Int32.le_iff_toInt_le] at h0
  have e : x.toNatClampNeg = x.toInt.toNat := rfl
  have e0 : (0 : Int32).toInt = 0 := rfl
  rw [e]; omega
theorem vin2 {x : Int32} {k n : Nat} (h1 : x = nI k) (h2 : k < n) (h3 : n ≤ 100000) : vp_in x n := by
  subst h1
  exact vp_in_nI h2 (by omega)
theorem clI {x : Int32} {k : Nat} (h1 : x = nI k) (h2 : k ≤ 100000) : x.toNatClampNeg = k := by
  subst h1
  exact nI_clamp (by omega)
theorem inI {x z : Int32} {k : Nat} (h1 : x = nI k) (hz : z = x + 1) : z = nI (k + 1) := by
  rw [hz, h1, nI_1]
theorem deI {x z : Int32} {k : Nat} (h1 : x = nI (k + 1)) (hz : z = x - 1) : z = nI k := by
  rw [hz, h1]; exact nI_pred k
theorem leI {x y : Int32} {a b : Nat} (h1 : x = nI a) (h2 : y = nI b) (ha : a ≤ 100000) (hb : b ≤ 100000) : x ≤ y ↔ a ≤ b := by
  subst h1; subst h2
  rw [Int32.le_iff_toInt_le, nI_toInt (by omega), nI_toInt (by omega)]; omega
theorem ltI {x y : Int32} {a b : Nat} (h1 : x = nI a) (h2 : y = nI b) (ha : a ≤ 100000) (hb : b ≤ 100000) : x < y ↔ a < b := by
  subst h1; subst h2
  rw [Int32.lt_iff_toInt_lt, nI_toInt (by omega), nI_toInt (by omega)]; omega
theorem eqI {x y : Int32} {a b : Nat} (h1 : x = nI a) (h2 : y = nI b) (ha : a ≤ 100000) (hb : b ≤ 100000) : x = y ↔ a = b := by
  subst h1; subst h2
  exact nI_eq (by omega) (by omega)
/-- a list (its last element first) in an array from b on -/
def rep (f : Nat → Int32) (b : Nat) : List Int32 → Prop
  | [] => True
  | x :: l => f (b + l.length) = x ∧ rep f b l
theorem rep_eq {f g : Nat → Int32} {b : Nat} {l : List Int32} (h : rep f b l) (hg : ∀ k, k < b + l.length → g k = f k) : rep g b l := by
  induction l with
  | nil => trivial
  | cons x l ih =>
    refine ⟨?_, ih h.2 (fun k hk => hg k (by simp; omega))⟩
    rw [hg _ (by simp)]; exact h.1
theorem rep_push {f : Nat → Int32} {b : Nat} {l : List Int32} (h : rep f b l) (x : Int32) {k : Nat} (hk : k = b + l.length) : rep (upd f k x) b (x :: l) := by
  subst hk
  refine ⟨by simp [upd], rep_eq h (fun j hj => ?_)⟩
  have : ¬ j = b + l.length := by omega
  simp [upd, this]
theorem rep_get {f : Nat → Int32} {b : Nat} {l : List Int32} (h : rep f b l) : ∀ k, k < l.length → l.reverse[k]? = some (f (b + k)) := by
  induction l with
  | nil => intro k hk; simp at hk
  | cons x l ih =>
    intro k hk
    rw [List.reverse_cons]
    by_cases e : k = l.length
    · subst e
      rw [List.getElem?_append_right (by simp)]
      simp [h.1]
    · have hk2 : k < l.length := by simp at hk; omega
      rw [List.getElem?_append_left (by simpa using hk2)]
      exact ih h.2 k hk2
/-- the sign at a place of the text, 0 behind its end -/
def tok (f : Nat → Int32) (at9 en : Int32) : Int32 := if en ≤ at9 then 0 else f at9.toNatClampNeg
/-- which of so many signs from one on -/
def one (c a m : Int32) : Int32 := if c - a < 0 ∨ m ≤ c - a then -1 else c - a
/-- the signs of a text -/
def okC (f : Nat → Int32) (n : Nat) : Prop := ∀ k, k < n → 33 ≤ f k ∧ f k ≤ 126
theorem tok_ok {f : Nat → Int32} {at9 en : Int32} {a n : Nat} (ha : at9 = nI a) (hn : en = nI n) (hle : a ≤ n) (h2 : n ≤ 240) (hf : okC f n) : 0 ≤ tok f at9 en ∧ tok f at9 en ≤ 126 := by
  unfold tok
  split
  · exact ⟨by decide, by decide⟩
  · rename_i h
    rw [leI hn ha (by omega) (by omega)] at h
    rw [clI ha (by omega)]
    have := hf a (by omega)
    exact ⟨Int32.le_trans (by decide) this.1, this.2⟩
theorem narC {c : Int32} (h0 : 0 ≤ c) (h1 : c ≤ 126) : narrow .char (.int c) = .int c := by
  have h2 : c.toInt.toNat < 127 := by
    rw [Int32.le_iff_toInt_le] at h0 h1
    have e0 : (0 : Int32).toInt = 0 := rfl
    have e1 : (126 : Int32).toInt = 126 := rfl
    omega
  have h3 : c = nI c.toInt.toNat := by
    rw [← Int32.toInt_inj, nI_toInt (by omega)]
    rw [Int32.le_iff_toInt_le] at h0
    have e0 : (0 : Int32).toInt = 0 := rfl
    omega
  rw [h3]
  revert h2
  generalize c.toInt.toNat = k
  intro h2
  have : ∀ k : Nat, k < 127 → narrow .char (.int (nI k)) = .int (nI k) := by decide +kernel
  exact this k h2
/-- the text that is being read: place a of n -/
def TX (f : Nat → Int32) (at9 en : Int32) (a n : Nat) : Prop := at9 = nI a ∧ en = nI n ∧ a ≤ n ∧ n ≤ 240 ∧ okC f n
theorem q_ahead {Post : Int32 → (Nat → Int32) → (Nat → Int64) → (Nat → Nat → Int32) → (Nat → Nat → Int64) → Prop} {a n : Nat} (hT : TX (B 1) (I 5) (I 4) a n) (h : Post (tok (B 1) (I 5) (I 4)) I J B D) : wp_Text_ahead I J B D Post := by
  have ht := tok_ok hT.1 hT.2.1 hT.2.2.1 hT.2.2.2.1 hT.2.2.2.2
  unfold tok at ht h
  refine ⟨fun g => ?_, fun g => ?_⟩
  · rw [if_pos g] at h; exact ⟨rfl, h⟩
  · rw [if_neg g] at ht h
    rw [leI hT.2.1 hT.1 (by have := hT.2.2; omega) (by have := hT.2.2; omega)] at g
    refine ⟨vin2 hT.1 (by have := hT.2.2; omega) (by omega), fun z hz => ?_⟩
    subst hz
    exact ⟨narC ht.1 ht.2, h⟩
theorem q_here {Post : Int32 → (Nat → Int32) → (Nat → Int64) → (Nat → Nat → Int32) → (Nat → Nat → Int64) → Prop} {a n : Nat} (hT : TX (B 0) (I 2) (I 1) a n) (h : Post (tok (B 0) (I 2) (I 1)) I J B D) : wp_LassoFinderModel_here I J B D Post := by
  unfold tok at h
  refine ⟨fun g => ?_, fun g => ?_⟩
  · rw [if_pos g] at h; exact h
  · rw [if_neg g] at h
    rw [leI hT.2.1 hT.1 (by have := hT.2.2; omega) (by have := hT.2.2; omega)] at g
    refine ⟨vin2 hT.1 (by have := hT.2.2; omega) (by omega), fun z hz => ?_⟩
    subst hz
    exact h
theorem q_oneOf {Post : Int32 → (Nat → Int32) → (Nat → Int64) → (Nat → Nat → Int32) → (Nat → Nat → Int64) → Prop} {a n : Nat} {a0 : Int32} (ha0 : a0 = 48 ∨ a0 = 65 ∨ a0 = 97) (hT : TX (B 1) (I 5) (I 4) a n) (h : Post (one (tok (B 1) (I 5) (I 4)) a0 8) I J B D) : wp_Text_oneOf I J B D a0 Post := by
  unfold tok one at h
  refine ⟨fun g => ?_, fun g => ?_⟩
  · rw [if_pos g] at h
    refine ⟨fun _ => ?_, fun g2 => absurd (by decide) g2⟩
    rw [if_pos (by rcases ha0 with rfl | rfl | rfl <;> decide)] at h
    exact h
  · rw [if_neg g] at h
    rw [leI hT.2.1 hT.1 (by have := hT.2.2; omega) (by have := hT.2.2; omega)] at g
    refine ⟨vin2 hT.1 (by have := hT.2.2; omega) (by omega), fun z hz y hy => ?_⟩
    subst hz; subst hy
    refine ⟨fun g2 => ?_, fun g2 => ⟨fun g3 => ?_, fun g3 => ?_⟩⟩
    · rw [if_pos (Or.inl g2)] at h; exact h
    · rw [if_pos (Or.inr g3)] at h; exact h
    · rw [if_neg (fun q => q.elim g2 g3)] at h; exact h
theorem q_from {Post : Int32 → (Nat → Int32) → (Nat → Int64) → (Nat → Nat → Int32) → (Nat → Nat → Int64) → Prop} {a n : Nat} {a0 a1 : Int32} (h1 : 1 ≤ a1) (hT : TX (B 0) (I 2) (I 1) a n) (h : Post (one (tok (B 0) (I 2) (I 1)) a0 a1) I J B D) : wp_LassoFinderModel_from I J B D a0 a1 Post := by
  refine q_here hT ?_
  intro z2 e2 z3 e3
  subst e2
  unfold one at h
  have hc : (z3 < tok (B 0) (I 2) (I 1) - a0) ↔ a1 ≤ tok (B 0) (I 2) (I 1) - a0 := by subst e3; generalize tok (B 0) (I 2) (I 1) = c; grind
  refine ⟨fun g => ?_, fun g => ⟨fun g2 => ?_, fun g2 => ?_⟩⟩
  · rw [if_pos (Or.inl g)] at h
    exact ⟨Or.inl rfl, fun _ => h, fun q => absurd rfl q⟩
  · rw [if_pos (Or.inr (hc.mp g2))] at h
    exact ⟨Or.inl rfl, fun _ => h, fun q => absurd rfl q⟩
  · rw [if_neg (fun q => q.elim g (fun q => g2 (hc.mpr q)))] at h
    refine ⟨Or.inr rfl, fun q => absurd q (by decide), fun _ => ?_⟩
    refine q_here hT ?_
    intro z7 e7
    subst e7
    exact h
end ZR
