/-! What write does, for class and reference alike: the eight characters of a long, the first in its highest byte. -/
def zB (w : Int64) (sh : Int32) : Int32 := (w.toUInt64 >>> (sh.toInt64.toUInt64 &&& Int64.toUInt64 63)).toInt64.toInt32 &&& 255
def zBad (b : Int32) : Prop := ¬ b = 0 ∧ (b < 33 ∨ 126 < b)
def zBadB (b : Int32) : Bool := !(decide (b = 0)) && (decide (b < 33) || decide (126 < b))
theorem zBadB_t {b : Int32} (h0 : ¬ b = 0) (h : b < 33 ∨ 126 < b) : zBadB b = true := by
  unfold zBadB
  rcases h with h | h <;> simp [h0, h]
theorem zBadB_z {b : Int32} (h0 : b = 0) : zBadB b = false := by
  unfold zBadB
  simp [h0]
theorem zBadB_f {b : Int32} (h1 : ¬ b < 33) (h2 : b ≤ 126) : zBadB b = false := by
  unfold zBadB
  have h3 : ¬ 126 < b := fun h => by
    rw [Int32.lt_iff_toInt_lt] at h
    rw [Int32.le_iff_toInt_le] at h2
    omega
  simp [h1, h3]
def zC1 (b : Int32) : Nat := if b = 0 then 0 else 1
def zSh : List Int32 := [56, 48, 40, 32, 24, 16, 8, 0]
def zHd : List Int32 → Int32
  | [] => -8
  | sh :: _ => sh
def zSuf : List Int32 → Bool
  | [] => true
  | sh :: r => decide (¬ sh < 0) && decide (sh + (-8) = zHd r) && zSuf r
theorem zSuf_sh : zSuf zSh = true := by decide +kernel
theorem zSuf_c {sh : Int32} {r : List Int32} (h : zSuf (sh :: r) = true) : ¬ sh < 0 ∧ sh + (-8) = zHd r ∧ zSuf r = true := by
  simp only [zSuf, Bool.and_eq_true, decide_eq_true_eq] at h
  exact ⟨h.1.1, h.1.2, h.2⟩
def zOkL (w : Int64) : List Int32 → Bool
  | [] => true
  | sh :: r => !(zBadB (zB w sh)) && zOkL w r
def zSum (w : Int64) : List Int32 → Nat
  | [] => 0
  | sh :: r => zC1 (zB w sh) + zSum w r
theorem zSum_le (w : Int64) : ∀ r : List Int32, zSum w r ≤ r.length
  | [] => Nat.le_refl _
  | sh :: r => by
    have h := zSum_le w r
    have h1 : zC1 (zB w sh) ≤ 1 := by unfold zC1; split <;> omega
    simp only [zSum, List.length_cons]
    omega
def zPutF (w : Int64) : List Int32 → (Nat → Int32) → Nat → (Nat → Int32)
  | [], f, _ => f
  | sh :: r, f, n => if zB w sh = 0 then zPutF w r f n else zPutF w r (upd f n (zB w sh)) (n + 1)
/-- the answer, the characters and their number behind write(w) -/
def zWrB (w : Int64) (n : Nat) : Bool := zOkL w zSh && decide (n + zSum w zSh ≤ 240)
def zWrR (w : Int64) (n : Nat) : Int32 := if zWrB w n = true then 1 else 0
def zWrF (w : Int64) (f : Nat → Int32) (n : Nat) : Nat → Int32 := if zWrB w n = true then zPutF w zSh f n else f
def zWrN (w : Int64) (n : Nat) : Nat := if zWrB w n = true then n + zSum w zSh else n
theorem zWrB_bad {w : Int64} {n : Nat} (h : zOkL w zSh = false) : zWrB w n = false := by
  unfold zWrB
  rw [h]
  rfl
theorem zWrB_full {w : Int64} {n : Nat} (h : ¬ n + zSum w zSh ≤ 240) : zWrB w n = false := by
  unfold zWrB
  simp [h]
theorem zWrB_ok {w : Int64} {n : Nat} (h1 : zOkL w zSh = true) (h : n + zSum w zSh ≤ 240) : zWrB w n = true := by
  unfold zWrB
  simp [h, h1]
/-- Arrays.fill, up to a place -/
def zFill {α : Type} (f : Nat → α) (v : α) (i : Nat) : Nat → α := fun j => if j < i then v else f j
theorem zFill_0 {α : Type} (f : Nat → α) (v : α) : zFill f v 0 = f := by
  funext j
  simp [zFill]
theorem zFill_s (f : Nat → Int32) (v : Int32) (i : Nat) : upd (zFill f v i) i v = zFill f v (i + 1) := by
  funext j
  simp only [upd, zFill]
  by_cases h : j = i
  · subst h; simp
  · by_cases h2 : j < i
    · simp [h, h2, Nat.lt_succ_of_lt h2]
    · have h3 : ¬ j < i + 1 := by omega
      simp [h, h2, h3]
theorem zFill_sL (f : Nat → Int64) (v : Int64) (i : Nat) : vp_updL (zFill f v i) i v = zFill f v (i + 1) := by
  funext j
  simp only [vp_updL, zFill]
  by_cases h : j = i
  · subst h; simp
  · by_cases h2 : j < i
    · simp [h, h2, Nat.lt_succ_of_lt h2]
    · have h3 : ¬ j < i + 1 := by omega
      simp [h, h2, h3]
/-- count without a model, and a number between two -/
def zCount (w : Int32) : Int32 := if w = 0 then 0 else if w = 1 then 0 else if w = 2 then 0 else if w = 3 then 0 else -1
def zIn (v lo hi : Int32) : Int32 := if v < lo then 0 else if hi < v then 0 else 1
theorem zCount_in {w : Int32} (h : ¬ zIn w 0 3 = 0) : (0 : Int32) = zCount w := by
  have h1 : ¬ w < 0 := fun h1 => h (by unfold zIn; rw [if_pos h1])
  have h2 : ¬ 3 < w := fun h2 => h (by unfold zIn; rw [if_neg h1, if_pos h2])
  obtain ⟨j, hj, rfl⟩ := nI_of2 (x := w) (M := 3) (n := 3) (by decide) h1 (by
    rw [Int32.le_iff_toInt_le]
    rw [Int32.lt_iff_toInt_lt] at h2
    omega)
  have h3 : j = 0 ∨ j = 1 ∨ j = 2 ∨ j = 3 := by omega
  rcases h3 with rfl | rfl | rfl | rfl <;> decide
theorem zCount_out {w : Int32} (h : zIn w 0 3 = 0) : (-1 : Int32) = zCount w := by
  unfold zCount
  have n0 : ¬ w = 0 := fun e => by rw [e] at h; exact absurd h (by decide)
  have n1 : ¬ w = 1 := fun e => by rw [e] at h; exact absurd h (by decide)
  have n2 : ¬ w = 2 := fun e => by rw [e] at h; exact absurd h (by decide)
  have n3 : ¬ w = 3 := fun e => by rw [e] at h; exact absurd h (by decide)
  rw [if_neg n0, if_neg n1, if_neg n2, if_neg n3]
