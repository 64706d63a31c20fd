/-! The reference keeps three steps in one number. -/
section ZS1
variable {I9 : Nat → Int32} {J9 : Nat → Int64} {B9 : Nat → Nat → Int32} {D9 : Nat → Nat → Int64}
def b3x (x : Int32) (i : Nat) : Bool := x.toBitVec.getLsbD i
theorem b3x_ext {x y : Int32} (h : ∀ i, i < 32 → b3x x i = b3x y i) : x = y := by
  apply Int32.toBitVec_inj.mp
  apply BitVec.eq_of_getLsbD_eq
  intro i hi
  exact h i hi
theorem b3x_or (x y : Int32) (i : Nat) : b3x (x ||| y) i = (b3x x i || b3x y i) := by
  show (x.toBitVec ||| y.toBitVec).getLsbD i = _
  rw [BitVec.getLsbD_or]; rfl
theorem b3x_and (x y : Int32) (i : Nat) : b3x (x &&& y) i = (b3x x i && b3x y i) := by
  show (x.toBitVec &&& y.toBitVec).getLsbD i = _
  rw [BitVec.getLsbD_and]; rfl
theorem b3x_xor (x y : Int32) (i : Nat) : b3x (x ^^^ y) i = (b3x x i ^^ b3x y i) := by
  show (x.toBitVec ^^^ y.toBitVec).getLsbD i = _
  rw [BitVec.getLsbD_xor]; rfl
theorem b3x_m1 {i : Nat} (h : i < 32) : b3x (-1) i = true := by
  have : ∀ i, i < 32 → b3x (-1) i = true := by decide +kernel
  exact this i h
theorem b3x_511 {i : Nat} (h : i < 32) : b3x 511 i = decide (i < 9) := by
  have : ∀ i, i < 32 → b3x 511 i = decide (i < 9) := by decide +kernel
  exact this i h
theorem b3x_nI {a i : Nat} (hi : i < 32) : b3x (nI a) i = a.testBit i := by
  show (BitVec.ofNat 32 a).getLsbD i = _
  rw [BitVec.getLsbD_ofNat]; simp [hi]
theorem b3x_shl (x : Int32) {k : Nat} (hk : k < 32) {i : Nat} (hi : i < 32) : b3x (x <<< (nI k &&& 31)) i = (decide (k ≤ i) && b3x x (i - k)) := by
  rw [sh31 k hk]
  show (x <<< nI k).toBitVec.getLsbD i = _
  rw [Int32.toBitVec_shiftLeft, sm31 k hk]
  have : (BitVec.ofNat 32 k).toNat = k := by rw [BitVec.toNat_ofNat]; exact Nat.mod_eq_of_lt (by omega)
  rw [BitVec.shiftLeft_eq', this, BitVec.getLsbD_shiftLeft]
  by_cases e : k ≤ i
  · simp [e, hi, b3x]
  · simp [e]
theorem b3x_shr (x : Int32) {k : Nat} (hk : k < 32) {i : Nat} (hi : i + k < 32) : b3x (x >>> (nI k &&& 31)) i = b3x x (i + k) := by
  rw [sh31 k hk]
  show (x >>> nI k).toBitVec.getLsbD i = _
  rw [Int32.toBitVec_shiftRight, sm31 k hk]
  have : (BitVec.ofNat 32 k).toNat = k := by rw [BitVec.toNat_ofNat]; exact Nat.mod_eq_of_lt (by omega)
  rw [BitVec.sshiftRight_eq', this, BitVec.getLsbD_sshiftRight]
  have h1 : ¬ 32 ≤ i := by omega
  have h2 : k + i < 32 := by omega
  simp [h1, h2, b3x, Nat.add_comm]
theorem dv3 {v : Nat} (h : v ≤ 100000) : nI v / 3 = nI (v / 3) := by
  apply Int32.toInt_inj.mp
  rw [Int32.toInt_div, nI_toInt (by omega), nI_toInt (by omega), show (3 : Int32).toInt = 3 from rfl, Int.tdiv_eq_ediv_of_nonneg (by omega), Int.bmod_def]
  split <;> omega
theorem md3 {v : Nat} (h : v ≤ 100000) : nI v - nI v / 3 * 3 = nI (v % 3) := by
  rw [dv3 h, show (3 : Int32) = nI 3 from rfl, nI_mul]
  have := nI_sk (v % 3) (v / 3 * 3)
  rw [show v % 3 + v / 3 * 3 = v by omega] at this
  exact this
/-- the step at a place of such a row -/
def stq (r : Nat → Int32) (i : Nat) : Int32 := (r (i / 3) >>> (nI (9 * (i % 3)) &&& 31)) &&& 511
def kpq (r : Nat → Int32) (i : Nat) (j : Int32) : Nat → Int32 := upd r (i / 3) ((r (i / 3) &&& ((511 <<< (nI (9 * (i % 3)) &&& 31)) ^^^ (-1))) ||| (j <<< (nI (9 * (i % 3)) &&& 31)))
theorem stq_bit (r : Nat → Int32) (i : Nat) {k : Nat} (hk : k < 32) : b3x (stq r i) k = (decide (k < 9) && b3x (r (i / 3)) (k + 9 * (i % 3))) := by
  unfold stq
  rw [b3x_and, b3x_511 hk]
  by_cases e : k < 9
  · rw [b3x_shr _ (by omega) (by omega)]; simp [e]
  · simp [e]
theorem kpq_at (r : Nat → Int32) (i : Nat) {j : Nat} (hj : j < 512) : stq (kpq r i (nI j)) i = nI j := by
  apply b3x_ext
  intro k hk
  rw [stq_bit _ _ hk, b3x_nI hk]
  by_cases e : k < 9
  · unfold kpq
    simp only [upd, if_true]
    rw [b3x_or, b3x_shl _ (by omega) (by omega), b3x_and, b3x_xor, b3x_shl _ (by omega) (by omega), b3x_m1 (by omega), show k + 9 * (i % 3) - 9 * (i % 3) = k by omega, b3x_511 hk, b3x_nI hk]
    have : 9 * (i % 3) ≤ k + 9 * (i % 3) := by omega
    simp [e, this]
  · have : j.testBit k = false := Nat.testBit_lt_two_pow (Nat.lt_of_lt_of_le hj (show 2 ^ 9 ≤ 2 ^ k from Nat.pow_le_pow_right (by omega) (by omega)))
    simp [e, this]
theorem kpq_ne (r : Nat → Int32) {i i' : Nat} {j : Nat} (hj : j < 512) (h : ¬ i' = i) : stq (kpq r i (nI j)) i' = stq r i' := by
  apply b3x_ext
  intro k hk
  rw [stq_bit _ _ hk, stq_bit _ _ hk]
  by_cases e : k < 9
  · by_cases e3 : i' / 3 = i / 3
    · unfold kpq
      have em : ¬ i' % 3 = i % 3 := by omega
      rw [e3]
      simp only [upd, if_true]
      rw [b3x_or, b3x_shl _ (by omega) (by omega), b3x_and, b3x_xor, b3x_shl _ (by omega) (by omega), b3x_m1 (by omega)]
      by_cases g : 9 * (i % 3) ≤ k + 9 * (i' % 3)
      · have h9 : 9 ≤ k + 9 * (i' % 3) - 9 * (i % 3) := by omega
        have hl : k + 9 * (i' % 3) - 9 * (i % 3) < 32 := by omega
        rw [b3x_511 hl, b3x_nI hl]
        have h1 : ¬ k + 9 * (i' % 3) - 9 * (i % 3) < 9 := by omega
        have h2 : j.testBit (k + 9 * (i' % 3) - 9 * (i % 3)) = false := Nat.testBit_lt_two_pow (Nat.lt_of_lt_of_le hj (show 2 ^ 9 ≤ 2 ^ (k + 9 * (i' % 3) - 9 * (i % 3)) from Nat.pow_le_pow_right (by omega) h9))
        simp [h1, h2]
      · simp [g]
    · unfold kpq
      simp only [upd, e3, if_false]
  · simp [e]
theorem r_stepOf55 {Post : Int32 → (Nat → Int32) → (Nat → Int64) → (Nat → Nat → Int32) → (Nat → Nat → Int64) → Prop} {i : Nat} {x : Int32} (hx : x = nI i) (hi : i < 3840) (h : Post (stq (B9 52) i) I9 J9 B9 D9) : wp_LassoFinderModel_stepOf_ad55 I9 J9 B9 D9 x Post := by
  subst hx
  intro z1 e1
  rw [dv3 (by omega)] at e1
  refine ⟨vin2 e1 (by omega) (by omega), fun z2 e2 z3 e3 z4 e4 z5 e5 z6 e6 => ?_⟩
  rw [clI e1 (by omega)] at e2
  rw [md3 (by omega)] at e3
  have n4 : z4 = nI (9 * (i % 3)) := by rw [e4, e3, show (9 : Int32) = nI 9 from rfl, nI_mul]
  rw [e6, e5, n4, e2]; exact h
theorem r_stepOf56 {Post : Int32 → (Nat → Int32) → (Nat → Int64) → (Nat → Nat → Int32) → (Nat → Nat → Int64) → Prop} {i : Nat} {x : Int32} (hx : x = nI i) (hi : i < 3072) (h : Post (stq (B9 53) i) I9 J9 B9 D9) : wp_LassoFinderModel_stepOf_ad56 I9 J9 B9 D9 x Post := by
  subst hx
  intro z1 e1
  rw [dv3 (by omega)] at e1
  refine ⟨vin2 e1 (by omega) (by omega), fun z2 e2 z3 e3 z4 e4 z5 e5 z6 e6 => ?_⟩
  rw [clI e1 (by omega)] at e2
  rw [md3 (by omega)] at e3
  have n4 : z4 = nI (9 * (i % 3)) := by rw [e4, e3, show (9 : Int32) = nI 9 from rfl, nI_mul]
  rw [e6, e5, n4, e2]; exact h
theorem r_keep55 {Post : (Nat → Int32) → (Nat → Int64) → (Nat → Nat → Int32) → (Nat → Nat → Int64) → Prop} {i : Nat} {x y : Int32} (hx : x = nI i) (hi : i < 3840) (h : Post I9 J9 (va_up B9 52 (kpq (B9 52) i y)) D9) : wp_LassoFinderModel_keep_ad55 I9 J9 B9 D9 x y Post := by
  subst hx
  intro z1 e1 z2 e2 z3 e3 z4 e4
  rw [md3 (by omega)] at e1
  rw [dv3 (by omega)] at e3 e4
  have n2 : z2 = nI (9 * (i % 3)) := by rw [e2, e1, show (9 : Int32) = nI 9 from rfl, nI_mul]
  refine ⟨vin2 e4 (by omega) (by omega), fun z5 e5 z6 e6 z7 e7 z8 e8 z9 e9 z10 e10 => ⟨vin2 e3 (by omega) (by omega), ?_⟩⟩
  rw [clI e4 (by omega)] at e5
  rw [clI e3 (by omega), e10, e8, e7, e6, e9, n2, e5]; exact h
theorem r_keep56 {Post : (Nat → Int32) → (Nat → Int64) → (Nat → Nat → Int32) → (Nat → Nat → Int64) → Prop} {i : Nat} {x y : Int32} (hx : x = nI i) (hi : i < 3072) (h : Post I9 J9 (va_up B9 53 (kpq (B9 53) i y)) D9) : wp_LassoFinderModel_keep_ad56 I9 J9 B9 D9 x y Post := by
  subst hx
  intro z1 e1 z2 e2 z3 e3 z4 e4
  rw [md3 (by omega)] at e1
  rw [dv3 (by omega)] at e3 e4
  have n2 : z2 = nI (9 * (i % 3)) := by rw [e2, e1, show (9 : Int32) = nI 9 from rfl, nI_mul]
  refine ⟨vin2 e4 (by omega) (by omega), fun z5 e5 z6 e6 z7 e7 z8 e8 z9 e9 z10 e10 => ⟨vin2 e3 (by omega) (by omega), ?_⟩⟩
  rw [clI e4 (by omega)] at e5
  rw [clI e3 (by omega), e10, e8, e7, e6, e9, n2, e5]; exact h
end ZS1
