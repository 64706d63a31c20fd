/-! Numbers of 64 bits. -/
section ZJ1
theorem shc : ∀ k, k < 64 → ((nI k).toInt64 &&& 63) = lN k := by decide +kernel
theorem shm : ∀ k, k < 64 → (lN k).toBitVec.smod 64 = BitVec.ofNat 64 k := by decide +kernel
theorem shu : ∀ k, k < 64 → ((nI k).toInt64.toUInt64 &&& Int64.toUInt64 63) = UInt64.ofNat k := by decide +kernel
theorem lN_bv (a : Nat) : (lN a).toBitVec = BitVec.ofNat 64 a := rfl
theorem lN_or (a b : Nat) : lN a ||| lN b = lN (a ||| b) := by
  apply Int64.toBitVec_inj.mp
  show BitVec.ofNat 64 a ||| BitVec.ofNat 64 b = BitVec.ofNat 64 (a ||| b)
  exact BitVec.ofNat_or.symm
theorem lN_and (a b : Nat) : lN a &&& lN b = lN (a &&& b) := by
  apply Int64.toBitVec_inj.mp
  show BitVec.ofNat 64 a &&& BitVec.ofNat 64 b = BitVec.ofNat 64 (a &&& b)
  exact BitVec.ofNat_and.symm
theorem lN_shl {a k : Nat} (hk : k < 64) : lN a <<< ((nI k).toInt64 &&& 63) = lN (a * 2 ^ k) := by
  rw [shc k hk]
  apply Int64.toBitVec_inj.mp
  show BitVec.ofNat 64 a <<< ((lN k).toBitVec.smod 64) = BitVec.ofNat 64 (a * 2 ^ k)
  rw [shm k hk]
  apply BitVec.eq_of_toNat_eq
  rw [BitVec.shiftLeft_eq', BitVec.toNat_shiftLeft, BitVec.toNat_ofNat, BitVec.toNat_ofNat, BitVec.toNat_ofNat, Nat.mod_eq_of_lt (show k < 2 ^ 64 by omega), Nat.shiftLeft_eq, Nat.mod_mul_mod]
theorem lN_ushr {a k : Nat} (ha : a < 2 ^ 64) (hk : k < 64) : ((lN a).toUInt64 >>> ((nI k).toInt64.toUInt64 &&& Int64.toUInt64 63)).toInt64 = lN (a / 2 ^ k) := by
  rw [shu k hk]
  apply Int64.toBitVec_inj.mp
  show (BitVec.ofNat 64 a) >>> ((BitVec.ofNat 64 k) % 64) = BitVec.ofNat 64 (a / 2 ^ k)
  apply BitVec.eq_of_toNat_eq
  have hd : a / 2 ^ k < 2 ^ 64 := Nat.lt_of_le_of_lt (Nat.div_le_self _ _) ha
  rw [BitVec.ushiftRight_eq', BitVec.toNat_ushiftRight, BitVec.toNat_umod, BitVec.toNat_ofNat, BitVec.toNat_ofNat, BitVec.toNat_ofNat, Nat.mod_eq_of_lt ha, Nat.mod_eq_of_lt (show k < 2 ^ 64 by omega), Nat.mod_eq_of_lt hd]
  have : k % (64 : BitVec 64).toNat = k := Nat.mod_eq_of_lt hk
  rw [this, Nat.shiftRight_eq_div_pow]
theorem lN_shr {a k : Nat} (ha : a < 2 ^ 63) (hk : k < 64) : lN a >>> ((nI k).toInt64 &&& 63) = lN (a / 2 ^ k) := by
  rw [shc k hk]
  apply Int64.toBitVec_inj.mp
  show (BitVec.ofNat 64 a).sshiftRight' ((lN k).toBitVec.smod 64) = BitVec.ofNat 64 (a / 2 ^ k)
  rw [shm k hk]
  apply BitVec.eq_of_toNat_eq
  have hd : a / 2 ^ k < 2 ^ 64 := Nat.lt_of_le_of_lt (Nat.div_le_self _ _) (by omega)
  have hm : (BitVec.ofNat 64 a).msb = false := by
    rw [BitVec.msb_eq_false_iff_two_mul_lt, BitVec.toNat_ofNat, Nat.mod_eq_of_lt (by omega)]; omega
  rw [BitVec.sshiftRight_eq', BitVec.sshiftRight_eq_of_msb_false hm, BitVec.toNat_ushiftRight, BitVec.toNat_ofNat, BitVec.toNat_ofNat, BitVec.toNat_ofNat, Nat.mod_eq_of_lt (show a < 2 ^ 64 by omega), Nat.mod_eq_of_lt (show k < 2 ^ 64 by omega), Nat.mod_eq_of_lt hd, Nat.shiftRight_eq_div_pow]
theorem nI_andm {a w : Nat} (hw : w ≤ 30) : nI a &&& nI (2 ^ w - 1) = nI (a % 2 ^ w) := by
  apply Int32.toBitVec_inj.mp
  show BitVec.ofNat 32 a &&& BitVec.ofNat 32 (2 ^ w - 1) = BitVec.ofNat 32 (a % 2 ^ w)
  rw [← BitVec.ofNat_and, Nat.and_two_pow_sub_one_eq_mod]
theorem lN_andm {a w : Nat} : lN a &&& lN (2 ^ w - 1) = lN (a % 2 ^ w) := by
  rw [lN_and, Nat.and_two_pow_sub_one_eq_mod]
/-- a digit more below -/
theorem lN_dig {a d k : Nat} (hk : k < 64) (hd : d < 2 ^ k) : lN a <<< ((nI k).toInt64 &&& 63) ||| lN d = lN (a * 2 ^ k + d) := by
  rw [lN_shl hk, lN_or, Nat.mul_comm, Nat.two_pow_add_eq_or_of_lt hd]
/-- a digit more above -/
theorem lN_top {a d k : Nat} (hk : k < 64) (ha : a < 2 ^ k) : lN a ||| lN d <<< ((nI k).toInt64 &&& 63) = lN (a + d * 2 ^ k) := by
  rw [lN_shl hk, lN_or, Nat.or_comm, Nat.mul_comm, ← Nat.two_pow_add_eq_or_of_lt ha, Nat.add_comm]
/-- a mask's bits -/
def bt (x : Int64) (i : Nat) : Bool := x.toBitVec.getLsbD i
theorem bt_ext {x y : Int64} (h : ∀ i, i < 64 → bt x i = bt y i) : x = y := by
  apply Int64.toBitVec_inj.mp
  apply BitVec.eq_of_getLsbD_eq
  intro i hi
  exact h i hi
theorem bt_or (x y : Int64) (i : Nat) : bt (x ||| y) i = (bt x i || bt y i) := by
  show (x.toBitVec ||| y.toBitVec).getLsbD i = _
  rw [BitVec.getLsbD_or]; rfl
theorem bt_and (x y : Int64) (i : Nat) : bt (x &&& y) i = (bt x i && bt y i) := by
  show (x.toBitVec &&& y.toBitVec).getLsbD i = _
  rw [BitVec.getLsbD_and]; rfl
theorem bt_xor (x y : Int64) (i : Nat) : bt (x ^^^ y) i = (bt x i ^^ bt y i) := by
  show (x.toBitVec ^^^ y.toBitVec).getLsbD i = _
  rw [BitVec.getLsbD_xor]; rfl
theorem bt_0 (i : Nat) : bt 0 i = false := by
  show (0#64).getLsbD i = false
  exact BitVec.getLsbD_zero
theorem bt_m1 {i : Nat} (h : i < 64) : bt (-1) i = true := by
  have : ∀ i, i < 64 → bt (-1) i = true := by decide +kernel
  exact this i h
theorem bt_hi (x : Int64) {i : Nat} (h : 64 ≤ i) : bt x i = false := BitVec.getLsbD_of_ge _ _ h
theorem bt_bit {b i : Nat} (hb : b < 64) : bt (bitL b) i = decide (i = b) := by
  by_cases hi : i < 64
  · have : ∀ b, b < 64 → ∀ i, i < 64 → bt (bitL b) i = decide (i = b) := by decide +kernel
    exact this b hb i hi
  · rw [bt_hi _ (by omega)]; symm; rw [decide_eq_false_iff_not]; omega
theorem bt_lN {a i : Nat} (hi : i < 64) : bt (lN a) i = a.testBit i := by
  show (BitVec.ofNat 64 a).getLsbD i = _
  rw [BitVec.getLsbD_ofNat]; simp [hi]
theorem cmp0 (x y : Int64) : lg_cmp x y = 0 ↔ x = y := by
  unfold lg_cmp
  by_cases h : x = y
  · subst h
    have : ¬ x > x := by rw [gt_iff_lt, Int64.lt_iff_toInt_lt]; omega
    rw [if_neg this, if_pos rfl]; simp
  · by_cases g : x > y
    · rw [if_pos g]; exact ⟨fun z => absurd z (by decide), fun z => absurd z h⟩
    · rw [if_neg g, if_neg h]; exact ⟨fun z => absurd z (by decide), fun z => absurd z h⟩
theorem bt_1 (x : Int64) : (x &&& 1 = 0 ∧ bt x 0 = false) ∨ (x &&& 1 = 1 ∧ bt x 0 = true) := by
  have e1 : (1 : Int64) = bitL 0 := by decide
  cases h : bt x 0 with
  | false =>
    left
    refine ⟨bt_ext (fun i hi => ?_), rfl⟩
    rw [bt_and, e1, bt_bit (by omega), bt_0]
    by_cases e : i = 0
    · subst e; rw [h]; rfl
    · simp [e]
  | true =>
    right
    refine ⟨bt_ext (fun i hi => ?_), rfl⟩
    rw [bt_and, e1, bt_bit (by omega)]
    by_cases e : i = 0
    · subst e; rw [h]; rfl
    · simp [e]
/-- the class asks for a bit -/
theorem tstC (x : Int64) {b : Nat} (hb : b < 64) : lg_cmp ((x.toUInt64 >>> ((nI b).toInt64.toUInt64 &&& Int64.toUInt64 63)).toInt64 &&& 1) 0 = 0 ↔ bt x b = false := by
  rw [cmp0]
  have h := bt_1 (x.toUInt64 >>> ((nI b).toInt64.toUInt64 &&& Int64.toUInt64 63)).toInt64
  have e : bt (x.toUInt64 >>> ((nI b).toInt64.toUInt64 &&& Int64.toUInt64 63)).toInt64 0 = bt x b := by
    rw [shu b hb]
    show (x.toBitVec >>> ((BitVec.ofNat 64 b) % 64)).getLsbD 0 = x.toBitVec.getLsbD b
    rw [BitVec.ushiftRight_eq', BitVec.getLsbD_ushiftRight, BitVec.toNat_umod, BitVec.toNat_ofNat, Nat.mod_eq_of_lt (show b < 2 ^ 64 by omega)]
    have : b % (64 : BitVec 64).toNat = b := Nat.mod_eq_of_lt hb
    rw [this, Nat.add_zero]
  rw [e] at h
  rcases h with ⟨h1, h2⟩ | ⟨h1, h2⟩
  · rw [h1, h2]; simp
  · rw [h1, h2]; exact ⟨fun z => absurd z (by decide), fun z => absurd z (by decide)⟩
/-- .. and the reference -/
theorem btR (x : Int64) {b : Nat} (hb : b < 64) : bt (x >>> ((nI b).toInt64 &&& 63)) 0 = bt x b := by
  rw [shc b hb]
  show (x.toBitVec.sshiftRight' ((lN b).toBitVec.smod 64)).getLsbD 0 = x.toBitVec.getLsbD b
  rw [shm b hb, BitVec.sshiftRight_eq', BitVec.getLsbD_sshiftRight, BitVec.toNat_ofNat, Nat.mod_eq_of_lt (show b < 2 ^ 64 by omega)]
  simp [hb]
theorem tstR (x : Int64) {b : Nat} (hb : b < 64) : lg_cmp (x >>> ((nI b).toInt64 &&& 63) &&& 1) 0 = 0 ↔ bt x b = false := by
  rw [cmp0]
  have h := bt_1 (x >>> ((nI b).toInt64 &&& 63))
  rw [btR x hb] at h
  rcases h with ⟨h1, h2⟩ | ⟨h1, h2⟩
  · rw [h1, h2]; simp
  · rw [h1, h2]; exact ⟨fun z => absurd z (by decide), fun z => absurd z (by decide)⟩
theorem tstR1 (x : Int64) {b : Nat} (hb : b < 64) : lg_cmp (x >>> ((nI b).toInt64 &&& 63) &&& 1) 1 = 0 ↔ bt x b = true := by
  rw [cmp0]
  have h := bt_1 (x >>> ((nI b).toInt64 &&& 63))
  rw [btR x hb] at h
  rcases h with ⟨h1, h2⟩ | ⟨h1, h2⟩
  · rw [h1, h2]; exact ⟨fun z => absurd z (by decide), fun z => absurd z (by decide)⟩
  · rw [h1, h2]; simp
end ZJ1
