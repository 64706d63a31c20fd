/-! Formulas: what they are worth, apart from both. -/
section ZP1
/-- bits of small numbers as ints -/
theorem nI_bv (a : Nat) : (nI a).toBitVec = BitVec.ofNat 32 a := rfl
theorem nI_or (a b : Nat) : nI a ||| nI b = nI (a ||| b) := by
  apply Int32.toBitVec_inj.mp
  rw [Int32.toBitVec_or, nI_bv, nI_bv, nI_bv]
  exact (BitVec.ofNat_or).symm
theorem nI_and (a b : Nat) : nI a &&& nI b = nI (a &&& b) := by
  apply Int32.toBitVec_inj.mp
  rw [Int32.toBitVec_and, nI_bv, nI_bv, nI_bv]
  exact (BitVec.ofNat_and).symm
theorem nI_xor (a b : Nat) : nI a ^^^ nI b = nI (a ^^^ b) := by
  apply Int32.toBitVec_inj.mp
  rw [Int32.toBitVec_xor, nI_bv, nI_bv, nI_bv]
  exact (BitVec.ofNat_xor).symm
theorem sh31 : ∀ k, k < 32 → (nI k &&& 31) = nI k := by decide +kernel
theorem sm31 : ∀ k, k < 32 → (nI k).toBitVec.smod 32 = BitVec.ofNat 32 k := by decide +kernel
theorem nI_shl {a k : Nat} (hk : k < 32) : nI a <<< (nI k &&& 31) = nI (a * 2 ^ k) := by
  rw [sh31 k hk]
  apply Int32.toBitVec_inj.mp
  rw [Int32.toBitVec_shiftLeft, sm31 k hk, nI_bv, nI_bv]
  apply BitVec.eq_of_toNat_eq
  have : (BitVec.ofNat 32 k).toNat = k := by rw [BitVec.toNat_ofNat]; exact Nat.mod_eq_of_lt (by omega)
  rw [BitVec.shiftLeft_eq', BitVec.toNat_shiftLeft, this, BitVec.toNat_ofNat, BitVec.toNat_ofNat, Nat.shiftLeft_eq, Nat.mod_mul_mod]
theorem nI_shr {a k : Nat} (ha : a < 2 ^ 31) (hk : k < 32) : nI a >>> (nI k &&& 31) = nI (a / 2 ^ k) := by
  rw [sh31 k hk]
  apply Int32.toBitVec_inj.mp
  rw [Int32.toBitVec_shiftRight, sm31 k hk, nI_bv, nI_bv]
  have h1 : (BitVec.ofNat 32 a).msb = false := by
    rw [BitVec.msb_eq_false_iff_two_mul_lt, BitVec.toNat_ofNat, Nat.mod_eq_of_lt (by omega)]; omega
  rw [BitVec.sshiftRight_eq', BitVec.sshiftRight_eq_of_msb_false h1]
  apply BitVec.eq_of_toNat_eq
  have : (BitVec.ofNat 32 k).toNat = k := by rw [BitVec.toNat_ofNat]; exact Nat.mod_eq_of_lt (by omega)
  have hd : a / 2 ^ k ≤ a := Nat.div_le_self _ _
  rw [BitVec.toNat_ushiftRight, this, BitVec.toNat_ofNat, BitVec.toNat_ofNat, Nat.shiftRight_eq_div_pow, Nat.mod_eq_of_lt (by omega), Nat.mod_eq_of_lt (by omega)]
def b2n (b : Bool) : Nat := if b = true then 1 else 0
theorem nI_bit {a k : Nat} (ha : a < 2 ^ 31) (hk : k < 32) : nI a >>> (nI k &&& 31) &&& 1 = nI (b2n (a.testBit k)) := by
  rw [nI_shr ha hk, show (1 : Int32) = nI 1 from rfl, nI_and, Nat.and_one_is_mod]
  congr 1
  unfold b2n
  rw [Nat.testBit_eq_decide_div_mod_eq]
  have := Nat.mod_two_eq_zero_or_one (a / 2 ^ k)
  rcases this with h | h
  · rw [h]; simp
  · rw [h]; simp
theorem or_bit {a k : Nat} {b : Bool} : ∀ i, (a ||| b2n b * 2 ^ k).testBit i = (a.testBit i || (b && decide (i = k))) := by
  intro i
  rw [Nat.testBit_or]
  congr 1
  cases b
  · simp [b2n]
  · simp only [b2n, if_true, Nat.one_mul, Bool.true_and]
    rw [Nat.testBit_two_pow]
    by_cases e : k = i
    · subst e; simp
    · have : ¬ i = k := fun w => e w.symm
      simp [e, this]
theorem or_lt {a b k : Nat} (h1 : a < 2 ^ k) (h2 : b < 2 ^ k) : a ||| b < 2 ^ k := Nat.or_lt_two_pow h1 h2
variable (av : zIt → Bool)
/-- the values of what no sign has taken, the last first -/
def evl (T : Nat → Bool) : List zIt → List Bool
  | [] => []
  | x :: l => if 8 ≤ x.1 then av x :: evl T l else if isU x.1 then (if x.1 = 0 then !(evl T l).headD false else T (ntm l)) :: (evl T l).tail else (if x.1 = 1 then (evl T l).tail.headD false && (evl T l).headD false else if x.1 = 2 then (evl T l).tail.headD false || (evl T l).headD false else if x.1 = 3 then !(evl T l).tail.headD false || (evl T l).headD false else T (ntm l)) :: (evl T l).tail.tail
/-- the sides of a U, R, G or F -/
def ag (T : Nat → Bool) : List zIt → Nat → Bool × Bool
  | [], _ => (false, false)
  | x :: l, t => if isT x.1 ∧ ntm l = t then (if isU x.1 then ((evl av T l).headD false, false) else ((evl av T l).tail.headD false, (evl av T l).headD false)) else ag T l t
/-- its kind -/
def tk : List zIt → Nat → Nat
  | [], _ => 0
  | x :: l, t => if isT x.1 ∧ ntm l = t then x.1 else tk l t
/-- what it is worth, out of its sides and its worth at the next state -/
def car (k : Nat) (a b nx : Bool) : Bool := if k = 4 then a && nx else if k = 5 then a || nx else if k = 6 then b || (a && nx) else b && (a || nx)
def cT (nx : Nat → Bool) : List zIt → Nat → Bool
  | [], _ => false
  | x :: l, t => if isT x.1 ∧ ntm l = t then car x.1 (if isU x.1 then (evl av (cT nx l) l).headD false else (evl av (cT nx l) l).tail.headD false) (if isU x.1 then false else (evl av (cT nx l) l).headD false) (nx t) else cT nx l t
def stb (k : Nat) (a b g : Bool) : Bool := if k = 4 then g || !a else if k = 5 then !g || a else if k = 6 then !g || b else g || !b
theorem evl_len (T : Nat → Bool) : ∀ l : List zIt, (evl av T l).length = (rts l).length := by
  intro l
  induction l with
  | nil => rfl
  | cons x l ih =>
    unfold evl rts
    split
    · rw [List.length_cons, List.length_cons, ih]
    · split
      · rw [List.length_cons, List.length_cons, List.length_tail, List.length_tail, ih]
      · rw [List.length_cons, List.length_cons, List.length_tail, List.length_tail, List.length_tail, List.length_tail, ih]
theorem evl_cg {T T' : Nat → Bool} : ∀ l : List zIt, (∀ i, i < ntm l → T i = T' i) → evl av T l = evl av T' l := by
  intro l
  induction l with
  | nil => intro _; rfl
  | cons x l ih =>
    intro h
    have hl : ntm l ≤ ntm (x :: l) := Nat.le_add_right _ _
    have e := ih (fun i hi => h i (by omega))
    have ht : isT x.1 → T (ntm l) = T' (ntm l) := fun g => h _ (by
      show ntm l < ntm l + (if isT x.1 then 1 else 0)
      rw [if_pos g]; omega)
    unfold evl
    rw [e]
    split
    · rfl
    · split
      · rename_i g8 gu
        split
        · rfl
        · rw [ht (by omega)]
      · rename_i g8 gu
        split
        · rfl
        · split
          · rfl
          · split
            · rfl
            · rw [ht (by omega)]
theorem cT_suf (nx : Nat → Bool) : ∀ (pre l : List zIt) (t : Nat), t < ntm l → cT av nx (pre ++ l) t = cT av nx l t := by
  intro pre
  induction pre with
  | nil => intro l t _; rfl
  | cons x pre ih =>
    intro l t ht
    have hle : ntm l ≤ ntm (pre ++ l) := by
      clear ih ht
      induction pre with
      | nil => exact Nat.le_refl _
      | cons y pre ih2 => exact Nat.le_trans ih2 (Nat.le_add_right _ _)
    show (if isT x.1 ∧ ntm (pre ++ l) = t then _ else cT av nx (pre ++ l) t) = _
    rw [if_neg (fun z => by have := z.2; omega)]
    exact ih l t ht
theorem ntm_app : ∀ (pre l : List zIt), ntm l ≤ ntm (pre ++ l) := by
  intro pre l
  induction pre with
  | nil => exact Nat.le_refl _
  | cons y pre ih => exact Nat.le_trans ih (Nat.le_add_right _ _)
theorem ag_suf (T : Nat → Bool) : ∀ (pre l : List zIt) (t : Nat), t < ntm l → ag av T (pre ++ l) t = ag av T l t := by
  intro pre
  induction pre with
  | nil => intro l t _; rfl
  | cons x pre ih =>
    intro l t ht
    have hle := ntm_app pre l
    show (if isT x.1 ∧ ntm (pre ++ l) = t then _ else ag av T (pre ++ l) t) = _
    rw [if_neg (fun z => by have := z.2; omega)]
    exact ih l t ht
theorem tk_suf : ∀ (pre l : List zIt) (t : Nat), t < ntm l → tk (pre ++ l) t = tk l t := by
  intro pre
  induction pre with
  | nil => intro l t _; rfl
  | cons x pre ih =>
    intro l t ht
    have hle := ntm_app pre l
    show (if isT x.1 ∧ ntm (pre ++ l) = t then _ else tk (pre ++ l) t) = _
    rw [if_neg (fun z => by have := z.2; omega)]
    exact ih l t ht
/-- a U, R, G or F out of its sides at these very worths -/
theorem cT_ag (nx : Nat → Bool) : ∀ (l : List zIt) (t : Nat), t < ntm l → ∀ T : Nat → Bool, (∀ i, i < t → T i = cT av nx l i) → cT av nx l t = car (tk l t) (ag av T l t).1 (ag av T l t).2 (nx t) := by
  intro l
  induction l with
  | nil => intro t ht; exact absurd ht (Nat.not_lt_zero t)
  | cons x l ih =>
    intro t ht T hT
    have hn : ntm (x :: l) = ntm l + (if isT x.1 then 1 else 0) := rfl
    by_cases g : isT x.1 ∧ ntm l = t
    · have e1 : cT av nx (x :: l) t = car x.1 (if isU x.1 then (evl av (cT av nx l) l).headD false else (evl av (cT av nx l) l).tail.headD false) (if isU x.1 then false else (evl av (cT av nx l) l).headD false) (nx t) := by
        show (if isT x.1 ∧ ntm l = t then _ else _) = _
        rw [if_pos g]
      have e2 : tk (x :: l) t = x.1 := by
        show (if isT x.1 ∧ ntm l = t then _ else _) = _
        rw [if_pos g]
      have e3 : ag av T (x :: l) t = (if isU x.1 then ((evl av T l).headD false, false) else ((evl av T l).tail.headD false, (evl av T l).headD false)) := by
        show (if isT x.1 ∧ ntm l = t then _ else _) = _
        rw [if_pos g]
      have ee : evl av T l = evl av (cT av nx l) l := evl_cg av l (fun i hi => by
        rw [hT i (by omega)]
        show (if isT x.1 ∧ ntm l = i then _ else cT av nx l i) = _
        rw [if_neg (fun z => by have := z.2; omega)])
      rw [e1, e2, e3, ee]
      by_cases gu : isU x.1
      · rw [if_pos gu, if_pos gu, if_pos gu]
      · rw [if_neg gu, if_neg gu, if_neg gu]
    · have ht' : t < ntm l := by
        by_cases gt : isT x.1
        · rw [if_pos gt] at hn
          have : ¬ ntm l = t := fun e => g ⟨gt, e⟩
          omega
        · rw [if_neg gt] at hn; omega
      have c1 : ∀ i, i < ntm l → cT av nx (x :: l) i = cT av nx l i := fun i hi => cT_suf av nx [x] l i hi
      have := ih t ht' T (fun i hi => by rw [hT i hi, c1 i (by omega)])
      rw [c1 t ht', this]
      have a1 : ag av T (x :: l) t = ag av T l t := ag_suf av T [x] l t ht'
      have a2 : tk (x :: l) t = tk l t := tk_suf [x] l t ht'
      rw [a1, a2]
theorem ag_cg {T T' : Nat → Bool} : ∀ (l : List zIt) (t : Nat), (∀ i, i < t → T i = T' i) → ag av T l t = ag av T' l t := by
  intro l
  induction l with
  | nil => intro t _; rfl
  | cons x l ih =>
    intro t h
    show (if isT x.1 ∧ ntm l = t then _ else ag av T l t) = (if isT x.1 ∧ ntm l = t then _ else ag av T' l t)
    by_cases g : isT x.1 ∧ ntm l = t
    · rw [if_pos g, if_pos g, evl_cg av l (fun i hi => h i (by have := g.2; omega))]
    · rw [if_neg g, if_neg g]; exact ih t h
def bN (F : Nat → Bool) : Nat → Nat
  | 0 => 0
  | t + 1 => bN F t + b2n (F t) * 2 ^ t
theorem bN_lt (F : Nat → Bool) : ∀ t, bN F t < 2 ^ t := by
  intro t
  induction t with
  | zero => exact Nat.one_pos
  | succ t ih =>
    show bN F t + b2n (F t) * 2 ^ t < 2 ^ (t + 1)
    rw [Nat.pow_succ]
    unfold b2n
    split <;> omega
theorem bN_or (F : Nat → Bool) (t : Nat) : bN F (t + 1) = bN F t ||| b2n (F t) * 2 ^ t := by
  show bN F t + b2n (F t) * 2 ^ t = _
  have h := bN_lt F t
  rw [Nat.mul_comm, Nat.add_comm, Nat.or_comm]
  exact Nat.two_pow_add_eq_or_of_lt h _
theorem bN_bit (F : Nat → Bool) : ∀ t i, (bN F t).testBit i = (decide (i < t) && F i) := by
  intro t
  induction t with
  | zero => intro i; simp [bN]
  | succ t ih =>
    intro i
    rw [bN_or, or_bit, ih i]
    by_cases e : i = t
    · subst e; simp
    · by_cases e2 : i < t
      · have : i < t + 1 := by omega
        simp [e, e2, this]
      · have : ¬ i < t + 1 := by omega
        simp [e, e2, this]
theorem bN_cg {F F' : Nat → Bool} : ∀ t, (∀ i, i < t → F i = F' i) → bN F t = bN F' t := by
  intro t
  induction t with
  | zero => intro _; rfl
  | succ t ih => intro h; show bN F t + b2n (F t) * 2 ^ t = bN F' t + b2n (F' t) * 2 ^ t; rw [ih (fun i hi => h i (by omega)), h t (by omega)]
/-- the guess before, what isn't put off, the formula itself -/
def bef (out : List zIt) (g : Nat) : Nat := bN (cT av (fun t => g.testBit t) out) (ntm out)
def stN (out : List zIt) (g : Nat) : Nat := bN (fun t => stb (tk out t) (ag av (fun t => g.testBit t) out t).1 (ag av (fun t => g.testBit t) out t).2 (g.testBit t)) (ntm out)
def sat (out : List zIt) (g : Nat) : Bool := (evl av (fun t => g.testBit t) out).headD false
end ZP1
