/-! States in one number: the reference. -/
section ZJ5
variable {I9 : Nat → Int32} {J9 : Nat → Int64} {B9 : Nat → Nat → Int32} {D9 : Nat → Nat → Int64}
/-- the reference's state is c -/
def RS (d : zD) (np : Nat) (c : zCf) (I9 : Nat → Int32) (B9 : Nat → Nat → Int32) : Prop := (∀ v, v < d.2.1 → B9 36 v = nI (c.1 v)) ∧ (∀ k, k < d.2.2.1 → B9 37 k = nI (c.2.1 k)) ∧ (∀ k, k < d.2.2.1 → ∀ i, i < c.2.1 k → B9 38 (3 * k + i) = nI (c.2.2.1 (3 * k + i))) ∧ (∀ p, p < np → B9 39 p = nI (c.2.2.2.1 p)) ∧ I9 17 + 1 = nI c.2.2.2.2
def KR9 (d : zD) (np : Nat) (I9 : Nat → Int32) : Prop := I9 6 = nI d.2.1 ∧ I9 7 = nI d.2.2.1 ∧ I9 10 = nI np ∧ d.2.1 ≤ 6 ∧ d.2.2.1 ≤ 2 ∧ np ≤ 4
theorem rI_z {G : Nat → Nat} {k a m : Nat} (hz : ∀ i, i < 3 → m ≤ i → G (3 * k + i) = 0) : ∀ i, m ≤ i → i ≤ 3 → rI G k a i = rI G k a m := by
  intro i
  induction i with
  | zero => intro h _; have : m = 0 := by omega
            subst this; rfl
  | succ i ih =>
    intro h h3
    by_cases e : m = i + 1
    · rw [e]
    · simp only [rI]
      rw [ih (by omega) (by omega), hz i (by omega) (by omega)]; simp
theorem r_packed {Post : Int64 → (Nat → Int32) → (Nat → Int64) → (Nat → Nat → Int32) → (Nat → Nat → Int64) → Prop} {d : zD} {c : zCf} {np : Nat} (hK : KR9 d np I9) (hO : OKC d.2.1 d.2.2.1 np c) (hS : RS d np c I9 B9) (h : Post (lN (packR d.2.1 d.2.2.1 np c)) I9 J9 B9 D9) : wp_LassoFinderModel_packed I9 J9 B9 D9 Post := by
  obtain ⟨o1, o2, o3, o4, o5, o6, o7, o8, o9, o10⟩ := hO
  obtain ⟨s1, s2, s3, s4, s5⟩ := hS
  obtain ⟨k6, k7, k10, hv6, hc2, hp4⟩ := hK
  have q3 : (3 : Int32) = nI 3 := rfl
  have q5 : (5 : Int32) = nI 5 := rfl
  have q11 : (11 : Int32) = nI 11 := rfl
  have q18 : (18 : Int32) = nI 18 := rfl
  have q20 : (20 : Int32) = nI 20 := rfl
  have q40 : (40 : Int32) = nI 40 := rfl
  have q60 : (60 : Int32) = nI 60 := rfl
  have lv := rV_lt o1 d.2.1
  have lv18 : rV c.1 d.2.1 < 2 ^ 18 := Nat.lt_of_lt_of_le lv (Nat.pow_le_pow_right (by omega) (by omega))
  have lc := rC_lt o3 o5 lv18
  have lc40 : rC c.2.1 c.2.2.1 (rV c.1 d.2.1) d.2.2.1 < 2 ^ 40 := Nat.lt_of_lt_of_le (lc d.2.2.1).1 (Nat.pow_le_pow_right (by omega) (by omega))
  have ls := rS_lt o8 lc40
  have ls60 : rS c.2.2.2.1 (rC c.2.1 c.2.2.1 (rV c.1 d.2.1) d.2.2.1) np < 2 ^ 60 := Nat.lt_of_lt_of_le (ls np) (Nat.pow_le_pow_right (by omega) (by omega))
  have kp : ∀ (m p : Nat), p + m = np → wl_LassoFinderModel_packed_116 Post (m + 1) (lN (rS c.2.2.2.1 (rC c.2.1 c.2.2.1 (rV c.1 d.2.1) d.2.2.1) p)) (nI p) I9 J9 B9 D9 := by
    intro m
    induction m with
    | zero =>
      intro p hp
      have e : p = np := by omega
      subst e
      refine ⟨fun _ z2 e2 z3 e3 z4 e4 z5 e5 => ?_, fun z => absurd ?_ z⟩
      · have : z5 = lN (packR d.2.1 d.2.2.1 p c) := by
          rw [e5, e4, e3, e2, s5, nI_l (by omega), q60, lN_top (by omega) ls60]; rfl
        rw [this]; exact h
      · rw [leI k10 (y := nI p) rfl (by omega) (by omega)]; omega
    | succ m ih =>
      intro p hp
      refine ⟨fun z => ?_, fun _ => ⟨vin2 rfl (by omega) (by omega), fun z6 e6 z7 e7 z8 e8 z9 e9 z10 e10 z11 e11 z12 e12 => ?_⟩⟩
      · rw [leI k10 (y := nI p) rfl (by omega) (by omega)] at z; omega
      · have n6 : z6 = nI (c.2.2.2.1 p) := by rw [e6, clI (x := nI p) rfl (by omega)]; exact s4 p (by omega)
        have n9 : z9 = nI (40 + 5 * p) := by rw [e9, e8, q5, q40, nI_mul, nI_add]
        have := o8 p
        have n11 : z11 = lN (rS c.2.2.2.1 (rC c.2.1 c.2.2.1 (rV c.1 d.2.1) d.2.2.1) (p + 1)) := by
          rw [e11, e10, n9, e7, n6, nI_l (by omega), lN_top (by omega) (ls p)]; rfl
        rw [n11, inI rfl e12]
        exact ih (p + 1) (by omega)
  have kg : ∀ (K34 : Int64 → Int32 → (Nat → Int32) → (Nat → Int64) → (Nat → Nat → Int32) → (Nat → Nat → Int64) → Prop) (k : Nat), k < d.2.2.1 → K34 (lN (rC c.2.1 c.2.2.1 (rV c.1 d.2.1) (k + 1))) (nI (k + 1)) I9 J9 B9 D9 → ∀ (m i : Nat), i + m = c.2.1 k → wl_LassoFinderModel_packed_63 K34 Post (m + 1) (lN (rI c.2.2.1 k (rC c.2.1 c.2.2.1 (rV c.1 d.2.1) k + c.2.1 k * 2 ^ (18 + 11 * k)) i)) (nI k) (nI i) I9 J9 B9 D9 := by
    intro K34 k hk hw m
    have hM := o3 k
    induction m with
    | zero =>
      intro i hi
      have e : i = c.2.1 k := by omega
      refine ⟨vin2 rfl (by omega) (by omega), fun z13 e13 => ⟨fun _ z15 e15 => ?_, fun z => absurd ?_ z⟩⟩
      · rw [inI rfl e15, e, ← rI_z (m := c.2.1 k) (fun i h3 hi => o7 k i h3 hi) 3 (by omega) (by omega)]
        exact hw
      · rw [e13, clI (x := nI k) rfl (by omega), s2 k hk, leI (x := nI (c.2.1 k)) rfl (y := nI i) rfl (by omega) (by omega)]; omega
    | succ m ih =>
      intro i hi
      refine ⟨vin2 rfl (by omega) (by omega), fun z13 e13 => ⟨fun z => ?_, fun _ z16 e16 z17 e17 => ?_⟩⟩
      · rw [e13, clI (x := nI k) rfl (by omega), s2 k hk, leI (x := nI (c.2.1 k)) rfl (y := nI i) rfl (by omega) (by omega)] at z; omega
      · have n17 : z17 = nI (3 * k + i) := by rw [e17, e16, q3, nI_mul, nI_add]
        refine ⟨vin2 n17 (by omega) (by omega), fun z18 e18 z19 e19 z20 e20 z21 e21 z22 e22 z23 e23 z24 e24 z25 e25 z26 e26 => ?_⟩
        have n18 : z18 = nI (c.2.2.1 (3 * k + i)) := by rw [e18, clI n17 (by omega)]; exact s3 k hk i (by omega)
        have n23 : z23 = nI (20 + 11 * k + 3 * i) := by rw [e23, e21, e20, e22, q11, q20, q3, nI_mul, nI_add, nI_mul, nI_add]
        have := o5 (3 * k + i)
        have n25 : z25 = lN (rI c.2.2.1 k (rC c.2.1 c.2.2.1 (rV c.1 d.2.1) k + c.2.1 k * 2 ^ (18 + 11 * k)) (i + 1)) := by
          rw [e25, e24, n23, e19, n18, nI_l (by omega), lN_top (by omega) (rI_lt o5 (lc k).2 i)]; rfl
        rw [n25, inI rfl e26]
        exact ih (i + 1) (by omega)
  have kc : ∀ (m k : Nat), k + m = d.2.2.1 → wl_LassoFinderModel_packed_34 Post (m + 1) (lN (rC c.2.1 c.2.2.1 (rV c.1 d.2.1) k)) (nI k) I9 J9 B9 D9 := by
    intro m
    induction m with
    | zero =>
      intro k hk
      have e : k = d.2.2.1 := by omega
      subst e
      refine ⟨fun _ => ⟨np + 1, kp np 0 (by omega)⟩, fun z => absurd ?_ z⟩
      rw [leI k7 (y := nI d.2.2.1) rfl (by omega) (by omega)]; omega
    | succ m ih =>
      intro k hk
      refine ⟨fun z => ?_, fun _ => ⟨vin2 rfl (by omega) (by omega), fun z28 e28 z29 e29 z30 e30 z31 e31 z32 e32 z33 e33 => ⟨c.2.1 k + 1, ?_⟩⟩⟩
      · rw [leI k7 (y := nI k) rfl (by omega) (by omega)] at z; omega
      · have n28 : z28 = nI (c.2.1 k) := by rw [e28, clI (x := nI k) rfl (by omega)]; exact s2 k (by omega)
        have n31 : z31 = nI (18 + 11 * k) := by rw [e31, e30, q11, q18, nI_mul, nI_add]
        have := o3 k
        have n33 : z33 = lN (rI c.2.2.1 k (rC c.2.1 c.2.2.1 (rV c.1 d.2.1) k + c.2.1 k * 2 ^ (18 + 11 * k)) 0) := by
          rw [e33, e32, n31, e29, n28, nI_l (by omega), lN_top (by omega) (lc k).1]; rfl
        rw [n33]
        exact kg _ k (by omega) (ih (k + 1) (by omega)) (c.2.1 k) 0 (by omega)
  have kv : ∀ (m v : Nat), v + m = d.2.1 → wl_LassoFinderModel_packed_4 Post (m + 1) (lN (rV c.1 v)) (nI v) I9 J9 B9 D9 := by
    intro m
    induction m with
    | zero =>
      intro v hv
      have e : v = d.2.1 := by omega
      subst e
      refine ⟨fun _ => ⟨d.2.2.1 + 1, kc d.2.2.1 0 (by omega)⟩, fun z => absurd ?_ z⟩
      rw [leI k6 (y := nI d.2.1) rfl (by omega) (by omega)]; omega
    | succ m ih =>
      intro v hv
      refine ⟨fun z => ?_, fun _ => ⟨vin2 rfl (by omega) (by omega), fun z35 e35 z36 e36 z37 e37 z38 e38 z39 e39 z40 e40 => ?_⟩⟩
      · rw [leI k6 (y := nI v) rfl (by omega) (by omega)] at z; omega
      · have n35 : z35 = nI (c.1 v) := by rw [e35, clI (x := nI v) rfl (by omega)]; exact s1 v (by omega)
        have n37 : z37 = nI (3 * v) := by rw [e37, q3, nI_mul]
        have := o1 v
        have n39 : z39 = lN (rV c.1 (v + 1)) := by
          rw [e39, e38, n37, e36, n35, nI_l (by omega), lN_top (by omega) (rV_lt o1 v)]; rfl
        rw [n39, inI rfl e40]
        exact ih (v + 1) (by omega)
  exact ⟨d.2.1 + 1, kv d.2.1 0 (by omega)⟩
end ZJ5
