/-! States in one number: the class. -/
section ZJ3
variable {I : Nat → Int32} {J : Nat → Int64} {B : Nat → Nat → Int32} {D : Nat → Nat → Int64}
/-- the names -/
def NC (d : zD) : Prop := d.2.1 ≤ 6 ∧ d.2.2.1 ≤ 2 ∧ (∀ v, v < d.2.1 → ∃ j, j < 8 ∧ d.2.2.2.2.2.1 v = nI j ∧ d.2.2.2.1 j = 1) ∧ (∀ v v', v < d.2.1 → v' < d.2.1 → d.2.2.2.2.2.1 v = d.2.2.2.2.2.1 v' → v = v') ∧ (∀ k, k < d.2.2.1 → ∃ j, j < 8 ∧ d.2.2.2.2.2.2 k = nI j ∧ d.2.2.2.1 j = 2) ∧ (∀ k k', k < d.2.2.1 → k' < d.2.2.1 → d.2.2.2.2.2.2 k = d.2.2.2.2.2.2 k' → k = k') ∧ (∀ j, j < 8 → d.2.2.2.1 j = 1 → ∃ v, v < d.2.1 ∧ d.2.2.2.2.2.1 v = nI j) ∧ (∀ j, j < 8 → d.2.2.2.1 j = 2 → ∃ k, k < d.2.2.1 ∧ d.2.2.2.2.2.2 k = nI j) ∧ (∀ j, j < 8 → (d.2.2.2.1 j = 1 → 0 ≤ d.2.2.2.2.1 j ∧ d.2.2.2.2.1 j < 8) ∧ (d.2.2.2.1 j = 2 → 0 ≤ d.2.2.2.2.1 j ∧ d.2.2.2.2.1 j ≤ 3))
theorem NM.nc {d : zD} {I9 : Nat → Int32} {B9 : Nat → Nat → Int32} (h : NM d I9 B9) : NC d := by
  obtain ⟨h1, h2, h3, h4, r0, r1, r2, r3, r4, r5, r6⟩ := h
  refine ⟨h3, h4, fun v hv => ?_, fun v v' hv hv' e => ?_, fun k hk => ?_, fun k k' hk hk' e => ?_, fun j hj z => ?_, fun j hj z => ?_, fun j hj => (r0 j hj).2⟩
  · obtain ⟨j, hj, e, w, _⟩ := r1 v hv; exact ⟨j, hj, e, w⟩
  · obtain ⟨j, hj, e1, _, w1, _⟩ := r1 v hv
    obtain ⟨j', hj', e2, _, w2, _⟩ := r1 v' hv'
    rw [e1, e2] at e
    have := nI_inj (by omega) (by omega) e
    subst this
    exact nI_inj (by omega) (by omega) (w1.symm.trans w2)
  · obtain ⟨j, hj, e, w, _⟩ := r4 k hk; exact ⟨j, hj, e, w⟩
  · obtain ⟨j, hj, e1, _, w1, _⟩ := r4 k hk
    obtain ⟨j', hj', e2, _, w2, _⟩ := r4 k' hk'
    rw [e1, e2] at e
    have := nI_inj (by omega) (by omega) e
    subst this
    exact nI_inj (by omega) (by omega) (w1.symm.trans w2)
  · obtain ⟨v, hv, e, _⟩ := r2 j hj z; exact ⟨v, hv, e⟩
  · obtain ⟨v, hv, e, _⟩ := r5 j hj z; exact ⟨v, hv, e⟩
def xv (d : zD) (v : Nat) : Nat := (d.2.2.2.2.2.1 v).toNatClampNeg
def xc (d : zD) (k : Nat) : Nat := (d.2.2.2.2.2.2 k).toNatClampNeg
theorem NC.v {d : zD} (h : NC d) {v : Nat} (hv : v < d.2.1) : d.2.2.2.2.2.1 v = nI (xv d v) ∧ xv d v < 8 ∧ d.2.2.2.1 (xv d v) = 1 := by
  obtain ⟨j, hj, e, w⟩ := h.2.2.1 v hv
  have : xv d v = j := clI e (by omega)
  rw [this]; exact ⟨e, hj, w⟩
theorem NC.c {d : zD} (h : NC d) {k : Nat} (hk : k < d.2.2.1) : d.2.2.2.2.2.2 k = nI (xc d k) ∧ xc d k < 8 ∧ d.2.2.2.1 (xc d k) = 2 := by
  obtain ⟨j, hj, e, w⟩ := h.2.2.2.2.1 k hk
  have : xc d k = j := clI e (by omega)
  rw [this]; exact ⟨e, hj, w⟩
theorem NC.vi {d : zD} (h : NC d) {v v' : Nat} (hv : v < d.2.1) (hv' : v' < d.2.1) (e : xv d v = xv d v') : v = v' := h.2.2.2.1 v v' hv hv' (by rw [(h.v hv).1, (h.v hv').1, e])
theorem NC.ci {d : zD} (h : NC d) {v v' : Nat} (hv : v < d.2.2.1) (hv' : v' < d.2.2.1) (e : xc d v = xc d v') : v = v' := h.2.2.2.2.2.1 v v' hv hv' (by rw [(h.c hv).1, (h.c hv').1, e])
theorem NC.vc {d : zD} (h : NC d) {v k : Nat} (hv : v < d.2.1) (hk : k < d.2.2.1) : ¬ xv d v = xc d k := by
  intro e
  have a := (h.v hv).2.2
  have b := (h.c hk).2.2
  rw [e, b] at a; exact absurd a (by decide)
def KX (d : zD) (I : Nat → Int32) (B : Nat → Nat → Int32) : Prop := I 7 = nI d.2.1 ∧ I 8 = nI d.2.2.1 ∧ B 4 = d.2.2.2.2.2.1 ∧ B 5 = d.2.2.2.2.2.2
/-- the class's state is c -/
def CS (d : zD) (c : zCf) (I : Nat → Int32) (B : Nat → Nat → Int32) : Prop := (∀ v, v < d.2.1 → B 29 (xv d v) = nI (c.1 v)) ∧ (∀ k, k < d.2.2.1 → B 29 (xc d k) = nI (c.2.1 k)) ∧ (∀ k, k < d.2.2.1 → ∀ i, i < 3 → B 30 (3 * xc d k + i) = nI (c.2.2.1 (3 * k + i))) ∧ (∀ p, p < 4 → B 31 p = nI (c.2.2.2.1 p)) ∧ I 18 + 1 = nI c.2.2.2.2
theorem q_packed {Post : Int64 → (Nat → Int32) → (Nat → Int64) → (Nat → Nat → Int32) → (Nat → Nat → Int64) → Prop} {d : zD} {c : zCf} {np : Nat} (hN : NC d) (hK : KX d I B) (hO : OKC d.2.1 d.2.2.1 np c) (hnp : np ≤ 4) (hS : CS d c I B) (h : Post (lN (packC d.2.1 d.2.2.1 c)) I J B D) : wp_Situation_packed I J B D Post := by
  obtain ⟨o1, o2, o3, o4, o5, o6, o7, o8, o9, o10⟩ := hO
  obtain ⟨s1, s2, s3, s4, s5⟩ := hS
  obtain ⟨k7, k8, k4, k5⟩ := hK
  have hv6 := hN.1
  have hc2 := hN.2.1
  intro z29 e29 z30 e30
  have n30 : z30 = lN c.2.2.2.2 := by rw [e30, e29, s5, nI_l (by omega)]
  -- messages
  have kg : ∀ (K74 : Int64 → Int32 → (Nat → Int32) → (Nat → Int64) → (Nat → Nat → Int32) → (Nat → Nat → Int64) → Prop) (x3 : Int32) (k : Nat), k < d.2.2.1 → ∀ (m i a : Nat), i + m = 3 → (∀ r, (i = 0 → r = ((a * 8 + c.2.2.1 (3 * k)) * 8 + c.2.2.1 (3 * k + 1)) * 8 + c.2.2.1 (3 * k + 2)) → (i = 1 → r = (a * 8 + c.2.2.1 (3 * k + 1)) * 8 + c.2.2.1 (3 * k + 2)) → (i = 2 → r = a * 8 + c.2.2.1 (3 * k + 2)) → (i = 3 → r = a) → K74 (lN r) (x3 + 1) I J B D) → wl_Situation_packed_112 K74 Post (m + 1) (lN a) x3 (nI (xc d k)) (nI i) I J B D := by
    intro K74 x3 k hk m
    induction m with
    | zero =>
      intro i a hi hh
      have e : i = 3 := by omega
      subst e
      refine ⟨fun _ z2 e2 => by rw [e2]; exact hh a (fun z => by omega) (fun z => by omega) (fun z => by omega) (fun _ => rfl), fun z => absurd ?_ z⟩
      exact (leI (x := 3) (a := 3) rfl (y := nI 3) rfl (by omega) (by omega)).mpr (by omega)
    | succ m ih =>
      intro i a hi hh
      refine ⟨fun z => ?_, fun _ z3 e3 z4 e4 z5 e5 => ?_⟩
      · have := (leI (x := 3) (a := 3) rfl (y := nI i) rfl (by omega) (by omega)).mp z; omega
      · have hx8 := (hN.c hk).2.1
        have q3 : (3 : Int32) = nI 3 := rfl
        have n5 : z5 = nI (3 * xc d k + i) := by rw [e5, e4, q3, nI_mul, nI_add, Nat.mul_comm]
        refine ⟨vin2 n5 (by omega) (by omega), fun z6 e6 z7 e7 z8 e8 z9 e9 => ?_⟩
        have n6 : z6 = nI (c.2.2.1 (3 * k + i)) := by rw [e6, clI n5 (by omega)]; exact s3 k hk i (by omega)
        have n8 : z8 = lN (a * 8 + c.2.2.1 (3 * k + i)) := by
          have := o5 (3 * k + i)
          rw [e8, e7, n6, e3, nI_l (by omega), q3, lN_dig (by omega) this]
        rw [n8, inI rfl e9]
        refine ih (i + 1) _ (by omega) (fun r h0 h1 h2 h3 => hh r (fun z => ?_) (fun z => ?_) (fun z => ?_) (fun z => by omega))
        · subst z; exact h1 rfl
        · subst z; exact h2 rfl
        · subst z; exact h3 rfl
  -- channels
  have kc : ∀ (m k a : Nat), k + m = d.2.2.1 → a = pC c.2.1 c.2.2.1 k (pV c.1 d.2.1 (pS c.2.2.2.1 4 c.2.2.2.2)) → wl_Situation_packed_74 Post (m + 1) (lN a) (nI k) I J B D := by
    intro m
    induction m with
    | zero =>
      intro k a hk ha
      have e : k = d.2.2.1 := by omega
      subst e
      refine ⟨fun _ => by rw [ha]; exact h, fun z => absurd ?_ z⟩
      rw [leI k8 (y := nI d.2.2.1) rfl (by omega) (by omega)]; omega
    | succ m ih =>
      intro k a hk ha
      have hkc : k < d.2.2.1 := by omega
      obtain ⟨c1, c2, c3⟩ := hN.c hkc
      refine ⟨fun z => ?_, fun _ => ⟨vin2 rfl (by omega) (by omega), fun z11 e11 z12 e12 => ?_⟩⟩
      · rw [leI k8 (y := nI k) rfl (by omega) (by omega)] at z; omega
      · have n11 : z11 = nI (xc d k) := by rw [e11, clI (x := nI k) rfl (by omega), k5]; exact c1
        refine ⟨vin2 n11 (by omega) (by omega), fun z13 e13 z14 e14 z15 e15 => ⟨4, ?_⟩⟩
        have n13 : z13 = nI (c.2.1 k) := by rw [e13, clI n11 (by omega)]; exact s2 k hkc
        have q2 : (2 : Int32) = nI 2 := rfl
        have n15 : z15 = lN (a * 4 + c.2.1 k) := by
          have := o3 k
          rw [e15, e14, n13, e12, nI_l (by omega), q2, lN_dig (by omega) (show c.2.1 k < 2 ^ 2 by omega)]
        rw [n15, n11]
        refine kg _ _ k hkc 3 0 _ (by omega) (fun r h0 _ _ _ => ?_)
        rw [nI_1]
        refine ih (k + 1) r (by omega) ?_
        rw [h0 rfl, ha]; rfl
  -- variables
  have kv : ∀ (m v a : Nat), v + m = d.2.1 → a = pV c.1 v (pS c.2.2.2.1 4 c.2.2.2.2) → wl_Situation_packed_35 Post (m + 1) (lN a) (nI v) I J B D := by
    intro m
    induction m with
    | zero =>
      intro v a hv ha
      have e : v = d.2.1 := by omega
      subst e
      refine ⟨fun _ => ⟨d.2.2.1 + 1, kc d.2.2.1 0 a (by omega) ha⟩, fun z => absurd ?_ z⟩
      rw [leI k7 (y := nI d.2.1) rfl (by omega) (by omega)]; omega
    | succ m ih =>
      intro v a hv ha
      have hvv : v < d.2.1 := by omega
      obtain ⟨c1, c2, c3⟩ := hN.v hvv
      refine ⟨fun z => ?_, fun _ z17 e17 => ⟨vin2 rfl (by omega) (by omega), fun z18 e18 => ?_⟩⟩
      · rw [leI k7 (y := nI v) rfl (by omega) (by omega)] at z; omega
      · have n18 : z18 = nI (xv d v) := by rw [e18, clI (x := nI v) rfl (by omega), k4]; exact c1
        refine ⟨vin2 n18 (by omega) (by omega), fun z19 e19 z20 e20 z21 e21 z22 e22 => ?_⟩
        have n19 : z19 = nI (c.1 v) := by rw [e19, clI n18 (by omega)]; exact s1 v hvv
        have q3 : (3 : Int32) = nI 3 := rfl
        have n21 : z21 = lN (a * 8 + c.1 v) := by
          have := o1 v
          rw [e21, e20, n19, e17, nI_l (by omega), q3, lN_dig (by omega) this]
        rw [n21, inI rfl e22]
        refine ih (v + 1) _ (by omega) ?_
        rw [ha]; rfl
  -- points
  have kp : ∀ (m p a : Nat), p + m = 4 → a = pS c.2.2.2.1 p c.2.2.2.2 → wl_Situation_packed_10 Post (m + 1) (lN a) (nI p) I J B D := by
    intro m
    induction m with
    | zero =>
      intro p a hp ha
      have e : p = 4 := by omega
      subst e
      refine ⟨fun _ => ⟨d.2.1 + 1, kv d.2.1 0 a (by omega) ha⟩, fun z => absurd ?_ z⟩
      exact (leI (x := 4) (a := 4) rfl (y := nI 4) rfl (by omega) (by omega)).mpr (by omega)
    | succ m ih =>
      intro p a hp ha
      refine ⟨fun z => ?_, fun _ z24 e24 => ⟨vin2 rfl (by omega) (by omega), fun z25 e25 z26 e26 z27 e27 z28 e28 => ?_⟩⟩
      · have := (leI (x := 4) (a := 4) rfl (y := nI p) rfl (by omega) (by omega)).mp z; omega
      · have n25 : z25 = nI (c.2.2.2.1 p) := by rw [e25, clI (x := nI p) rfl (by omega)]; exact s4 p (by omega)
        have q5 : (5 : Int32) = nI 5 := rfl
        have n27 : z27 = lN (a * 32 + c.2.2.2.1 p) := by
          have := o8 p
          rw [e27, e26, n25, e24, nI_l (by omega), q5, lN_dig (by omega) this]
        rw [n27, inI rfl e28]
        refine ih (p + 1) _ (by omega) ?_
        rw [ha]; rfl
  rw [n30]
  exact ⟨5, kp 4 0 _ (by omega) rfl⟩
end ZJ3
