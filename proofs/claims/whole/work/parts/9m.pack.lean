/-! States in one number. -/
section ZJ2
/-- numbers of the variables, of messages, messages, points, who holds (0: nobody) -/
abbrev zCf : Type := (Nat → Nat) × (Nat → Nat) × (Nat → Nat) × (Nat → Nat) × Nat
def OKC (nv nc np : Nat) (c : zCf) : Prop := (∀ v, c.1 v < 8) ∧ (∀ v, nv ≤ v → c.1 v = 0) ∧ (∀ k, c.2.1 k ≤ 3) ∧ (∀ k, nc ≤ k → c.2.1 k = 0) ∧ (∀ j, c.2.2.1 j < 8) ∧ (∀ j, 3 * nc ≤ j → c.2.2.1 j = 0) ∧ (∀ k i, i < 3 → c.2.1 k ≤ i → c.2.2.1 (3 * k + i) = 0) ∧ (∀ p, c.2.2.2.1 p < 32) ∧ (∀ p, np ≤ p → c.2.2.2.1 p = 0) ∧ c.2.2.2.2 ≤ np
def pS (S : Nat → Nat) : Nat → Nat → Nat
  | 0, h => h
  | m + 1, h => pS S m h * 32 + S m
def pV (V : Nat → Nat) : Nat → Nat → Nat
  | 0, h => h
  | m + 1, h => pV V m h * 8 + V m
def pC (M G : Nat → Nat) : Nat → Nat → Nat
  | 0, h => h
  | m + 1, h => (((pC M G m h * 4 + M m) * 8 + G (3 * m)) * 8 + G (3 * m + 1)) * 8 + G (3 * m + 2)
theorem pS_lt {S : Nat → Nat} (hS : ∀ p, S p < 32) (h : Nat) : ∀ m, pS S m h + 1 ≤ (h + 1) * 32 ^ m := by
  intro m
  induction m with
  | zero => simp [pS]
  | succ m ih =>
    have := hS m
    simp only [pS]
    rw [Nat.pow_succ, ← Nat.mul_assoc]
    omega
theorem pV_lt {V : Nat → Nat} (hV : ∀ p, V p < 8) (h : Nat) : ∀ m, pV V m h + 1 ≤ (h + 1) * 8 ^ m := by
  intro m
  induction m with
  | zero => simp [pV]
  | succ m ih =>
    have := hV m
    simp only [pV]
    rw [Nat.pow_succ, ← Nat.mul_assoc]
    omega
theorem pC_lt {M G : Nat → Nat} (hM : ∀ p, M p ≤ 3) (hG : ∀ p, G p < 8) (h : Nat) : ∀ m, pC M G m h + 1 ≤ (h + 1) * 2048 ^ m := by
  intro m
  induction m with
  | zero => simp [pC]
  | succ m ih =>
    have := hM m
    have := hG (3 * m)
    have := hG (3 * m + 1)
    have := hG (3 * m + 2)
    simp only [pC]
    rw [Nat.pow_succ, ← Nat.mul_assoc]
    omega
def packC (nv nc : Nat) (c : zCf) : Nat := pC c.2.1 c.2.2.1 nc (pV c.1 nv (pS c.2.2.2.1 4 c.2.2.2.2))
theorem packC_b {nv nc np : Nat} {c : zCf} (h : OKC nv nc np c) (hv : nv ≤ 6) (hc : nc ≤ 2) (hp : np ≤ 4) : (∀ m, m ≤ 4 → pS c.2.2.2.1 m c.2.2.2.2 < 2 ^ 63) ∧ (∀ m, m ≤ nv → pV c.1 m (pS c.2.2.2.1 4 c.2.2.2.2) < 2 ^ 63) ∧ (∀ m, m ≤ nc → pC c.2.1 c.2.2.1 m (pV c.1 nv (pS c.2.2.2.1 4 c.2.2.2.2)) < 2 ^ 63) := by
  obtain ⟨h1, h2, h3, h4, h5, h6, h7, h8, h9, h10⟩ := h
  have a1 : ∀ m, m ≤ 4 → pS c.2.2.2.1 m c.2.2.2.2 + 1 ≤ 5 * 2 ^ 20 := by
    intro m hm
    have := pS_lt h8 c.2.2.2.2 m
    have e : (32 : Nat) ^ m ≤ 32 ^ 4 := Nat.pow_le_pow_right (by omega) hm
    have : (c.2.2.2.2 + 1) * 32 ^ m ≤ 5 * 32 ^ 4 := Nat.mul_le_mul (by omega) e
    omega
  have a2 : ∀ m, m ≤ nv → pV c.1 m (pS c.2.2.2.1 4 c.2.2.2.2) + 1 ≤ 5 * 2 ^ 38 := by
    intro m hm
    have := pV_lt h1 (pS c.2.2.2.1 4 c.2.2.2.2) m
    have e : (8 : Nat) ^ m ≤ 8 ^ 6 := Nat.pow_le_pow_right (by omega) (by omega)
    have : (pS c.2.2.2.1 4 c.2.2.2.2 + 1) * 8 ^ m ≤ (5 * 2 ^ 20) * 8 ^ 6 := Nat.mul_le_mul (a1 4 (by omega)) e
    omega
  refine ⟨fun m hm => ?_, fun m hm => ?_, fun m hm => ?_⟩
  · have := a1 m hm; omega
  · have := a2 m hm; omega
  · have := pC_lt h3 h5 (pV c.1 nv (pS c.2.2.2.1 4 c.2.2.2.2)) m
    have e : (2048 : Nat) ^ m ≤ 2048 ^ 2 := Nat.pow_le_pow_right (by omega) (by omega)
    have : (pV c.1 nv (pS c.2.2.2.1 4 c.2.2.2.2) + 1) * 2048 ^ m ≤ (5 * 2 ^ 38) * 2048 ^ 2 := Nat.mul_le_mul (a2 nv (by omega)) e
    omega
/-- the reference's -/
def rV (V : Nat → Nat) : Nat → Nat
  | 0 => 0
  | m + 1 => rV V m + V m * 2 ^ (3 * m)
def rI (G : Nat → Nat) (k a : Nat) : Nat → Nat
  | 0 => a
  | i + 1 => rI G k a i + G (3 * k + i) * 2 ^ (20 + 11 * k + 3 * i)
def rC (M G : Nat → Nat) (a : Nat) : Nat → Nat
  | 0 => a
  | k + 1 => rI G k (rC M G a k + M k * 2 ^ (18 + 11 * k)) 3
def rS (S : Nat → Nat) (a : Nat) : Nat → Nat
  | 0 => a
  | p + 1 => rS S a p + S p * 2 ^ (40 + 5 * p)
theorem dg_lt {low d p w : Nat} (hl : low < 2 ^ p) (hd : d < 2 ^ w) : low + d * 2 ^ p < 2 ^ (p + w) := by
  rw [Nat.pow_add]
  have : (d + 1) * 2 ^ p ≤ 2 ^ w * 2 ^ p := Nat.mul_le_mul_right _ hd
  rw [Nat.mul_comm (2 ^ p)]
  have e : (d + 1) * 2 ^ p = d * 2 ^ p + 2 ^ p := by rw [Nat.add_mul, Nat.one_mul]
  omega
theorem dg_at {low d p w t : Nat} (hl : low < 2 ^ p) (hd : d < 2 ^ w) : (low + d * 2 ^ p + 2 ^ (p + w) * t) / 2 ^ p % 2 ^ w = d := by
  have e : low + d * 2 ^ p + 2 ^ (p + w) * t = low + 2 ^ p * (d + 2 ^ w * t) := by
    rw [Nat.pow_add, Nat.mul_add, Nat.mul_comm d, Nat.mul_assoc, Nat.add_assoc]
  rw [e, Nat.add_mul_div_left _ _ (Nat.two_pow_pos p), Nat.div_eq_of_lt hl, Nat.zero_add, Nat.add_mul_mod_self_left, Nat.mod_eq_of_lt hd]
theorem rV_lt {V : Nat → Nat} (hV : ∀ v, V v < 8) : ∀ m, rV V m < 2 ^ (3 * m) := by
  intro m
  induction m with
  | zero => simp [rV]
  | succ m ih =>
    have := dg_lt (w := 3) ih (hV m)
    simp only [rV]
    rwa [show 3 * (m + 1) = 3 * m + 3 by omega]
theorem rI_lt {G : Nat → Nat} (hG : ∀ j, G j < 8) {k a : Nat} (ha : a < 2 ^ (20 + 11 * k)) : ∀ i, rI G k a i < 2 ^ (20 + 11 * k + 3 * i) := by
  intro i
  induction i with
  | zero => simpa [rI] using ha
  | succ i ih =>
    have := dg_lt (w := 3) ih (hG (3 * k + i))
    simp only [rI]
    rwa [show 20 + 11 * k + 3 * (i + 1) = 20 + 11 * k + 3 * i + 3 by omega]
theorem rC_lt {M G : Nat → Nat} (hM : ∀ k, M k ≤ 3) (hG : ∀ j, G j < 8) {a : Nat} (ha : a < 2 ^ 18) : ∀ k, rC M G a k < 2 ^ (18 + 11 * k) ∧ rC M G a k + M k * 2 ^ (18 + 11 * k) < 2 ^ (20 + 11 * k) := by
  intro k
  have step : ∀ k, rC M G a k < 2 ^ (18 + 11 * k) → rC M G a k + M k * 2 ^ (18 + 11 * k) < 2 ^ (20 + 11 * k) := by
    intro k h
    have := dg_lt (w := 2) h (show M k < 2 ^ 2 by have := hM k; omega)
    rwa [show 18 + 11 * k + 2 = 20 + 11 * k by omega] at this
  induction k with
  | zero => exact ⟨by simpa [rC] using ha, step 0 (by simpa [rC] using ha)⟩
  | succ k ih =>
    have := rI_lt hG (k := k) ih.2 3
    have e : 20 + 11 * k + 3 * 3 = 18 + 11 * (k + 1) := by omega
    rw [e] at this
    exact ⟨this, step (k + 1) this⟩
theorem rS_lt {S : Nat → Nat} (hS : ∀ p, S p < 32) {a : Nat} (ha : a < 2 ^ 40) : ∀ p, rS S a p < 2 ^ (40 + 5 * p) := by
  intro p
  induction p with
  | zero => simpa [rS] using ha
  | succ p ih =>
    have := dg_lt (w := 5) ih (show S p < 2 ^ 5 by have := hS p; omega)
    simp only [rS]
    rwa [show 40 + 5 * (p + 1) = 40 + 5 * p + 5 by omega]
theorem pw_t {a b : Nat} (h : a ≤ b) (t : Nat) : ∃ s, 2 ^ b * t = 2 ^ a * s := ⟨2 ^ (b - a) * t, by rw [← Nat.mul_assoc, ← Nat.pow_add]; congr 2; omega⟩
theorem rV_t {V : Nat → Nat} {v : Nat} : ∀ m, v ≤ m → ∃ t, rV V m = rV V v + 2 ^ (3 * v) * t := by
  intro m
  induction m with
  | zero =>
    intro h
    have : v = 0 := by omega
    subst this; exact ⟨0, by simp⟩
  | succ m ih =>
    intro h
    by_cases e : v = m + 1
    · subst e; exact ⟨0, by simp⟩
    · obtain ⟨t, ht⟩ := ih (by omega)
      obtain ⟨s, hs⟩ := pw_t (show 3 * v ≤ 3 * m by omega) (V m)
      refine ⟨t + s, ?_⟩
      simp only [rV]
      rw [ht, Nat.mul_comm (V m), hs, Nat.mul_add, Nat.add_assoc]
theorem rI_t {G : Nat → Nat} {k a i : Nat} : ∀ m, i ≤ m → ∃ t, rI G k a m = rI G k a i + 2 ^ (20 + 11 * k + 3 * i) * t := by
  intro m
  induction m with
  | zero =>
    intro h
    have : i = 0 := by omega
    subst this; exact ⟨0, by simp⟩
  | succ m ih =>
    intro h
    by_cases e : i = m + 1
    · subst e; exact ⟨0, by simp⟩
    · obtain ⟨t, ht⟩ := ih (by omega)
      obtain ⟨s, hs⟩ := pw_t (show 20 + 11 * k + 3 * i ≤ 20 + 11 * k + 3 * m by omega) (G (3 * k + m))
      refine ⟨t + s, ?_⟩
      simp only [rI]
      rw [ht, Nat.mul_comm (G (3 * k + m)), hs, Nat.mul_add, Nat.add_assoc]
theorem rC_t {M G : Nat → Nat} {a k : Nat} : ∀ m, k ≤ m → ∃ t, rC M G a m = rC M G a k + 2 ^ (18 + 11 * k) * t := by
  intro m
  induction m with
  | zero =>
    intro h
    have : k = 0 := by omega
    subst this; exact ⟨0, by simp⟩
  | succ m ih =>
    intro h
    by_cases e : k = m + 1
    · subst e; exact ⟨0, by simp⟩
    · obtain ⟨t, ht⟩ := ih (by omega)
      obtain ⟨r, hr⟩ := rI_t (G := G) (k := m) (a := rC M G a m + M m * 2 ^ (18 + 11 * m)) (i := 0) 3 (by omega)
      obtain ⟨s, hs⟩ := pw_t (show 18 + 11 * k ≤ 18 + 11 * m by omega) (M m)
      obtain ⟨s2, hs2⟩ := pw_t (show 18 + 11 * k ≤ 20 + 11 * m + 3 * 0 by omega) r
      refine ⟨t + s + s2, ?_⟩
      simp only [rC]
      rw [hr, hs2]
      simp only [rI]
      rw [ht, Nat.mul_comm (M m), hs, Nat.mul_add, Nat.mul_add]
      omega
theorem rS_t {S : Nat → Nat} {a p : Nat} : ∀ m, p ≤ m → ∃ t, rS S a m = rS S a p + 2 ^ (40 + 5 * p) * t := by
  intro m
  induction m with
  | zero =>
    intro h
    have : p = 0 := by omega
    subst this; exact ⟨0, by simp⟩
  | succ m ih =>
    intro h
    by_cases e : p = m + 1
    · subst e; exact ⟨0, by simp⟩
    · obtain ⟨t, ht⟩ := ih (by omega)
      obtain ⟨s, hs⟩ := pw_t (show 40 + 5 * p ≤ 40 + 5 * m by omega) (S m)
      refine ⟨t + s, ?_⟩
      simp only [rS]
      rw [ht, Nat.mul_comm (S m), hs, Nat.mul_add, Nat.add_assoc]
def packR (nv nc np : Nat) (c : zCf) : Nat := rS c.2.2.2.1 (rC c.2.1 c.2.2.1 (rV c.1 nv) nc) np + c.2.2.2.2 * 2 ^ 60
end ZJ2
