/-! States in one number: the reference takes one apart; no two states have one number. -/
section ZJ6
variable {I9 : Nat → Int32} {J9 : Nat → Int64} {B9 : Nat → Nat → Int32} {D9 : Nat → Nat → Int64}
theorem rV_s (V : Nat → Nat) (m : Nat) : rV V (m + 1) = rV V m + V m * 2 ^ (3 * m) := by rw [rV]
theorem rI_s (G : Nat → Nat) (k a m : Nat) : rI G k a (m + 1) = rI G k a m + G (3 * k + m) * 2 ^ (20 + 11 * k + 3 * m) := by rw [rI]
theorem rI_0 (G : Nat → Nat) (k a : Nat) : rI G k a 0 = a := by rw [rI]
theorem rC_0 (M G : Nat → Nat) (a : Nat) : rC M G a 0 = a := by rw [rC]
theorem rC_s (M G : Nat → Nat) (a m : Nat) : rC M G a (m + 1) = rI G m (rC M G a m + M m * 2 ^ (18 + 11 * m)) 3 := by rw [rC]
theorem rS_0 (S : Nat → Nat) (a : Nat) : rS S a 0 = a := by rw [rS]
theorem rS_s (S : Nat → Nat) (a m : Nat) : rS S a (m + 1) = rS S a m + S m * 2 ^ (40 + 5 * m) := by rw [rS]
theorem dg_a2 {X low d p w q t : Nat} (e : X = low + d * 2 ^ p + 2 ^ q * t) (hq : q = p + w) (hl : low < 2 ^ p) (hd : d < 2 ^ w) : X / 2 ^ p % 2 ^ w = d := by
  rw [e, hq]; exact dg_at hl hd
theorem ad_t {X a b p q t : Nat} (hx : X = a + 2 ^ q * t) (hb : ∃ r, a = b + 2 ^ p * r) (hpq : p ≤ q) : ∃ s, X = b + 2 ^ p * s := by
  obtain ⟨r, hr⟩ := hb
  obtain ⟨s, hs⟩ := pw_t hpq t
  exact ⟨r + s, by rw [hx, hr, hs, Nat.mul_add, Nat.add_assoc]⟩
theorem packR_S {nv nc np : Nat} {c : zCf} (hp4 : np ≤ 4) (p : Nat) (hp : p ≤ np) : ∃ t, packR nv nc np c = rS c.2.2.2.1 (rC c.2.1 c.2.2.1 (rV c.1 nv) nc) p + 2 ^ (40 + 5 * p) * t := by
  have hx : packR nv nc np c = rS c.2.2.2.1 (rC c.2.1 c.2.2.1 (rV c.1 nv) nc) np + 2 ^ 60 * c.2.2.2.2 := by rw [packR, Nat.mul_comm c.2.2.2.2]
  exact ad_t hx (rS_t np hp) (by omega)
theorem packR_C {nv nc np : Nat} {c : zCf} (hc2 : nc ≤ 2) (hp4 : np ≤ 4) (k : Nat) (hk : k ≤ nc) : ∃ t, packR nv nc np c = rC c.2.1 c.2.2.1 (rV c.1 nv) k + 2 ^ (18 + 11 * k) * t := by
  obtain ⟨t, ht⟩ := packR_S (nv := nv) (nc := nc) (c := c) hp4 0 (Nat.zero_le _)
  rw [rS_0] at ht
  exact ad_t ht (rC_t nc hk) (by omega)
theorem packR_G {nv nc np : Nat} {c : zCf} (hc2 : nc ≤ 2) (hp4 : np ≤ 4) (k i : Nat) (hk : k < nc) (hi : i ≤ 3) : ∃ t, packR nv nc np c = rI c.2.2.1 k (rC c.2.1 c.2.2.1 (rV c.1 nv) k + c.2.1 k * 2 ^ (18 + 11 * k)) i + 2 ^ (20 + 11 * k + 3 * i) * t := by
  obtain ⟨t, ht⟩ := packR_C (nv := nv) (c := c) hc2 hp4 (k + 1) hk
  rw [rC_s] at ht
  exact ad_t ht (rI_t 3 hi) (by omega)
theorem packR_V {nv nc np : Nat} {c : zCf} (hv6 : nv ≤ 6) (hc2 : nc ≤ 2) (hp4 : np ≤ 4) (v : Nat) (hv : v ≤ nv) : ∃ t, packR nv nc np c = rV c.1 v + 2 ^ (3 * v) * t := by
  obtain ⟨t, ht⟩ := packR_C (nv := nv) (c := c) hc2 hp4 0 (Nat.zero_le _)
  rw [rC_0] at ht
  exact ad_t ht (rV_t nv hv) (by omega)
theorem packR_l {nv nc np : Nat} {c : zCf} (hO : OKC nv nc np c) (hv6 : nv ≤ 6) : ∀ k, rC c.2.1 c.2.2.1 (rV c.1 nv) k < 2 ^ (18 + 11 * k) ∧ rC c.2.1 c.2.2.1 (rV c.1 nv) k + c.2.1 k * 2 ^ (18 + 11 * k) < 2 ^ (20 + 11 * k) :=
  rC_lt hO.2.2.1 hO.2.2.2.2.1 (Nat.lt_of_lt_of_le (rV_lt hO.1 nv) (Nat.pow_le_pow_right (by omega) (by omega)))
theorem packR_m {nv nc np : Nat} {c : zCf} (hO : OKC nv nc np c) (hv6 : nv ≤ 6) (hc2 : nc ≤ 2) : ∀ p, rS c.2.2.2.1 (rC c.2.1 c.2.2.1 (rV c.1 nv) nc) p < 2 ^ (40 + 5 * p) :=
  rS_lt hO.2.2.2.2.2.2.2.1 (Nat.lt_of_lt_of_le (packR_l hO hv6 nc).1 (Nat.pow_le_pow_right (by omega) (by omega)))
theorem packR_n {nv nc np : Nat} {c : zCf} (hO : OKC nv nc np c) (hv6 : nv ≤ 6) (hc2 : nc ≤ 2) (hp4 : np ≤ 4) : rS c.2.2.2.1 (rC c.2.1 c.2.2.1 (rV c.1 nv) nc) np < 2 ^ 60 :=
  Nat.lt_of_lt_of_le (packR_m hO hv6 hc2 np) (Nat.pow_le_pow_right (by omega) (by omega))
theorem packR_b {nv nc np : Nat} {c : zCf} (hO : OKC nv nc np c) (hv6 : nv ≤ 6) (hc2 : nc ≤ 2) (hp4 : np ≤ 4) : packR nv nc np c < 2 ^ 63 := by
  have h := packR_n hO hv6 hc2 hp4
  have h2 := hO.2.2.2.2.2.2.2.2.2
  rw [packR]
  generalize rS c.2.2.2.1 (rC c.2.1 c.2.2.1 (rV c.1 nv) nc) np = a at h ⊢
  omega
theorem packR_d {nv nc np : Nat} {c : zCf} (hO : OKC nv nc np c) (hv6 : nv ≤ 6) (hc2 : nc ≤ 2) (hp4 : np ≤ 4) : packR nv nc np c < 2 ^ 63 ∧ (∀ v, v < nv → packR nv nc np c / 2 ^ (3 * v) % 2 ^ 3 = c.1 v) ∧ (∀ k, k < nc → packR nv nc np c / 2 ^ (18 + 11 * k) % 2 ^ 2 = c.2.1 k) ∧ (∀ k i, k < nc → i < 3 → packR nv nc np c / 2 ^ (20 + 11 * k + 3 * i) % 2 ^ 3 = c.2.2.1 (3 * k + i)) ∧ (∀ p, p < np → packR nv nc np c / 2 ^ (40 + 5 * p) % 2 ^ 5 = c.2.2.2.1 p) ∧ packR nv nc np c / 2 ^ 60 % 2 ^ 3 = c.2.2.2.2 := by
  refine ⟨packR_b hO hv6 hc2 hp4, fun v hv => ?_, fun k hk => ?_, fun k i hk hi => ?_, fun p hp => ?_, ?_⟩
  · obtain ⟨t, ht⟩ := packR_V (np := np) (c := c) hv6 hc2 hp4 (v + 1) hv
    rw [rV_s] at ht
    exact dg_a2 ht (Nat.mul_add 3 v 1) (rV_lt hO.1 v) (hO.1 v)
  · obtain ⟨t, ht⟩ := packR_G (nv := nv) (c := c) hc2 hp4 k 0 hk (by omega)
    rw [rI_0] at ht
    exact dg_a2 ht (by omega) (packR_l hO hv6 k).1 (by have := hO.2.2.1 k; omega)
  · obtain ⟨t, ht⟩ := packR_G (nv := nv) (c := c) hc2 hp4 k (i + 1) hk (by omega)
    rw [rI_s] at ht
    exact dg_a2 ht (by omega) (rI_lt hO.2.2.2.2.1 (packR_l hO hv6 k).2 i) (hO.2.2.2.2.1 _)
  · obtain ⟨t, ht⟩ := packR_S (nv := nv) (nc := nc) (c := c) hp4 (p + 1) hp
    rw [rS_s] at ht
    exact dg_a2 ht (by omega) (packR_m hO hv6 hc2 p) (hO.2.2.2.2.2.2.2.1 p)
  · have e : packR nv nc np c = rS c.2.2.2.1 (rC c.2.1 c.2.2.1 (rV c.1 nv) nc) np + c.2.2.2.2 * 2 ^ 60 + 2 ^ 63 * 0 := by rw [packR, Nat.mul_zero, Nat.add_zero]
    exact dg_a2 e (by omega) (packR_n hO hv6 hc2 hp4) (by have := hO.2.2.2.2.2.2.2.2.2; omega)
theorem cf_ext {nv nc np : Nat} {c c' : zCf} (h : OKC nv nc np c) (g : OKC nv nc np c') (hV : ∀ v, v < nv → c.1 v = c'.1 v) (hM : ∀ k, k < nc → c.2.1 k = c'.2.1 k) (hG : ∀ k i, k < nc → i < 3 → c.2.2.1 (3 * k + i) = c'.2.2.1 (3 * k + i)) (hS : ∀ p, p < np → c.2.2.2.1 p = c'.2.2.2.1 p) (hH : c.2.2.2.2 = c'.2.2.2.2) : c = c' := by
  obtain ⟨o1, o2, o3, o4, o5, o6, o7, o8, o9, o10⟩ := h
  obtain ⟨p1, p2, p3, p4, p5, p6, p7, p8, p9, p10⟩ := g
  refine Prod.ext ?_ (Prod.ext ?_ (Prod.ext ?_ (Prod.ext ?_ hH)))
  · funext v
    by_cases e : v < nv
    · exact hV v e
    · rw [o2 v (by omega), p2 v (by omega)]
  · funext k
    by_cases e : k < nc
    · exact hM k e
    · rw [o4 k (by omega), p4 k (by omega)]
  · funext j
    by_cases e : j < 3 * nc
    · have := hG (j / 3) (j % 3) (by omega) (by omega)
      rw [show 3 * (j / 3) + j % 3 = j by omega] at this; exact this
    · rw [o6 j (by omega), p6 j (by omega)]
  · funext p
    by_cases e : p < np
    · exact hS p e
    · rw [o9 p (by omega), p9 p (by omega)]
theorem packR_inj {nv nc np : Nat} {c c' : zCf} (h : OKC nv nc np c) (g : OKC nv nc np c') (hv6 : nv ≤ 6) (hc2 : nc ≤ 2) (hp4 : np ≤ 4) (e : packR nv nc np c = packR nv nc np c') : c = c' := by
  obtain ⟨_, a1, a2, a3, a4, a5⟩ := packR_d h hv6 hc2 hp4
  obtain ⟨_, b1, b2, b3, b4, b5⟩ := packR_d g hv6 hc2 hp4
  rw [e] at a1 a2 a3 a4 a5
  exact cf_ext h g (fun v hv => (a1 v hv).symm.trans (b1 v hv)) (fun k hk => (a2 k hk).symm.trans (b2 k hk)) (fun k i hk hi => (a3 k i hk hi).symm.trans (b3 k i hk hi)) (fun p hp => (a4 p hp).symm.trans (b4 p hp)) (a5.symm.trans b5)
theorem packC_inj {nv nc np : Nat} {c c' : zCf} (h : OKC nv nc np c) (g : OKC nv nc np c') (hp4 : np ≤ 4) (e : packC nv nc c = packC nv nc c') : c = c' := by
  obtain ⟨o1, o2, o3, o4, o5, o6, o7, o8, o9, o10⟩ := id h
  obtain ⟨p1, p2, p3, p4, p5, p6, p7, p8, p9, p10⟩ := id g
  have iC : ∀ (m x y : Nat), pC c.2.1 c.2.2.1 m x = pC c'.2.1 c'.2.2.1 m y → x = y ∧ (∀ k, k < m → c.2.1 k = c'.2.1 k) ∧ (∀ k i, k < m → i < 3 → c.2.2.1 (3 * k + i) = c'.2.2.1 (3 * k + i)) := by
    intro m
    induction m with
    | zero => intro x y e; exact ⟨e, fun k hk => by omega, fun k i hk => by omega⟩
    | succ m ih =>
      intro x y e
      simp only [pC] at e
      have q1 := o3 m
      have q2 := p3 m
      have q3 := o5 (3 * m)
      have q4 := p5 (3 * m)
      have q5 := o5 (3 * m + 1)
      have q6 := p5 (3 * m + 1)
      have q7 := o5 (3 * m + 2)
      have q8 := p5 (3 * m + 2)
      have e2 : c.2.2.1 (3 * m + 2) = c'.2.2.1 (3 * m + 2) := by omega
      have e1 : c.2.2.1 (3 * m + 1) = c'.2.2.1 (3 * m + 1) := by omega
      have e0 : c.2.2.1 (3 * m) = c'.2.2.1 (3 * m) := by omega
      have eM : c.2.1 m = c'.2.1 m := by omega
      obtain ⟨r1, r2, r3⟩ := ih x y (by omega)
      refine ⟨r1, fun k hk => ?_, fun k i hk hi => ?_⟩
      · by_cases ek : k = m
        · rw [ek]; exact eM
        · exact r2 k (by omega)
      · by_cases ek : k = m
        · subst ek
          have : i = 0 ∨ i = 1 ∨ i = 2 := by omega
          rcases this with rfl | rfl | rfl
          · exact e0
          · exact e1
          · exact e2
        · exact r3 k i (by omega) hi
  have iV : ∀ (m x y : Nat), pV c.1 m x = pV c'.1 m y → x = y ∧ (∀ k, k < m → c.1 k = c'.1 k) := by
    intro m
    induction m with
    | zero => intro x y e; exact ⟨e, fun k hk => by omega⟩
    | succ m ih =>
      intro x y e
      simp only [pV] at e
      have q1 := o1 m
      have q2 := p1 m
      obtain ⟨r1, r2⟩ := ih x y (by omega)
      refine ⟨r1, fun k hk => ?_⟩
      by_cases ek : k = m
      · rw [ek]; omega
      · exact r2 k (by omega)
  have iS : ∀ (m x y : Nat), pS c.2.2.2.1 m x = pS c'.2.2.2.1 m y → x = y ∧ (∀ k, k < m → c.2.2.2.1 k = c'.2.2.2.1 k) := by
    intro m
    induction m with
    | zero => intro x y e; exact ⟨e, fun k hk => by omega⟩
    | succ m ih =>
      intro x y e
      simp only [pS] at e
      have q1 := o8 m
      have q2 := p8 m
      obtain ⟨r1, r2⟩ := ih x y (by omega)
      refine ⟨r1, fun k hk => ?_⟩
      by_cases ek : k = m
      · rw [ek]; omega
      · exact r2 k (by omega)
  obtain ⟨a1, a2, a3⟩ := iC nc _ _ e
  obtain ⟨b1, b2⟩ := iV nv _ _ a1
  obtain ⟨d1, d2⟩ := iS 4 _ _ b1
  exact cf_ext h g b2 a2 a3 (fun p hp => d2 p (by omega)) d1
def FU9 (I9 : Nat → Int32) (B9 : Nat → Nat → Int32) (I9' : Nat → Int32) (B9' : Nat → Nat → Int32) : Prop := (∀ k, k ≠ 17 → I9' k = I9 k) ∧ (∀ k, k ∉ [36, 37, 38, 39] → B9' k = B9 k)
theorem r_unpack {Post : (Nat → Int32) → (Nat → Int64) → (Nat → Nat → Int32) → (Nat → Nat → Int64) → Prop} {d : zD} {c : zCf} {np : Nat} (hK : KR9 d np I9) (hO : OKC d.2.1 d.2.2.1 np c) (h : ∀ I9' B9', RS d np c I9' B9' → (∀ k, k < d.2.2.1 → ∀ i, i < 3 → B9' 38 (3 * k + i) = nI (c.2.2.1 (3 * k + i))) → FU9 I9 B9 I9' B9' → Post I9' J9 B9' D9) : wp_LassoFinderModel_unpack I9 J9 B9 D9 (lN (packR d.2.1 d.2.2.1 np c)) Post := by
  obtain ⟨k6, k7, k10, hv6, hc2, hp4⟩ := hK
  obtain ⟨hX, xV, xM, xG, xS, xH⟩ := packR_d hO hv6 hc2 hp4
  obtain ⟨o1, o2, o3, o4, o5, o6, o7, o8, o9, o10⟩ := hO
  generalize packR d.2.1 d.2.2.1 np c = X at hX xV xM xG xS xH
  have q3 : (3 : Int32) = nI 3 := rfl
  have q5 : (5 : Int32) = nI 5 := rfl
  have q11 : (11 : Int32) = nI 11 := rfl
  have q18 : (18 : Int32) = nI 18 := rfl
  have q20 : (20 : Int32) = nI 20 := rfl
  have q40 : (40 : Int32) = nI 40 := rfl
  have q60 : (60 : Int32) = nI 60 := rfl
  have dig : ∀ (pos w : Nat) (z1 z2 : Int64) (z3 : Int32), pos < 64 → z1 = lN X >>> ((nI pos).toInt64 &&& 63) → z2 = z1 &&& lN (2 ^ w - 1) → z3 = z2.toInt32 → z3 = nI (X / 2 ^ pos % 2 ^ w) := by
    intro pos w z1 z2 z3 hp e1 e2 e3
    rw [e3, e2, e1, lN_shr hX hp, lN_andm, lN_i]
  have kp : ∀ (m p : Nat) (B1 : Nat → Nat → Int32), p + m = np → (∀ q, q < p → B1 39 q = nI (c.2.2.2.1 q)) → (∀ v, v < d.2.1 → B1 36 v = nI (c.1 v)) → (∀ k, k < d.2.2.1 → B1 37 k = nI (c.2.1 k)) → (∀ k, k < d.2.2.1 → ∀ i, i < 3 → B1 38 (3 * k + i) = nI (c.2.2.1 (3 * k + i))) → (∀ k, k ∉ [36, 37, 38, 39] → B1 k = B9 k) → wl_LassoFinderModel_unpack_115 (lN X) Post (m + 1) (lN X) (nI p) I9 J9 B1 D9 := by
    intro m
    induction m with
    | zero =>
      intro p B1 hp a1 a2 a3 a4 a5
      have e : p = np := by omega
      subst e
      refine ⟨fun _ z2 e2 z3 e3 z4 e4 z5 e5 => ?_, fun z => absurd ?_ z⟩
      · rw [q60] at e2
        have n4 : z4 = nI c.2.2.2.2 := by rw [dig 60 3 z2 z3 z4 (by omega) e2 e3 e4, xH]
        refine h _ _ ⟨a2, a3, fun k hk i hi => a4 k hk i (by have := o3 k; omega), a1, ?_⟩ a4 ⟨fun k hk => by simp [upd, hk], a5⟩
        simp only [upd, if_true]; rw [e5, n4]; grind
      · rw [leI k10 (y := nI p) rfl (by omega) (by omega)]; omega
    | succ m ih =>
      intro p B1 hp a1 a2 a3 a4 a5
      refine ⟨fun z => ?_, fun _ z6 e6 z7 e7 z8 e8 z9 e9 z10 e10 => ⟨vin2 rfl (by omega) (by omega), fun z11 e11 => ?_⟩⟩
      · rw [leI k10 (y := nI p) rfl (by omega) (by omega)] at z; omega
      · have n7 : z7 = nI (40 + 5 * p) := by rw [e7, e6, q5, q40, nI_mul, nI_add]
        rw [n7] at e8
        have n10 : z10 = nI (c.2.2.2.1 p) := by rw [dig (40 + 5 * p) 5 z8 z9 z10 (by omega) e8 e9 e10, xS p (by omega)]
        rw [inI rfl e11, clI (x := nI p) rfl (by omega)]
        refine ih (p + 1) _ (by omega) (fun q hq => ?_) (fun v hv => by simpa [va_up] using a2 v hv) (fun k hk => by simpa [va_up] using a3 k hk) (fun k hk i hi => by simpa [va_up] using a4 k hk i hi) (fun k hk => by rw [← a5 k hk]; simp at hk; simp [va_up, hk])
        by_cases e : q = p
        · subst e; simp [va_up, upd, n10]
        · simp [va_up, upd, e]; exact a1 q (by omega)
  have kg : ∀ (K34 : Int64 → Int32 → (Nat → Int32) → (Nat → Int64) → (Nat → Nat → Int32) → (Nat → Nat → Int64) → Prop) (k : Nat), k < d.2.2.1 → ∀ (m i : Nat) (B1 : Nat → Nat → Int32), i + m = 3 → (∀ B2, (∀ i, i < 3 → B2 38 (3 * k + i) = nI (c.2.2.1 (3 * k + i))) → (∀ j, ¬ (3 * k ≤ j ∧ j < 3 * k + 3) → B2 38 j = B1 38 j) → (∀ r, r ≠ 38 → B2 r = B1 r) → K34 (lN X) (nI (k + 1)) I9 J9 B2 D9) → (∀ i', i' < i → B1 38 (3 * k + i') = nI (c.2.2.1 (3 * k + i'))) → wl_LassoFinderModel_unpack_65 (lN X) K34 Post (m + 1) (lN X) (nI k) (nI i) I9 J9 B1 D9 := by
    intro K34 k hk m
    induction m with
    | zero =>
      intro i B1 hi hw a1
      have e : i = 3 := by omega
      subst e
      refine ⟨fun _ z13 e13 => ?_, fun z => absurd ?_ z⟩
      · rw [inI rfl e13]; exact hw B1 a1 (fun _ _ => rfl) (fun _ _ => rfl)
      · exact (leI (x := 3) (a := 3) rfl (y := nI 3) rfl (by omega) (by omega)).mpr (by omega)
    | succ m ih =>
      intro i B1 hi hw a1
      refine ⟨fun z => ?_, fun _ z14 e14 z15 e15 z16 e16 z17 e17 z18 e18 z19 e19 z20 e20 z21 e21 z22 e22 => ?_⟩
      · have := (leI (x := 3) (a := 3) rfl (y := nI i) rfl (by omega) (by omega)).mp z; omega
      · have n15 : z15 = nI (3 * k + i) := by rw [e15, e14, q3, nI_mul, nI_add]
        have n19 : z19 = nI (20 + 11 * k + 3 * i) := by rw [e19, e17, e16, e18, q11, q20, q3, nI_mul, nI_add, nI_mul, nI_add]
        rw [n19] at e20
        have n22 : z22 = nI (c.2.2.1 (3 * k + i)) := by rw [dig (20 + 11 * k + 3 * i) 3 z20 z21 z22 (by omega) e20 e21 e22, xG k i hk (by omega)]
        refine ⟨vin2 n15 (by omega) (by omega), fun z23 e23 => ?_⟩
        rw [inI rfl e23, clI n15 (by omega)]
        refine ih (i + 1) _ (by omega) (fun B2 b1 b2 b3 => hw B2 b1 (fun j hj => ?_) (fun r hr => ?_)) (fun i' hi' => ?_)
        · rw [b2 j hj]
          have : ¬ j = 3 * k + i := by omega
          simp [va_up, upd, this]
        · rw [b3 r hr]; simp [va_up, hr]
        · by_cases e : i' = i
          · subst e; simp [va_up, upd, n22]
          · simp [va_up, upd, e]; exact a1 i' (by omega)
  have kc : ∀ (m k : Nat) (B1 : Nat → Nat → Int32), k + m = d.2.2.1 → (∀ v, v < d.2.1 → B1 36 v = nI (c.1 v)) → (∀ k', k' < k → B1 37 k' = nI (c.2.1 k')) → (∀ k', k' < k → ∀ i, i < 3 → B1 38 (3 * k' + i) = nI (c.2.2.1 (3 * k' + i))) → (∀ k, k ∉ [36, 37, 38, 39] → B1 k = B9 k) → wl_LassoFinderModel_unpack_34 (lN X) Post (m + 1) (lN X) (nI k) I9 J9 B1 D9 := by
    intro m
    induction m with
    | zero =>
      intro k B1 hk a2 a3 a4 a5
      have e : k = d.2.2.1 := by omega
      subst e
      refine ⟨fun _ => ⟨np + 1, kp np 0 B1 (by omega) (fun q hq => by omega) a2 a3 a4 a5⟩, fun z => absurd ?_ z⟩
      rw [leI k7 (y := nI d.2.2.1) rfl (by omega) (by omega)]; omega
    | succ m ih =>
      intro k B1 hk a2 a3 a4 a5
      refine ⟨fun z => ?_, fun _ z25 e25 z26 e26 z27 e27 z28 e28 z29 e29 => ⟨vin2 rfl (by omega) (by omega), 4, ?_⟩⟩
      · rw [leI k7 (y := nI k) rfl (by omega) (by omega)] at z; omega
      · have n26 : z26 = nI (18 + 11 * k) := by rw [e26, e25, q11, q18, nI_mul, nI_add]
        rw [n26] at e27
        have n29 : z29 = nI (c.2.1 k) := by rw [dig (18 + 11 * k) 2 z27 z28 z29 (by omega) e27 e28 e29, xM k (by omega)]
        rw [clI (x := nI k) rfl (by omega)]
        refine kg _ k (by omega) 3 0 _ (by omega) (fun B2 b1 b2 b3 => ih (k + 1) B2 (by omega) (fun v hv => ?_) (fun k' hk' => ?_) (fun k' hk' i hi => ?_) (fun r hr => ?_)) (fun i' hi' => by omega)
        · rw [b3 36 (by decide)]; simpa [va_up] using a2 v hv
        · rw [b3 37 (by decide)]
          by_cases e : k' = k
          · subst e; simp [va_up, upd, n29]
          · simp [va_up, upd, e]; exact a3 k' (by omega)
        · by_cases e : k' = k
          · subst e; exact b1 i hi
          · rw [b2 _ (by omega)]; simpa [va_up] using a4 k' (by omega) i hi
        · have : r ≠ 38 := by intro z; subst z; simp at hr
          rw [b3 r this, ← a5 r hr]
          simp at hr; simp [va_up, hr]
  have kv : ∀ (m v : Nat) (B1 : Nat → Nat → Int32), v + m = d.2.1 → (∀ v', v' < v → B1 36 v' = nI (c.1 v')) → (∀ k, k ∉ [36, 37, 38, 39] → B1 k = B9 k) → wl_LassoFinderModel_unpack_2 (lN X) Post (m + 1) (lN X) (nI v) I9 J9 B1 D9 := by
    intro m
    induction m with
    | zero =>
      intro v B1 hv a2 a5
      have e : v = d.2.1 := by omega
      subst e
      refine ⟨fun _ => ⟨d.2.2.1 + 1, kc d.2.2.1 0 B1 (by omega) a2 (fun k hk => by omega) (fun k hk => by omega) a5⟩, fun z => absurd ?_ z⟩
      rw [leI k6 (y := nI d.2.1) rfl (by omega) (by omega)]; omega
    | succ m ih =>
      intro v B1 hv a2 a5
      refine ⟨fun z => ?_, fun _ z31 e31 z32 e32 z33 e33 z34 e34 => ⟨vin2 rfl (by omega) (by omega), fun z35 e35 => ?_⟩⟩
      · rw [leI k6 (y := nI v) rfl (by omega) (by omega)] at z; omega
      · have n31 : z31 = nI (3 * v) := by rw [e31, q3, nI_mul]
        rw [n31] at e32
        have n34 : z34 = nI (c.1 v) := by rw [dig (3 * v) 3 z32 z33 z34 (by omega) e32 e33 e34, xV v (by omega)]
        rw [inI rfl e35, clI (x := nI v) rfl (by omega)]
        refine ih (v + 1) _ (by omega) (fun v' hv' => ?_) (fun k hk => by rw [← a5 k hk]; simp at hk; simp [va_up, hk])
        by_cases e : v' = v
        · subst e; simp [va_up, upd, n34]
        · simp [va_up, upd, e]; exact a2 v' (by omega)
  exact ⟨d.2.1 + 1, kv d.2.1 0 B9 (by omega) (fun v hv => by omega) (fun _ _ => rfl)⟩
end ZJ6
