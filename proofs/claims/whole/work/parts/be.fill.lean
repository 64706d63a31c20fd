/-! Formulas: the class fills its rows of truths. -/
section ZP4
variable {I : Nat → Int32} {J : Nat → Int64} {B : Nat → Nat → Int32} {D : Nat → Nat → Int64}
theorem tm_at {R : Nat → Int32} : ∀ (out : List zIt), rep R 0 ((tms out).map nI) → ∀ t, t < ntm out → ∃ pre x l, out = pre ++ x :: l ∧ isT x.1 ∧ ntm l = t ∧ R t = nI l.length := by
  intro out
  induction out with
  | nil => intro _ t ht; exact absurd ht (Nat.not_lt_zero t)
  | cons x l ih =>
    intro h t ht
    have hn : ntm (x :: l) = ntm l + (if isT x.1 then 1 else 0) := rfl
    by_cases g : isT x.1
    · have et : tms (x :: l) = l.length :: tms l := by
        show (if isT x.1 then l.length :: tms l else tms l) = _
        rw [if_pos g]
      rw [et, List.map_cons] at h
      rw [if_pos g] at hn
      by_cases e : t = ntm l
      · subst e
        refine ⟨[], x, l, rfl, g, rfl, ?_⟩
        have := h.1
        rw [List.length_map, tms_len, Nat.zero_add] at this
        exact this
      · obtain ⟨pre, y, l', h1, h2, h3, h4⟩ := ih h.2 t (by omega)
        exact ⟨x :: pre, y, l', by rw [h1]; rfl, h2, h3, h4⟩
    · have et : tms (x :: l) = tms l := by
        show (if isT x.1 then l.length :: tms l else tms l) = _
        rw [if_neg g]
      rw [et] at h
      rw [if_neg g] at hn
      obtain ⟨pre, y, l', h1, h2, h3, h4⟩ := ih h t (by omega)
      exact ⟨x :: pre, y, l', by rw [h1]; rfl, h2, h3, h4⟩
theorem PM_app {R : Nat → Int32} {av : zIt → Bool} {T : Nat → Nat → Bool} : ∀ (pre l : List zIt), PM R av T (pre ++ l) → PM R av T l := by
  intro pre
  induction pre with
  | nil => intro l h; exact h
  | cons x pre ih => intro l h; exact ih l h.1
theorem bN_tm {av : zIt → Bool} {md : Int32} {out : List zIt} {g : Nat} : bN (Tm av md out g) (ntm out) < 2 ^ (ntm out) := bN_lt _ _
theorem p2_3 {k : Nat} (h : k ≤ 3) : 2 ^ k ≤ 8 := by
  have : k = 0 ∨ k = 1 ∨ k = 2 ∨ k = 3 := by omega
  rcases this with rfl | rfl | rfl | rfl <;> decide
theorem b2n_le (b : Bool) : b2n b ≤ 1 := by cases b <;> decide
section
variable {Post : (Nat → Int32) → (Nat → Int64) → (Nat → Nat → Int32) → (Nat → Nat → Int64) → Prop} {PX : String → (Nat → Int32) → (Nat → Int64) → (Nat → Nat → Int32) → (Nat → Nat → Int64) → Prop} {d : zD} {Q : zQ} {c : zCf} {out : List zIt} {q : Nat}
theorem q_fillBefore (hN : NC d) (hW : QW d Q) (hC : WC d Q c) (hS : CS d c I B) (hO : FOK d.2.2.2.1 (qP Q) out) (hK : KF9 out I B) (hq : q < 96) (h : ∀ B', (∀ g, g < 8 → B' 47 (8 * q + g) = nI (bef (atv d c) out g)) → (∀ j, ¬ (8 * q ≤ j ∧ j < 8 * q + 8) → B' 47 j = B 47 j) → (∀ k, k ∉ [45, 46, 47] → B' k = B k) → Post I J B' D) : wp_Truths_fillBefore I J B D (nI q) Post PX := by
  refine q_reckonParts (md := 1) hN hW hC hS hO hK (fun B1 hM hB1 => ⟨9, ?_⟩)
  obtain ⟨o1, o2, o3, o4, o5, o6⟩ := hO
  obtain ⟨k1, k2, k3, k4, k5⟩ := hK
  have h42 : B1 42 = B 42 := hB1 42 (by decide) (by decide)
  have l2 : ∀ (K7 : Int32 → Int32 → (Nat → Int32) → (Nat → Int64) → (Nat → Nat → Int32) → (Nat → Nat → Int64) → Prop) (g : Nat) (B2 : Nat → Nat → Int32), g < 8 → B2 42 = B 42 → B2 46 = B1 46 → K7 (nI q) (nI (g + 1)) I J (va_up B2 47 (upd (B2 47) (8 * q + g) (nI (bef (atv d c) out g)))) D → ∀ (m t : Nat), t + m = ntm out → wl_Truths_fillBefore_18 (nI q) K7 Post PX (m + 1) (nI q) (nI g) (nI (bN (cT (atv d c) (fun t => g.testBit t) out) t)) (nI t) I J B2 D := by
    intro K7 g B2 hg e42 e46 hK m
    induction m with
    | zero =>
      intro t ht
      have e : t = ntm out := by omega
      subst e
      refine ⟨fun _ z2 e2 z3 e3 => ?_, fun z => absurd ((leI k2 (y := nI (ntm out)) rfl (by omega) (by omega)).mpr (Nat.le_refl _)) z⟩
      have n3 : z3 = nI (8 * q + g) := by rw [e3, e2, show (8 : Int32) = nI 8 from rfl, nI_mul, nI_add, Nat.mul_comm]
      refine ⟨vin2 n3 (by omega) (by omega), fun z4 e4 => ?_⟩
      rw [inI rfl e4, clI n3 (by omega)]; exact hK
    | succ m ih =>
      intro t ht
      refine ⟨fun z => ?_, fun _ => ⟨vin2 rfl (by omega) (by omega), fun z5 e5 => ?_⟩⟩
      · have := (leI k2 (y := nI t) rfl (by omega) (by omega)).mp z; omega
      obtain ⟨pre, x, l, ho, hx, hn, hr⟩ := tm_at out k5 t (by omega)
      have hll : l.length < out.length := by rw [ho]; simp; omega
      rw [clI rfl (by omega), e42, hr] at e5
      refine ⟨vin2 e5 (by omega) (by omega), fun z6 e6 z7 e7 z8 e8 z9 e9 z10 e10 z11 e11 => ?_⟩
      obtain ⟨_, w, w1, w2, w3⟩ := PM_app pre (x :: l) (by rw [← ho]; exact hM)
      rw [clI e5 (by omega), e46, w2] at e6
      have n8 : z8 = nI (b2n (w.testBit g)) := by rw [e8, e7, e6]; exact nI_bit (by omega) (by omega)
      have hb := b2n_le (w.testBit g)
      have n9 : z9 = nI (b2n (w.testBit g) * 2 ^ t) := by rw [e9, n8]; exact nI_shl (by omega)
      have n10 : z10 = nI (bN (cT (atv d c) (fun t => g.testBit t) out) (t + 1)) := by
        rw [e10, n9, nI_or, bN_or, w3 g hg, evl_t hx, hn]; rfl
      rw [n10, inI rfl e11]
      exact ih (t + 1) (by omega)
  have l1 : ∀ (m g : Nat) (B2 : Nat → Nat → Int32), g + m = 8 → (∀ g', g' < g → B2 47 (8 * q + g') = nI (bef (atv d c) out g')) → (∀ j, ¬ (8 * q ≤ j ∧ j < 8 * q + 8) → B2 47 j = B 47 j) → (∀ k, k ∉ [45, 46, 47] → B2 k = B k) → B2 46 = B1 46 → wl_Truths_fillBefore_7 (nI q) Post PX (m + 1) (nI q) (nI g) I J B2 D := by
    intro m
    induction m with
    | zero =>
      intro g B2 hg a1 a2 a3 a4
      have e : g = 8 := by omega
      subst e
      exact ⟨fun _ => h B2 a1 a2 a3, fun z => absurd ((leI (x := 8) (a := 8) rfl (y := nI 8) rfl (by omega) (by omega)).mpr (by omega)) z⟩
    | succ m ih =>
      intro g B2 hg a1 a2 a3 a4
      refine ⟨fun z => ?_, fun _ => ⟨ntm out + 1, ?_⟩⟩
      · have := (leI (x := 8) (a := 8) rfl (y := nI g) rfl (by omega) (by omega)).mp z; omega
      refine l2 _ g B2 (by omega) (a3 42 (by decide)) a4 ?_ (ntm out) 0 (by omega)
      refine ih (g + 1) _ (by omega) (fun g' hg' => ?_) (fun j hj => ?_) (fun k hk => by rw [← a3 k hk]; simp at hk; simp [va_up, hk]) (by simp [va_up]; exact a4)
      · by_cases e : g' = g
        · subst e; simp [va_up, upd]
        · have : ¬ 8 * q + g' = 8 * q + g := by omega
          simp [va_up, upd, e]; exact a1 g' (by omega)
      · have : ¬ j = 8 * q + g := by omega
        simp [va_up, upd, this]; exact a2 j hj
  exact l1 8 0 B1 (by omega) (fun g' hg' => by omega) (fun j _ => by rw [hB1 47 (by decide) (by decide)]) (fun k hk => hB1 k (by simp at hk; omega) (by simp at hk; omega)) rfl
theorem q_settledFor {Post : Int32 → (Nat → Int32) → (Nat → Int64) → (Nat → Nat → Int32) → (Nat → Nat → Int64) → Prop} {av : zIt → Bool} {t : Nat} (h3 : ntm out ≤ 3) (h240 : out.length ≤ 240) (hF : FO B out) (h42 : rep (B 42) 0 ((tms out).map nI)) (hM : PM (B 46) av (fun g t => g.testBit t) out) (ht : t < ntm out) (h : ∀ w, w < 256 → (∀ g, g < 8 → w.testBit g = stb (tk out t) (ag av (fun t => g.testBit t) out t).1 (ag av (fun t => g.testBit t) out t).2 (g.testBit t)) → Post (nI w) I J B D) : wp_Truths_settledFor I J B D (nI t) Post PX := by
  obtain ⟨pre, x, l, ho, hx, hn, hr⟩ := tm_at out h42 t ht
  have hll : l.length < out.length := by rw [ho]; simp; omega
  obtain ⟨hMl, _⟩ := PM_app pre (x :: l) (by rw [← ho]; exact hM)
  obtain ⟨f1, f2, f3, f4, f5, f6⟩ := FO_app pre (x :: l) (by rw [← ho]; exact hF)
  have hnx : ntm (x :: l) = ntm l + 1 := by
    show ntm l + (if isT x.1 then 1 else 0) = _
    rw [if_pos hx]
  have etk : tk out t = x.1 := by
    rw [ho, tk_suf pre (x :: l) t (by omega)]
    show (if isT x.1 ∧ ntm l = t then _ else _) = _
    rw [if_pos ⟨hx, hn⟩]
  have eag : ∀ g : Nat, ag av (fun t => g.testBit t) out t = (if isU x.1 then ((evl av (fun t => g.testBit t) l).headD false, false) else ((evl av (fun t => g.testBit t) l).tail.headD false, (evl av (fun t => g.testBit t) l).headD false)) := by
    intro g
    rw [ho, ag_suf av _ pre (x :: l) t (by omega)]
    show (if isT x.1 ∧ ntm l = t then _ else _) = _
    rw [if_pos ⟨hx, hn⟩]
  obtain ⟨u, u1, u2, u3⟩ := gue_b t (by omega)
  have vt : vp_in (nI t) 3 := vin2 rfl (by omega) (by omega)
  have ct : (nI t).toNatClampNeg = t := clI rfl (by omega)
  refine ⟨vt, fun z1 e1 => ⟨vt, fun z3 e3 => ?_⟩⟩
  rw [ct, hr] at e1
  rw [ct, u2] at e3
  have v1 : vp_in z1 240 := vin2 e1 (by omega) (by omega)
  have c1 : z1.toNatClampNeg = l.length := clI e1 (by omega)
  have q : ∀ (z : Int32) (m : Nat) (y : Int32), z = nI x.1 → y = nI m → m ≤ 9 → (z = y ↔ x.1 = m) := fun z m y hz hy hm => eqI hz hy (by omega) (by omega)
  have xl : ∀ w, w < 256 → w ^^^ 255 < 256 := fun w hw => Nat.xor_lt_two_pow (n := 8) hw (by omega)
  by_cases gu : isU x.1
  · obtain ⟨r, R, er, b40⟩ := f5 gu
    obtain ⟨hr', w, w1, w2, w3⟩ := PM_1 hMl er
    refine ⟨v1, fun z4 e4 => ?_⟩
    rw [c1, b40] at e4
    refine ⟨vin2 e4 (by omega) (by omega), fun z5 e5 => ⟨v1, fun z6 e6 => ?_⟩⟩
    rw [clI e4 (by omega), w2] at e5
    rw [c1, f2] at e6
    refine ⟨fun z z8 e8 z9 e9 => ?_, fun z z8 e8 z9 e9 => ?_, fun z => absurd ((q z6 6 6 e6 rfl (by omega)).mp z) (by omega), fun g4 g5 _ => ?_⟩
    · have k4 := (q z6 4 4 e6 rfl (by omega)).mp z
      rw [e9, e8, e3, e5, show (255 : Int32) = nI 255 from rfl, nI_xor, nI_or]
      refine h _ (or_lt (k := 8) u1 (xl w w1)) (fun g hg => ?_)
      rw [Nat.testBit_or, x255 hg, w3 g hg, u3 g hg, etk, eag g, if_pos gu]
      unfold stb; rw [if_pos k4]
    · have k5 := (q z6 5 5 e6 rfl (by omega)).mp z
      rw [e9, e8, e3, e5, show (255 : Int32) = nI 255 from rfl, nI_xor, nI_or]
      refine h _ (or_lt (k := 8) (xl u u1) w1) (fun g hg => ?_)
      rw [Nat.testBit_or, x255 hg, w3 g hg, u3 g hg, etk, eag g, if_pos gu]
      unfold stb; rw [if_neg (by omega), if_pos k5]
    · have k4 : ¬ x.1 = 4 := fun e => g4 ((q z6 4 4 e6 rfl (by omega)).mpr e)
      have k5 : ¬ x.1 = 5 := fun e => g5 ((q z6 5 5 e6 rfl (by omega)).mpr e)
      omega
  · obtain ⟨r2, r1, R, er, b40, b41⟩ := f6 (by omega) gu
    obtain ⟨hr2, w, w1, w2, w3⟩ := PM_1 hMl er
    obtain ⟨hr1, v, y1, y2, y3⟩ := PM_2 hMl er
    refine ⟨v1, fun z4 e4 => ?_⟩
    rw [c1, b40] at e4
    refine ⟨vin2 e4 (by omega) (by omega), fun z5 e5 => ⟨v1, fun z6 e6 => ?_⟩⟩
    rw [c1, f2] at e6
    have sec : ∀ z7 : Int32, z7 = B 41 z1.toNatClampNeg → vp_in z7 240 ∧ B 46 z7.toNatClampNeg = nI w := fun z7 e7 => by
      rw [c1, b41] at e7
      exact ⟨vin2 e7 (by omega) (by omega), by rw [clI e7 (by omega)]; exact w2⟩
    refine ⟨fun z => absurd ((q z6 4 4 e6 rfl (by omega)).mp z) (by omega), fun z => absurd ((q z6 5 5 e6 rfl (by omega)).mp z) (by omega), fun z z14 e14 => ⟨v1, fun z7 e7 => ⟨(sec z7 e7).1, fun z8 e8 z9 e9 => ?_⟩⟩, fun _ _ g6 => ⟨v1, fun z7 e7 => ⟨(sec z7 e7).1, fun z8 e8 z9 e9 z10 e10 => ?_⟩⟩⟩
    · have k6 := (q z6 6 6 e6 rfl (by omega)).mp z
      rw [(sec z7 e7).2] at e8
      rw [e9, e14, e3, e8, show (255 : Int32) = nI 255 from rfl, nI_xor, nI_or]
      refine h _ (or_lt (k := 8) (xl u u1) w1) (fun g hg => ?_)
      rw [Nat.testBit_or, x255 hg, w3 g hg, u3 g hg, etk, eag g, if_neg gu]
      unfold stb; rw [if_neg (by omega), if_neg (by omega), if_pos k6]
    · have k6 : ¬ x.1 = 6 := fun e => g6 ((q z6 6 6 e6 rfl (by omega)).mpr e)
      rw [(sec z7 e7).2] at e8
      rw [e10, e9, e3, e8, show (255 : Int32) = nI 255 from rfl, nI_xor, nI_or]
      refine h _ (or_lt (k := 8) u1 (xl w w1)) (fun g hg => ?_)
      rw [Nat.testBit_or, x255 hg, w3 g hg, u3 g hg, etk, eag g, if_neg gu]
      unfold stb; rw [if_neg (by omega), if_neg (by omega), if_neg k6]
theorem q_fillSettled (hN : NC d) (hW : QW d Q) (hC : WC d Q c) (hS : CS d c I B) (hO : FOK d.2.2.2.1 (qP Q) out) (hK : KF9 out I B) (hq : q < 96) (h : ∀ B', (∀ g, g < 8 → B' 48 (8 * q + g) = nI (stN (atv d c) out g) ∧ B' 49 (8 * q + g) = nI (b2n (sat (atv d c) out g))) → (∀ r, r ∈ [48, 49] → ∀ j, ¬ (8 * q ≤ j ∧ j < 8 * q + 8) → B' r j = B r j) → (∀ k, k ∉ [45, 46, 48, 49] → B' k = B k) → Post I J B' D) : wp_Truths_fillSettled I J B D (nI q) Post PX := by
  refine q_reckonParts (md := 0) hN hW hC hS hO hK (fun B1 hM hB1 z18 e18 => ?_)
  have hM' : PM (B1 46) (atv d c) (fun g t => g.testBit t) out := hM
  obtain ⟨o1, o2, o3, o4, o5, o6⟩ := hO
  obtain ⟨k1, k2, k3, k4, k5⟩ := hK
  have hne : ∃ x l, out = x :: l := by
    cases out with
    | nil => simp [rts] at o6
    | cons x l => exact ⟨x, l, rfl⟩
  obtain ⟨x0, l0, ho⟩ := hne
  have hlen : out.length = l0.length + 1 := by rw [ho]; rfl
  rw [hlen] at k1
  have n18 := deI k1 e18
  obtain ⟨wr, wr1, wr2, wr3⟩ : ∃ w, w < 256 ∧ B1 46 l0.length = nI w ∧ ∀ g, g < 8 → w.testBit g = sat (atv d c) out g := by
    rw [ho] at hM'
    obtain ⟨_, w, a1, a2, a3⟩ := hM'
    exact ⟨w, a1, a2, fun g hg => by rw [a3 g hg]; unfold sat; rw [ho]⟩
  refine ⟨vin2 n18 (by omega) (by omega), fun z19 e19 => ⟨9, ?_⟩⟩
  rw [clI n18 (by omega), wr2] at e19
  rw [e19]
  have l2 : ∀ (K22 : Int32 → Int32 → Int32 → (Nat → Int32) → (Nat → Int64) → (Nat → Nat → Int32) → (Nat → Nat → Int64) → Prop) (g : Nat) (B2 : Nat → Nat → Int32), g < 8 → (∀ k, k ∉ [45, 46, 48, 49] → B2 k = B k) → B2 46 = B1 46 → (∀ B3, B3 48 = upd (B2 48) (8 * q + g) (nI (stN (atv d c) out g)) → B3 49 = upd (B2 49) (8 * q + g) (nI (b2n (sat (atv d c) out g))) → (∀ k, k ∉ [48, 49] → B3 k = B2 k) → K22 (nI q) (nI wr) (nI (g + 1)) I J B3 D) → ∀ (m t : Nat), t + m = ntm out → wl_Truths_fillSettled_34 (nI q) K22 Post PX (m + 1) (nI q) (nI wr) (nI g) (nI (bN (fun t => stb (tk out t) (ag (atv d c) (fun t => g.testBit t) out t).1 (ag (atv d c) (fun t => g.testBit t) out t).2 (g.testBit t)) t)) (nI t) I J B2 D := by
    intro K22 g B2 hg hB2 e46 hK m
    induction m with
    | zero =>
      intro t ht
      have e : t = ntm out := by omega
      subst e
      refine ⟨fun _ z3 e3 z4 e4 => ?_, fun z => absurd ((leI k2 (y := nI (ntm out)) rfl (by omega) (by omega)).mpr (Nat.le_refl _)) z⟩
      have n4 : z4 = nI (8 * q + g) := by rw [e4, e3, show (8 : Int32) = nI 8 from rfl, nI_mul, nI_add, Nat.mul_comm]
      refine ⟨vin2 n4 (by omega) (by omega), fun z5 e5 z6 e6 z7 e7 z8 e8 => ?_⟩
      have n6 : z6 = nI (8 * q + g) := by rw [e6, e5, show (8 : Int32) = nI 8 from rfl, nI_mul, nI_add, Nat.mul_comm]
      have n8 : z8 = nI (b2n (sat (atv d c) out g)) := by rw [e8, e7, ← wr3 g hg]; exact nI_bit (by omega) (by omega)
      rw [clI n4 (by omega)]
      have fin : ∀ y0 : Int32, vp_nar .boolean y0 = nI (b2n (sat (atv d c) out g)) → wc_Truths_fillSettled_106 (nI q) K22 Post PX (nI q) (nI wr) (nI g) y0 z6 I J (va_up B2 48 (upd (B2 48) (8 * q + g) (nI (bN (fun t => stb (tk out t) (ag (atv d c) (fun t => g.testBit t) out t).1 (ag (atv d c) (fun t => g.testBit t) out t).2 (g.testBit t)) (ntm out))))) D := by
        intro y0 hy0
        refine ⟨vin2 n6 (by omega) (by omega), fun z1 e1 => ?_⟩
        rw [inI rfl e1, clI n6 (by omega), hy0]
        exact hK _ (by simp [va_up]; rfl) (by simp [va_up]) (fun k hk => by simp at hk; simp [va_up, hk])
      refine ⟨fun z => fin 0 ?_, fun z => fin 1 ?_⟩
      · cases e : sat (atv d c) out g
        · rfl
        · rw [n8, e] at z; exact absurd z (by decide)
      · cases e : sat (atv d c) out g
        · rw [n8, e] at z; exact absurd rfl z
        · rfl
    | succ m ih =>
      intro t ht
      refine ⟨fun z => ?_, fun _ => ?_⟩
      · have := (leI k2 (y := nI t) rfl (by omega) (by omega)).mp z; omega
      refine q_settledFor (out := out) (av := atv d c) o2 o1 ?_ ?_ (by rw [e46]; exact hM') (by omega) (fun w w1 w2 z11 e11 z12 e12 z13 e13 z14 e14 z15 e15 => ?_)
      · exact k4.cg (fun r hr j _ => by rw [hB2 r (by simp at hr ⊢; omega)]) (fun j _ => by rw [hB2 43 (by decide)])
      · rw [hB2 42 (by decide)]; exact k5
      have n12 : z12 = nI (b2n (w.testBit g)) := by rw [e12, e11]; exact nI_bit (by omega) (by omega)
      have n13 : z13 = nI (b2n (w.testBit g) * 2 ^ t) := by rw [e13, n12]; exact nI_shl (by omega)
      have n14 : z14 = nI (bN (fun t => stb (tk out t) (ag (atv d c) (fun t => g.testBit t) out t).1 (ag (atv d c) (fun t => g.testBit t) out t).2 (g.testBit t)) (t + 1)) := by
        rw [e14, n13, nI_or, bN_or, w2 g hg]
      rw [n14, inI rfl e15]
      exact ih (t + 1) (by omega)
  have l1 : ∀ (m g : Nat) (B2 : Nat → Nat → Int32), g + m = 8 → (∀ g', g' < g → B2 48 (8 * q + g') = nI (stN (atv d c) out g') ∧ B2 49 (8 * q + g') = nI (b2n (sat (atv d c) out g'))) → (∀ r, r ∈ [48, 49] → ∀ j, ¬ (8 * q ≤ j ∧ j < 8 * q + 8) → B2 r j = B r j) → (∀ k, k ∉ [45, 46, 48, 49] → B2 k = B k) → B2 46 = B1 46 → wl_Truths_fillSettled_22 (nI q) Post PX (m + 1) (nI q) (nI wr) (nI g) I J B2 D := by
    intro m
    induction m with
    | zero =>
      intro g B2 hg a1 a2 a3 a4
      have e : g = 8 := by omega
      subst e
      exact ⟨fun _ => h B2 a1 a2 a3, fun z => absurd ((leI (x := 8) (a := 8) rfl (y := nI 8) rfl (by omega) (by omega)).mpr (by omega)) z⟩
    | succ m ih =>
      intro g B2 hg a1 a2 a3 a4
      refine ⟨fun z => ?_, fun _ => ⟨ntm out + 1, ?_⟩⟩
      · have := (leI (x := 8) (a := 8) rfl (y := nI g) rfl (by omega) (by omega)).mp z; omega
      refine l2 _ g B2 (by omega) a3 a4 (fun B3 b1 b2 b3 => ?_) (ntm out) 0 (by omega)
      refine ih (g + 1) B3 (by omega) (fun g' hg' => ?_) (fun r hr j hj => ?_) (fun k hk => by rw [b3 k (by simp at hk ⊢; omega)]; exact a3 k hk) (by rw [b3 46 (by decide)]; exact a4)
      · rw [b1, b2]
        by_cases e : g' = g
        · subst e; simp [upd]
        · have : ¬ 8 * q + g' = 8 * q + g := by omega
          simp [upd, e]; exact a1 g' (by omega)
      · have : ¬ j = 8 * q + g := by omega
        have h2 := a2 r hr j hj
        simp at hr
        rcases hr with rfl | rfl
        · rw [b1]; simp [upd, this]; exact h2
        · rw [b2]; simp [upd, this]; exact h2
  exact l1 8 0 B1 (by omega) (fun g' hg' => by omega) (fun r hr j _ => by rw [hB1 r (by simp at hr; omega) (by simp at hr; omega)]) (fun k hk => hB1 k (by simp at hk; omega) (by simp at hk; omega)) rfl
end
end ZP4
