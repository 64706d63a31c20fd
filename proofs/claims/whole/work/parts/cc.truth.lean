/-! The truth of a round; the lasso's steps. -/
section ZT5
variable {I : Nat → Int32} {J : Nat → Int64} {B : Nat → Nat → Int32} {D : Nat → Nat → Int64} {I9 : Nat → Int32} {J9 : Nat → Int64} {B9 : Nat → Nat → Int32} {D9 : Nat → Nat → Int64}
/-- the reference refuses, or answers -/
theorem r_truth1 {P : Int32 → (Nat → Int32) → (Nat → Int64) → (Nat → Nat → Int32) → (Nat → Nat → Int64) → Prop} {a : Int32} (hn : I9 26 = -1 ∨ I9 18 = 0) (h : P 0 (upd I9 0 1) J9 B9 D9) : wp_LassoFinderModel_truth I9 J9 B9 D9 a P := by
  have go : wc_LassoFinderModel_truth_15 a P a I9 J9 B9 D9 := ⟨fun z => absurd z (by decide), fun _ => h⟩
  refine ⟨fun _ => go, fun z => ⟨fun z2 => ?_, fun _ => go⟩⟩
  rcases hn with e | e
  · exact absurd (by rw [e]; decide) z
  · exact absurd e z2
theorem r_truthX {P : Int32 → (Nat → Int32) → (Nat → Int64) → (Nat → Nat → Int32) → (Nat → Nat → Int64) → Prop} {a : Int32} {mc : Nat} {d : zD} {Q : zQ} {X : zG} {out : List zIt} {w : Nat} {p : Nat → Nat} (hS : SV mc d Q X out I9 B9) (h18 : I9 18 = 1) (w0 : w ≤ 60) (w2 : I9 26 = nI w) (hp : ∀ i, i ≤ w → B9 54 i = nI (p i) ∧ p i < gN X)
    (h2 : (a < 0 ∨ ¬ a < nI w ∨ ∃ k, a = nI k ∧ k < w ∧ ¬ p k = p w) → P 0 (upd I9 0 2) J9 B9 D9) (h0 : ∀ k, a = nI k → k < w → p k = p w → P (nI (b2n (trw d X out p k (w - k)))) (upd I9 0 0) J9 B9 D9) : wp_LassoFinderModel_truth I9 J9 B9 D9 a P := by
  have x96 := hS.1.1
  have bad : (a < 0 ∨ ¬ a < nI w ∨ ∃ k, a = nI k ∧ k < w ∧ ¬ p k = p w) → wc_LassoFinderModel_truth_51 a P a I9 J9 B9 D9 := fun g => ⟨fun z => absurd z (by decide), fun _ => h2 g⟩
  refine ⟨fun z => ?_, fun _ => ⟨fun _ z32 e32 => ?_, fun z => ?_⟩⟩
  · rw [w2] at z
    have := (ltI (x := nI w) rfl (y := 0) (b := 0) rfl (by omega) (by omega)).mp z; omega
  · rw [w2] at e32
    refine r_in (by omega) e32 (fun g1 g2 => ⟨fun z => absurd z (by decide), fun _ => ?_⟩) (fun hn => ⟨fun _ => bad (hn.imp id Or.inl), fun z => absurd rfl z⟩)
    obtain ⟨k, k2, rfl⟩ := ltN g1 (by omega) g2
    obtain ⟨q1, q2⟩ := hp k (by omega)
    obtain ⟨u1, u2⟩ := hp w (Nat.le_refl _)
    refine ⟨vin2 rfl (by omega) (by omega), fun z35 e35 => ⟨vin2 w2 (by omega) (by omega), fun z36 e36 => ?_⟩⟩
    rw [clI rfl (by omega), q1] at e35
    rw [clI w2 (by omega), u1] at e36
    have qe : z35 = z36 ↔ p k = p w := eqI e35 e36 (by omega) (by omega)
    refine ⟨fun z => ⟨fun _ => ?_, fun y => absurd (by decide) y⟩, fun z => bad (Or.inr (Or.inr ⟨k, rfl, k2, fun e => z (qe.mpr e)⟩))⟩
    have hS0 : SV mc d Q X out (upd I9 0 0) B9 := hS.cg (fun x hx => by
      have : ¬ x = 0 := by simp at hx; omega
      simp [upd, this]) (fun _ _ => rfl)
    refine r_truthL (k := k) (n := w - k) hS0 (by simp [upd]; rw [w2]; congr 1; omega) (fun i hi => hp i (by omega)) (by omega) (by omega) ?_
    exact h0 k rfl k2 (qe.mp z)
  · rw [h18] at z; exact absurd z (by decide)
/-- the reference refuses a step, or says it -/
theorem r_lasso1 {P : Int32 → (Nat → Int32) → (Nat → Int64) → (Nat → Nat → Int32) → (Nat → Nat → Int64) → Prop} {a b : Int32} (h24 : I9 24 = -1) (h : P 0 (upd I9 0 1) J9 B9 D9) : wp_LassoFinderModel_lasso I9 J9 B9 D9 a b P := ⟨fun _ => ⟨fun z => absurd z (by decide), fun _ => h⟩, fun z => absurd (by rw [h24]; decide) z⟩
theorem lc7N {a b : Int32} (h : KK false I J B D I9 J9 B9 D9) : lc7_N (KK false) a b I J B D I9 J9 B9 D9 := by
  refine ⟨fun _ => ⟨fun _ => r_lasso1 h.ln ⟨fun _ => ⟨fun _ => (h.th 1).dd zdd, fun z => absurd z (by decide)⟩, fun z => z (by simp [upd])⟩, rfl⟩, fun z => absurd rfl z⟩
/-- the step at a place of the lasso -/
def lst (js cs : List Nat) (i : Nat) : Nat := if i < js.length then js.getD i 0 else cs.getD (i - js.length) 0
theorem lst_lt {X : zG} {js cs : List Nat} (h : LRx X js cs I B) {i : Nat} (hi : i < js.length + cs.length) : lst js cs i < gM X := by
  unfold lst
  split
  · exact (h.2.2.2.2.2.2.1 i (by assumption)).2
  · exact (h.2.2.2.2.2.2.2 _ (by omega)).2
theorem q_stepOf {P : Int32 → (Nat → Int32) → (Nat → Int64) → (Nat → Nat → Int32) → (Nat → Nat → Int64) → Prop} {X : zG} {js cs : List Nat} {i : Nat} (h : LRx X js cs I B) (hi : i < js.length + cs.length) (hP : P (nI (lst js cs i)) I J B D) : wp_LassoSearch_stepOf I J B D (nI i) P := by
  obtain ⟨l1, l2, l3, l4, l5, l6, l7, l8⟩ := h
  have q : I 36 ≤ nI i ↔ js.length ≤ i := leI l2 rfl (by omega) (by omega)
  unfold lst at hP
  refine ⟨fun z z2 e2 => ?_, fun z => ?_⟩
  · have hle := q.mp z
    rw [if_neg (by omega)] at hP
    have n2 : z2 = nI (i - js.length) := by
      rw [e2, l2]
      have := nI_sk (i - js.length) js.length
      rw [show i - js.length + js.length = i by omega] at this; exact this
    refine ⟨vin2 n2 (by omega) (by omega), fun z3 e3 => ?_⟩
    rw [clI n2 (by omega), (l8 _ (by omega)).1] at e3
    show P z3 I J B D
    rw [e3]; exact hP
  · have hlt : i < js.length := Nat.lt_of_not_le (fun y => z (q.mpr y))
    rw [if_pos hlt] at hP
    refine ⟨vin2 rfl (by omega) (by omega), fun z4 e4 => ?_⟩
    rw [clI rfl (by omega), (l7 i hlt).1] at e4
    show P z4 I J B D
    rw [e4]; exact hP
theorem lc7S {a b : Int32} (h : KK true I J B D I9 J9 B9 D9) : lc7_S (KK true) a b I J B D I9 J9 B9 D9 := by
  rcases h.ls with ⟨l1, l2⟩ | ⟨l1, d, Q, X, mc, LP, js, cs, k1, l2, l3⟩
  · refine ⟨fun _ => ⟨Or.inl rfl, fun _ => ⟨fun _ => r_lasso1 l2 ⟨fun _ => ⟨fun _ => (h.th 1).dd zdd, fun z => absurd z (by decide)⟩, fun z => z (by simp [upd])⟩, rfl⟩, fun z => absurd rfl z⟩, fun z => absurd l1 z⟩
  obtain ⟨x1, x2, x3⟩ := k1.x
  have x96 := x1.1
  have x400 := x1.2.1
  have hl := l2.2.2.2.1
  have hc := l2.2.2.2.2.2.1
  obtain ⟨r24, r25, r1, r2⟩ := l3
  have h24 : ¬ I9 24 < 0 := by
    rw [r24]
    exact fun z => by have := (ltI (x := nI js.length) rfl (y := 0) (b := 0) rfl (by omega) (by omega)).mp z; omega
  -- the reference, out of the lasso
  have bad : ((a < 0 ∨ ¬ a < nI (js.length + cs.length)) ∨ (b < 0 ∨ ¬ b < nI 3)) → wp_LassoFinderModel_lasso I9 J9 B9 D9 a b (fun r6 I6 J6 B6 D6 => wp_LassoFinderModel_thrown I6 J6 B6 D6 (fun r7 I7 J7 B7 D7 => ((r7 = 1 → ((¬ (1 : Int32) = 0 → KK true I J B (zmix 3 D D) I7 J7 B7 D7) ∧ ((1 : Int32) = 0 → ∀ z10 : Int64, z10 = (zmix 3 D D 3 (0 : Int32).toNatClampNeg) → ∀ z11 : Int64, z11 = r6.toInt64 → ∀ z12 : Int32, z12 = (lg_cmp z10 z11) → ((z12 = 0 → KK true I J B (zmix 3 D D) I7 J7 B7 D7) ∧ (¬ z12 = 0 → False))))) ∧ (¬ r7 = 1 → False)))) := fun hn => by
    have fin : wc_LassoFinderModel_lasso_36 a b (fun r6 I6 J6 B6 D6 => wp_LassoFinderModel_thrown I6 J6 B6 D6 (fun r7 I7 J7 B7 D7 => ((r7 = 1 → ((¬ (1 : Int32) = 0 → KK true I J B (zmix 3 D D) I7 J7 B7 D7) ∧ ((1 : Int32) = 0 → ∀ z10 : Int64, z10 = (zmix 3 D D 3 (0 : Int32).toNatClampNeg) → ∀ z11 : Int64, z11 = r6.toInt64 → ∀ z12 : Int32, z12 = (lg_cmp z10 z11) → ((z12 = 0 → KK true I J B (zmix 3 D D) I7 J7 B7 D7) ∧ (¬ z12 = 0 → False))))) ∧ (¬ r7 = 1 → False)))) a b I9 J9 B9 D9 := ⟨fun z => absurd z (by decide), fun _ => ⟨fun _ => ⟨fun _ => (h.th 1).dd zdd, fun z => absurd z (by decide)⟩, fun z => z (by simp [upd])⟩⟩
    refine ⟨fun z => absurd z h24, fun _ z11 e11 z12 e12 => ?_⟩
    rw [r24, r25, nI_add] at e11
    rw [e11] at e12
    refine r_in (by omega) e12 (fun g1 g2 => ⟨fun z => absurd z (by decide), fun _ => ?_⟩) (fun _ => ⟨fun _ => fin, fun z => absurd rfl z⟩)
    refine r_in (m := 3) (by omega) (by decide) (fun g3 g4 => ?_) (fun _ => ⟨fun z => absurd rfl z, fun _ => fin⟩)
    rcases hn with g | g
    · exact absurd g2 (g.resolve_left g1)
    · exact absurd g4 (g.resolve_left g3)
  -- the reference, in it
  have ok : ∀ (i : Nat) (x : Int32) (f : Nat → Int64), a = nI i → i < js.length + cs.length → ¬ b < 0 → b < nI 3 → (b = 0 → x = nI (lst js cs i) - nI (gF X (gS X (lst js cs i)))) → (b = 1 → x = gD X (lst js cs i)) → (b = 2 → x = gR X (lst js cs i)) → wp_LassoFinderModel_lasso I9 J9 B9 D9 a b (fun r6 I6 J6 B6 D6 => wp_LassoFinderModel_thrown I6 J6 B6 D6 (fun r7 I7 J7 B7 D7 => ((r7 = 0 → ((¬ (0 : Int32) = 0 → KK true I J B (va_up (zmix 3 D D) 3 (vp_updL f (0 : Int32).toNatClampNeg x.toInt64)) I7 J7 B7 D7) ∧ ((0 : Int32) = 0 → ∀ z10 : Int64, z10 = (va_up (zmix 3 D D) 3 (vp_updL f (0 : Int32).toNatClampNeg x.toInt64) 3 (0 : Int32).toNatClampNeg) → ∀ z11 : Int64, z11 = r6.toInt64 → ∀ z12 : Int32, z12 = (lg_cmp z10 z11) → ((z12 = 0 → KK true I J B (va_up (zmix 3 D D) 3 (vp_updL f (0 : Int32).toNatClampNeg x.toInt64)) I7 J7 B7 D7) ∧ (¬ z12 = 0 → False))))) ∧ (¬ r7 = 0 → False)))) := by
    intro i x f ha hi hb0 hb3 y0 y1 y2
    have hlt := lst_lt l2 hi
    have hs := (x1.2.2.2.2 _ hlt).1
    have hst : stq (B9 52) i = nI (lst js cs i) := by
      unfold lst
      by_cases e : i < js.length
      · rw [if_pos e]; exact r1 i e
      · rw [if_neg e]
        have := r2 (i - js.length) (by omega)
        rw [show js.length + (i - js.length) = i by omega] at this; exact this
    -- the answers are the same
    have fin : ∀ r6 : Int32, r6 = x → ((fun r6 I6 J6 B6 D6 => wp_LassoFinderModel_thrown I6 J6 B6 D6 (fun r7 I7 J7 B7 D7 => ((r7 = 0 → ((¬ (0 : Int32) = 0 → KK true I J B (va_up (zmix 3 D D) 3 (vp_updL f (0 : Int32).toNatClampNeg x.toInt64)) I7 J7 B7 D7) ∧ ((0 : Int32) = 0 → ∀ z10 : Int64, z10 = (va_up (zmix 3 D D) 3 (vp_updL f (0 : Int32).toNatClampNeg x.toInt64) 3 (0 : Int32).toNatClampNeg) → ∀ z11 : Int64, z11 = (r6 : Int32).toInt64 → ∀ z12 : Int32, z12 = (lg_cmp z10 z11) → ((z12 = 0 → KK true I J B (va_up (zmix 3 D D) 3 (vp_updL f (0 : Int32).toNatClampNeg x.toInt64)) I7 J7 B7 D7) ∧ (¬ z12 = 0 → False))))) ∧ (¬ r7 = 0 → False)))) : Int32 → (Nat → Int32) → (Nat → Int64) → (Nat → Nat → Int32) → (Nat → Nat → Int64) → Prop) r6 (upd I9 0 0) J9 B9 D9 := by
      intro r6 hr6
      subst hr6
      refine ⟨fun _ => ⟨fun z => absurd rfl z, fun _ z10 e10 z11 e11 z12 e12 => ?_⟩, fun z => z (by simp [upd])⟩
      have d10 := rd3 e10
      have eq : z12 = 0 := by rw [e12, e11, d10]; exact (cmp0 _ _).mpr rfl
      exact ⟨fun _ => (h.th 0).dd (fun k hk => zd3 k hk), fun z => z eq⟩
    refine ⟨fun z => absurd z h24, fun _ z11 e11 z12 e12 => ?_⟩
    rw [r24, r25, nI_add] at e11
    rw [e11] at e12
    refine r_in (by omega) e12 (fun g1 g2 => ⟨fun z => absurd z (by decide), fun _ => ?_⟩) (fun hn => ?_)
    · refine r_in (m := 3) (by omega) (by decide) (fun g3 g4 => ⟨fun _ => ⟨fun _ => ?_, fun z => absurd (by decide) z⟩, fun z => absurd z (by decide)⟩) (fun hn => absurd hb3 (hn.resolve_left hb0))
      refine r_stepOf55 ha (by omega) ?_
      rw [hst]
      obtain ⟨c, c3, rfl⟩ := ltN hb0 (by omega) hb3
      refine ⟨fun q0 => ⟨fun q1 => ⟨vin2 rfl (by omega) (by omega), fun z5 e5 => ?_⟩, fun q1 => ⟨vin2 rfl (by omega) (by omega), fun z6 e6 => ?_⟩⟩, fun q0 => ⟨vin2 rfl (by omega) (by omega), fun z7 e7 => ?_⟩⟩
      · rw [clI rfl (by omega), (k1.2.2.2.1.2.2.2 _ hlt).2.2.2] at e5
        have hc2 : c = 2 := by
          have : ¬ c = 0 := fun e => q0 (by rw [e]; rfl)
          have : ¬ c = 1 := fun e => q1 (by rw [e]; rfl)
          omega
        exact fin z5 (by rw [e5, y2 (by rw [hc2]; rfl)])
      · rw [clI rfl (by omega), (k1.2.2.2.1.2.2.2 _ hlt).2.2.1] at e6
        exact fin z6 (by rw [e6, y1 q1])
      · rw [clI rfl (by omega), (k1.2.2.2.1.2.2.2 _ hlt).1] at e7
        refine ⟨vin2 e7 (by omega) (by omega), fun z8 e8 z9 e9 => ?_⟩
        rw [clI e7 (by omega), k1.2.2.2.2.1 _ (by omega)] at e8
        exact fin z9 (by rw [e9, e8, y0 q0])
    · rw [ha] at hn
      rcases hn with g | g
      · have := (ltI (x := nI i) rfl (y := 0) (b := 0) rfl (by omega) (by omega)).mp g; omega
      · exact absurd ((ltI (x := nI i) rfl rfl (by omega) (by omega)).mpr hi) g
  refine ⟨fun z => absurd (l1.symm.trans z) (by decide), fun _ => ⟨Or.inr rfl, fun z => absurd z (by decide), fun _ => ⟨fun g => ⟨fun _ => bad (Or.inl (Or.inl g)), rfl⟩, fun g z4 e4 => ?_⟩⟩⟩
  rw [l2.2.1, l2.2.2.1, nI_add] at e4
  rw [e4]
  refine ⟨fun g2 => ?_, fun g2 => ⟨fun _ => bad (Or.inl (Or.inr g2)), rfl⟩⟩
  obtain ⟨i, i1, rfl⟩ := ltN g (by omega) g2
  have hlt := lst_lt l2 i1
  have hs := (x1.2.2.2.2 _ hlt).1
  refine q_stepOf l2 i1 ⟨fun q => ⟨vin2 rfl (by omega) (by omega), fun z8 e8 => ?_⟩, fun q => ⟨vin2 rfl (by omega) (by omega), fun z12 e12 z2 e2 => ⟨vin2 (k := 0) rfl (by omega) (by omega), ?_⟩⟩, fun q => ⟨vin2 rfl (by omega) (by omega), fun z14 e14 z2 e2 => ⟨vin2 (k := 0) rfl (by omega) (by omega), ?_⟩⟩, fun q0 q1 q2 => ⟨fun _ => bad (Or.inr ?_), rfl⟩⟩
  · rw [clI rfl (by omega), (k1.2.1.2.2.1.2.2.2 _ hlt).1] at e8
    refine ⟨vin2 e8 (by omega) (by omega), fun z9 e9 z10 e10 z2 e2 => ⟨vin2 (k := 0) rfl (by omega) (by omega), ?_⟩⟩
    rw [clI e8 (by omega), k1.2.1.2.2.2.1 _ (by omega)] at e9
    rw [e2]
    subst q
    exact ok i z10 _ rfl i1 (by decide) (by decide) (fun _ => by rw [e10, e9]) (fun e => absurd e (by decide)) (fun e => absurd e (by decide))
  · rw [clI rfl (by omega), (k1.2.1.2.2.1.2.2.2 _ hlt).2.2.1] at e12
    rw [e2]
    subst q
    exact ok i z12 _ rfl i1 (by decide) (by decide) (fun e => absurd e (by decide)) (fun _ => e12) (fun e => absurd e (by decide))
  · rw [clI rfl (by omega), (k1.2.1.2.2.1.2.2.2 _ hlt).2.2.2] at e14
    rw [e2]
    subst q
    exact ok i z14 _ rfl i1 (by decide) (by decide) (fun e => absurd e (by decide)) (fun e => absurd e (by decide)) (fun _ => e14)
  · by_cases gb : b < 0
    · exact Or.inl gb
    · refine Or.inr (fun g3 => ?_)
      obtain ⟨c, c3, rfl⟩ := ltN gb (by omega) g3
      have h0 : ¬ c = 0 := fun e => q0 (by rw [e]; rfl)
      have h1 : ¬ c = 1 := fun e => q1 (by rw [e]; rfl)
      have h2 : ¬ c = 2 := fun e => q2 (by rw [e]; rfl)
      omega
theorem lc15N {a b : Int32} (h : KK false I J B D I9 J9 B9 D9) : lc15_N (KK false) a b I J B D I9 J9 B9 D9 := by
  have hh := h
  obtain ⟨t, p6, h3⟩ := hh
  have ref1 : (I9 26 = -1 ∨ I9 18 = 0) → wp_LassoFinderModel_truth I9 J9 B9 D9 a (fun r4 I4 J4 B4 D4 => wp_LassoFinderModel_thrown I4 J4 B4 D4 (fun r5 I5 J5 B5 D5 => ((r5 = 1 → ((¬ (1 : Int32) = 0 → KK false I J B (zmix 3 D D) I5 J5 B5 D5) ∧ ((1 : Int32) = 0 → ∀ z8 : Int64, z8 = (zmix 3 D D 3 (0 : Int32).toNatClampNeg) → ((r4 = 0 → ∀ z10 : Int32, z10 = (lg_cmp z8 0) → ((z10 = 0 → KK false I J B (zmix 3 D D) I5 J5 B5 D5) ∧ (¬ z10 = 0 → False))) ∧ (¬ r4 = 0 → ∀ z12 : Int32, z12 = (lg_cmp z8 1) → ((z12 = 0 → KK false I J B (zmix 3 D D) I5 J5 B5 D5) ∧ (¬ z12 = 0 → False))))))) ∧ (¬ r5 = 1 → False)))) := fun hn => r_truth1 hn ⟨fun _ => ⟨fun _ => (h.th 1).dd zdd, fun z => absurd z (by decide)⟩, fun z => z (by simp [upd])⟩
  obtain ⟨_, g2, g0, _, g2b⟩ := h.gm
  have noW : I 0 = -1 → lc15_N (KK false) a b I J B D I9 J9 B9 D9 := fun w1 => ⟨fun _ => ⟨fun _ => ref1 (Or.inl (g0.symm.trans w1)), fun e => absurd e (by decide), Or.inl rfl⟩, fun z => absurd w1 z⟩
  rcases h3 with ⟨_, _, _, _, w1, _⟩ | ⟨a1, a2, d, Q, X, mc, LP, k1, k2, k3, k4⟩
  · exact noW w1
  rcases k2 with ⟨w1, w2⟩ | ⟨w, p, w0, w1, w2, w3⟩
  · exact noW w1
  have n0 : ¬ I 0 = -1 := fun z => nI_m1 (show w ≤ 100000 by omega) (w1.symm.trans z)
  rcases k3 with ⟨b1, b2⟩ | ⟨b1, b2, out, kf⟩
  · exact ⟨fun z => absurd z n0, fun _ => ⟨fun z => absurd b1 z, fun _ => ⟨fun _ => ref1 (Or.inr b2), fun e => absurd e (by decide), Or.inl rfl⟩⟩⟩
  have hS := k1.sv kf
  have hp9 : ∀ i, i ≤ w → B9 54 i = nI (p i) ∧ p i < gN X := fun i hi => ⟨(w3 i hi).2.1, (w3 i hi).2.2⟩
  have x96 := k1.x.1.1
  have ref2 : (a < 0 ∨ ¬ a < nI w ∨ ∃ k, a = nI k ∧ k < w ∧ ¬ p k = p w) → wp_LassoFinderModel_truth I9 J9 B9 D9 a (fun r4 I4 J4 B4 D4 => wp_LassoFinderModel_thrown I4 J4 B4 D4 (fun r5 I5 J5 B5 D5 => ((r5 = 2 → ((¬ (2 : Int32) = 0 → KK false I J B (zmix 3 D D) I5 J5 B5 D5) ∧ ((2 : Int32) = 0 → ∀ z8 : Int64, z8 = (zmix 3 D D 3 (0 : Int32).toNatClampNeg) → ((r4 = 0 → ∀ z10 : Int32, z10 = (lg_cmp z8 0) → ((z10 = 0 → KK false I J B (zmix 3 D D) I5 J5 B5 D5) ∧ (¬ z10 = 0 → False))) ∧ (¬ r4 = 0 → ∀ z12 : Int32, z12 = (lg_cmp z8 1) → ((z12 = 0 → KK false I J B (zmix 3 D D) I5 J5 B5 D5) ∧ (¬ z12 = 0 → False))))))) ∧ (¬ r5 = 2 → False)))) := fun hn => by
    refine r_truthX hS b2 w0 w2 hp9 (fun _ => ⟨fun _ => ⟨fun _ => (h.th 2).dd zdd, fun z => absurd z (by decide)⟩, fun z => z (by simp [upd])⟩) (fun k hk hk2 hpk => ?_)
    subst hk
    rcases hn with g | g | ⟨k', g, g3, g4⟩
    · have := (ltI (x := nI k) rfl (y := 0) (b := 0) rfl (by omega) (by omega)).mp g; omega
    · exact absurd ((ltI (x := nI k) rfl rfl (by omega) (by omega)).mpr hk2) g
    · have : k = k' := nI_inj (by omega) (by omega) g
      subst this
      exact absurd hpk g4
  have n2 : ¬ I 2 = 0 := by rw [b1]; decide
  refine ⟨fun z => absurd z n0, fun _ => ⟨fun _ => ⟨fun g => ⟨fun e => absurd e (by decide), fun _ => ref2 (Or.inl g), Or.inr rfl⟩, fun g => ⟨fun g2 => ⟨fun e => absurd e (by decide), fun _ => ref2 (Or.inr (Or.inl ?_)), Or.inr rfl⟩, fun g2 => ?_⟩⟩, fun z => absurd z n2⟩⟩
  · rw [w1] at g2
    rw [Int32.lt_iff_toInt_lt]
    rw [Int32.le_iff_toInt_le] at g2
    omega
  have g3 : a < nI w := by
    rw [w1] at g2
    rw [Int32.lt_iff_toInt_lt]
    rw [Int32.le_iff_toInt_le] at g2
    omega
  obtain ⟨k, k2', rfl⟩ := ltN g (by omega) g3
  obtain ⟨q1, q2, q3⟩ := w3 k (by omega)
  obtain ⟨u1, u2, u3⟩ := w3 w (Nat.le_refl _)
  refine ⟨vin2 rfl (by omega) (by omega), fun z5 e5 => ⟨vin2 w1 (by omega) (by omega), fun z6 e6 => ?_⟩⟩
  rw [clI rfl (by omega), q1] at e5
  rw [clI w1 (by omega), u1] at e6
  have qe : z5 = z6 ↔ p k = p w := eqI e5 e6 (by omega) (by omega)
  refine ⟨fun z => ?_, fun z => ⟨fun e => absurd e (by decide), fun _ => ref2 (Or.inr (Or.inr ⟨k, rfl, k2', fun e => z (qe.mpr e)⟩)), Or.inr rfl⟩⟩
  have hpk := qe.mp z
  have hb01 : ∀ b : Bool, nI (b2n b) = 0 ∨ nI (b2n b) = 1 := fun b => by cases b <;> simp [b2n] <;> decide
  refine q_ofRound (d := d) (X := X) (out := out) (p := p) (k := k) (n := w - k) x96 kf.1 kf.2.2.1 kf.2.2.2.2.2.1 kf.2.2.2.2.1 (fun i hi => ⟨(w3 i (by omega)).1, (w3 i (by omega)).2.2⟩) (by omega) (by omega) (by rw [w1]; congr 1; omega) rfl ⟨hb01 _, ?_⟩
  have m32 : ∀ f : Nat → Int32, zmix 32 f f = f := fun f => funext (fun k => by unfold zmix; split <;> rfl)
  have m50 : ∀ f : Nat → Nat → Int32, zmix 50 f f = f := fun f => funext (fun k => by unfold zmix; split <;> rfl)
  try rw [m32, m50]
  -- the reference answers the same
  have ref0 : ∀ (x : Int64) (f : Nat → Int64), x = (if trw d X out p k (w - k) = true then 1 else 0) → wp_LassoFinderModel_truth I9 J9 B9 D9 (nI k) (fun r4 I4 J4 B4 D4 => wp_LassoFinderModel_thrown I4 J4 B4 D4 (fun r5 I5 J5 B5 D5 => ((r5 = 0 → ((¬ (0 : Int32) = 0 → KK false I J B (va_up (zmix 3 D D) 3 (vp_updL f (0 : Int32).toNatClampNeg x)) I5 J5 B5 D5) ∧ ((0 : Int32) = 0 → ∀ z8 : Int64, z8 = (va_up (zmix 3 D D) 3 (vp_updL f (0 : Int32).toNatClampNeg x) 3 (0 : Int32).toNatClampNeg) → ((r4 = 0 → ∀ z10 : Int32, z10 = (lg_cmp z8 0) → ((z10 = 0 → KK false I J B (va_up (zmix 3 D D) 3 (vp_updL f (0 : Int32).toNatClampNeg x)) I5 J5 B5 D5) ∧ (¬ z10 = 0 → False))) ∧ (¬ r4 = 0 → ∀ z12 : Int32, z12 = (lg_cmp z8 1) → ((z12 = 0 → KK false I J B (va_up (zmix 3 D D) 3 (vp_updL f (0 : Int32).toNatClampNeg x)) I5 J5 B5 D5) ∧ (¬ z12 = 0 → False))))))) ∧ (¬ r5 = 0 → False)))) := by
    intro x f hx
    refine r_truthX hS b2 w0 w2 hp9 (fun hn => ?_) (fun k' hk hk2 _ => ?_)
    · exfalso
      rcases hn with g' | g' | ⟨k', g', _, g4⟩
      · exact absurd g' g
      · exact absurd g3 g'
      · have : k = k' := nI_inj (by omega) (by omega) g'
        subst this
        exact absurd hpk g4
    · have ek : k = k' := nI_inj (by omega) (by omega) hk
      subst ek
      have fin := (h.th 0).dd (D' := va_up (zmix 3 D D) 3 (vp_updL f (0 : Int32).toNatClampNeg x)) (fun k hk => zd3 k hk)
      refine ⟨fun _ => ⟨fun z => absurd rfl z, fun _ z8 e8 => ?_⟩, fun z => z (by simp [upd])⟩
      have d8 := rd3 e8
      cases hb : trw d X out p k (w - k)
      · rw [hb, if_neg (by decide)] at hx
        refine ⟨fun _ z10 e10 => ⟨fun _ => fin, fun y => y (by rw [e10, d8, hx]; decide)⟩, fun y => absurd rfl y⟩
      · rw [hb, if_pos rfl] at hx
        refine ⟨fun y => absurd y (by decide), fun _ z12 e12 => ⟨fun _ => fin, fun y => y (by rw [e12, d8, hx]; decide)⟩⟩
  cases hb : trw d X out p k (w - k)
  · exact ⟨fun _ => ⟨vin2 (k := 0) rfl (by omega) (by omega), ref0 0 _ (by rw [hb]; rfl)⟩, fun y => absurd rfl y⟩
  · exact ⟨fun y => absurd y (by decide), fun _ => ⟨vin2 (k := 0) rfl (by omega) (by omega), ref0 1 _ (by rw [hb]; rfl)⟩⟩
theorem lc15S {a b : Int32} (h : KK true I J B D I9 J9 B9 D9) : lc15_S (KK true) a b I J B D I9 J9 B9 D9 := by
  have hh := h
  obtain ⟨t, p6, h3⟩ := hh
  have ref1 : (I9 26 = -1 ∨ I9 18 = 0) → wp_LassoFinderModel_truth I9 J9 B9 D9 a (fun r4 I4 J4 B4 D4 => wp_LassoFinderModel_thrown I4 J4 B4 D4 (fun r5 I5 J5 B5 D5 => ((r5 = 1 → ((¬ (1 : Int32) = 0 → KK true I J B (zmix 3 D D) I5 J5 B5 D5) ∧ ((1 : Int32) = 0 → ∀ z8 : Int64, z8 = (zmix 3 D D 3 (0 : Int32).toNatClampNeg) → ((r4 = 0 → ∀ z10 : Int32, z10 = (lg_cmp z8 0) → ((z10 = 0 → KK true I J B (zmix 3 D D) I5 J5 B5 D5) ∧ (¬ z10 = 0 → False))) ∧ (¬ r4 = 0 → ∀ z12 : Int32, z12 = (lg_cmp z8 1) → ((z12 = 0 → KK true I J B (zmix 3 D D) I5 J5 B5 D5) ∧ (¬ z12 = 0 → False))))))) ∧ (¬ r5 = 1 → False)))) := fun hn => r_truth1 hn ⟨fun _ => ⟨fun _ => (h.th 1).dd zdd, fun z => absurd z (by decide)⟩, fun z => z (by simp [upd])⟩
  obtain ⟨_, g2, g0, _, g2b⟩ := h.gm
  have noW : I 0 = -1 → lc15_S (KK true) a b I J B D I9 J9 B9 D9 := fun w1 => ⟨fun _ => ⟨fun _ => ref1 (Or.inl (g0.symm.trans w1)), fun e => absurd e (by decide), Or.inl rfl⟩, fun z => absurd w1 z⟩
  rcases h3 with ⟨_, _, _, _, w1, _⟩ | ⟨a1, a2, d, Q, X, mc, LP, k1, k2, k3, k4⟩
  · exact noW w1
  rcases k2 with ⟨w1, w2⟩ | ⟨w, p, w0, w1, w2, w3⟩
  · exact noW w1
  have n0 : ¬ I 0 = -1 := fun z => nI_m1 (show w ≤ 100000 by omega) (w1.symm.trans z)
  rcases k3 with ⟨b1, b2⟩ | ⟨b1, b2, out, kf⟩
  · exact ⟨fun z => absurd z n0, fun _ => ⟨fun z => absurd b1 z, fun _ => ⟨fun _ => ref1 (Or.inr b2), fun e => absurd e (by decide), Or.inl rfl⟩⟩⟩
  have hS := k1.sv kf
  have hp9 : ∀ i, i ≤ w → B9 54 i = nI (p i) ∧ p i < gN X := fun i hi => ⟨(w3 i hi).2.1, (w3 i hi).2.2⟩
  have x96 := k1.x.1.1
  have ref2 : (a < 0 ∨ ¬ a < nI w ∨ ∃ k, a = nI k ∧ k < w ∧ ¬ p k = p w) → wp_LassoFinderModel_truth I9 J9 B9 D9 a (fun r4 I4 J4 B4 D4 => wp_LassoFinderModel_thrown I4 J4 B4 D4 (fun r5 I5 J5 B5 D5 => ((r5 = 2 → ((¬ (2 : Int32) = 0 → KK true I J B (zmix 3 D D) I5 J5 B5 D5) ∧ ((2 : Int32) = 0 → ∀ z8 : Int64, z8 = (zmix 3 D D 3 (0 : Int32).toNatClampNeg) → ((r4 = 0 → ∀ z10 : Int32, z10 = (lg_cmp z8 0) → ((z10 = 0 → KK true I J B (zmix 3 D D) I5 J5 B5 D5) ∧ (¬ z10 = 0 → False))) ∧ (¬ r4 = 0 → ∀ z12 : Int32, z12 = (lg_cmp z8 1) → ((z12 = 0 → KK true I J B (zmix 3 D D) I5 J5 B5 D5) ∧ (¬ z12 = 0 → False))))))) ∧ (¬ r5 = 2 → False)))) := fun hn => by
    refine r_truthX hS b2 w0 w2 hp9 (fun _ => ⟨fun _ => ⟨fun _ => (h.th 2).dd zdd, fun z => absurd z (by decide)⟩, fun z => z (by simp [upd])⟩) (fun k hk hk2 hpk => ?_)
    subst hk
    rcases hn with g | g | ⟨k', g, g3, g4⟩
    · have := (ltI (x := nI k) rfl (y := 0) (b := 0) rfl (by omega) (by omega)).mp g; omega
    · exact absurd ((ltI (x := nI k) rfl rfl (by omega) (by omega)).mpr hk2) g
    · have : k = k' := nI_inj (by omega) (by omega) g
      subst this
      exact absurd hpk g4
  have n2 : ¬ I 2 = 0 := by rw [b1]; decide
  refine ⟨fun z => absurd z n0, fun _ => ⟨fun _ => ⟨fun g => ⟨fun e => absurd e (by decide), fun _ => ref2 (Or.inl g), Or.inr rfl⟩, fun g => ⟨fun g2 => ⟨fun e => absurd e (by decide), fun _ => ref2 (Or.inr (Or.inl ?_)), Or.inr rfl⟩, fun g2 => ?_⟩⟩, fun z => absurd z n2⟩⟩
  · rw [w1] at g2
    rw [Int32.lt_iff_toInt_lt]
    rw [Int32.le_iff_toInt_le] at g2
    omega
  have g3 : a < nI w := by
    rw [w1] at g2
    rw [Int32.lt_iff_toInt_lt]
    rw [Int32.le_iff_toInt_le] at g2
    omega
  obtain ⟨k, k2', rfl⟩ := ltN g (by omega) g3
  obtain ⟨q1, q2, q3⟩ := w3 k (by omega)
  obtain ⟨u1, u2, u3⟩ := w3 w (Nat.le_refl _)
  refine ⟨vin2 rfl (by omega) (by omega), fun z5 e5 => ⟨vin2 w1 (by omega) (by omega), fun z6 e6 => ?_⟩⟩
  rw [clI rfl (by omega), q1] at e5
  rw [clI w1 (by omega), u1] at e6
  have qe : z5 = z6 ↔ p k = p w := eqI e5 e6 (by omega) (by omega)
  refine ⟨fun z => ?_, fun z => ⟨fun e => absurd e (by decide), fun _ => ref2 (Or.inr (Or.inr ⟨k, rfl, k2', fun e => z (qe.mpr e)⟩)), Or.inr rfl⟩⟩
  have hpk := qe.mp z
  have hb01 : ∀ b : Bool, nI (b2n b) = 0 ∨ nI (b2n b) = 1 := fun b => by cases b <;> simp [b2n] <;> decide
  refine q_ofRound (d := d) (X := X) (out := out) (p := p) (k := k) (n := w - k) x96 kf.1 kf.2.2.1 kf.2.2.2.2.2.1 kf.2.2.2.2.1 (fun i hi => ⟨(w3 i (by omega)).1, (w3 i (by omega)).2.2⟩) (by omega) (by omega) (by rw [w1]; congr 1; omega) rfl ⟨hb01 _, ?_⟩
  have m32 : ∀ f : Nat → Int32, zmix 32 f f = f := fun f => funext (fun k => by unfold zmix; split <;> rfl)
  have m50 : ∀ f : Nat → Nat → Int32, zmix 50 f f = f := fun f => funext (fun k => by unfold zmix; split <;> rfl)
  try rw [m32, m50]
  -- the reference answers the same
  have ref0 : ∀ (x : Int64) (f : Nat → Int64), x = (if trw d X out p k (w - k) = true then 1 else 0) → wp_LassoFinderModel_truth I9 J9 B9 D9 (nI k) (fun r4 I4 J4 B4 D4 => wp_LassoFinderModel_thrown I4 J4 B4 D4 (fun r5 I5 J5 B5 D5 => ((r5 = 0 → ((¬ (0 : Int32) = 0 → KK true I J B (va_up (zmix 3 D D) 3 (vp_updL f (0 : Int32).toNatClampNeg x)) I5 J5 B5 D5) ∧ ((0 : Int32) = 0 → ∀ z8 : Int64, z8 = (va_up (zmix 3 D D) 3 (vp_updL f (0 : Int32).toNatClampNeg x) 3 (0 : Int32).toNatClampNeg) → ((r4 = 0 → ∀ z10 : Int32, z10 = (lg_cmp z8 0) → ((z10 = 0 → KK true I J B (va_up (zmix 3 D D) 3 (vp_updL f (0 : Int32).toNatClampNeg x)) I5 J5 B5 D5) ∧ (¬ z10 = 0 → False))) ∧ (¬ r4 = 0 → ∀ z12 : Int32, z12 = (lg_cmp z8 1) → ((z12 = 0 → KK true I J B (va_up (zmix 3 D D) 3 (vp_updL f (0 : Int32).toNatClampNeg x)) I5 J5 B5 D5) ∧ (¬ z12 = 0 → False))))))) ∧ (¬ r5 = 0 → False)))) := by
    intro x f hx
    refine r_truthX hS b2 w0 w2 hp9 (fun hn => ?_) (fun k' hk hk2 _ => ?_)
    · exfalso
      rcases hn with g' | g' | ⟨k', g', _, g4⟩
      · exact absurd g' g
      · exact absurd g3 g'
      · have : k = k' := nI_inj (by omega) (by omega) g'
        subst this
        exact absurd hpk g4
    · have ek : k = k' := nI_inj (by omega) (by omega) hk
      subst ek
      have fin := (h.th 0).dd (D' := va_up (zmix 3 D D) 3 (vp_updL f (0 : Int32).toNatClampNeg x)) (fun k hk => zd3 k hk)
      refine ⟨fun _ => ⟨fun z => absurd rfl z, fun _ z8 e8 => ?_⟩, fun z => z (by simp [upd])⟩
      have d8 := rd3 e8
      cases hb : trw d X out p k (w - k)
      · rw [hb, if_neg (by decide)] at hx
        refine ⟨fun _ z10 e10 => ⟨fun _ => fin, fun y => y (by rw [e10, d8, hx]; decide)⟩, fun y => absurd rfl y⟩
      · rw [hb, if_pos rfl] at hx
        refine ⟨fun y => absurd y (by decide), fun _ z12 e12 => ⟨fun _ => fin, fun y => y (by rw [e12, d8, hx]; decide)⟩⟩
  cases hb : trw d X out p k (w - k)
  · exact ⟨fun _ => ⟨vin2 (k := 0) rfl (by omega) (by omega), ref0 0 _ (by rw [hb]; rfl)⟩, fun y => absurd rfl y⟩
  · exact ⟨fun y => absurd y (by decide), fun _ => ⟨vin2 (k := 0) rfl (by omega) (by omega), ref0 1 _ (by rw [hb]; rfl)⟩⟩
end ZT5
