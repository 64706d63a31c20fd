/-! What holds between two calls, in both shapes. -/
section ZT2
variable {I : Nat → Int32} {J : Nat → Int64} {B : Nat → Nat → Int32} {D : Nat → Nat → Int64} {I9 : Nat → Int32} {J9 : Nat → Int64} {B9 : Nat → Nat → Int32} {D9 : Nat → Nat → Int64}
def TXk (I : Nat → Int32) (B : Nat → Nat → Int32) (I9 : Nat → Int32) (B9 : Nat → Nat → Int32) : Prop := ∃ n, n ≤ 240 ∧ I 3 = nI n ∧ I9 1 = nI n ∧ okC (B 1) n ∧ ∀ k, k < n → B9 0 k = B 1 k
def WKx (X : zG) (I : Nat → Int32) (B : Nat → Nat → Int32) (I9 : Nat → Int32) (B9 : Nat → Nat → Int32) : Prop := (I 0 = -1 ∧ I9 26 = -1) ∨ ∃ (w : Nat) (p : Nat → Nat), w ≤ 60 ∧ I 0 = nI w ∧ I9 26 = nI w ∧ ∀ i, i ≤ w → B 0 i = nI (p i) ∧ B9 54 i = nI (p i) ∧ p i < gN X
def KLs (sh : Bool) (X : zG) (I : Nat → Int32) (B : Nat → Nat → Int32) (I9 : Nat → Int32) (B9 : Nat → Nat → Int32) : Prop := (I9 24 = -1 ∧ (sh = true → I 38 = 0)) ∨ (sh = true ∧ ∃ js cs, LRx X js cs I B ∧ LR9 js cs I9 B9)
def KK (sh : Bool) (I : Nat → Int32) (J : Nat → Int64) (B : Nat → Nat → Int32) (D : Nat → Nat → Int64) (I9 : Nat → Int32) (_ : Nat → Int64) (B9 : Nat → Nat → Int32) (D9 : Nat → Nat → Int64) : Prop := TXk I B I9 B9 ∧ I 6 = I9 4 ∧
  ((I 1 = 0 ∧ I9 5 = 0 ∧ I 2 = 0 ∧ I9 18 = 0 ∧ I 0 = -1 ∧ I9 26 = -1 ∧ I9 24 = -1 ∧ (sh = true → I 38 = 0)) ∨
   (I 1 = 1 ∧ I9 5 = 1 ∧ ∃ d Q X mc LP, KM d Q X mc LP I J B D I9 B9 D9 ∧ WKx X I B I9 B9 ∧ ((I 2 = 0 ∧ I9 18 = 0) ∨ (I 2 = 1 ∧ I9 18 = 1 ∧ ∃ out, KFm d X mc out I B I9 B9)) ∧ KLs sh X I B I9 B9))
theorem KLs.cg {sh : Bool} {X : zG} {I' : Nat → Int32} {B' : Nat → Nat → Int32} {I9' : Nat → Int32} {B9' : Nat → Nat → Int32} (h : KLs sh X I B I9 B9) (hI : ∀ k, k ∈ [36, 37, 38] → I' k = I k) (hB : ∀ k, k ∈ [58, 59] → B' k = B k) (h9I : ∀ k, k ∈ [24, 25] → I9' k = I9 k) (h9B : B9' 52 = B9 52) : KLs sh X I' B' I9' B9' := by
  unfold KLs LRx LR9 at *
  rw [hI 36 (by decide), hI 37 (by decide), hI 38 (by decide), hB 58 (by decide), hB 59 (by decide), h9I 24 (by decide), h9I 25 (by decide), h9B]
  exact h
theorem WKx.cg {X : zG} {I' : Nat → Int32} {B' : Nat → Nat → Int32} {I9' : Nat → Int32} {B9' : Nat → Nat → Int32} (h : WKx X I B I9 B9) (hI : I' 0 = I 0) (hB : B' 0 = B 0) (h9I : I9' 26 = I9 26) (h9B : B9' 54 = B9 54) : WKx X I' B' I9' B9' := by
  unfold WKx at *
  rw [hI, hB, h9I, h9B]; exact h
/-- changes that nobody asks for -/
theorem KK.sm {sh : Bool} {I' : Nat → Int32} {J' : Nat → Int64} {B' : Nat → Nat → Int32} {D' : Nat → Nat → Int64} {I9' : Nat → Int32} {J9' : Nat → Int64} {B9' : Nat → Nat → Int32} {D9' : Nat → Nat → Int64} (h : KK sh I J B D I9 J9 B9 D9) (hI : ∀ k, k ≠ 18 → I' k = I k) (hJ : J' 0 = J 0) (hB : ∀ k, k ∉ [29, 30, 31] → B' k = B k) (hD : ∀ k, k < 3 → D' k = D k) (h9I : ∀ k, k ∉ [0, 17] → I9' k = I9 k) (h9B : ∀ k, k ∉ [36, 37, 38, 39, 40] → B9' k = B9 k) (h9D : ∀ k, k < 2 → D9' k = D9 k) : KK sh I' J' B' D' I9' J9' B9' D9' := by
  obtain ⟨h1, h2, h3⟩ := h
  refine ⟨?_, by rw [hI 6 (by decide), h9I 4 (by decide)]; exact h2, ?_⟩
  · unfold TXk at *; rw [hI 3 (by decide), h9I 1 (by decide), hB 1 (by decide), h9B 0 (by decide)]; exact h1
  · rw [hI 1 (by decide), hI 2 (by decide), hI 0 (by decide), hI 38 (by decide), h9I 5 (by decide), h9I 18 (by decide), h9I 26 (by decide), h9I 24 (by decide)]
    rcases h3 with w | ⟨a1, a2, d, Q, X, mc, LP, k1, k2, k3, k4⟩
    · exact Or.inl w
    · refine Or.inr ⟨a1, a2, d, Q, X, mc, LP, k1.cg (fun k hk => hI k (by simp at hk; omega)) hJ (fun k hk => hB k (by simp; omega)) hD (fun k hk => h9I k (by simp at hk ⊢; omega)) (fun k hk => h9B k (by simp; omega)) (fun k _ => by rw [h9B 24 (by decide)]) h9D, k2.cg (hI 0 (by decide)) (hB 0 (by decide)) (h9I 26 (by decide)) (h9B 54 (by decide)), ?_, k4.cg (fun k hk => hI k (by simp at hk; omega)) (fun k hk => hB k (by simp at hk ⊢; omega)) (fun k hk => h9I k (by simp at hk ⊢; omega)) (h9B 52 (by decide))⟩
      rcases k3 with w | ⟨b1, b2, out, b3⟩
      · exact Or.inl w
      · exact Or.inr ⟨b1, b2, out, b3.cg (fun k hk => hI k (by simp at hk; omega)) (fun k _ _ => hB k (by simp; omega)) (fun k hk => h9I k (by simp at hk ⊢; omega)) (fun k hk => h9B k (by simp; omega))⟩
theorem zl {α : Type} {n k : Nat} {f g : Nat → α} (h : k < n) : zmix n f g k = f k := if_pos h
theorem zg {α : Type} {n k : Nat} {f g : Nat → α} (h : ¬ k < n) : zmix n f g k = g k := if_neg h
theorem z0x {x : Int32} : ∀ k, k ∉ [0, 17] → upd I9 0 x k = I9 k := fun k hk => by simp at hk; simp [upd, hk]
theorem KK.gm {sh : Bool} (h : KK sh I J B D I9 J9 B9 D9) : I 1 = I9 5 ∧ I 2 = I9 18 ∧ I 0 = I9 26 ∧ (I 1 = 0 ∨ I 1 = 1) ∧ (I 2 = 0 ∨ I 2 = 1) := by
  rcases h.2.2 with ⟨a1, a2, a3, a4, a5, a6, _⟩ | ⟨a1, a2, d, Q, X, mc, LP, _, k2, k3, _⟩
  · exact ⟨a1.trans a2.symm, a3.trans a4.symm, a5.trans a6.symm, Or.inl a1, Or.inl a3⟩
  · have w : I 0 = I9 26 := by
      rcases k2 with ⟨b1, b2⟩ | ⟨w, p, _, b1, b2, _⟩
      · exact b1.trans b2.symm
      · exact b1.trans b2.symm
    rcases k3 with ⟨b1, b2⟩ | ⟨b1, b2, _⟩
    · exact ⟨a1.trans a2.symm, b1.trans b2.symm, w, Or.inr a1, Or.inl b1⟩
    · exact ⟨a1.trans a2.symm, b1.trans b2.symm, w, Or.inr a1, Or.inr b1⟩
theorem KK.ln (h : KK false I J B D I9 J9 B9 D9) : I9 24 = -1 := by
  rcases h.2.2 with ⟨_, _, _, _, _, _, e, _⟩ | ⟨_, _, d, Q, X, mc, LP, _, _, _, k4⟩
  · exact e
  · rcases k4 with ⟨e, _⟩ | ⟨e, _⟩
    · exact e
    · exact absurd e (by decide)
theorem KK.ls (h : KK true I J B D I9 J9 B9 D9) : (I 38 = 0 ∧ I9 24 = -1) ∨ (I 38 = 1 ∧ ∃ d Q X mc LP js cs, KM d Q X mc LP I J B D I9 B9 D9 ∧ LRx X js cs I B ∧ LR9 js cs I9 B9) := by
  rcases h.2.2 with ⟨_, _, _, _, _, _, e, e2⟩ | ⟨_, _, d, Q, X, mc, LP, k1, _, _, k4⟩
  · exact Or.inl ⟨e2 rfl, e⟩
  · rcases k4 with ⟨e, e2⟩ | ⟨_, js, cs, l1, l2⟩
    · exact Or.inl ⟨e2 rfl, e⟩
    · exact Or.inr ⟨l1.1, d, Q, X, mc, LP, js, cs, k1, l1, l2⟩
theorem KK.th {sh : Bool} (h : KK sh I J B D I9 J9 B9 D9) (x : Int32) : KK sh I J B D (upd I9 0 x) J9 B9 D9 := h.sm (fun _ _ => rfl) rfl (fun _ _ => rfl) (fun _ _ => rfl) z0x (fun _ _ => rfl) (fun _ _ => rfl)
theorem KK.dd {sh : Bool} {D' : Nat → Nat → Int64} (h : KK sh I J B D I9 J9 B9 D9) (hD : ∀ k, k < 3 → D' k = D k) : KK sh I J B D' I9 J9 B9 D9 := h.sm (fun _ _ => rfl) rfl (fun _ _ => rfl) hD (fun _ _ => rfl) (fun _ _ => rfl) (fun _ _ => rfl)
theorem zd3 {x : Nat → Int64} : ∀ k, k < 3 → va_up (zmix 3 D D) 3 x k = D k := fun k hk => by
  have : ¬ k = 3 := by omega
  simp [va_up, this, zmix]
theorem zdd : ∀ k, k < 3 → zmix 3 D D k = D k := fun k hk => zl hk
theorem KK.mx {D' : Nat → Nat → Int64} (h : KK true I J B D I9 J9 B9 D9) (hD : ∀ k, k < 3 → D' k = D k) : KK true (zmix 32 I I) J (zmix 50 B B) D' I9 J9 B9 D9 := by
  have e1 : zmix 32 I I = I := funext (fun k => by unfold zmix; split <;> rfl)
  have e2 : zmix 50 B B = B := funext (fun k => by unfold zmix; split <;> rfl)
  rw [e1, e2]; exact h.dd hD
theorem q_m_cnt {a : Int32} {P : Int32 → (Nat → Int32) → (Nat → Int64) → (Nat → Nat → Int32) → (Nat → Nat → Int64) → Prop} (hP : P (qCnt a (I 5) (I 14) (I 15) (I 9) (I 10)) (upd I 0 0) J B D) : wp_LassoFinderModel_count I J B D a P := by
  have e : ∀ r, r = qCnt a (I 5) (I 14) (I 15) (I 9) (I 10) → P r (upd I 0 0) J B D := fun r e => by rw [e]; exact hP
  refine ⟨fun h => ⟨Or.inl rfl, fun g => absurd rfl g, fun _ => e _ ?_⟩, fun h => ⟨fun h2 => ⟨Or.inl rfl, fun g => absurd rfl g, fun _ => e _ ?_⟩, fun h2 => ⟨Or.inr rfl, fun _ => ⟨fun g => ⟨fun g0 => ⟨fun g1 => ⟨fun g2 => e _ ?_, fun g2 => e _ ?_⟩, fun g1 => e _ ?_⟩, fun g0 => e _ ?_⟩, fun g => e _ ?_⟩, fun g => absurd g (by decide)⟩⟩⟩
  · obtain ⟨k0, k1, k2, k3⟩ := q_out (Or.inl h)
    simp [qCnt, k0, k1, k2, k3]
  · obtain ⟨k0, k1, k2, k3⟩ := q_out (Or.inr h2)
    simp [qCnt, k0, k1, k2, k3]
  · have g : ¬ I 5 = 0 := g
    have k3 := q_in3 h h2 g0 g1 g2
    show I 10 = _
    simp [qCnt, g, k3]
  · have g : ¬ I 5 = 0 := g
    show I 9 = _
    simp [qCnt, g, g2]
  · have g : ¬ I 5 = 0 := g
    show I 15 = _
    simp [qCnt, g, g1]
  · have g : ¬ I 5 = 0 := g
    show I 14 = _
    simp [qCnt, g, g0]
  · have g : I 5 = 0 := g
    have k : a = 0 ∨ a = 1 ∨ a = 2 ∨ a = 3 := by
      by_cases k0 : a = 0
      · exact Or.inl k0
      by_cases k1 : a = 1
      · exact Or.inr (Or.inl k1)
      by_cases k2 : a = 2
      · exact Or.inr (Or.inr (Or.inl k2))
      exact Or.inr (Or.inr (Or.inr (q_in3 h h2 k0 k1 k2)))
    rcases k with rfl | rfl | rfl | rfl <;> simp [qCnt, g]
/-- the walk, if there is one -/
theorem KK.wk {sh : Bool} (h : KK sh I J B D I9 J9 B9 D9) : (I 0 = -1 ∧ I9 26 = -1) ∨ (∃ d Q X mc LP, KM d Q X mc LP I J B D I9 B9 D9 ∧ ∃ (w : Nat) (p : Nat → Nat), w ≤ 60 ∧ I 0 = nI w ∧ I9 26 = nI w ∧ (∀ i, i ≤ w → B 0 i = nI (p i) ∧ B9 54 i = nI (p i) ∧ p i < gN X)) := by
  rcases h.2.2 with ⟨_, _, _, _, a5, a6, _⟩ | ⟨_, _, d, Q, X, mc, LP, k1, k2, _, _⟩
  · exact Or.inl ⟨a5, a6⟩
  · rcases k2 with w | ⟨w, p, k2⟩
    · exact Or.inl w
    · exact Or.inr ⟨d, Q, X, mc, LP, k1, w, p, k2⟩
theorem KM.x {d : zD} {Q : zQ} {X : zG} {mc : Nat} {LP : Nat → Int32} (h : KM d Q X mc LP I J B D I9 B9 D9) : XI d Q X ∧ XF X (gN X) ∧ 0 < gN X := gall_F h.1.1 h.1.2.1 h.1.2.2.1
theorem lc3N {a b : Int32} (h : KK false I J B D I9 J9 B9 D9) : lc3_N (KK false) a b I J B D I9 J9 B9 D9 := ⟨fun _ => (h.th 0).dd zdd, fun z => z h.2.1⟩
theorem lc16N {a b : Int32} (h : KK false I J B D I9 J9 B9 D9) : lc16_N (KK false) a b I J B D I9 J9 B9 D9 := by
  have hc : ∀ x : Int32, qCnt x (I 1) (I 19) (I 20) (I 9) (I 10) = qCnt x (I9 5) (I9 14) (I9 15) (I9 9) (I9 10) := by
    intro x
    rcases h.2.2 with ⟨a1, a2, _⟩ | ⟨a1, a2, d, Q, X, mc, LP, ⟨_, ⟨b1, _, b3, _⟩, ⟨d1, d2, _⟩⟩, _⟩
    · rw [a1, a2]; unfold qCnt; simp
    · rw [a1, a2, b3.1, b3.2.1, b1.2.2.2.1, b1.2.2.1, d2.1, d2.2.1, d1.2.1, d1.2.2.1]
  have key : ∀ (P : Int32 → (Nat → Int32) → (Nat → Int64) → (Nat → Nat → Int32) → (Nat → Nat → Int64) → Prop), P (qCnt a (I 1) (I 19) (I 20) (I 9) (I 10)) I J B D → wp_LassoFinder_count_N I J B D a P := fun P hP => by
    unfold wp_LassoFinder_count_N
    unfold qCnt at hP
    refine ⟨fun e => ⟨fun g => ?_, fun g => ?_⟩, fun e => ⟨fun g => ?_, fun g => ?_⟩, fun e => ⟨fun g => ?_, fun g => ?_⟩, fun e => ⟨fun g => ?_, fun g => ?_⟩, fun e0 e1 e2 e3 => ?_⟩
    all_goals simp_all
    all_goals exact hP
  exact key _ (q_m_cnt ⟨fun _ => (h.th 0).dd zdd, fun z => z (hc a)⟩)
/-- the steps of the walk's state -/
theorem lc9N {a b : Int32} (h : KK false I J B D I9 J9 B9 D9) : lc9_N (KK false) a b I J B D I9 J9 B9 D9 := by
  rcases h.wk with ⟨w1, w2⟩ | ⟨d, Q, X, mc, LP, k1, w, p, w0, w1, w2, w3⟩
  · refine ⟨fun z => absurd w1 z, fun _ => ⟨fun z => absurd z (by rw [w2]; decide), fun _ => ⟨fun _ => (h.th 0).dd zdd, fun z => z rfl⟩⟩⟩
  · obtain ⟨x1, x2, x3⟩ := k1.x
    obtain ⟨p1, p2, p3⟩ := w3 w (Nat.le_refl _)
    have x96 := x1.1
    refine ⟨fun _ => ⟨vin2 w1 (by omega) (by omega), fun z2 e2 => ?_⟩, fun z => absurd (w1.symm.trans z) (nI_m1 (by omega))⟩
    rw [clI w1 (by omega), p1] at e2
    intro z1 e1
    have n1 := inI e2 e1
    refine ⟨vin2 n1 (by omega) (by omega), fun y2 f2 => ⟨vin2 e2 (by omega) (by omega), fun y3 f3 y4 f4 => ?_⟩⟩
    rw [clI n1 (by omega), k1.2.1.2.2.2.1 _ (by omega)] at f2
    rw [clI e2 (by omega), k1.2.1.2.2.2.1 _ (by omega)] at f3
    refine ⟨fun _ => ⟨vin2 w2 (by omega) (by omega), fun u2 g2 u3 g3 => ?_⟩, fun z => absurd (by rw [w2]; exact nI_nn (by omega)) z⟩
    rw [clI w2 (by omega), p2] at g2
    have m3 := inI g2 g3
    refine ⟨vin2 m3 (by omega) (by omega), fun u4 g4 => ⟨vin2 w2 (by omega) (by omega), fun u5 g5 => ?_⟩⟩
    rw [clI m3 (by omega), k1.2.2.2.2.1 _ (by omega)] at g4
    rw [clI w2 (by omega), p2] at g5
    refine ⟨vin2 g5 (by omega) (by omega), fun u6 g6 u7 g7 => ?_⟩
    rw [clI g5 (by omega), k1.2.2.2.2.1 _ (by omega)] at g6
    refine ⟨fun _ => ?_, fun z => z ?_⟩
    · first | exact (h.th 0).mx zdd | exact (h.th 0).dd zdd
    · rw [f4, f2, f3, g7, g4, g6]
theorem lc3S {a b : Int32} (h : KK true I J B D I9 J9 B9 D9) : lc3_S (KK true) a b I J B D I9 J9 B9 D9 := ⟨fun _ => (h.th 0).dd zdd, fun z => z h.2.1⟩
theorem lc16S {a b : Int32} (h : KK true I J B D I9 J9 B9 D9) : lc16_S (KK true) a b I J B D I9 J9 B9 D9 := by
  have hc : ∀ x : Int32, qCnt x (I 1) (I 19) (I 20) (I 9) (I 10) = qCnt x (I9 5) (I9 14) (I9 15) (I9 9) (I9 10) := by
    intro x
    rcases h.2.2 with ⟨a1, a2, _⟩ | ⟨a1, a2, d, Q, X, mc, LP, ⟨_, ⟨b1, _, b3, _⟩, ⟨d1, d2, _⟩⟩, _⟩
    · rw [a1, a2]; unfold qCnt; simp
    · rw [a1, a2, b3.1, b3.2.1, b1.2.2.2.1, b1.2.2.1, d2.1, d2.2.1, d1.2.1, d1.2.2.1]
  have key : ∀ (P : Int32 → (Nat → Int32) → (Nat → Int64) → (Nat → Nat → Int32) → (Nat → Nat → Int64) → Prop), P (qCnt a (I 1) (I 19) (I 20) (I 9) (I 10)) I J B D → wp_LassoFinder_count_S I J B D a P := fun P hP => by
    unfold wp_LassoFinder_count_S
    unfold qCnt at hP
    refine ⟨fun e => ⟨fun g => ?_, fun g => ?_⟩, fun e => ⟨fun g => ?_, fun g => ?_⟩, fun e => ⟨fun g => ?_, fun g => ?_⟩, fun e => ⟨fun g => ?_, fun g => ?_⟩, fun e0 e1 e2 e3 => ?_⟩
    all_goals simp_all
    all_goals exact hP
  exact key _ (q_m_cnt ⟨fun _ => (h.th 0).dd zdd, fun z => z (hc a)⟩)
/-- the steps of the walk's state -/
theorem lc9S {a b : Int32} (h : KK true I J B D I9 J9 B9 D9) : lc9_S (KK true) a b I J B D I9 J9 B9 D9 := by
  rcases h.wk with ⟨w1, w2⟩ | ⟨d, Q, X, mc, LP, k1, w, p, w0, w1, w2, w3⟩
  · refine ⟨fun z => absurd w1 z, fun _ => ⟨fun z => absurd z (by rw [w2]; decide), fun _ => ⟨fun _ => (h.th 0).dd zdd, fun z => z rfl⟩⟩⟩
  · obtain ⟨x1, x2, x3⟩ := k1.x
    obtain ⟨p1, p2, p3⟩ := w3 w (Nat.le_refl _)
    have x96 := x1.1
    refine ⟨fun _ => ⟨vin2 w1 (by omega) (by omega), fun z2 e2 => ?_⟩, fun z => absurd (w1.symm.trans z) (nI_m1 (by omega))⟩
    rw [clI w1 (by omega), p1] at e2
    intro z1 e1
    have n1 := inI e2 e1
    refine ⟨vin2 n1 (by omega) (by omega), fun y2 f2 => ⟨vin2 e2 (by omega) (by omega), fun y3 f3 y4 f4 => ?_⟩⟩
    rw [clI n1 (by omega), k1.2.1.2.2.2.1 _ (by omega)] at f2
    rw [clI e2 (by omega), k1.2.1.2.2.2.1 _ (by omega)] at f3
    refine ⟨fun _ => ⟨vin2 w2 (by omega) (by omega), fun u2 g2 u3 g3 => ?_⟩, fun z => absurd (by rw [w2]; exact nI_nn (by omega)) z⟩
    rw [clI w2 (by omega), p2] at g2
    have m3 := inI g2 g3
    refine ⟨vin2 m3 (by omega) (by omega), fun u4 g4 => ⟨vin2 w2 (by omega) (by omega), fun u5 g5 => ?_⟩⟩
    rw [clI m3 (by omega), k1.2.2.2.2.1 _ (by omega)] at g4
    rw [clI w2 (by omega), p2] at g5
    refine ⟨vin2 g5 (by omega) (by omega), fun u6 g6 u7 g7 => ?_⟩
    rw [clI g5 (by omega), k1.2.2.2.2.1 _ (by omega)] at g6
    refine ⟨fun _ => ?_, fun z => z ?_⟩
    · first | exact (h.th 0).mx zdd | exact (h.th 0).dd zdd
    · rw [f4, f2, f3, g7, g4, g6]
theorem lc5N {a b : Int32} (h : KK false I J B D I9 J9 B9 D9) : lc5_N (KK false) a b I J B D I9 J9 B9 D9 := ⟨fun _ => ⟨fun _ => (h.th 0).dd zdd, fun z => z h.ln.symm⟩, fun z => absurd rfl z⟩
theorem lc5S {a b : Int32} (h : KK true I J B D I9 J9 B9 D9) : lc5_S (KK true) a b I J B D I9 J9 B9 D9 := by
  rcases h.ls with ⟨l1, l2⟩ | ⟨l1, d, Q, X, mc, LP, js, cs, k1, l2, l3⟩
  · exact ⟨fun _ => ⟨Or.inl rfl, fun _ => ⟨fun _ => (h.th 0).dd zdd, fun z => z l2.symm⟩, fun z => absurd rfl z⟩, fun z => absurd l1 z⟩
  · exact ⟨fun z => absurd (l1.symm.trans z) (by decide), fun _ => ⟨Or.inr rfl, fun z => absurd z (by decide), fun _ => ⟨fun _ => (h.th 0).dd zdd, fun z => z (l2.2.1.trans l3.1.symm)⟩⟩⟩
theorem lc6N {a b : Int32} (h : KK false I J B D I9 J9 B9 D9) : lc6_N (KK false) a b I J B D I9 J9 B9 D9 := ⟨fun _ => ⟨fun z => absurd z (by rw [h.ln]; decide), fun _ => ⟨fun _ => (h.th 0).dd zdd, fun z => z rfl⟩⟩, fun z => absurd rfl z⟩
theorem lc6S {a b : Int32} (h : KK true I J B D I9 J9 B9 D9) : lc6_S (KK true) a b I J B D I9 J9 B9 D9 := by
  rcases h.ls with ⟨l1, l2⟩ | ⟨l1, d, Q, X, mc, LP, js, cs, k1, l2, l3⟩
  · exact ⟨fun _ => ⟨Or.inl rfl, fun _ => ⟨fun z => absurd z (by rw [l2]; decide), fun _ => ⟨fun _ => (h.th 0).dd zdd, fun z => z rfl⟩⟩, fun z => absurd rfl z⟩, fun z => absurd l1 z⟩
  · have hl := l2.2.2.2.1
    exact ⟨fun z => absurd (l1.symm.trans z) (by decide), fun _ => ⟨Or.inr rfl, fun z => absurd z (by decide), fun _ => ⟨fun _ => ⟨fun _ => (h.th 0).dd zdd, fun z => z (l2.2.2.1.trans l3.2.1.symm)⟩, fun z => absurd (by rw [l3.1]; exact nI_nn (by omega)) z⟩⟩⟩
end ZT2
