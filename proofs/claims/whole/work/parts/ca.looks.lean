/-! The calls that look at the walk. -/
section ZT3
variable {I : Nat → Int32} {J : Nat → Int64} {B : Nat → Nat → Int32} {D : Nat → Nat → Int64} {I9 : Nat → Int32} {J9 : Nat → Int64} {B9 : Nat → Nat → Int32} {D9 : Nat → Nat → Int64}
theorem ltN {a : Int32} {m : Nat} (h0 : ¬ a < 0) (hm : m ≤ 100000) (h : a < nI m) : ∃ k, k < m ∧ a = nI k := by
  rw [Int32.lt_iff_toInt_lt] at h h0
  rw [nI_toInt (by omega)] at h
  have e0 : (0 : Int32).toInt = 0 := rfl
  refine ⟨a.toInt.toNat, by omega, ?_⟩
  rw [← Int32.toInt_inj, nI_toInt (by omega)]
  omega
theorem inlt {a : Int32} {m : Nat} (h0 : ¬ a < 0) (hm : m ≤ 100000) : nI m - 1 < a ↔ ¬ a < nI m := by
  have e0 : (0 : Int32).toInt = 0 := rfl
  rw [Int32.lt_iff_toInt_lt] at h0
  by_cases e : m = 0
  · subst e
    rw [show nI 0 - 1 = (-1 : Int32) by decide, Int32.lt_iff_toInt_lt, Int32.lt_iff_toInt_lt, nI_toInt (by omega)]
    have e1 : (-1 : Int32).toInt = -1 := rfl
    omega
  · have m1 : nI m - 1 = nI (m - 1) := deI (k := m - 1) (by rw [show m - 1 + 1 = m by omega]) rfl
    rw [m1, Int32.lt_iff_toInt_lt, Int32.lt_iff_toInt_lt, nI_toInt (by omega), nI_toInt (by omega)]
    omega
theorem r_in {P : Int32 → (Nat → Int32) → (Nat → Int64) → (Nat → Nat → Int32) → (Nat → Nat → Int64) → Prop} {a x : Int32} {m : Nat} (hm : m ≤ 100000) (hx : x = nI m - 1) (h1 : ¬ a < 0 → a < nI m → P 1 I9 J9 B9 D9) (h0 : (a < 0 ∨ ¬ a < nI m) → P 0 I9 J9 B9 D9) : wp_LassoFinderModel_in I9 J9 B9 D9 a 0 x P := by
  subst hx
  exact ⟨fun g => ⟨Or.inl rfl, h0 (Or.inl g)⟩, fun g => ⟨fun g2 => ⟨Or.inl rfl, h0 (Or.inr ((inlt g hm).mp g2))⟩, fun g2 => ⟨Or.inr rfl, h1 g (Classical.byContradiction (fun g3 => g2 ((inlt g hm).mpr g3)))⟩⟩⟩
/-- the class takes the walk's state apart -/
theorem q_stands {sh : Bool} {P : Int32 → (Nat → Int32) → (Nat → Int64) → (Nat → Nat → Int32) → (Nat → Nat → Int64) → Prop} (h : KK sh I J B D I9 J9 B9 D9) (h0 : I9 26 = -1 → P 0 I J B D) (h1 : ∀ d Q X mc LP w (p : Nat → Nat) I' B', KM d Q X mc LP I J B D I9 B9 D9 → w ≤ 60 → I9 26 = nI w → B9 54 w = nI (p w) → p w < gN X → CS d (gK X (p w)) I' B' → FU I B I' B' → P 1 I' J B' D) : wp_LassoFinder_standsOnWalk I J B D P := by
  rcases h.wk with ⟨w1, w2⟩ | ⟨d, Q, X, mc, LP, k1, w, p, w0, w1, w2, w3⟩
  · exact ⟨fun z => absurd w1 z, fun _ => h0 w2⟩
  · obtain ⟨x1, x2, x3⟩ := k1.x
    obtain ⟨p1, p2, p3⟩ := w3 w (Nat.le_refl _)
    have x96 := x1.1
    refine ⟨fun _ => ⟨vin2 w1 (by omega) (by omega), fun z2 e2 => ?_⟩, fun z => absurd (w1.symm.trans z) (nI_m1 (by omega))⟩
    rw [clI w1 (by omega), p1] at e2
    refine ⟨vin2 e2 (by omega) (by omega), fun z3 e3 => ?_⟩
    rw [clI e2 (by omega), k1.2.1.2.2.1.2.2.1 _ p3] at e3
    rw [e3]
    exact q_unpack k1.1.1 k1.2.1.1.1 (x1.2.2.1 _ p3).1 k1.1.2.1.1 (fun I' B' c1 c2 => h1 d Q X mc LP w p I' B' k1 w0 w2 p2 p3 c1 c2)
theorem r_stood0 {P : Int32 → (Nat → Int32) → (Nat → Int64) → (Nat → Nat → Int32) → (Nat → Nat → Int64) → Prop} (h26 : I9 26 = -1) (h : P 0 (upd I9 0 0) J9 B9 D9) : wp_LassoFinderModel_stood I9 J9 B9 D9 P := by
  have e : upd I9 0 0 26 = -1 := by simp [upd]; exact h26
  exact ⟨fun _ => ⟨fun _ => ⟨Or.inl rfl, h⟩, fun z => absurd (by rw [e]; decide) z⟩, fun z => absurd (by rw [h26]; decide) z⟩
theorem r_stood1 {P : Int32 → (Nat → Int32) → (Nat → Int64) → (Nat → Nat → Int32) → (Nat → Nat → Int64) → Prop} {d : zD} {Q : zQ} {X : zG} {mc : Nat} {LP : Nat → Int32} {w q : Nat} (k1 : KM d Q X mc LP I J B D I9 B9 D9) (w0 : w ≤ 60) (w2 : I9 26 = nI w) (p2 : B9 54 w = nI q) (p3 : q < gN X) (h : ∀ I' B', RS d (qP Q) (gK X q) I' B' → (∀ k, k < d.2.2.1 → ∀ i, i < 3 → B' 38 (3 * k + i) = nI ((gK X q).2.2.1 (3 * k + i))) → (∀ k, k ∉ [0, 17] → I' k = I9 k) → I' 0 = 0 → (∀ k, k ∉ [36, 37, 38, 39] → B' k = B9 k) → P 1 I' J9 B' D9) : wp_LassoFinderModel_stood I9 J9 B9 D9 P := by
  obtain ⟨x1, x2, x3⟩ := k1.x
  have x96 := x1.1
  have hnn : ¬ nI w < 0 := fun z => by
    have := (ltI (x := nI w) rfl (y := 0) (b := 0) rfl (by omega) (by omega)).mp z; omega
  refine ⟨fun z => absurd (by rw [← w2]; exact z) hnn, fun _ => ⟨vin2 w2 (by omega) (by omega), fun z3 e3 => ?_⟩⟩
  rw [clI w2 (by omega), p2] at e3
  refine ⟨vin2 e3 (by omega) (by omega), fun z4 e4 => ?_⟩
  rw [clI e3 (by omega), k1.2.2.2.1.2.2.1 _ p3] at e4
  rw [e4]
  have hkr := k1.2.2.1.kr k1.1.2.1
  have hkr' : KR9 d (qP Q) (upd I9 0 0) := by
    obtain ⟨a1, a2, a3, a4⟩ := hkr
    exact ⟨by simp [upd]; exact a1, by simp [upd]; exact a2, by simp [upd]; exact a3, a4⟩
  refine r_unpack hkr' (x1.2.2.1 _ p3).1 (fun I' B' c1 c2 c3 => ?_)
  have hI : ∀ k, k ∉ [0, 17] → I' k = I9 k := fun k hk => by
    rw [c3.1 k (by simp at hk; omega)]
    have : ¬ k = 0 := by simp at hk; omega
    simp [upd, this]
  have e26 : I' 26 = nI w := (hI 26 (by decide)).trans w2
  have e0 : I' 0 = 0 := by rw [c3.1 0 (by decide)]; simp [upd]
  exact ⟨fun z => absurd (by rw [← e26]; exact z) hnn, fun _ => ⟨Or.inr rfl, h I' B' c1 c2 hI e0 c3.2⟩⟩
theorem KK.up {sh : Bool} {I' : Nat → Int32} {B' : Nat → Nat → Int32} {D' : Nat → Nat → Int64} {I9' : Nat → Int32} {B9' : Nat → Nat → Int32} (h : KK sh I J B D I9 J9 B9 D9) (hF : FU I B I' B') (hD : ∀ k, k < 3 → D' k = D k) (h9I : ∀ k, k ∉ [0, 17] → I9' k = I9 k) (h9B : ∀ k, k ∉ [36, 37, 38, 39] → B9' k = B9 k) : KK sh I' J B' D' I9' J9 B9' D9 := h.sm hF.1 rfl hF.2 hD h9I (fun k hk => h9B k (by simp at hk ⊢; omega)) (fun _ _ => rfl)
theorem KK.ux {I' : Nat → Int32} {B' : Nat → Nat → Int32} {D' : Nat → Nat → Int64} {I9' : Nat → Int32} {B9' : Nat → Nat → Int32} (h : KK true I J B D I9 J9 B9 D9) (hF : FU I B I' B') (hD : ∀ k, k < 3 → D' k = D k) (h9I : ∀ k, k ∉ [0, 17] → I9' k = I9 k) (h9B : ∀ k, k ∉ [36, 37, 38, 39] → B9' k = B9 k) : KK true (zmix 32 I' I) J (zmix 50 B' B) D' I9' J9 B9' D9 := by
  refine h.sm (fun k hk => ?_) rfl (fun k hk => ?_) hD h9I (fun k hk => h9B k (by simp at hk ⊢; omega)) (fun _ _ => rfl)
  · by_cases e : k < 32
    · rw [zl e]; exact hF.1 k hk
    · rw [zg e]
  · by_cases e : k < 50
    · rw [zl e]; exact hF.2 k hk
    · rw [zg e]
theorem KK.uz {I' : Nat → Int32} {B' : Nat → Nat → Int32} {D' : Nat → Nat → Int64} {I9' : Nat → Int32} {B9' : Nat → Nat → Int32} (h : KK true I J B D I9 J9 B9 D9) (hF : FU I B I' B') (hD : ∀ k, k < 3 → D' k = D k) (h9I : ∀ k, k ∉ [0, 17] → I9' k = I9 k) (h9B : ∀ k, k ∉ [36, 37, 38, 39] → B9' k = B9 k) : KK true (zmix 32 (zmix 32 I' I) (zmix 32 I' I)) J (zmix 50 (zmix 50 B' B) (zmix 50 B' B)) D' I9' J9 B9' D9 := by
  have e1 : ∀ f : Nat → Int32, zmix 32 f f = f := fun f => funext (fun k => by unfold zmix; split <;> rfl)
  have e2 : ∀ f : Nat → Nat → Int32, zmix 50 f f = f := fun f => funext (fun k => by unfold zmix; split <;> rfl)
  rw [e1, e2]; exact h.ux hF hD h9I h9B
theorem lc14N {a b : Int32} (h : KK false I J B D I9 J9 B9 D9) : lc14_N (KK false) a b I J B D I9 J9 B9 D9 := by
  unfold lc14_N wp_LassoFinder_holder_N
  refine q_stands h (fun h26 => ?_) (fun d Q X mc LP w p I' B' k1 w0 w2 p2 p3 c1 c2 => ?_)
  · exact ⟨fun _ => r_stood0 h26 ⟨fun _ => ⟨fun _ => (h.th 0).dd zdd, fun z => z rfl⟩, fun z => absurd rfl z⟩, fun z => absurd rfl z⟩
  · refine ⟨fun z => absurd z (by decide), fun _ => r_stood1 k1 w0 w2 p2 p3 (fun I9' B9' r1 r2 r3 r4 r5 => ⟨fun z => absurd z (by decide), fun _ => ⟨fun _ => h.up c2 zdd r3 r5, fun z => z ?_⟩⟩)⟩
    have e1 := c1.2.2.2.2
    have e2 := r1.2.2.2.2
    skip
    rw [← e2] at e1
    generalize I' 18 = x at *
    generalize I9' 17 = y at *
    grind
theorem lc13N {a b : Int32} (h : KK false I J B D I9 J9 B9 D9) : lc13_N (KK false) a b I J B D I9 J9 B9 D9 := by
  unfold lc13_N wp_LassoFinder_point_N
  refine q_stands h (fun h26 => ?_) (fun d Q X mc LP w p I' B' k1 w0 w2 p2 p3 c1 c2 => ?_)
  · exact ⟨fun _ => r_stood0 h26 ⟨fun _ => ⟨fun _ => (h.th 0).dd zdd, fun z => z rfl⟩, fun z => absurd rfl z⟩, fun z => absurd rfl z⟩
  · have hq4 := k1.1.2.1.1
    have i10 : I' 10 = nI (qP Q) := (c2.1 10 (by decide)).trans k1.2.1.1.2.2.1
    -- nobody there
    have no : (a < 0 ∨ ¬ a < nI (qP Q)) → wp_LassoFinderModel_point I9 J9 B9 D9 a (fun r4 I4 J4 B4 D4 => ((-1 = r4 → KK false I' J B' (zmix 3 D D) I4 J4 B4 D4) ∧ (¬ -1 = r4 → False))) := fun hn => by
      refine r_stood1 k1 w0 w2 p2 p3 (fun I9' B9' r1 r2 r3 r4 r5 => ⟨fun z => absurd z (by decide), fun _ z3 e3 => ?_⟩)
      rw [r3 10 (by decide), k1.2.2.1.2.1] at e3
      refine r_in (by omega) e3 (fun g1 g2 => ?_) (fun _ => ⟨fun _ => ⟨fun _ => h.up c2 zdd r3 r5, fun z => z rfl⟩, fun z => absurd rfl z⟩)
      exact absurd g2 (hn.resolve_left g1)
    refine ⟨fun z => absurd z (by decide), fun _ => ⟨fun g => no (Or.inl g), fun g => ⟨fun g2 => ?_, fun g2 => no (Or.inr (by first | (rw [i10] at g2; exact g2) | (rw [zl (by omega), i10] at g2; exact g2)))⟩⟩⟩
    have g3 : a < nI (qP Q) := by first | (rw [i10] at g2; exact g2) | (rw [zl (by omega), i10] at g2; exact g2)
    obtain ⟨k, k2, rfl⟩ := ltN g (by omega) g3
    refine ⟨vin2 rfl (by omega) (by omega), fun z5 e5 => ?_⟩
    have e5' : z5 = nI ((gK X (p w)).2.2.2.1 k) := by
      rw [e5, clI rfl (by omega)]
      first | exact c1.2.2.2.1 k (by omega) | (rw [zl (by omega)]; exact c1.2.2.2.1 k (by omega))
    rw [e5']
    refine r_stood1 k1 w0 w2 p2 p3 (fun I9' B9' r1 r2 r3 r4 r5 => ⟨fun z => absurd z (by decide), fun _ z3 e3 => ?_⟩)
    rw [r3 10 (by decide), k1.2.2.1.2.1] at e3
    refine r_in (by omega) e3 (fun g1 g2 => ⟨fun z => absurd z (by decide), fun _ => ⟨vin2 rfl (by omega) (by omega), fun z6 e6 => ?_⟩⟩) (fun hn => absurd g3 (hn.resolve_left g))
    rw [clI rfl (by omega), r1.2.2.2.1 k k2] at e6
    exact ⟨fun _ => h.up c2 zdd r3 r5, fun z => z e6.symm⟩
theorem lc11N {a b : Int32} (h : KK false I J B D I9 J9 B9 D9) : lc11_N (KK false) a b I J B D I9 J9 B9 D9 := by
  unfold lc11_N wp_LassoFinder_value_N
  refine q_stands h (fun h26 => ?_) (fun d Q X mc LP w p I' B' k1 w0 w2 p2 p3 c1 c2 => ?_)
  · exact ⟨fun _ => r_stood0 h26 ⟨fun _ => ⟨fun _ => (h.th 0).dd zdd, fun z => z rfl⟩, fun z => absurd rfl z⟩, fun z => absurd rfl z⟩
  · obtain ⟨n1, n2, n3, n4, r0, nr1, nr2, nr3, nr4, nr5, nr6⟩ := k1.2.2.1.1
    have hN := k1.1.1
    have no : (a < 0 ∨ ¬ a < nI 8) → wp_LassoFinderModel_value I9 J9 B9 D9 a (fun r4 I4 J4 B4 D4 => ((-1 = r4 → KK false I' J B' (zmix 3 D D) I4 J4 B4 D4) ∧ (¬ -1 = r4 → False))) := fun hn => by
      refine r_stood1 k1 w0 w2 p2 p3 (fun I9' B9' r1 r2 r3 r4 r5 => ⟨fun z => absurd z (by decide), fun _ => ?_⟩)
      refine r_in (m := 8) (by omega) (by decide) (fun g1 g2 => absurd g2 (hn.resolve_left g1)) (fun _ => ⟨fun z => absurd rfl z, fun _ => ⟨fun _ => h.up c2 zdd r3 r5, fun z => z rfl⟩⟩)
    refine ⟨fun z => absurd z (by decide), fun _ => ⟨fun g => no (Or.inl g), fun g => ⟨fun g2 => no (Or.inr (fun g3 => ?_)), fun g2 => ?_⟩⟩⟩
    · rw [Int32.lt_iff_toInt_lt] at g3
      rw [Int32.le_iff_toInt_le] at g2
      rw [show nI 8 = (8 : Int32) from rfl] at g3
      omega
    have g3 : a < nI 8 := by
      rw [Int32.lt_iff_toInt_lt, show nI 8 = (8 : Int32) from rfl]
      rw [Int32.le_iff_toInt_le] at g2
      omega
    obtain ⟨k, k2, rfl⟩ := ltN g (by omega) g3
    have vk : vp_in (nI k) 8 := vin2 rfl (by omega) (by omega)
    have ck : (nI k).toNatClampNeg = k := clI rfl (by omega)
    have e2 : B' 2 k = d.2.2.2.1 k := by rw [c2.2 2 (by decide)]; exact k1.2.1.2.1 k k2
    -- the reference's answer
    have ref : ∀ y : Int32, (d.2.2.2.1 k = 0 → y = -1) → (d.2.2.2.1 k = 1 → ∀ v, v < d.2.1 → xv d v = k → y = nI ((gK X (p w)).1 v)) → (d.2.2.2.1 k = 2 → ∀ v, v < d.2.2.1 → xc d v = k → y = nI ((gK X (p w)).2.1 v)) → wp_LassoFinderModel_value I9 J9 B9 D9 (nI k) (fun r4 I4 J4 B4 D4 => ((y = r4 → KK false I' J B' (zmix 3 D D) I4 J4 B4 D4) ∧ (¬ y = r4 → False))) := by
      intro y y0 y1 y2
      refine r_stood1 k1 w0 w2 p2 p3 (fun I9' B9' r1 r2 r3 r4 r5 => ⟨fun z => absurd z (by decide), fun _ => ?_⟩)
      refine r_in (m := 8) (by omega) (by decide) (fun g1 g2 => ⟨fun _ => ⟨vk, fun z5 e5 => ?_⟩, fun z => absurd z (by decide)⟩) (fun hn => absurd g3 (hn.resolve_left g))
      rw [ck, r5 1 (by decide)] at e5
      refine ⟨fun q5 => ⟨vk, fun z7 e7 => ?_⟩, fun q5 => ⟨vk, fun z11 e11 => ?_⟩⟩
      · rw [ck, r5 2 (by decide)] at e7
        refine ⟨fun q7 => ⟨fun _ => h.up c2 zdd r3 r5, fun z => z (y0 ?_)⟩, fun q7 => ⟨vk, fun z9 e9 => ?_⟩⟩
        · rcases (r0 k k2).1 with q | q | q
          · exact q
          · obtain ⟨v, v1, v2, v3⟩ := nr2 k k2 q
            rw [e5, v3] at q5
            have := (ltI (x := nI v) rfl (y := 0) (b := 0) rfl (by omega) (by omega)).mp q5; omega
          · obtain ⟨v, v1, v2, v3⟩ := nr5 k k2 q
            rw [e7, v3] at q7
            have := (ltI (x := nI v) rfl (y := 0) (b := 0) rfl (by omega) (by omega)).mp q7; omega
        · rw [ck, r5 2 (by decide)] at e9
          have hk2 : d.2.2.2.1 k = 2 := Classical.byContradiction (fun q => q7 (by rw [e7, nr6 k k2 q]; decide))
          obtain ⟨v, v1, v2, v3⟩ := nr5 k k2 hk2
          rw [v3] at e9
          refine ⟨vin2 e9 (by omega) (by omega), fun z10 e10 => ?_⟩
          rw [clI e9 (by omega), r1.2.1 v v1] at e10
          exact ⟨fun _ => h.up c2 zdd r3 r5, fun z => z ((y2 hk2 v v1 (by unfold xc; exact clI v2 (by omega))).trans e10.symm)⟩
      · rw [ck, r5 1 (by decide)] at e11
        have hk1 : d.2.2.2.1 k = 1 := Classical.byContradiction (fun q => q5 (by rw [e5, nr3 k k2 q]; decide))
        obtain ⟨v, v1, v2, v3⟩ := nr2 k k2 hk1
        rw [v3] at e11
        refine ⟨vin2 e11 (by omega) (by omega), fun z12 e12 => ?_⟩
        rw [clI e11 (by omega), r1.1 v v1] at e12
        exact ⟨fun _ => h.up c2 zdd r3 r5, fun z => z ((y1 hk1 v v1 (by unfold xv; exact clI v2 (by omega))).trans e12.symm)⟩
    refine ⟨vk, fun z5 e5 => ?_⟩
    have e5' : z5 = d.2.2.2.1 k := by
      rw [e5, ck]
      first | exact e2 | (rw [zl (by omega)]; exact e2)
    refine ⟨fun q5 => ⟨vk, fun z7 e7 => ?_⟩, fun q5 => ref (-1) (fun _ => rfl) (fun q => ?_) (fun q => ?_)⟩
    · have e7' : z7 = B' 29 k := by
        rw [e7, ck] <;> first | rfl | rw [zl (by omega)]
      rw [e7']
      refine ref (B' 29 k) (fun q => absurd (e5'.trans q) q5) (fun _ v v1 v2 => ?_) (fun _ v v1 v2 => ?_)
      · rw [← v2]; exact c1.1 v v1
      · rw [← v2]; exact c1.2.1 v v1
    · rw [e5', q] at q5; exact absurd q5 (by decide)
    · rw [e5', q] at q5; exact absurd q5 (by decide)
theorem lc12N {a b : Int32} (h : KK false I J B D I9 J9 B9 D9) : lc12_N (KK false) a b I J B D I9 J9 B9 D9 := by
  unfold lc12_N wp_LassoFinder_message_N
  refine q_stands h (fun h26 => ?_) (fun d Q X mc LP w p I' B' k1 w0 w2 p2 p3 c1 c2 => ?_)
  · exact ⟨fun _ => r_stood0 h26 ⟨fun _ => ⟨fun _ => (h.th 0).dd zdd, fun z => z rfl⟩, fun z => absurd rfl z⟩, fun z => absurd rfl z⟩
  · obtain ⟨n1, n2, n3, n4, r0, nr1, nr2, nr3, nr4, nr5, nr6⟩ := k1.2.2.1.1
    have hN := k1.1.1
    have hOK := (k1.x.1.2.2.1 _ p3).1
    have no : (a < 0 ∨ ¬ a < nI 8) → wp_LassoFinderModel_message I9 J9 B9 D9 a b (fun r4 I4 J4 B4 D4 => ((-1 = r4 → KK false I' J B' (zmix 3 D D) I4 J4 B4 D4) ∧ (¬ -1 = r4 → False))) := fun hn => by
      refine r_stood1 k1 w0 w2 p2 p3 (fun I9' B9' r1 r2 r3 r4 r5 => ⟨fun z => absurd z (by decide), fun _ => ?_⟩)
      refine r_in (m := 8) (by omega) (by decide) (fun g1 g2 => absurd g2 (hn.resolve_left g1)) (fun _ => ⟨fun _ => ⟨fun _ => h.up c2 zdd r3 r5, fun z => z rfl⟩, fun z => absurd rfl z⟩)
    refine ⟨fun z => absurd z (by decide), fun _ => ⟨fun g => no (Or.inl g), fun g => ⟨fun g2 => no (Or.inr (fun g3 => ?_)), fun g2 => ?_⟩⟩⟩
    · rw [Int32.lt_iff_toInt_lt] at g3
      rw [Int32.le_iff_toInt_le] at g2
      rw [show nI 8 = (8 : Int32) from rfl] at g3
      omega
    have g3 : a < nI 8 := by
      rw [Int32.lt_iff_toInt_lt, show nI 8 = (8 : Int32) from rfl]
      rw [Int32.le_iff_toInt_le] at g2
      omega
    obtain ⟨k, k2, rfl⟩ := ltN g (by omega) g3
    have vk : vp_in (nI k) 8 := vin2 rfl (by omega) (by omega)
    have ck : (nI k).toNatClampNeg = k := clI rfl (by omega)
    have e2 : B' 2 k = d.2.2.2.1 k := by rw [c2.2 2 (by decide)]; exact k1.2.1.2.1 k k2
    -- the reference's answer
    have ref : ∀ y : Int32, (¬ d.2.2.2.1 k = 2 → y = -1) → (d.2.2.2.1 k = 2 → ∀ v, v < d.2.2.1 → xc d v = k → ((b < 0 ∨ ¬ b < nI ((gK X (p w)).2.1 v)) → y = -1) ∧ (∀ i, b = nI i → i < (gK X (p w)).2.1 v → y = nI ((gK X (p w)).2.2.1 (3 * v + i)))) → ∀ (I2 : Nat → Int32) (B2 : Nat → Nat → Int32), (∀ I9' B9', (∀ k, k ∉ [0, 17] → I9' k = I9 k) → (∀ k, k ∉ [36, 37, 38, 39] → B9' k = B9 k) → KK false I2 J B2 (zmix 3 D D) I9' J9 B9' D9) → wp_LassoFinderModel_message I9 J9 B9 D9 (nI k) b (fun r4 I4 J4 B4 D4 => ((y = r4 → KK false I2 J B2 (zmix 3 D D) I4 J4 B4 D4) ∧ (¬ y = r4 → False))) := by
      intro y y0 y2 I2 B2 hKK
      refine r_stood1 k1 w0 w2 p2 p3 (fun I9' B9' r1 r2 r3 r4 r5 => ⟨fun z => absurd z (by decide), fun _ => ?_⟩)
      have fin := hKK I9' B9' r3 r5
      refine r_in (m := 8) (by omega) (by decide) (fun g1 g2 => ⟨fun z => absurd z (by decide), fun _ => ⟨vk, fun z5 e5 => ?_⟩⟩) (fun hn => absurd g3 (hn.resolve_left g))
      rw [ck, r5 2 (by decide)] at e5
      refine ⟨fun q5 => ⟨fun _ => fin, fun z => z (y0 (fun q => ?_))⟩, fun q5 => ⟨vk, fun z7 e7 => ?_⟩⟩
      · obtain ⟨v, v1, v2, v3⟩ := nr5 k k2 q
        rw [e5, v3] at q5
        have := (ltI (x := nI v) rfl (y := 0) (b := 0) rfl (by omega) (by omega)).mp q5; omega
      · have hk2 : d.2.2.2.1 k = 2 := Classical.byContradiction (fun q => q5 (by rw [e5, nr6 k k2 q]; decide))
        obtain ⟨v, v1, v2, v3⟩ := nr5 k k2 hk2
        rw [ck, r5 2 (by decide), v3] at e7
        have hxc : xc d v = k := by unfold xc; exact clI v2 (by omega)
        obtain ⟨ya, yb⟩ := y2 hk2 v v1 hxc
        have h3m := hOK.2.2.1 v
        refine ⟨vin2 e7 (by omega) (by omega), fun z8 e8 z9 e9 => ?_⟩
        rw [clI e7 (by omega), r1.2.1 v v1] at e8
        rw [e8] at e9
        refine r_in (by omega) e9 (fun b1 b2 => ⟨fun _ => ⟨vk, fun z12 e12 z13 e13 z14 e14 => ?_⟩, fun z => absurd z (by decide)⟩) (fun hn => ⟨fun z => absurd rfl z, fun _ => ⟨fun _ => fin, fun z => z (ya hn)⟩⟩)
        obtain ⟨i, i1, rfl⟩ := ltN b1 (by omega) b2
        rw [ck, r5 2 (by decide), v3] at e12
        have n14 : z14 = nI (3 * v + i) := by rw [e14, e13, e12, show (3 : Int32) = nI 3 from rfl, nI_mul, nI_add]
        refine ⟨vin2 n14 (by omega) (by omega), fun z15 e15 => ?_⟩
        rw [clI n14 (by omega), r2 v v1 i (by omega)] at e15
        exact ⟨fun _ => fin, fun z => z ((yb i rfl i1).trans e15.symm)⟩
    refine ⟨vk, fun z5 e5 => ?_⟩
    have e5' : z5 = d.2.2.2.1 k := by
      rw [e5, ck]
      first | exact e2 | (rw [zl (by omega)]; exact e2)
    have fU : ∀ I9' B9', (∀ k, k ∉ [0, 17] → I9' k = I9 k) → (∀ k, k ∉ [36, 37, 38, 39] → B9' k = B9 k) → KK false I' J B' (zmix 3 D D) I9' J9 B9' D9 := fun I9' B9' r3 r5 => h.up c2 zdd r3 r5
    refine ⟨fun q5 => ?_, fun q5 => ref (-1) (fun _ => rfl) (fun q => absurd (e5'.trans q) q5) _ _ fU⟩
    have hk2 := e5'.symm.trans q5
    obtain ⟨v, v1, v2, v3⟩ := nr5 k k2 hk2
    have hxc : xc d v = k := by unfold xc; exact clI v2 (by omega)
    have only : ∀ v', v' < d.2.2.1 → xc d v' = k → v' = v := fun v' h1 h2 => hN.ci h1 v1 (h2.trans hxc.symm)
    have h3m := hOK.2.2.1 v
    have e29 : B' 29 k = nI ((gK X (p w)).2.1 v) := by rw [← hxc]; exact c1.2.1 v v1
    have none : (b < 0 ∨ ¬ b < nI ((gK X (p w)).2.1 v)) → wp_LassoFinderModel_message I9 J9 B9 D9 (nI k) b (fun r4 I4 J4 B4 D4 => ((-1 = r4 → KK false I' J B' (zmix 3 D D) I4 J4 B4 D4) ∧ (¬ -1 = r4 → False))) := fun hn => by
      refine ref (-1) (fun _ => rfl) (fun _ v' h1 h2 => ⟨fun _ => rfl, fun i hi hlt => ?_⟩) _ _ fU
      rw [only v' h1 h2] at hlt
      subst hi
      rcases hn with g | g
      · have := (ltI (x := nI i) rfl (y := 0) (b := 0) rfl (by omega) (by omega)).mp g; omega
      · exact absurd ((ltI (x := nI i) rfl rfl (by omega) (by omega)).mpr hlt) g
    refine ⟨fun g => none (Or.inl g), fun g => ⟨vk, fun z8 e8 => ?_⟩⟩
    have e8' : z8 = nI ((gK X (p w)).2.1 v) := by
      rw [e8, ck]
      first | exact e29 | (rw [zl (by omega)]; exact e29)
    refine ⟨fun g2 z1 f1 z2 f2 => ?_, fun g2 => none (Or.inr (by rw [← e8']; exact g2))⟩
    rw [e8'] at g2
    obtain ⟨i, i1, rfl⟩ := ltN g (by omega) g2
    have m2 : z2 = nI (3 * k + i) := by rw [f2, f1, show (3 : Int32) = nI 3 from rfl, nI_mul, nI_add, Nat.mul_comm]
    refine ⟨vin2 m2 (by omega) (by omega), fun z3 f3 => ?_⟩
    have f3' : z3 = nI ((gK X (p w)).2.2.1 (3 * v + i)) := by
      rw [f3, clI m2 (by omega)]
      have := c1.2.2.1 v v1 i (by omega)
      rw [hxc] at this
      first | exact this | (rw [zl (by omega)]; exact this)
    rw [f3']
    refine ref _ (fun q => absurd hk2 q) (fun _ v' h1 h2 => ⟨fun hn => ?_, fun j hj hlt => ?_⟩) _ _ (fun I9' B9' r3 r5 => h.up c2 zdd r3 r5)
    · rw [only v' h1 h2] at hn
      rcases hn with g4 | g4
      · exact absurd g4 g
      · exact absurd g2 g4
    · rw [only v' h1 h2]
      have : i = j := nI_inj (by omega) (by rw [only v' h1 h2] at hlt; omega) hj
      rw [this]
theorem lc14S {a b : Int32} (h : KK true I J B D I9 J9 B9 D9) : lc14_S (KK true) a b I J B D I9 J9 B9 D9 := by
  unfold lc14_S wp_LassoFinder_holder_S
  refine q_stands h (fun h26 => ?_) (fun d Q X mc LP w p I' B' k1 w0 w2 p2 p3 c1 c2 => ?_)
  · exact ⟨fun _ => r_stood0 h26 ⟨fun _ => ⟨fun _ => (h.th 0).mx zdd, fun z => z rfl⟩, fun z => absurd rfl z⟩, fun z => absurd rfl z⟩
  · refine ⟨fun z => absurd z (by decide), fun _ => r_stood1 k1 w0 w2 p2 p3 (fun I9' B9' r1 r2 r3 r4 r5 => ⟨fun z => absurd z (by decide), fun _ => ⟨fun _ => h.ux c2 zdd r3 r5, fun z => z ?_⟩⟩)⟩
    have e1 := c1.2.2.2.2
    have e2 := r1.2.2.2.2
    rw [zl (by omega)]
    rw [← e2] at e1
    generalize I' 18 = x at *
    generalize I9' 17 = y at *
    grind
theorem lc13S {a b : Int32} (h : KK true I J B D I9 J9 B9 D9) : lc13_S (KK true) a b I J B D I9 J9 B9 D9 := by
  unfold lc13_S wp_LassoFinder_point_S
  refine q_stands h (fun h26 => ?_) (fun d Q X mc LP w p I' B' k1 w0 w2 p2 p3 c1 c2 => ?_)
  · exact ⟨fun _ => r_stood0 h26 ⟨fun _ => ⟨fun _ => (h.th 0).mx zdd, fun z => z rfl⟩, fun z => absurd rfl z⟩, fun z => absurd rfl z⟩
  · have hq4 := k1.1.2.1.1
    have i10 : I' 10 = nI (qP Q) := (c2.1 10 (by decide)).trans k1.2.1.1.2.2.1
    -- nobody there
    have no : (a < 0 ∨ ¬ a < nI (qP Q)) → wp_LassoFinderModel_point I9 J9 B9 D9 a (fun r4 I4 J4 B4 D4 => ((-1 = r4 → KK true (zmix 32 I' I) J (zmix 50 B' B) (zmix 3 D D) I4 J4 B4 D4) ∧ (¬ -1 = r4 → False))) := fun hn => by
      refine r_stood1 k1 w0 w2 p2 p3 (fun I9' B9' r1 r2 r3 r4 r5 => ⟨fun z => absurd z (by decide), fun _ z3 e3 => ?_⟩)
      rw [r3 10 (by decide), k1.2.2.1.2.1] at e3
      refine r_in (by omega) e3 (fun g1 g2 => ?_) (fun _ => ⟨fun _ => ⟨fun _ => h.ux c2 zdd r3 r5, fun z => z rfl⟩, fun z => absurd rfl z⟩)
      exact absurd g2 (hn.resolve_left g1)
    refine ⟨fun z => absurd z (by decide), fun _ => ⟨fun g => no (Or.inl g), fun g => ⟨fun g2 => ?_, fun g2 => no (Or.inr (by first | (rw [i10] at g2; exact g2) | (rw [zl (by omega), i10] at g2; exact g2)))⟩⟩⟩
    have g3 : a < nI (qP Q) := by first | (rw [i10] at g2; exact g2) | (rw [zl (by omega), i10] at g2; exact g2)
    obtain ⟨k, k2, rfl⟩ := ltN g (by omega) g3
    refine ⟨vin2 rfl (by omega) (by omega), fun z5 e5 => ?_⟩
    have e5' : z5 = nI ((gK X (p w)).2.2.2.1 k) := by
      rw [e5, clI rfl (by omega)]
      first | exact c1.2.2.2.1 k (by omega) | (rw [zl (by omega)]; exact c1.2.2.2.1 k (by omega))
    rw [e5']
    refine r_stood1 k1 w0 w2 p2 p3 (fun I9' B9' r1 r2 r3 r4 r5 => ⟨fun z => absurd z (by decide), fun _ z3 e3 => ?_⟩)
    rw [r3 10 (by decide), k1.2.2.1.2.1] at e3
    refine r_in (by omega) e3 (fun g1 g2 => ⟨fun z => absurd z (by decide), fun _ => ⟨vin2 rfl (by omega) (by omega), fun z6 e6 => ?_⟩⟩) (fun hn => absurd g3 (hn.resolve_left g))
    rw [clI rfl (by omega), r1.2.2.2.1 k k2] at e6
    exact ⟨fun _ => h.ux c2 zdd r3 r5, fun z => z e6.symm⟩
theorem lc11S {a b : Int32} (h : KK true I J B D I9 J9 B9 D9) : lc11_S (KK true) a b I J B D I9 J9 B9 D9 := by
  unfold lc11_S wp_LassoFinder_value_S
  refine q_stands h (fun h26 => ?_) (fun d Q X mc LP w p I' B' k1 w0 w2 p2 p3 c1 c2 => ?_)
  · exact ⟨fun _ => r_stood0 h26 ⟨fun _ => ⟨fun _ => (h.th 0).mx zdd, fun z => z rfl⟩, fun z => absurd rfl z⟩, fun z => absurd rfl z⟩
  · obtain ⟨n1, n2, n3, n4, r0, nr1, nr2, nr3, nr4, nr5, nr6⟩ := k1.2.2.1.1
    have hN := k1.1.1
    have no : (a < 0 ∨ ¬ a < nI 8) → wp_LassoFinderModel_value I9 J9 B9 D9 a (fun r4 I4 J4 B4 D4 => ((-1 = r4 → KK true (zmix 32 I' I) J (zmix 50 B' B) (zmix 3 D D) I4 J4 B4 D4) ∧ (¬ -1 = r4 → False))) := fun hn => by
      refine r_stood1 k1 w0 w2 p2 p3 (fun I9' B9' r1 r2 r3 r4 r5 => ⟨fun z => absurd z (by decide), fun _ => ?_⟩)
      refine r_in (m := 8) (by omega) (by decide) (fun g1 g2 => absurd g2 (hn.resolve_left g1)) (fun _ => ⟨fun z => absurd rfl z, fun _ => ⟨fun _ => h.ux c2 zdd r3 r5, fun z => z rfl⟩⟩)
    refine ⟨fun z => absurd z (by decide), fun _ => ⟨fun g => no (Or.inl g), fun g => ⟨fun g2 => no (Or.inr (fun g3 => ?_)), fun g2 => ?_⟩⟩⟩
    · rw [Int32.lt_iff_toInt_lt] at g3
      rw [Int32.le_iff_toInt_le] at g2
      rw [show nI 8 = (8 : Int32) from rfl] at g3
      omega
    have g3 : a < nI 8 := by
      rw [Int32.lt_iff_toInt_lt, show nI 8 = (8 : Int32) from rfl]
      rw [Int32.le_iff_toInt_le] at g2
      omega
    obtain ⟨k, k2, rfl⟩ := ltN g (by omega) g3
    have vk : vp_in (nI k) 8 := vin2 rfl (by omega) (by omega)
    have ck : (nI k).toNatClampNeg = k := clI rfl (by omega)
    have e2 : B' 2 k = d.2.2.2.1 k := by rw [c2.2 2 (by decide)]; exact k1.2.1.2.1 k k2
    -- the reference's answer
    have ref : ∀ y : Int32, (d.2.2.2.1 k = 0 → y = -1) → (d.2.2.2.1 k = 1 → ∀ v, v < d.2.1 → xv d v = k → y = nI ((gK X (p w)).1 v)) → (d.2.2.2.1 k = 2 → ∀ v, v < d.2.2.1 → xc d v = k → y = nI ((gK X (p w)).2.1 v)) → wp_LassoFinderModel_value I9 J9 B9 D9 (nI k) (fun r4 I4 J4 B4 D4 => ((y = r4 → KK true (zmix 32 I' I) J (zmix 50 B' B) (zmix 3 D D) I4 J4 B4 D4) ∧ (¬ y = r4 → False))) := by
      intro y y0 y1 y2
      refine r_stood1 k1 w0 w2 p2 p3 (fun I9' B9' r1 r2 r3 r4 r5 => ⟨fun z => absurd z (by decide), fun _ => ?_⟩)
      refine r_in (m := 8) (by omega) (by decide) (fun g1 g2 => ⟨fun _ => ⟨vk, fun z5 e5 => ?_⟩, fun z => absurd z (by decide)⟩) (fun hn => absurd g3 (hn.resolve_left g))
      rw [ck, r5 1 (by decide)] at e5
      refine ⟨fun q5 => ⟨vk, fun z7 e7 => ?_⟩, fun q5 => ⟨vk, fun z11 e11 => ?_⟩⟩
      · rw [ck, r5 2 (by decide)] at e7
        refine ⟨fun q7 => ⟨fun _ => h.ux c2 zdd r3 r5, fun z => z (y0 ?_)⟩, fun q7 => ⟨vk, fun z9 e9 => ?_⟩⟩
        · rcases (r0 k k2).1 with q | q | q
          · exact q
          · obtain ⟨v, v1, v2, v3⟩ := nr2 k k2 q
            rw [e5, v3] at q5
            have := (ltI (x := nI v) rfl (y := 0) (b := 0) rfl (by omega) (by omega)).mp q5; omega
          · obtain ⟨v, v1, v2, v3⟩ := nr5 k k2 q
            rw [e7, v3] at q7
            have := (ltI (x := nI v) rfl (y := 0) (b := 0) rfl (by omega) (by omega)).mp q7; omega
        · rw [ck, r5 2 (by decide)] at e9
          have hk2 : d.2.2.2.1 k = 2 := Classical.byContradiction (fun q => q7 (by rw [e7, nr6 k k2 q]; decide))
          obtain ⟨v, v1, v2, v3⟩ := nr5 k k2 hk2
          rw [v3] at e9
          refine ⟨vin2 e9 (by omega) (by omega), fun z10 e10 => ?_⟩
          rw [clI e9 (by omega), r1.2.1 v v1] at e10
          exact ⟨fun _ => h.ux c2 zdd r3 r5, fun z => z ((y2 hk2 v v1 (by unfold xc; exact clI v2 (by omega))).trans e10.symm)⟩
      · rw [ck, r5 1 (by decide)] at e11
        have hk1 : d.2.2.2.1 k = 1 := Classical.byContradiction (fun q => q5 (by rw [e5, nr3 k k2 q]; decide))
        obtain ⟨v, v1, v2, v3⟩ := nr2 k k2 hk1
        rw [v3] at e11
        refine ⟨vin2 e11 (by omega) (by omega), fun z12 e12 => ?_⟩
        rw [clI e11 (by omega), r1.1 v v1] at e12
        exact ⟨fun _ => h.ux c2 zdd r3 r5, fun z => z ((y1 hk1 v v1 (by unfold xv; exact clI v2 (by omega))).trans e12.symm)⟩
    refine ⟨vk, fun z5 e5 => ?_⟩
    have e5' : z5 = d.2.2.2.1 k := by
      rw [e5, ck]
      first | exact e2 | (rw [zl (by omega)]; exact e2)
    refine ⟨fun q5 => ⟨vk, fun z7 e7 => ?_⟩, fun q5 => ref (-1) (fun _ => rfl) (fun q => ?_) (fun q => ?_)⟩
    · have e7' : z7 = B' 29 k := by
        rw [e7, ck] <;> first | rfl | rw [zl (by omega)]
      rw [e7']
      refine ref (B' 29 k) (fun q => absurd (e5'.trans q) q5) (fun _ v v1 v2 => ?_) (fun _ v v1 v2 => ?_)
      · rw [← v2]; exact c1.1 v v1
      · rw [← v2]; exact c1.2.1 v v1
    · rw [e5', q] at q5; exact absurd q5 (by decide)
    · rw [e5', q] at q5; exact absurd q5 (by decide)
theorem lc12S {a b : Int32} (h : KK true I J B D I9 J9 B9 D9) : lc12_S (KK true) a b I J B D I9 J9 B9 D9 := by
  unfold lc12_S wp_LassoFinder_message_S
  refine q_stands h (fun h26 => ?_) (fun d Q X mc LP w p I' B' k1 w0 w2 p2 p3 c1 c2 => ?_)
  · exact ⟨fun _ => r_stood0 h26 ⟨fun _ => ⟨fun _ => (h.th 0).mx zdd, fun z => z rfl⟩, fun z => absurd rfl z⟩, fun z => absurd rfl z⟩
  · obtain ⟨n1, n2, n3, n4, r0, nr1, nr2, nr3, nr4, nr5, nr6⟩ := k1.2.2.1.1
    have hN := k1.1.1
    have hOK := (k1.x.1.2.2.1 _ p3).1
    have no : (a < 0 ∨ ¬ a < nI 8) → wp_LassoFinderModel_message I9 J9 B9 D9 a b (fun r4 I4 J4 B4 D4 => ((-1 = r4 → KK true (zmix 32 I' I) J (zmix 50 B' B) (zmix 3 D D) I4 J4 B4 D4) ∧ (¬ -1 = r4 → False))) := fun hn => by
      refine r_stood1 k1 w0 w2 p2 p3 (fun I9' B9' r1 r2 r3 r4 r5 => ⟨fun z => absurd z (by decide), fun _ => ?_⟩)
      refine r_in (m := 8) (by omega) (by decide) (fun g1 g2 => absurd g2 (hn.resolve_left g1)) (fun _ => ⟨fun _ => ⟨fun _ => h.ux c2 zdd r3 r5, fun z => z rfl⟩, fun z => absurd rfl z⟩)
    refine ⟨fun z => absurd z (by decide), fun _ => ⟨fun g => no (Or.inl g), fun g => ⟨fun g2 => no (Or.inr (fun g3 => ?_)), fun g2 => ?_⟩⟩⟩
    · rw [Int32.lt_iff_toInt_lt] at g3
      rw [Int32.le_iff_toInt_le] at g2
      rw [show nI 8 = (8 : Int32) from rfl] at g3
      omega
    have g3 : a < nI 8 := by
      rw [Int32.lt_iff_toInt_lt, show nI 8 = (8 : Int32) from rfl]
      rw [Int32.le_iff_toInt_le] at g2
      omega
    obtain ⟨k, k2, rfl⟩ := ltN g (by omega) g3
    have vk : vp_in (nI k) 8 := vin2 rfl (by omega) (by omega)
    have ck : (nI k).toNatClampNeg = k := clI rfl (by omega)
    have e2 : B' 2 k = d.2.2.2.1 k := by rw [c2.2 2 (by decide)]; exact k1.2.1.2.1 k k2
    -- the reference's answer
    have ref : ∀ y : Int32, (¬ d.2.2.2.1 k = 2 → y = -1) → (d.2.2.2.1 k = 2 → ∀ v, v < d.2.2.1 → xc d v = k → ((b < 0 ∨ ¬ b < nI ((gK X (p w)).2.1 v)) → y = -1) ∧ (∀ i, b = nI i → i < (gK X (p w)).2.1 v → y = nI ((gK X (p w)).2.2.1 (3 * v + i)))) → ∀ (I2 : Nat → Int32) (B2 : Nat → Nat → Int32), (∀ I9' B9', (∀ k, k ∉ [0, 17] → I9' k = I9 k) → (∀ k, k ∉ [36, 37, 38, 39] → B9' k = B9 k) → KK true I2 J B2 (zmix 3 D D) I9' J9 B9' D9) → wp_LassoFinderModel_message I9 J9 B9 D9 (nI k) b (fun r4 I4 J4 B4 D4 => ((y = r4 → KK true I2 J B2 (zmix 3 D D) I4 J4 B4 D4) ∧ (¬ y = r4 → False))) := by
      intro y y0 y2 I2 B2 hKK
      refine r_stood1 k1 w0 w2 p2 p3 (fun I9' B9' r1 r2 r3 r4 r5 => ⟨fun z => absurd z (by decide), fun _ => ?_⟩)
      have fin := hKK I9' B9' r3 r5
      refine r_in (m := 8) (by omega) (by decide) (fun g1 g2 => ⟨fun z => absurd z (by decide), fun _ => ⟨vk, fun z5 e5 => ?_⟩⟩) (fun hn => absurd g3 (hn.resolve_left g))
      rw [ck, r5 2 (by decide)] at e5
      refine ⟨fun q5 => ⟨fun _ => fin, fun z => z (y0 (fun q => ?_))⟩, fun q5 => ⟨vk, fun z7 e7 => ?_⟩⟩
      · obtain ⟨v, v1, v2, v3⟩ := nr5 k k2 q
        rw [e5, v3] at q5
        have := (ltI (x := nI v) rfl (y := 0) (b := 0) rfl (by omega) (by omega)).mp q5; omega
      · have hk2 : d.2.2.2.1 k = 2 := Classical.byContradiction (fun q => q5 (by rw [e5, nr6 k k2 q]; decide))
        obtain ⟨v, v1, v2, v3⟩ := nr5 k k2 hk2
        rw [ck, r5 2 (by decide), v3] at e7
        have hxc : xc d v = k := by unfold xc; exact clI v2 (by omega)
        obtain ⟨ya, yb⟩ := y2 hk2 v v1 hxc
        have h3m := hOK.2.2.1 v
        refine ⟨vin2 e7 (by omega) (by omega), fun z8 e8 z9 e9 => ?_⟩
        rw [clI e7 (by omega), r1.2.1 v v1] at e8
        rw [e8] at e9
        refine r_in (by omega) e9 (fun b1 b2 => ⟨fun _ => ⟨vk, fun z12 e12 z13 e13 z14 e14 => ?_⟩, fun z => absurd z (by decide)⟩) (fun hn => ⟨fun z => absurd rfl z, fun _ => ⟨fun _ => fin, fun z => z (ya hn)⟩⟩)
        obtain ⟨i, i1, rfl⟩ := ltN b1 (by omega) b2
        rw [ck, r5 2 (by decide), v3] at e12
        have n14 : z14 = nI (3 * v + i) := by rw [e14, e13, e12, show (3 : Int32) = nI 3 from rfl, nI_mul, nI_add]
        refine ⟨vin2 n14 (by omega) (by omega), fun z15 e15 => ?_⟩
        rw [clI n14 (by omega), r2 v v1 i (by omega)] at e15
        exact ⟨fun _ => fin, fun z => z ((yb i rfl i1).trans e15.symm)⟩
    refine ⟨vk, fun z5 e5 => ?_⟩
    have e5' : z5 = d.2.2.2.1 k := by
      rw [e5, ck]
      first | exact e2 | (rw [zl (by omega)]; exact e2)
    have fU : ∀ I9' B9', (∀ k, k ∉ [0, 17] → I9' k = I9 k) → (∀ k, k ∉ [36, 37, 38, 39] → B9' k = B9 k) → KK true (zmix 32 I' I) J (zmix 50 B' B) (zmix 3 D D) I9' J9 B9' D9 := fun I9' B9' r3 r5 => h.ux c2 zdd r3 r5
    refine ⟨fun q5 => ?_, fun q5 => ref (-1) (fun _ => rfl) (fun q => absurd (e5'.trans q) q5) _ _ fU⟩
    have hk2 := e5'.symm.trans q5
    obtain ⟨v, v1, v2, v3⟩ := nr5 k k2 hk2
    have hxc : xc d v = k := by unfold xc; exact clI v2 (by omega)
    have only : ∀ v', v' < d.2.2.1 → xc d v' = k → v' = v := fun v' h1 h2 => hN.ci h1 v1 (h2.trans hxc.symm)
    have h3m := hOK.2.2.1 v
    have e29 : B' 29 k = nI ((gK X (p w)).2.1 v) := by rw [← hxc]; exact c1.2.1 v v1
    have none : (b < 0 ∨ ¬ b < nI ((gK X (p w)).2.1 v)) → wp_LassoFinderModel_message I9 J9 B9 D9 (nI k) b (fun r4 I4 J4 B4 D4 => ((-1 = r4 → KK true (zmix 32 I' I) J (zmix 50 B' B) (zmix 3 D D) I4 J4 B4 D4) ∧ (¬ -1 = r4 → False))) := fun hn => by
      refine ref (-1) (fun _ => rfl) (fun _ v' h1 h2 => ⟨fun _ => rfl, fun i hi hlt => ?_⟩) _ _ fU
      rw [only v' h1 h2] at hlt
      subst hi
      rcases hn with g | g
      · have := (ltI (x := nI i) rfl (y := 0) (b := 0) rfl (by omega) (by omega)).mp g; omega
      · exact absurd ((ltI (x := nI i) rfl rfl (by omega) (by omega)).mpr hlt) g
    refine ⟨fun g => none (Or.inl g), fun g => ⟨vk, fun z8 e8 => ?_⟩⟩
    have e8' : z8 = nI ((gK X (p w)).2.1 v) := by
      rw [e8, ck]
      first | exact e29 | (rw [zl (by omega)]; exact e29)
    refine ⟨fun g2 z1 f1 z2 f2 => ?_, fun g2 => none (Or.inr (by rw [← e8']; exact g2))⟩
    rw [e8'] at g2
    obtain ⟨i, i1, rfl⟩ := ltN g (by omega) g2
    have m2 : z2 = nI (3 * k + i) := by rw [f2, f1, show (3 : Int32) = nI 3 from rfl, nI_mul, nI_add, Nat.mul_comm]
    refine ⟨vin2 m2 (by omega) (by omega), fun z3 f3 => ?_⟩
    have f3' : z3 = nI ((gK X (p w)).2.2.1 (3 * v + i)) := by
      rw [f3, clI m2 (by omega)]
      have := c1.2.2.1 v v1 i (by omega)
      rw [hxc] at this
      first | exact this | (rw [zl (by omega)]; exact this)
    rw [f3']
    refine ref _ (fun q => absurd hk2 q) (fun _ v' h1 h2 => ⟨fun hn => ?_, fun j hj hlt => ?_⟩) _ _ (fun I9' B9' r3 r5 => h.uz c2 zdd r3 r5)
    · rw [only v' h1 h2] at hn
      rcases hn with g4 | g4
      · exact absurd g4 g
      · exact absurd g2 g4
    · rw [only v' h1 h2]
      have : i = j := nI_inj (by omega) (by rw [only v' h1 h2] at hlt; omega) hj
      rw [this]
end ZT3
