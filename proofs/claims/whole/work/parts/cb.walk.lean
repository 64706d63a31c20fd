/-! Walking, and the truth of a round. -/
section ZT4
variable {I : Nat → Int32} {J : Nat → Int64} {B : Nat → Nat → Int32} {D : Nat → Nat → Int64} {I9 : Nat → Int32} {J9 : Nat → Int64} {B9 : Nat → Nat → Int32} {D9 : Nat → Nat → Int64}
theorem KK_walk {sh : Bool} {d : zD} {Q : zQ} {X : zG} {mc : Nat} {LP : Nat → Int32} {I' : Nat → Int32} {B' : Nat → Nat → Int32} {D' : Nat → Nat → Int64} {I9' : Nat → Int32} {B9' : Nat → Nat → Int32} (t : TXk I B I9 B9) (p6 : I 6 = I9 4) (a1 : I 1 = 1) (a2 : I9 5 = 1) (k1 : KM d Q X mc LP I J B D I9 B9 D9) (k3 : (I 2 = 0 ∧ I9 18 = 0) ∨ (I 2 = 1 ∧ I9 18 = 1 ∧ ∃ out, KFm d X mc out I B I9 B9)) (k4 : KLs sh X I B I9 B9) (hI : ∀ k, k ≠ 0 → I' k = I k) (hB : ∀ k, k ≠ 0 → B' k = B k) (hD : ∀ k, k < 3 → D' k = D k) (h9I : ∀ k, k ∉ [0, 26] → I9' k = I9 k) (h9B : ∀ k, k ≠ 54 → B9' k = B9 k) (hW : WKx X I' B' I9' B9') : KK sh I' J B' D' I9' J9 B9' D9 := by
  refine ⟨?_, by rw [hI 6 (by decide), h9I 4 (by decide)]; exact p6, Or.inr ⟨by rw [hI 1 (by decide)]; exact a1, by rw [h9I 5 (by decide)]; exact a2, d, Q, X, mc, LP, k1.cg (fun k hk => hI k (by simp at hk; omega)) rfl (fun k hk => hB k (by omega)) hD (fun k hk => h9I k (by simp at hk ⊢; omega)) (fun k hk => h9B k (by omega)) (fun k _ => by rw [h9B 24 (by decide)]) (fun _ _ => rfl), hW, ?_, k4.cg (fun k hk => hI k (by simp at hk; omega)) (fun k hk => hB k (by simp at hk; omega)) (fun k hk => h9I k (by simp at hk ⊢; omega)) (h9B 52 (by decide))⟩⟩
  · unfold TXk at *; rw [hI 3 (by decide), h9I 1 (by decide), hB 1 (by decide), h9B 0 (by decide)]; exact t
  · rw [hI 2 (by decide), h9I 18 (by decide)]
    rcases k3 with w | ⟨b1, b2, out, b3⟩
    · exact Or.inl w
    · exact Or.inr ⟨b1, b2, out, b3.cg (fun k hk => hI k (by simp at hk; omega)) (fun k _ _ => hB k (by omega)) (fun k hk => h9I k (by simp at hk ⊢; omega)) (fun k hk => h9B k (by omega))⟩
theorem KM.sv {d : zD} {Q : zQ} {X : zG} {mc : Nat} {LP : Nat → Int32} {out : List zIt} (h : KM d Q X mc LP I J B D I9 B9 D9) (g : KFm d X mc out I B I9 B9) : SV mc d Q X out I9 B9 := ⟨h.x.1, g.1, g.2.1, h.2.2.2.1.1, g.2.2.2.2.2.2.1, g.2.2.2.2.2.2.2, h.2.2.2.2.2.1, h.2.2.2.2.1, fun j hj => ⟨(h.2.2.2.1.2.2.2 j hj).1, (h.2.2.2.1.2.2.2 j hj).2.1⟩⟩
theorem KM.sr {d : zD} {Q : zQ} {X : zG} {mc : Nat} {LP : Nat → Int32} {out : List zIt} (h : KM d Q X mc LP I J B D I9 B9 D9) (g : KFm d X mc out I B I9 B9) : SR d Q X out I B := ⟨h.x.1, g.1, h.2.1.2.2.1.1, g.2.2.2.1, g.2.2.1, h.2.1.2.2.2.2.1, h.2.1.2.2.2.1, fun j hj => ⟨(h.2.1.2.2.1.2.2.2 j hj).1, (h.2.1.2.2.1.2.2.2 j hj).2.1⟩⟩
theorem rd3 {D1 D2 : Nat → Nat → Int64} {f : Nat → Int64} {x z : Int64} (h : z = va_up (zmix 3 D1 D2) 3 (vp_updL f (0 : Int32).toNatClampNeg x) 3 (0 : Int32).toNatClampNeg) : z = x := by
  rw [h]; simp [va_up, vp_updL]
theorem rd4 {D1 : Nat → Nat → Int64} {f : Nat → Int64} {x z : Int64} (h : z = va_up D1 3 (vp_updL f (0 : Int32).toNatClampNeg x) 3 (0 : Int32).toNatClampNeg) : z = x := by
  rw [h]; simp [va_up, vp_updL]
/-- the reference goes a step -/
theorem r_go1 {P : Int32 → (Nat → Int32) → (Nat → Int64) → (Nat → Nat → Int32) → (Nat → Nat → Int64) → Prop} {a : Int32} (h26 : I9 26 = -1) (h : P 0 (upd I9 0 1) J9 B9 D9) : wp_LassoFinderModel_go I9 J9 B9 D9 a P := by
  have e : ¬ (0 : Int32) ≤ I9 26 := by rw [h26]; decide
  exact ⟨fun z => absurd z e, fun _ => ⟨fun z => absurd z e, fun _ => ⟨fun z => absurd z (by decide), fun _ => h⟩⟩⟩
theorem r_goX {P : Int32 → (Nat → Int32) → (Nat → Int64) → (Nat → Nat → Int32) → (Nat → Nat → Int64) → Prop} {a : Int32} {d : zD} {Q : zQ} {X : zG} {mc : Nat} {LP : Nat → Int32} {w q : Nat} (k1 : KM d Q X mc LP I J B D I9 B9 D9) (w0 : w ≤ 60) (w2 : I9 26 = nI w) (p2 : B9 54 w = nI q) (p3 : q < gN X)
    (h2 : (a < 0 ∨ ¬ a < nI (gF X (q + 1) - gF X q)) → P 0 (upd I9 0 2) J9 B9 D9) (h3 : ¬ a < 0 → a < nI (gF X (q + 1) - gF X q) → w = 60 → P 0 (upd I9 0 3) J9 B9 D9) (h0 : ∀ k, a = nI k → k < gF X (q + 1) - gF X q → w < 60 → P (gD X (gF X q + k)) (upd (upd I9 0 0) 26 (nI (w + 1))) J9 (va_up B9 54 (upd (B9 54) (w + 1) (nI (gT X (gF X q + k))))) D9) : wp_LassoFinderModel_go I9 J9 B9 D9 a P := by
  obtain ⟨x1, x2, x3⟩ := k1.x
  have x96 := x1.1
  have x400 := x1.2.1
  have hgl := gF_le x2 p3
  have hgm := gF_mono x2 q (q + 1) (by omega) (by omega)
  have hnn : (0 : Int32) ≤ I9 26 := by rw [w2]; exact nI_nn (by omega)
  refine ⟨fun _ => ⟨vin2 w2 (by omega) (by omega), fun z19 e19 => ?_⟩, fun z => absurd hnn z⟩
  rw [clI w2 (by omega), p2] at e19
  subst e19
  refine ⟨fun _ z10 e10 => ?_, fun z => absurd hnn z⟩
  have n10 := inI rfl e10
  refine ⟨vin2 n10 (by omega) (by omega), fun z11 e11 => ⟨vin2 rfl (by omega) (by omega), fun z12 e12 z13 e13 z14 e14 => ?_⟩⟩
  rw [clI n10 (by omega), k1.2.2.2.2.1 _ (by omega)] at e11
  rw [clI rfl (by omega), k1.2.2.2.2.1 _ (by omega)] at e12
  have n13 : z13 = nI (gF X (q + 1) - gF X q) := by
    rw [e13, e11, e12, show gF X (q + 1) = (gF X (q + 1) - gF X q) + gF X q by omega]
    rw [show gF X (q + 1) - gF X q + gF X q - gF X q = gF X (q + 1) - gF X q by omega]
    exact nI_sk _ _
  rw [n13] at e14
  refine r_in (by omega) e14 (fun g1 g2 => ⟨fun _ => ⟨fun g3 => ?_, fun g3 => ?_⟩, fun z => absurd z (by decide)⟩) (fun hn => ⟨fun z => absurd rfl z, fun _ => ⟨fun z => absurd z (by decide), fun _ => h2 hn⟩⟩)
  · obtain ⟨k, k2, rfl⟩ := ltN g1 (by omega) g2
    have hw : w < 60 := by
      have : ¬ w = 60 := fun e => g3 (by rw [w2, e]; rfl)
      omega
    refine ⟨fun _ z2 e2 => ?_, fun z => absurd (by decide) z⟩
    have n2 := inI w2 e2
    refine ⟨vin2 rfl (by omega) (by omega), fun z3 e3 z4 e4 => ?_⟩
    rw [clI rfl (by omega), k1.2.2.2.2.1 _ (by omega)] at e3
    rw [e3, nI_add] at e4
    refine ⟨vin2 e4 (by omega) (by omega), fun z5 e5 => ⟨vin2 n2 (by omega) (by omega), vin2 rfl (by omega) (by omega), fun z6 e6 z7 e7 => ?_⟩⟩
    rw [clI e4 (by omega), (k1.2.2.2.1.2.2.2 _ (by omega)).2.1] at e5
    rw [clI rfl (by omega), k1.2.2.2.2.1 _ (by omega)] at e6
    rw [e6, nI_add] at e7
    refine ⟨vin2 e7 (by omega) (by omega), fun z8 e8 => ?_⟩
    rw [clI e7 (by omega), (k1.2.2.2.1.2.2.2 _ (by omega)).2.2.1] at e8
    rw [e8, n2, clI rfl (by omega), e5]
    exact h0 k rfl k2 hw
  · have hw : w = 60 := nI_inj (by omega) (by omega) (w2.symm.trans g3)
    exact ⟨fun z => absurd z (by decide), fun _ => h3 g1 g2 hw⟩
theorem lc8N {a b : Int32} (h : KK false I J B D I9 J9 B9 D9) : lc8_N (KK false) a b I J B D I9 J9 B9 D9 := by
  have hh := h
  obtain ⟨t, p6, h3⟩ := hh
  rcases h3 with ⟨a1, a2, _⟩ | ⟨a1, a2, d, Q, X, mc, LP, k1, k2, k3, k4⟩
  · refine ⟨fun z => absurd a1 z, fun _ => ⟨fun _ => ⟨fun _ => ⟨fun z => absurd a2 z, fun _ => ⟨fun _ => (h.th 1).dd zdd, fun z => z (by simp [upd])⟩⟩, fun z => absurd a2 z⟩, rfl⟩⟩
  · have n1 : ¬ I 1 = 0 := by rw [a1]; decide
    have n5 : ¬ I9 5 = 0 := by rw [a2]; decide
    refine ⟨fun _ => ⟨vin2 (k := 0) rfl (by omega) (by omega), ⟨fun z => absurd z n5, fun _ => ⟨fun _ => ⟨vin2 (k := 0) rfl (by omega) (by omega), ⟨fun _ => ?_, fun z => z (by simp [upd])⟩⟩, fun z => absurd z n5⟩⟩⟩, fun z => absurd z n1⟩
    refine KK_walk t p6 a1 a2 k1 k3 k4 (fun k hk => by simp [upd, hk]) (fun k hk => by simp [va_up, hk]) zdd (fun k hk => by simp at hk; simp [upd, hk]) (fun k hk => by simp [va_up, hk]) (Or.inr ⟨0, fun _ => 0, by omega, by simp [upd]; rfl, by simp [upd]; rfl, fun i hi => ?_⟩)
    have : i = 0 := by omega
    subst this
    have x3 := k1.x.2.2
    exact ⟨by simp [va_up, upd]; rfl, by simp [va_up, upd]; rfl, x3⟩
theorem lc10N {a b : Int32} (h : KK false I J B D I9 J9 B9 D9) : lc10_N (KK false) a b I J B D I9 J9 B9 D9 := by
  have hh := h
  obtain ⟨t, p6, h3⟩ := hh
  have noW : I 0 = -1 → I9 26 = -1 → lc10_N (KK false) a b I J B D I9 J9 B9 D9 := fun w1 w2 => by
    refine ⟨fun z => absurd w1 z, fun _ => ⟨fun _ => r_go1 w2 ⟨fun _ => ⟨fun _ => (h.th 1).dd zdd, fun z => absurd z (by decide)⟩, fun z => z (by simp [upd])⟩, fun e => absurd e (by decide), fun e => absurd e (by decide), Or.inl rfl⟩⟩
  rcases h3 with ⟨a1, a2, _, _, w1, w2, _⟩ | ⟨a1, a2, d, Q, X, mc, LP, k1, k2, k3, k4⟩
  · exact noW w1 w2
  rcases k2 with ⟨w1, w2⟩ | ⟨w, p, w0, w1, w2, w3⟩
  · exact noW w1 w2
  obtain ⟨p1, p2, p3⟩ := w3 w (Nat.le_refl _)
  obtain ⟨x1, x2, x3⟩ := k1.x
  have x96 := x1.1
  have x400 := x1.2.1
  have hgl := gF_le x2 p3
  have hgm := gF_mono x2 (p w) (p w + 1) (by omega) (by omega)
  refine ⟨fun _ => ⟨vin2 w1 (by omega) (by omega), fun z2 e2 => ?_⟩, fun z => absurd (w1.symm.trans z) (nI_m1 (by omega))⟩
  rw [clI w1 (by omega), p1] at e2
  -- out of the row of steps
  have bad : ∀ (I2 : Nat → Int32) (B2 : Nat → Nat → Int32), KK false I2 J B2 (zmix 3 D D) (upd I9 0 2) J9 B9 D9 → (a < 0 ∨ ¬ a < nI (gF X (p w + 1) - gF X (p w))) → wp_LassoFinderModel_go I9 J9 B9 D9 a (fun r4 I4 J4 B4 D4 => wp_LassoFinderModel_thrown I4 J4 B4 D4 (fun r5 I5 J5 B5 D5 => ((r5 = 2 → ((¬ (2 : Int32) = 0 → KK false I2 J B2 (zmix 3 D D) I5 J5 B5 D5) ∧ ((2 : Int32) = 0 → ∀ z8 : Int64, z8 = (zmix 3 D D 3 (0 : Int32).toNatClampNeg) → ∀ z9 : Int64, z9 = r4.toInt64 → ∀ z10 : Int32, z10 = (lg_cmp z8 z9) → ((z10 = 0 → KK false I2 J B2 (zmix 3 D D) I5 J5 B5 D5) ∧ (¬ z10 = 0 → False))))) ∧ (¬ r5 = 2 → False)))) := fun I2 B2 hK hn => by
    refine r_goX k1 w0 w2 p2 p3 (fun _ => ⟨fun _ => ⟨fun _ => hK, fun z => absurd z (by decide)⟩, fun z => z (by simp [upd])⟩) (fun g1 g2 _ => absurd g2 (hn.resolve_left g1)) (fun k hk hk2 _ => ?_)
    subst hk
    rcases hn with g | g
    · have := (ltI (x := nI k) rfl (y := 0) (b := 0) rfl (by omega) (by omega)).mp g; omega
    · exact absurd ((ltI (x := nI k) rfl rfl (by omega) (by omega)).mpr hk2) g
  refine ⟨fun g => ⟨fun e => absurd e (by decide), fun _ => bad _ _ ((h.th 2).dd zdd) (Or.inl g), fun e => absurd e (by decide), Or.inr (Or.inl rfl)⟩, fun g z1 e1 => ?_⟩
  have n1 := inI e2 e1
  refine ⟨vin2 n1 (by omega) (by omega), fun y2 f2 => ⟨vin2 e2 (by omega) (by omega), fun y3 f3 y4 f4 => ?_⟩⟩
  rw [clI n1 (by omega), k1.2.1.2.2.2.1 _ (by omega)] at f2
  rw [clI e2 (by omega), k1.2.1.2.2.2.1 _ (by omega)] at f3
  have n4 : y4 = nI (gF X (p w + 1) - gF X (p w)) := by
    rw [f4, f2, f3, show gF X (p w + 1) = (gF X (p w + 1) - gF X (p w)) + gF X (p w) by omega]
    rw [show gF X (p w + 1) - gF X (p w) + gF X (p w) - gF X (p w) = gF X (p w + 1) - gF X (p w) by omega]
    exact nI_sk _ _
  rw [n4]
  have m32 : ∀ f : Nat → Int32, zmix 32 f f = f := fun f => funext (fun k => by unfold zmix; split <;> rfl)
  have m50 : ∀ f : Nat → Nat → Int32, zmix 50 f f = f := fun f => funext (fun k => by unfold zmix; split <;> rfl)
  try rw [m32, m50]
  refine ⟨fun g2 => ⟨fun g3 => ⟨vin2 e2 (by omega) (by omega), fun z7 e7 z8 e8 z9 e9 => ?_⟩, fun g3 => ⟨fun e => absurd e (by decide), fun e => absurd e (by decide), fun _ => ?_, Or.inr (Or.inr rfl)⟩⟩, fun g2 => ⟨fun e => absurd e (by decide), fun _ => bad _ _ ((h.th 2).dd zdd) (Or.inr g2), fun e => absurd e (by decide), Or.inr (Or.inl rfl)⟩⟩
  · obtain ⟨k, k0, rfl⟩ := ltN g (by omega) g2
    have hw : w < 60 := by
      have : ¬ w = 60 := fun e => g3 (by rw [w1, e]; rfl)
      omega
    rw [clI e2 (by omega), k1.2.1.2.2.2.1 _ (by omega)] at e7
    rw [e7, nI_add] at e8
    have n9 := inI w1 e9
    refine ⟨vin2 e8 (by omega) (by omega), fun z10 e10 => ⟨vin2 n9 (by omega) (by omega), vin2 e8 (by omega) (by omega), fun z11 e11 y2' f2' => ⟨vin2 (k := 0) rfl (by omega) (by omega), ?_⟩⟩⟩
    rw [clI e8 (by omega), (k1.2.1.2.2.1.2.2.2 _ (by omega)).2.1] at e10
    rw [clI e8 (by omega), (k1.2.1.2.2.1.2.2.2 _ (by omega)).2.2.1] at e11
    rw [clI n9 (by omega), n9, e10]
    refine r_goX k1 w0 w2 p2 p3 (fun hn => absurd g2 (hn.resolve_left g)) (fun _ _ e => by omega) (fun k' hk' hk2 _ => ?_)
    have ek : k = k' := nI_inj (by omega) (by omega) hk'
    subst ek
    refine ⟨fun _ => ⟨fun z => absurd rfl z, fun _ z8' e8' z9' e9' z10' e10' => ?_⟩, fun z => z (by simp [upd])⟩
    have d8 := rd3 e8'
    have eq : z10' = 0 := by
      rw [e10', e9', d8, f2', e11]; exact (cmp0 _ _).mpr rfl
    refine ⟨fun _ => ?_, fun z => z eq⟩
    refine KK_walk t p6 a1 a2 k1 k3 k4 (fun x hx => by simp [upd, hx]) (fun x hx => by simp [va_up, hx]) (fun x hx => zd3 x hx) (fun x hx => by simp at hx; simp [upd, hx]) (fun x hx => by simp [va_up, hx]) (Or.inr ⟨w + 1, upn p (w + 1) (gT X (gF X (p w) + k)), by omega, by simp [upd], by simp [upd], fun i hi => ?_⟩)
    by_cases e : i = w + 1
    · subst e
      rw [upn_at]
      exact ⟨by simp [va_up, upd], by simp [va_up, upd], (x1.2.2.2.2 _ (by omega)).2⟩
    · rw [upn_ne e]
      obtain ⟨q1, q2, q3⟩ := w3 i (by omega)
      exact ⟨by simp [va_up, upd, e]; exact q1, by simp [va_up, upd, e]; exact q2, q3⟩
  · refine r_goX k1 w0 w2 p2 p3 (fun hn => absurd g2 (hn.resolve_left g)) (fun _ _ _ => ⟨fun _ => ⟨fun _ => (h.th 3).dd zdd, fun z => absurd z (by decide)⟩, fun z => z (by simp [upd])⟩) (fun k' _ _ hw => ?_)
    have : w = 60 := nI_inj (by omega) (by omega) (w1.symm.trans g3)
    omega
theorem lc8S {a b : Int32} (h : KK true I J B D I9 J9 B9 D9) : lc8_S (KK true) a b I J B D I9 J9 B9 D9 := by
  have hh := h
  obtain ⟨t, p6, h3⟩ := hh
  rcases h3 with ⟨a1, a2, _⟩ | ⟨a1, a2, d, Q, X, mc, LP, k1, k2, k3, k4⟩
  · refine ⟨fun z => absurd a1 z, fun _ => ⟨fun _ => ⟨fun _ => ⟨fun z => absurd a2 z, fun _ => ⟨fun _ => (h.th 1).dd zdd, fun z => z (by simp [upd])⟩⟩, fun z => absurd a2 z⟩, rfl⟩⟩
  · have n1 : ¬ I 1 = 0 := by rw [a1]; decide
    have n5 : ¬ I9 5 = 0 := by rw [a2]; decide
    refine ⟨fun _ => ⟨vin2 (k := 0) rfl (by omega) (by omega), ⟨fun z => absurd z n5, fun _ => ⟨fun _ => ⟨vin2 (k := 0) rfl (by omega) (by omega), ⟨fun _ => ?_, fun z => z (by simp [upd])⟩⟩, fun z => absurd z n5⟩⟩⟩, fun z => absurd z n1⟩
    refine KK_walk t p6 a1 a2 k1 k3 k4 (fun k hk => by simp [upd, hk]) (fun k hk => by simp [va_up, hk]) zdd (fun k hk => by simp at hk; simp [upd, hk]) (fun k hk => by simp [va_up, hk]) (Or.inr ⟨0, fun _ => 0, by omega, by simp [upd]; rfl, by simp [upd]; rfl, fun i hi => ?_⟩)
    have : i = 0 := by omega
    subst this
    have x3 := k1.x.2.2
    exact ⟨by simp [va_up, upd]; rfl, by simp [va_up, upd]; rfl, x3⟩
theorem lc10S {a b : Int32} (h : KK true I J B D I9 J9 B9 D9) : lc10_S (KK true) a b I J B D I9 J9 B9 D9 := by
  have hh := h
  obtain ⟨t, p6, h3⟩ := hh
  have noW : I 0 = -1 → I9 26 = -1 → lc10_S (KK true) a b I J B D I9 J9 B9 D9 := fun w1 w2 => by
    refine ⟨fun z => absurd w1 z, fun _ => ⟨fun _ => r_go1 w2 ⟨fun _ => ⟨fun _ => (h.th 1).dd zdd, fun z => absurd z (by decide)⟩, fun z => z (by simp [upd])⟩, fun e => absurd e (by decide), fun e => absurd e (by decide), Or.inl rfl⟩⟩
  rcases h3 with ⟨a1, a2, _, _, w1, w2, _⟩ | ⟨a1, a2, d, Q, X, mc, LP, k1, k2, k3, k4⟩
  · exact noW w1 w2
  rcases k2 with ⟨w1, w2⟩ | ⟨w, p, w0, w1, w2, w3⟩
  · exact noW w1 w2
  obtain ⟨p1, p2, p3⟩ := w3 w (Nat.le_refl _)
  obtain ⟨x1, x2, x3⟩ := k1.x
  have x96 := x1.1
  have x400 := x1.2.1
  have hgl := gF_le x2 p3
  have hgm := gF_mono x2 (p w) (p w + 1) (by omega) (by omega)
  refine ⟨fun _ => ⟨vin2 w1 (by omega) (by omega), fun z2 e2 => ?_⟩, fun z => absurd (w1.symm.trans z) (nI_m1 (by omega))⟩
  rw [clI w1 (by omega), p1] at e2
  -- out of the row of steps
  have bad : ∀ (I2 : Nat → Int32) (B2 : Nat → Nat → Int32), KK true I2 J B2 (zmix 3 D D) (upd I9 0 2) J9 B9 D9 → (a < 0 ∨ ¬ a < nI (gF X (p w + 1) - gF X (p w))) → wp_LassoFinderModel_go I9 J9 B9 D9 a (fun r4 I4 J4 B4 D4 => wp_LassoFinderModel_thrown I4 J4 B4 D4 (fun r5 I5 J5 B5 D5 => ((r5 = 2 → ((¬ (2 : Int32) = 0 → KK true I2 J B2 (zmix 3 D D) I5 J5 B5 D5) ∧ ((2 : Int32) = 0 → ∀ z8 : Int64, z8 = (zmix 3 D D 3 (0 : Int32).toNatClampNeg) → ∀ z9 : Int64, z9 = r4.toInt64 → ∀ z10 : Int32, z10 = (lg_cmp z8 z9) → ((z10 = 0 → KK true I2 J B2 (zmix 3 D D) I5 J5 B5 D5) ∧ (¬ z10 = 0 → False))))) ∧ (¬ r5 = 2 → False)))) := fun I2 B2 hK hn => by
    refine r_goX k1 w0 w2 p2 p3 (fun _ => ⟨fun _ => ⟨fun _ => hK, fun z => absurd z (by decide)⟩, fun z => z (by simp [upd])⟩) (fun g1 g2 _ => absurd g2 (hn.resolve_left g1)) (fun k hk hk2 _ => ?_)
    subst hk
    rcases hn with g | g
    · have := (ltI (x := nI k) rfl (y := 0) (b := 0) rfl (by omega) (by omega)).mp g; omega
    · exact absurd ((ltI (x := nI k) rfl rfl (by omega) (by omega)).mpr hk2) g
  refine ⟨fun g => ⟨fun e => absurd e (by decide), fun _ => bad _ _ ((h.th 2).dd zdd) (Or.inl g), fun e => absurd e (by decide), Or.inr (Or.inl rfl)⟩, fun g z1 e1 => ?_⟩
  have n1 := inI e2 e1
  refine ⟨vin2 n1 (by omega) (by omega), fun y2 f2 => ⟨vin2 e2 (by omega) (by omega), fun y3 f3 y4 f4 => ?_⟩⟩
  rw [clI n1 (by omega), k1.2.1.2.2.2.1 _ (by omega)] at f2
  rw [clI e2 (by omega), k1.2.1.2.2.2.1 _ (by omega)] at f3
  have n4 : y4 = nI (gF X (p w + 1) - gF X (p w)) := by
    rw [f4, f2, f3, show gF X (p w + 1) = (gF X (p w + 1) - gF X (p w)) + gF X (p w) by omega]
    rw [show gF X (p w + 1) - gF X (p w) + gF X (p w) - gF X (p w) = gF X (p w + 1) - gF X (p w) by omega]
    exact nI_sk _ _
  rw [n4]
  have m32 : ∀ f : Nat → Int32, zmix 32 f f = f := fun f => funext (fun k => by unfold zmix; split <;> rfl)
  have m50 : ∀ f : Nat → Nat → Int32, zmix 50 f f = f := fun f => funext (fun k => by unfold zmix; split <;> rfl)
  try rw [m32, m50]
  refine ⟨fun g2 => ⟨fun g3 => ⟨vin2 e2 (by omega) (by omega), fun z7 e7 z8 e8 z9 e9 => ?_⟩, fun g3 => ⟨fun e => absurd e (by decide), fun e => absurd e (by decide), fun _ => ?_, Or.inr (Or.inr rfl)⟩⟩, fun g2 => ⟨fun e => absurd e (by decide), fun _ => bad _ _ ((h.th 2).dd zdd) (Or.inr g2), fun e => absurd e (by decide), Or.inr (Or.inl rfl)⟩⟩
  · obtain ⟨k, k0, rfl⟩ := ltN g (by omega) g2
    have hw : w < 60 := by
      have : ¬ w = 60 := fun e => g3 (by rw [w1, e]; rfl)
      omega
    rw [clI e2 (by omega), k1.2.1.2.2.2.1 _ (by omega)] at e7
    rw [e7, nI_add] at e8
    have n9 := inI w1 e9
    refine ⟨vin2 e8 (by omega) (by omega), fun z10 e10 => ⟨vin2 n9 (by omega) (by omega), vin2 e8 (by omega) (by omega), fun z11 e11 y2' f2' => ⟨vin2 (k := 0) rfl (by omega) (by omega), ?_⟩⟩⟩
    rw [clI e8 (by omega), (k1.2.1.2.2.1.2.2.2 _ (by omega)).2.1] at e10
    rw [clI e8 (by omega), (k1.2.1.2.2.1.2.2.2 _ (by omega)).2.2.1] at e11
    rw [clI n9 (by omega), n9, e10]
    refine r_goX k1 w0 w2 p2 p3 (fun hn => absurd g2 (hn.resolve_left g)) (fun _ _ e => by omega) (fun k' hk' hk2 _ => ?_)
    have ek : k = k' := nI_inj (by omega) (by omega) hk'
    subst ek
    refine ⟨fun _ => ⟨fun z => absurd rfl z, fun _ z8' e8' z9' e9' z10' e10' => ?_⟩, fun z => z (by simp [upd])⟩
    have d8 := rd3 e8'
    have eq : z10' = 0 := by
      rw [e10', e9', d8, f2', e11]; exact (cmp0 _ _).mpr rfl
    refine ⟨fun _ => ?_, fun z => z eq⟩
    refine KK_walk t p6 a1 a2 k1 k3 k4 (fun x hx => by simp [upd, hx]) (fun x hx => by simp [va_up, hx]) (fun x hx => zd3 x hx) (fun x hx => by simp at hx; simp [upd, hx]) (fun x hx => by simp [va_up, hx]) (Or.inr ⟨w + 1, upn p (w + 1) (gT X (gF X (p w) + k)), by omega, by simp [upd], by simp [upd], fun i hi => ?_⟩)
    by_cases e : i = w + 1
    · subst e
      rw [upn_at]
      exact ⟨by simp [va_up, upd], by simp [va_up, upd], (x1.2.2.2.2 _ (by omega)).2⟩
    · rw [upn_ne e]
      obtain ⟨q1, q2, q3⟩ := w3 i (by omega)
      exact ⟨by simp [va_up, upd, e]; exact q1, by simp [va_up, upd, e]; exact q2, q3⟩
  · refine r_goX k1 w0 w2 p2 p3 (fun hn => absurd g2 (hn.resolve_left g)) (fun _ _ _ => ⟨fun _ => ⟨fun _ => (h.th 3).dd zdd, fun z => absurd z (by decide)⟩, fun z => z (by simp [upd])⟩) (fun k' _ _ hw => ?_)
    have : w = 60 := nI_inj (by omega) (by omega) (w1.symm.trans g3)
    omega
end ZT4
