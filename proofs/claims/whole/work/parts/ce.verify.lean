/-! verify. -/
section ZT7
variable {I : Nat → Int32} {J : Nat → Int64} {B : Nat → Nat → Int32} {D : Nat → Nat → Int64} {I9 : Nat → Int32} {J9 : Nat → Int64} {B9 : Nat → Nat → Int32} {D9 : Nat → Nat → Int64}
theorem r_verify1 {P : Int32 → (Nat → Int32) → (Nat → Int64) → (Nat → Nat → Int32) → (Nat → Nat → Int64) → Prop} (h18 : I9 18 = 0) (h : P 0 (upd I9 0 1) J9 B9 D9) : wp_LassoFinderModel_verify I9 J9 B9 D9 P := ⟨fun _ => ⟨fun z => absurd h18 z, fun _ => h⟩, fun z => absurd h18 z⟩
theorem lc4N {a b : Int32} (h : KK false I J B D I9 J9 B9 D9) (h2 : I 2 = 0) : lc4_N (KK false) a b I J B D I9 J9 B9 D9 := by
  have h18 : I9 18 = 0 := h.gm.2.1.symm.trans h2
  exact ⟨fun z => absurd h2 z, fun _ => ⟨fun _ => r_verify1 h18 ⟨fun _ => ⟨fun _ => (h.th 1).dd zdd, fun z => absurd z (by decide)⟩, fun z => z (by simp [upd])⟩, rfl⟩⟩
/-- both have searched -/
theorem KK_ver {sh : Bool} {I' : Nat → Int32} {B' : Nat → Nat → Int32} {D' : Nat → Nat → Int64} {I9' : Nat → Int32} {B9' : Nat → Nat → Int32} {d : zD} {Q : zQ} {X : zG} {mc : Nat} {LP : Nat → Int32} {out : List zIt} (h : KK sh I J B D I9 J9 B9 D9) (a1 : I 1 = 1) (a2 : I9 5 = 1) (k1 : KM d Q X mc LP I J B D I9 B9 D9) (k2 : WKx X I B I9 B9) (b1 : I 2 = 1) (b2 : I9 18 = 1) (kf : KFm d X mc out I B I9 B9) (hI : ∀ k, k < 32 → I' k = I k) (hB : ∀ k, k < 50 → B' k = B k) (hD : ∀ k, k < 3 → D' k = D k) (hF : FV I9 B9 I9' B9') (hL : KLs true X I' B' I9' B9') : KK true I' J B' D' I9' J9 B9' D9 := by
  obtain ⟨h9I, h9B⟩ := hF
  refine ⟨?_, by rw [hI 6 (by omega), h9I 4 (by decide)]; exact h.2.1, Or.inr ⟨by rw [hI 1 (by omega)]; exact a1, by rw [h9I 5 (by decide)]; exact a2, d, Q, X, mc, LP, k1.cg (fun k hk => hI k (by simp at hk; omega)) rfl (fun k hk => hB k (by omega)) hD (fun k hk => h9I k (by simp at hk ⊢; omega)) (fun k hk => h9B k (by simp; omega)) (fun k _ => by rw [h9B 24 (by decide)]) (fun _ _ => rfl), k2.cg (hI 0 (by omega)) (hB 0 (by omega)) (h9I 26 (by decide)) (h9B 54 (by decide)), Or.inr ⟨by rw [hI 2 (by omega)]; exact b1, by rw [h9I 18 (by decide)]; exact b2, out, kf.cg (fun k hk => hI k (by simp at hk; omega)) (fun k h1 h2 => hB k (by omega)) (fun k hk => h9I k (by simp at hk ⊢; omega)) (fun k hk => h9B k (by simp; omega))⟩, hL⟩⟩
  have t := h.1
  unfold TXk at *; rw [hI 3 (by omega), h9I 1 (by decide), hB 1 (by omega), h9B 0 (by decide)]; exact t
/-- the class searches, then the reference -/
theorem c_find {sh : Bool} {I0 : Nat → Int32} {B0 : Nat → Nat → Int32} {P : Int32 → (Nat → Int32) → (Nat → Int64) → (Nat → Nat → Int32) → (Nat → Nat → Int64) → Prop} (h : KK sh I J B D I9 J9 B9 D9) (h2 : ¬ I 2 = 0) (hI : ∀ k, k < 32 → I0 k = I k) (hB : ∀ k, k < 50 → B0 k = B k)
    (h1 : ∀ (r : Int32) I' B', (r = 0 ∨ r = 1) → (∀ (x : Int64) (f : Nat → Int64), x = (if r = 0 then 1 else 0) → wp_LassoFinderModel_verify I9 J9 B9 D9 (fun r2 I2 J2 B2 D2 => wp_LassoFinderModel_thrown I2 J2 B2 D2 (fun r3 I3 J3 B3 D3 => ((r3 = 0 → ((¬ (0 : Int32) = 0 → KK true I' J B' (va_up (zmix 3 D D) 3 (vp_updL f (0 : Int32).toNatClampNeg x)) I3 J3 B3 D3) ∧ ((0 : Int32) = 0 → ∀ z6 : Int64, z6 = (va_up (zmix 3 D D) 3 (vp_updL f (0 : Int32).toNatClampNeg x) 3 (0 : Int32).toNatClampNeg) → ((r2 = 0 → ∀ z8 : Int32, z8 = (lg_cmp z6 0) → ((z8 = 0 → KK true I' J B' (va_up (zmix 3 D D) 3 (vp_updL f (0 : Int32).toNatClampNeg x)) I3 J3 B3 D3) ∧ (¬ z8 = 0 → False))) ∧ (¬ r2 = 0 → ∀ z10 : Int32, z10 = (lg_cmp z6 1) → ((z10 = 0 → KK true I' J B' (va_up (zmix 3 D D) 3 (vp_updL f (0 : Int32).toNatClampNeg x)) I3 J3 B3 D3) ∧ (¬ z10 = 0 → False))))))) ∧ (¬ r3 = 0 → False))))) → P r I' J B' D) : wp_LassoSearch_find I0 J B0 D P := by
  have hh := h
  obtain ⟨t, p6, h3⟩ := hh
  rcases h3 with ⟨_, _, e, _⟩ | ⟨a1, a2, d, Q, X, mc, LP, k1, k2, k3, k4⟩
  · exact absurd e h2
  rcases k3 with ⟨e, _⟩ | ⟨b1, b2, out, kf⟩
  · exact absurd e h2
  obtain ⟨x1, x2, x3⟩ := k1.x
  have hS := k1.sv kf
  have hR : SR d Q X out I0 B0 := (k1.sr kf).cg (fun k hk => hI k (by simp at hk; omega)) (fun k hk => hB k (by simp at hk; omega))
  refine q_find hR x2 x3 (fun I' B' hNL h38 hF => h1 0 I' B' (Or.inl rfl) (fun x f hx => ?_)) (fun js cs I' B' hYL hLR hF => h1 1 I' B' (Or.inr rfl) (fun x f hx => ?_))
  · refine r_verify hS x2 x3 b2 (fun I9' B9' _ g0 g24 hV => ?_) (fun js cs I9' B9' hYL _ _ _ => absurd (NYx hNL hYL) id)
    have fin : KK true I' J B' (va_up (zmix 3 D D) 3 (vp_updL f (0 : Int32).toNatClampNeg x)) I9' J9 B9' D9 := KK_ver h a1 a2 k1 k2 b1 b2 kf (fun k hk => (hF.1 k hk).trans (hI k hk)) (fun k hk => (hF.2 k hk).trans (hB k hk)) (fun k hk => zd3 k hk) hV (Or.inl ⟨g24, fun _ => h38⟩)
    refine ⟨fun _ => ⟨fun z => absurd rfl z, fun _ z6 e6 => ?_⟩, fun z => z g0⟩
    have d6 := rd3 e6
    rw [if_pos rfl] at hx
    exact ⟨fun z => absurd z (by decide), fun _ z10 e10 => ⟨fun _ => fin, fun z => z (by rw [e10, d6, hx]; decide)⟩⟩
  · refine r_verify hS x2 x3 b2 (fun I9' B9' hNL _ _ _ => absurd (NYx hNL hYL) id) (fun js' cs' I9' B9' hYL' g0 hLR9 hV => ?_)
    obtain ⟨ej, ec⟩ := YLx_det hYL hYL'
    subst ej; subst ec
    have fin : KK true I' J B' (va_up (zmix 3 D D) 3 (vp_updL f (0 : Int32).toNatClampNeg x)) I9' J9 B9' D9 := KK_ver h a1 a2 k1 k2 b1 b2 kf (fun k hk => (hF.1 k hk).trans (hI k hk)) (fun k hk => (hF.2 k hk).trans (hB k hk)) (fun k hk => zd3 k hk) hV (Or.inr ⟨rfl, js, cs, hLR, hLR9⟩)
    refine ⟨fun _ => ⟨fun z => absurd rfl z, fun _ z6 e6 => ?_⟩, fun z => z g0⟩
    have d6 := rd3 e6
    rw [if_neg (by decide)] at hx
    exact ⟨fun _ z8 e8 => ⟨fun _ => fin, fun z => z (by rw [e8, d6, hx]; decide)⟩, fun z => absurd rfl z⟩
theorem lc4S {a b : Int32} (h : KK true I J B D I9 J9 B9 D9) : lc4_S (KK true) a b I J B D I9 J9 B9 D9 := by
  refine ⟨fun h2 => ?_, fun h2 => ?_⟩
  · refine c_find h h2 (fun _ _ => rfl) (fun _ _ => rfl) (fun r I' B' hr k => ?_)
    rcases hr with rfl | rfl
    · exact ⟨fun z => absurd rfl z, fun _ => ⟨Or.inr rfl, fun z => absurd z (by decide), fun _ => ⟨vin2 (show (0 : Int32) = nI 0 from rfl) (by omega) (by omega), k 1 _ rfl⟩⟩⟩
    · exact ⟨fun _ => ⟨Or.inl rfl, fun _ => ⟨vin2 (show (0 : Int32) = nI 0 from rfl) (by omega) (by omega), k 0 _ rfl⟩, fun z => absurd rfl z⟩, fun z => absurd z (by decide)⟩
  · have h18 : I9 18 = 0 := h.gm.2.1.symm.trans h2
    exact ⟨fun _ => r_verify1 h18 ⟨fun _ => ⟨fun _ => (h.th 1).dd zdd, fun z => absurd z (by decide)⟩, fun z => z (by simp [upd])⟩, rfl⟩
theorem lc4M {a b : Int32} (h : KK false I J B D I9 J9 B9 D9) (h2 : ¬ I 2 = 0) : lc4_M (KK true) a b I J B D I9 J9 B9 D9 := by
  refine ⟨h2, fun Q8 q8 => c_find h h2 (fun k hk => zl hk) (fun k hk => zl hk) (fun r I' B' hr k => ⟨q8, ?_⟩)⟩
  rcases hr with rfl | rfl
  · exact k _ _ (by decide)
  · exact k _ _ (by decide)
end ZT7
