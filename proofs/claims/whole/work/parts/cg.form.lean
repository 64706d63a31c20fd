/-! A formula is read, by both. -/
section ZT9
variable {I : Nat → Int32} {J : Nat → Int64} {B : Nat → Nat → Int32} {D : Nat → Nat → Int64} {I9 : Nat → Int32} {J9 : Nat → Int64} {B9 : Nat → Nat → Int32} {D9 : Nat → Nat → Int64}
/-- what the reference leaves alone -/
def FUx (mc : Nat) (I9 : Nat → Int32) (B9 : Nat → Nat → Int32) (I9' : Nat → Int32) (B9' : Nat → Nat → Int32) : Prop := (∀ k, k ∉ [0, 1, 2, 3, 4, 11, 13, 17, 18, 19, 20, 21, 23, 24] → I9' k = I9 k) ∧ (∀ k, k ∉ [24, 28, 36, 37, 38, 39, 40, 41, 42, 43, 44, 45, 46, 47, 48] → B9' k = B9 k) ∧ (∀ k, k < mc → B9' 24 k = B9 24 k)
/-- .. and its fields -/
def NFx (q e g : Int32) (I9 : Nat → Int32) : Prop := I9 0 = e ∧ I9 1 = 0 ∧ I9 4 = q ∧ I9 18 = g ∧ I9 24 = -1
theorem KK_form {sh : Bool} {q e g : Int32} {I' : Nat → Int32} {B' : Nat → Nat → Int32} {D' : Nat → Nat → Int64} {I9' : Nat → Int32} {B9' : Nat → Nat → Int32} {d : zD} {Q : zQ} {X : zG} {mc : Nat} {LP : Nat → Int32} (hK : KM d Q X mc LP I J B D I9 B9 D9) (hw : WKx X I B I9 B9) (a2 : I9 5 = 1)
    (hI : ∀ k, k ∉ [1, 2, 3, 4, 5, 6, 18, 21, 22, 23, 24, 25, 26, 27, 28, 29, 30, 31, 38] → I' k = I k) (hB : ∀ k, k ∉ [29, 30, 31, 39, 40, 41, 42, 43, 44, 45, 46, 47, 48, 49] → B' k = B k) (hD : ∀ k, k < 3 → D' k = D k) (hF : FUx mc I9 B9 I9' B9') (hG : NFx q e g I9') (c1 : I' 1 = 1) (c3 : I' 3 = 0) (c6 : I' 6 = q) (c38 : sh = true → I' 38 = 0)
    (hf : (I' 2 = 0 ∧ g = 0) ∨ (I' 2 = 1 ∧ g = 1 ∧ ∃ out, KFm d X mc out I' B' I9' B9')) : KK sh I' J B' D' I9' J9 B9' D9 := by
  obtain ⟨h0, h1, h4, h18, h24⟩ := hG
  obtain ⟨f1, f2, f3⟩ := hF
  refine ⟨⟨0, by omega, c3, h1, fun k hk => absurd hk (by omega), fun k hk => absurd hk (by omega)⟩, c6.trans h4.symm, Or.inr ⟨c1, (f1 5 (by decide)).trans a2, d, Q, X, mc, LP, hK.cg (fun k hk => hI k (by simp at hk ⊢; omega)) rfl (fun k hk => hB k (by simp; omega)) hD (fun k hk => f1 k (by simp at hk ⊢; omega)) (fun k hk => f2 k (by simp; omega)) f3 (fun _ _ => rfl), hw.cg (hI 0 (by decide)) (hB 0 (by decide)) (f1 26 (by decide)) (f2 54 (by decide)), ?_, Or.inl ⟨h24, c38⟩⟩⟩
  rcases hf with ⟨e1, e2⟩ | ⟨e1, e2, e3⟩
  · exact Or.inl ⟨e1, h18.trans e2⟩
  · exact Or.inr ⟨e1, h18.trans e2, e3⟩
theorem r_form_ok {Post : Int32 → (Nat → Int32) → (Nat → Int64) → (Nat → Nat → Int32) → (Nat → Nat → Int64) → Prop} {f : Nat → Int32} {n : Nat} {d : zD} {Q : zQ} {X : zG} {mc : Nat} {LP : Nat → Int32} {out : List zIt} (hK : KM d Q X mc LP I J B D I9 B9 D9) (h5 : I9 5 = 1) (h1 : I9 1 = nI n) (hn : n ≤ 240) (h0 : ∀ k, k < n → B9 0 k = f k) (hok : okC f n) (hs : star (fst9 f n d.2.2.2.1 (qP Q) LP) (1, 0, [], []) (0, n, [], out)) (hA : OKA out)
    (k : ∀ r I9' B9', r = nI (ntm out) → RK mc out I9' B9' → LK d X (gN X) out B9' → FUx mc I9 B9 I9' B9' → NFx (-1) 0 1 I9' → Post r I9' J9 B9' D9) : wp_LassoFinderModel_formula I9 J9 B9 D9 Post := by
  obtain ⟨x1, x2, x3⟩ := hK.x
  have hO := FOK_out hn hs
  have hlR : lnR out ≤ 240 := by
    obtain ⟨p1, p2, p3, p4, p5, p6, p7, p8, p9, p10, p11, p12⟩ := PI_star (PI_0 (f := f) (n := n) (kd := d.2.2.2.1)) hs
    dsimp only at p1 p10
    omega
  obtain ⟨⟨a1, a2, a3, a4, a5, a6⟩, ⟨b1, b2, b3, b4, b5, b6⟩, ⟨d1, d2, d3, d4, d5, d6, d7, d8⟩⟩ := id hK
  have n5 : ¬ I9 5 = 0 := by rw [h5]; decide
  refine ⟨fun z => absurd z n5, fun _ => r_wholeFormula (f := f) (n := n) (kd := d.2.2.2.1) (np := qP Q) (LP := LP) (mc := mc) a4 a2.1 a5 (d8.cg (by simp [upd]) (fun _ _ => rfl) _ _) (by simp [upd]; exact d1.2.1) d5 (by simp [upd]; exact d6) hn (by simp [upd]; exact h1) h0 hok (Or.inl ⟨out, hs, fun I7 B7 hR hF => ⟨fun z => absurd z (by decide), fun _ => ⟨fun _ => ⟨fun z => absurd z (by decide), fun _ => ⟨fun z => absurd z (by decide), fun _ => ⟨fun _ => ?_, fun z => absurd z (by decide)⟩⟩⟩, fun z => ?_⟩⟩⟩)⟩
  · obtain ⟨c1, c2, c3, c4, c5, c6, c7, c8, c9, c10⟩ := hR
    dsimp only at c4 c5 c6 c9 c10
    have i14 : ∀ j, j ∈ [6, 7, 9, 10, 14, 15] → upd (upd (upd I7 1 0) 4 (-1)) 0 0 j = I9 j := fun j hj => by
      have e := hF.1 j (by simp at hj ⊢; omega)
      simp at hj
      rcases hj with rfl | rfl | rfl | rfl | rfl | rfl <;> simp [upd] at e ⊢ <;> exact e
    have hP2 : PR d Q (upd (upd (upd I7 1 0) 4 (-1)) 0 0) B7 D9 := d1.cg d7 a5 (fun j hj => i14 j (by simp at hj ⊢; omega)) (fun j h1 h2 => hF.2.1 j (by simp; omega)) hF.2.2 rfl
    have hG2 : RG9 d Q X (upd (upd (upd I7 1 0) 4 (-1)) 0 0) B7 D9 := by
      obtain ⟨e1, e2, e3, e4⟩ := d2
      exact ⟨(i14 14 (by decide)).trans e1, (i14 15 (by decide)).trans e2, e3, fun j hj => by rw [hF.2.1 31 (by decide), hF.2.1 30 (by decide), hF.2.1 32 (by decide), hF.2.1 33 (by decide)]; exact e4 j hj⟩
    have hR2 : RK mc out (upd (upd (upd I7 1 0) 4 (-1)) 0 0) B7 := ⟨by simp [upd]; exact c4, by simp [upd]; exact c5, by simp [upd]; exact c6, c9, c10⟩
    refine r_looks a2 hP2 x1 hG2 hO hA hR2 (by omega) (fun I8 B8 hL g1 g2 => k _ _ _ ?_ ?_ hL ⟨fun j hj => ?_, fun j hj => ?_, fun j hj => ?_⟩ ⟨?_, ?_, ?_, ?_, ?_⟩)
    · exact (g1 20 (by decide)).trans hR2.2.1
    · obtain ⟨r1, r2, r3, r4, r5⟩ := hR2
      have u : ∀ j, j ≠ 17 → j ≠ 18 → upd I8 18 1 j = upd (upd (upd I7 1 0) 4 (-1)) 0 0 j := fun j h1 h2 => by
        rw [← g1 j h1]; simp [upd, h2]
      exact ⟨(u 19 (by decide) (by decide)).trans r1, (u 20 (by decide) (by decide)).trans r2, (u 23 (by decide) (by decide)).trans r3, r4.cg (fun k _ => by rw [g2 41 (by decide)]) (fun r hr k _ => by rw [g2 r (by simp at hr ⊢; omega)]) (fun k _ => by rw [g2 24 (by decide)]), by rw [g2 43 (by decide)]; exact r5⟩
    · have e := hF.1 j (by simp at hj ⊢; omega)
      have e2 := g1 j (by simp at hj; omega)
      simp at hj
      have t1 : upd I8 18 1 j = I8 j := by simp [upd, hj]
      have t2 : upd (upd (upd I7 1 0) 4 (-1)) 0 0 j = I7 j := by simp [upd, hj]
      have t3 : upd (upd (upd (upd I9 18 0) 24 (-1)) 4 (-1)) 0 1 j = I9 j := by simp [upd, hj]
      rw [t1, e2, t2, e, t3]
    · exact (g2 j (by simp at hj ⊢; omega)).trans (hF.2.1 j (by simp at hj ⊢; omega))
    · rw [g2 24 (by decide)]; exact hF.2.2 j hj
    · have e2 := g1 0 (by decide); simp [upd] at e2 ⊢; exact e2
    · have e2 := g1 1 (by decide); simp [upd] at e2 ⊢; exact e2
    · have e2 := g1 4 (by decide); simp [upd] at e2 ⊢; exact e2
    · simp [upd]
    · have e2 := g1 24 (by decide)
      have e := hF.1 24 (by decide)
      simp [upd] at e2 e ⊢; exact e2.trans e
  · have e := hF.1 5 (by decide)
    simp [upd] at e
    exact absurd (e.symm.trans z) n5
theorem r_form_bad {Post : Int32 → (Nat → Int32) → (Nat → Int64) → (Nat → Nat → Int32) → (Nat → Nat → Int64) → Prop} {f : Nat → Int32} {n q : Nat} {s1 : zPs} {d : zD} {Q : zQ} {X : zG} {mc : Nat} {LP : Nat → Int32} (hK : KM d Q X mc LP I J B D I9 B9 D9) (h5 : I9 5 = 1) (h1 : I9 1 = nI n) (hn : n ≤ 240) (h0 : ∀ k, k < n → B9 0 k = f k) (hok : okC f n) (hs : star (fst9 f n d.2.2.2.1 (qP Q) LP) (1, 0, [], []) s1) (hq : ffail f n d.2.2.2.1 (qP Q) LP s1 q)
    (k : ∀ I9' B9', FUx mc I9 B9 I9' B9' → NFx (nI q) 2 0 I9' → Post 0 I9' J9 B9' D9) : wp_LassoFinderModel_formula I9 J9 B9 D9 Post := by
  obtain ⟨⟨a1, a2, a3, a4, a5, a6⟩, ⟨b1, b2, b3, b4, b5, b6⟩, ⟨d1, d2, d3, d4, d5, d6, d7, d8⟩⟩ := id hK
  have n5 : ¬ I9 5 = 0 := by rw [h5]; decide
  refine ⟨fun z => absurd z n5, fun _ => r_wholeFormula (f := f) (n := n) (kd := d.2.2.2.1) (np := qP Q) (LP := LP) (mc := mc) a4 a2.1 a5 (d8.cg (by simp [upd]) (fun _ _ => rfl) _ _) (by simp [upd]; exact d1.2.1) d5 (by simp [upd]; exact d6) hn (by simp [upd]; exact h1) h0 hok (Or.inr ⟨s1, q, hs, hq, fun I7 B7 hF e3 => ⟨fun _ => ⟨fun _ => ⟨fun _ => ⟨fun _ => ⟨fun z => absurd rfl z, fun _ => k _ _ ⟨fun j hj => ?_, fun j hj => hF.2.1 j (by simp at hj ⊢; omega), hF.2.2⟩ ⟨by simp [upd], by simp [upd], by simp [upd]; exact e3, ?_, ?_⟩⟩, fun z => absurd rfl z⟩, fun z => absurd rfl z⟩, fun z => ?_⟩, fun z => absurd rfl z⟩⟩)⟩
  · have e := hF.1 j (by simp at hj ⊢; omega)
    simp at hj
    have t3 : upd (upd (upd (upd I9 18 0) 24 (-1)) 4 (-1)) 0 1 j = I9 j := by simp [upd, hj]
    rw [t3] at e
    rw [← e]; simp [upd, hj]
  · have e := hF.1 18 (by decide)
    simp [upd] at e ⊢; exact e
  · have e := hF.1 24 (by decide)
    simp [upd] at e ⊢; exact e
  · have e := hF.1 5 (by decide)
    simp [upd] at e
    exact absurd (e.symm.trans z) n5
theorem r_form_none {Post : Int32 → (Nat → Int32) → (Nat → Int64) → (Nat → Nat → Int32) → (Nat → Nat → Int64) → Prop} (h5 : I9 5 = 0) (h26 : I9 26 = -1) (k : ∀ I9', NG (-1) 1 0 I9' → Post 0 I9' J9 B9 D9) : wp_LassoFinderModel_formula I9 J9 B9 D9 Post := by
  refine ⟨fun _ => ⟨fun z => absurd (by simp [upd]; exact h5) z, fun _ => k _ ⟨by simp [upd], by simp [upd], by simp [upd], by simp [upd]; exact h5, by simp [upd], by simp [upd], by simp [upd]; exact h26⟩⟩, fun z => absurd h5 z⟩
theorem lc2N {a b : Int32} (h : KK false I J B D I9 J9 B9 D9) : lc2_N (KK false) a b I J B D I9 J9 B9 D9 := by
  obtain ⟨n, hn, t3, t1, tok, t0⟩ := h.1
  rcases h.2.2 with ⟨w1, w2, w3, w4, w5, w6, w7, w8⟩ | ⟨w1, w2, d, Q, X, mc, LP, hK, hw, _⟩
  · refine ⟨fun z => absurd (by simp [zmix, upd]; exact w1) z, fun _ => ⟨fun _ => ?_, fun z => absurd z (by decide), Or.inl rfl⟩⟩
    exact r_form_none w2 w6 (fun I9' hG => ⟨fun _ => ⟨fun _ => KK_non hG (by simp [zmix, upd]; exact w5) (by simp [zmix, upd]; exact w1) (by simp [zmix, upd]) (by simp [zmix, upd]) (by simp [zmix, upd]) (fun _ => absurd ‹_› (by decide)), fun z => absurd z (by decide)⟩, fun z => z hG.1⟩)
  obtain ⟨x1, x2, x3⟩ := hK.x
  obtain ⟨⟨a1, a2, a3, a4, a5, a6⟩, ⟨b1, b2, b3, b4, b5, b6⟩, _⟩ := id hK
  refine ⟨fun _ => q_freadAll (f := B 1) (n := n) (kd := d.2.2.2.1) (np := qP Q) (LP := LP) a2.1 a6 ⟨by simp [zmix, upd]; rfl, by simp [zmix, upd]; exact t3, by omega, hn, fun _ _ => rfl, tok⟩ b2 (by simp [zmix, upd]; exact b1.2.2.1) b6 (fun out I3 B3 hs hC hF => ?_) (fun s1 q I3 B3 hs hq hI hB e6 => ?_), fun z => absurd (by simpa [zmix, upd] using z) (by rw [w1]; decide)⟩
  · have hI0 : ∀ k, k ∉ [1, 2, 3, 4, 5, 6, 21, 22, 23, 24, 25, 26, 27, 28, 29, 38] → I3 k = I k := fun k hk => by
      rw [hF.1 k (by simp at hk ⊢; omega)]; simp at hk; simp [zmix, upd, hk]
    have f1 := hF.1 1 (by decide)
    have f2 := hF.1 2 (by decide)
    have f3 := hF.1 3 (by decide)
    have f6 := hF.1 6 (by decide)
    have f38 := hF.1 38 (by decide)
    simp [zmix, upd] at f1 f2 f3 f6 f38
    have hB0 : ∀ k, k ∉ [39, 40, 41, 42, 43, 44] → B3 k = B k := fun k hk => by rw [hF.2 k hk]
    have hO := FOK_out hn hs
    obtain ⟨c1, c2, c3, c4, c5, c6, c7, c8, c9, c10, c11⟩ := hC
    dsimp only at c2 c3 c6 c7 c8
    have hA := FO_A c7
    have hKX : KX d I3 B3 := by
      have := (b1.cg (I' := I3) (J' := J) (B' := B3) (D' := D) (fun k hk => hI0 k (by simp at hk ⊢; omega)) rfl (fun k h1 h2 => hB0 k (by simp; omega)) (fun _ _ => rfl))
      exact this.1
    have hG : CG d X I3 B3 D := by
      obtain ⟨e1, e2, e3, e4⟩ := b3
      exact ⟨(hI0 19 (by decide)).trans e1, (hI0 20 (by decide)).trans e2, e3, fun j hj => by rw [hB0 33 (by decide), hB0 34 (by decide), hB0 35 (by decide), hB0 36 (by decide)]; exact e4 j hj⟩
    refine q_fill a1 a2 x1 hKX hG hO ⟨c2, c3, c6, c7, c8⟩ (fun I4 B4 hT e30 e31 hi hb z2 e2 => ⟨vin2 (show (0 : Int32) = nI 0 from rfl) (by omega) (by omega), ?_⟩)
    refine r_form_ok hK w2 t1 hn t0 tok hs hA (fun r I9' B9' er hR hL hU hN => ⟨fun _ => ⟨fun z => absurd rfl z, fun _ z6 e6 z7 e7 z8 e8 => ?_⟩, fun z => z hN.1⟩)
    have d6 := rd3 e6
    have e21 : I4 21 = nI (ntm out) := (hi 21 (by decide)).trans c3
    have eq : z8 = 0 := by rw [e8, e7, d6, e2, er, e21]; exact (cmp0 _ _).mpr rfl
    refine ⟨fun _ => KK_form hK hw w2 (fun k hk => ?_) (fun k hk => ?_) (fun k hk => zd3x k hk) hU hN ?_ ?_ ?_ (fun _ => ?_) (Or.inr ⟨?_, rfl, out, ?_⟩), fun z => z eq⟩
    · rw [← hI0 k (by simp at hk ⊢; omega), ← hi k (by simp at hk ⊢; omega)]; simp at hk; simp [upd, hk]
    · rw [hb k (by simp at hk ⊢; omega)]; exact hB0 k (by simp at hk ⊢; omega)
    · simp [upd]; exact (hi 1 (by decide)).trans (f1.trans w1)
    · simp [upd]; exact (hi 3 (by decide)).trans f3
    · simp [upd]; exact (hi 6 (by decide)).trans f6
    · exact absurd ‹_› (by decide)
    · simp [upd]
    · exact ⟨hO.2.1, hO.1, hT, by simp [upd]; exact e30, by simp [upd]; exact e31, by simp [upd]; exact e21, hR, hL⟩
  · have hI0 : ∀ k, k ∉ [1, 2, 3, 4, 5, 6, 21, 22, 23, 24, 25, 26, 27, 28, 29, 38] → I3 k = I k := fun k hk => by
      rw [hI k (by simp at hk ⊢; omega)]; simp at hk; simp [zmix, upd, hk]
    have f1 := hI 1 (by decide)
    have f2 := hI 2 (by decide)
    have f3 := hI 3 (by decide)
    have f38 := hI 38 (by decide)
    simp [zmix, upd] at f1 f2 f3 f38
    have hB0 : ∀ k, k ∉ [39, 40, 41, 42, 43, 44] → B3 k = B k := fun k hk => by rw [hB k hk]
    refine ⟨fun z => absurd z (by decide), fun _ => ?_, Or.inr rfl⟩
    exact r_form_bad hK w2 t1 hn t0 tok hs hq (fun I9' B9' hU hN => ⟨fun _ => ⟨fun _ => KK_form hK hw w2 (fun k hk => hI0 k (by simp at hk ⊢; omega)) (fun k hk => hB0 k (by simp at hk ⊢; omega)) (fun k hk => zl hk) hU hN (f1.trans w1) f3 e6 (fun _ => absurd ‹_› (by decide)) (Or.inl ⟨f2, rfl⟩), fun z => absurd z (by decide)⟩, fun z => z hN.1⟩)
theorem lc2S {a b : Int32} (h : KK true I J B D I9 J9 B9 D9) : lc2_S (KK true) a b I J B D I9 J9 B9 D9 := by
  obtain ⟨n, hn, t3, t1, tok, t0⟩ := h.1
  rcases h.2.2 with ⟨w1, w2, w3, w4, w5, w6, w7, w8⟩ | ⟨w1, w2, d, Q, X, mc, LP, hK, hw, _⟩
  · refine ⟨fun z => absurd (by simp [zmix, upd]; exact w1) z, fun _ => ⟨fun _ => ?_, fun z => absurd z (by decide), Or.inl rfl⟩⟩
    exact r_form_none w2 w6 (fun I9' hG => ⟨fun _ => ⟨fun _ => KK_non hG (by simp [zmix, upd]; exact w5) (by simp [zmix, upd]; exact w1) (by simp [zmix, upd]) (by simp [zmix, upd]) (by simp [zmix, upd]) (fun _ => by simp [zmix, upd]), fun z => absurd z (by decide)⟩, fun z => z hG.1⟩)
  obtain ⟨x1, x2, x3⟩ := hK.x
  obtain ⟨⟨a1, a2, a3, a4, a5, a6⟩, ⟨b1, b2, b3, b4, b5, b6⟩, _⟩ := id hK
  refine ⟨fun _ => q_freadAll (f := B 1) (n := n) (kd := d.2.2.2.1) (np := qP Q) (LP := LP) a2.1 a6 ⟨by simp [zmix, upd]; rfl, by simp [zmix, upd]; exact t3, by omega, hn, fun _ _ => rfl, tok⟩ b2 (by simp [zmix, upd]; exact b1.2.2.1) b6 (fun out I3 B3 hs hC hF => ?_) (fun s1 q I3 B3 hs hq hI hB e6 => ?_), fun z => absurd (by simpa [zmix, upd] using z) (by rw [w1]; decide)⟩
  · have hI0 : ∀ k, k ∉ [1, 2, 3, 4, 5, 6, 21, 22, 23, 24, 25, 26, 27, 28, 29, 38] → I3 k = I k := fun k hk => by
      rw [hF.1 k (by simp at hk ⊢; omega)]; simp at hk; simp [zmix, upd, hk]
    have f1 := hF.1 1 (by decide)
    have f2 := hF.1 2 (by decide)
    have f3 := hF.1 3 (by decide)
    have f6 := hF.1 6 (by decide)
    have f38 := hF.1 38 (by decide)
    simp [zmix, upd] at f1 f2 f3 f6 f38
    rw [zmixE (n := 32) (f := I3) (fun k hk => hF.1 k (by simp; omega)), zmixE (n := 50) (f := B3) (fun k hk => hF.2 k (by simp; omega))]
    have hB0 : ∀ k, k ∉ [39, 40, 41, 42, 43, 44] → B3 k = B k := fun k hk => by rw [hF.2 k hk]; simp [zmix]
    have hO := FOK_out hn hs
    obtain ⟨c1, c2, c3, c4, c5, c6, c7, c8, c9, c10, c11⟩ := hC
    dsimp only at c2 c3 c6 c7 c8
    have hA := FO_A c7
    have hKX : KX d I3 B3 := by
      have := (b1.cg (I' := I3) (J' := J) (B' := B3) (D' := D) (fun k hk => hI0 k (by simp at hk ⊢; omega)) rfl (fun k h1 h2 => hB0 k (by simp; omega)) (fun _ _ => rfl))
      exact this.1
    have hG : CG d X I3 B3 D := by
      obtain ⟨e1, e2, e3, e4⟩ := b3
      exact ⟨(hI0 19 (by decide)).trans e1, (hI0 20 (by decide)).trans e2, e3, fun j hj => by rw [hB0 33 (by decide), hB0 34 (by decide), hB0 35 (by decide), hB0 36 (by decide)]; exact e4 j hj⟩
    refine q_fill a1 a2 x1 hKX hG hO ⟨c2, c3, c6, c7, c8⟩ (fun I4 B4 hT e30 e31 hi hb z2 e2 => ⟨vin2 (show (0 : Int32) = nI 0 from rfl) (by omega) (by omega), ?_⟩)
    rw [zmixE (n := 32) (f := I4) (fun k hk => hi k (by simp; omega))] at e2
    rw [zmixE (n := 32) (f := I4) (fun k hk => hi k (by simp; omega)), zmixE (n := 50) (f := B4) (fun k hk => hb k (by simp; omega))]
    refine r_form_ok hK w2 t1 hn t0 tok hs hA (fun r I9' B9' er hR hL hU hN => ⟨fun _ => ⟨fun z => absurd rfl z, fun _ z6 e6 z7 e7 z8 e8 => ?_⟩, fun z => z hN.1⟩)
    have d6 := rd3 e6
    have e21 : I4 21 = nI (ntm out) := (hi 21 (by decide)).trans c3
    have eq : z8 = 0 := by rw [e8, e7, d6, e2, er, e21]; exact (cmp0 _ _).mpr rfl
    refine ⟨fun _ => KK_form hK hw w2 (fun k hk => ?_) (fun k hk => ?_) (fun k hk => zd3x k hk) hU hN ?_ ?_ ?_ (fun _ => ?_) (Or.inr ⟨?_, rfl, out, ?_⟩), fun z => z eq⟩
    · rw [← hI0 k (by simp at hk ⊢; omega), ← hi k (by simp at hk ⊢; omega)]; simp at hk; simp [upd, hk]
    · rw [hb k (by simp at hk ⊢; omega)]; exact hB0 k (by simp at hk ⊢; omega)
    · simp [upd]; exact (hi 1 (by decide)).trans (f1.trans w1)
    · simp [upd]; exact (hi 3 (by decide)).trans f3
    · simp [upd]; exact (hi 6 (by decide)).trans f6
    · simp [upd]; exact (hi 38 (by decide)).trans f38
    · simp [upd]
    · exact ⟨hO.2.1, hO.1, hT, by simp [upd]; exact e30, by simp [upd]; exact e31, by simp [upd]; exact e21, hR, hL⟩
  · have hI0 : ∀ k, k ∉ [1, 2, 3, 4, 5, 6, 21, 22, 23, 24, 25, 26, 27, 28, 29, 38] → I3 k = I k := fun k hk => by
      rw [hI k (by simp at hk ⊢; omega)]; simp at hk; simp [zmix, upd, hk]
    have f1 := hI 1 (by decide)
    have f2 := hI 2 (by decide)
    have f3 := hI 3 (by decide)
    have f38 := hI 38 (by decide)
    simp [zmix, upd] at f1 f2 f3 f38
    rw [zmixE (n := 32) (f := I3) (fun k hk => hI k (by simp; omega)), zmixE (n := 50) (f := B3) (fun k hk => hB k (by simp; omega))]
    have hB0 : ∀ k, k ∉ [39, 40, 41, 42, 43, 44] → B3 k = B k := fun k hk => by rw [hB k hk]; simp [zmix]
    refine ⟨fun z => absurd z (by decide), fun _ => ?_, Or.inr rfl⟩
    exact r_form_bad hK w2 t1 hn t0 tok hs hq (fun I9' B9' hU hN => ⟨fun _ => ⟨fun _ => KK_form hK hw w2 (fun k hk => hI0 k (by simp at hk ⊢; omega)) (fun k hk => hB0 k (by simp at hk ⊢; omega)) (fun k hk => zl hk) hU hN (f1.trans w1) f3 e6 (fun _ => f38) (Or.inl ⟨f2, rfl⟩), fun z => absurd z (by decide)⟩, fun z => z hN.1⟩)
end ZT9
