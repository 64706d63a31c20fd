/-! A model is read, by both. -/
section ZT8
variable {I : Nat → Int32} {J : Nat → Int64} {B : Nat → Nat → Int32} {D : Nat → Nat → Int64} {I9 : Nat → Int32} {J9 : Nat → Int64} {B9 : Nat → Nat → Int32} {D9 : Nat → Nat → Int64}
theorem r_linkR {Post : (Nat → Int32) → (Nat → Int64) → (Nat → Nat → Int32) → (Nat → Nat → Int64) → Prop} {f : Nat → Int32} {n : Nat} {d : zD} {Q : zQ} {t : zS} (hW : QW d Q) (hC : PC d Q t.1 t.2.1 t.2.2.1 t.2.2.2) {IR : Nat → Int32} (hR : RM f n d.2.2.2.1 t IR B9) (hi8 : IR 8 = I9 8) (hi9 : IR 9 = I9 9) (hi10 : IR 10 = I9 10) (hNM : NM d I9 B9)
    (k : ∀ B9' D9', PR d Q I9 B9' D9' → HST Q I9 J9 B9' D9' → (∀ r, r ≠ 17 → B9' r = B9 r) → (∀ r, r ≠ 0 → D9' r = D9 r) → Post I9 J9 B9' D9') : wp_LassoFinderModel_link I9 J9 B9 D9 Post := by
  obtain ⟨a, p, base, bs, ln, cl, cv, ⟨r5, r10, r9, r11, rb, rp, rl⟩, ⟨rT, r8, r9', r10', r11', rcl, rba⟩, hBR, hrest, hkn, hPB, hPP, hD1, hinj⟩ := hR
  rw [hi8] at r8; rw [hi9] at r9'; rw [hi10] at r10'
  have hn := rT.2.2.2.1
  have han := rT.2.2.1
  obtain ⟨cX, c3, c10, c9, ⟨L, cL, cL8, cq⟩, cJ, cD0, cD1, c13⟩ := hC
  have hP4 := hW.1
  have hN48 := hW.2.1
  have eP : qP Q = p := nI_inj (by omega) (by omega) (c10.symm.trans r10)
  have eN : qN Q = bs := nI_inj (by omega) (by omega) (c9.symm.trans r9)
  have hN := hNM.nc
  refine q_link (P := p) (N := base) (B := t.2.2.1) r9' rb r8 (by omega) hPB hinj (fun B9' D9' l1 l2 l3 l4 => k B9' D9' ⟨?_, by rw [eP]; exact r10', by rw [eN]; exact r9', fun b hb => ?_, fun b b' hb hb' => ?_, fun q hq => ?_, fun q s hq hs b => ?_⟩ ?_ l3 l4)
  · obtain ⟨n1, n2, n3, n4, n5⟩ := hNM
    refine ⟨n1, n2, n3, n4, ?_⟩
    unfold NR; rw [l3 1 (by decide), l3 2 (by decide), l3 3 (by decide), l3 4 (by decide)]; exact n5
  · rw [eN] at hb
    obtain ⟨b6, b10, b11, b12, b7, b8, b9, b9'⟩ := cq b (by omega)
    obtain ⟨w1, w2, w3, w4, w5, w6⟩ := hW.2.2.1 b (by omega)
    obtain ⟨m, m1, m2, m3, m4, m5, m6, m7, m8, m9⟩ := hBR b hb
    obtain ⟨q, base', pt, sz, Bq, kk, u1, u2, u3, u4, u5, u6, u7, u8, u9, u10⟩ := hPB b hb
    have em : m = base' + kk := nI_inj (by omega) (by omega) (m2.symm.trans u7)
    have hsz := u2.1
    have hbs140 := u3.2.2.2.2.1
    have hpt := u3.2.2.2.2.2.2
    have hq4 := u3.2.2.2.2.2.1
    obtain ⟨n1, n2, n3, n4, r0, nr1, nr2, nr3, nr4, nr5, nr6⟩ := id hNM
    have K : ∀ (x : Nat) (y : Int32), y = nI x → x ≤ 5 → (qK Q b = x → t.2.2.1 6 b = y) := fun x y hy _ e => by rw [b6, e, hy]
    have vv : ∀ j, j < 8 → t.2.2.1 8 b = nI j → d.2.2.2.1 j = 1 → (qK Q b = 0 ∨ qK Q b = 3) → B9 1 j = nI (qV Q b) := by
      intro j hj ej kj g
      obtain ⟨v, hv, e1, e2⟩ := nr2 j hj kj
      have x8 := (hN.v (w5 g)).2.1
      have ex : xv d (qV Q b) = j := nI_inj (by omega) (by omega) ((b8 g).symm.trans ej)
      have ev' : xv d v = j := by unfold xv; exact clI e1 (by omega)
      rw [e2, hN.vi hv (w5 g) (ev'.trans ex.symm)]
    have hf : kpv Bq sz kk = 0 → qH Q b = false := fun e => by
      have e1 := (b12.symm.trans u9).trans e
      cases e2 : qH Q b
      · rfl
      · rw [e2] at e1; exact absurd e1 (by decide)
    have hf1 : kpv Bq sz kk = 1 ↔ qH Q b = true := by
      rw [← u9, b12]
      cases e2 : qH Q b
      · exact ⟨fun z => absurd z (by decide), fun z => absurd z (by decide)⟩
      · exact ⟨fun _ => rfl, fun _ => rfl⟩
    refine ⟨m, by omega, by rw [l3 18 (by decide)]; exact m2, by rw [l3 5 (by decide), m3]; exact b6, by rw [l3 6 (by decide), m4]; exact b10, by rw [l1 b m hb m2 (by omega)]; exact b11, fun g => ?_, fun g => ?_, fun g => ?_, fun g => ?_, fun g => ?_, fun g => ?_, fun g => ?_⟩
    · obtain ⟨j, j8, ej, kj, e12⟩ := m6 (K 0 0 rfl (by omega) g)
      rw [l3 12 (by decide), e12]; exact vv j j8 ej kj (Or.inl g)
    · have g' : t.2.2.1 6 b = 2 ∨ t.2.2.1 6 b = 3 := g.imp (K 2 2 rfl (by omega)) (K 3 3 rfl (by omega))
      obtain ⟨j, j8, ej, kj, e12⟩ := m7 g'
      obtain ⟨v, hv, e1, e2⟩ := nr5 j j8 kj
      have x8 := (hN.c (w4 g)).2.1
      have ex : xc d (qC Q b) = j := nI_inj (by omega) (by omega) ((b7 g).symm.trans ej)
      have ev' : xc d v = j := by unfold xc; exact clI e1 (by omega)
      rw [l3 12 (by decide), e12, e2, hN.ci hv (w4 g) (ev'.trans ex.symm)]
    · obtain ⟨j, j8, ej, kj, e13⟩ := m8 (K 3 3 rfl (by omega) g)
      rw [l3 13 (by decide), e13]; exact vv j j8 ej kj (Or.inr g)
    · obtain ⟨lb, z1, z2, z3, z4⟩ := b9 g
      rw [l3 14 (by decide), l3 15 (by decide), l3 24 (by decide)]
      rcases m9 with ⟨e, _⟩ | ⟨lb', cb, out, y1, y2, y3, y4, y5, y6, y7, y8, y9, y10, y11, y12, _⟩
      · rw [z1] at e; exact absurd e (nI_m1 (by omega))
      · have elb : lb' = lb := nI_inj (by omega) (by omega) (y1.symm.trans z1)
        subst elb
        have eo : out = qT Q b := rep_uniq y2 z3 y9 (w6 g).1
        subst eo
        exact ⟨cb, y4, y5, y6, by omega, y8⟩
    · rw [l3 14 (by decide), l3 15 (by decide)]
      rcases m9 with ⟨_, ⟨x, x0, x1, x2⟩, _⟩ | ⟨lb', cb, out, y1, _⟩
      · exact ⟨x, x0, x1, x2⟩
      · have := b9' g
        rw [this] at y1; exact absurd y1.symm (nI_m1 (by
          rcases Nat.lt_or_ge lb' 100001 with hh | hh
          · omega
          · omega))
    · rw [l3 10 (by decide), em, (u3.1 kk u5).2.2.2.1] at g
      have h21 := ((off_neg (u2.o21 kk u5) (by omega) (by omega)).1).mp g
      refine hf ?_
      unfold kpv
      rw [if_neg (fun z => z.1 h21)]
    · rw [l3 10 (by decide), em, (u3.1 kk u5).2.2.2.1] at g
      have h21 : ¬ Bq 21 kk = -1 := fun e => g (((off_neg (u2.o21 kk u5) (by omega) (by omega)).1).mpr e)
      have eA : qA Q b = q := by
        have e1 : B9 6 m = nI q := by rw [em]; exact (u3.1 kk u5).2.2.2.2.2
        rw [m4, b10] at e1
        exact nI_inj (by omega) (by omega) e1
      rw [eA, l3 20 (by decide), l3 23 (by decide), l3 10 (by decide)]
      refine ⟨pt, hpt, u3.2.2.2.1, fun hle => ?_, fun hlt => ?_⟩
      · -- it leads to no point, or to none inside
        rw [b11] at u8
        have hnn : stl Bq sz (beh Bq (nI kk)) < 0 := by
          rcases stl_ok u2 (beh_okX u2 u5) with w | w | w | ⟨j, hj, w, hk3⟩
          · rw [w]; decide
          · rw [w]; decide
          · rw [w]; decide
          · exfalso
            obtain ⟨_, _, _, s4, _⟩ := u3.2.1 j hj
            obtain ⟨q', q1, q2, q3⟩ := s4 (by rcases hk3 with g | g | g <;> rw [g] <;> decide)
            unfold pnt at u8
            rw [w, if_neg (nI_pos (by omega)), clI rfl (by omega), q2] at u8
            have := nI_inj (by omega) (by omega) u8
            omega
        refine hf ?_
        unfold kpv
        rw [if_neg (fun z => z.2.1 hnn)]
      · rw [b11] at u8
        unfold pnt at u8
        rcases stl_ok u2 (beh_okX u2 u5) with w | w | w | ⟨j, hj, w, hk3⟩
        · rw [w, if_pos (by decide)] at u8
          have := nI_inj (by omega) (by omega) u8; omega
        · rw [w, if_pos (by decide)] at u8
          have := nI_inj (by omega) (by omega) u8; omega
        · rw [w, if_pos (by decide)] at u8
          have := nI_inj (by omega) (by omega) u8; omega
        · obtain ⟨_, _, _, s4, _⟩ := u3.2.1 j hj
          obtain ⟨q', q1, q2, q3⟩ := s4 (by rcases hk3 with g | g | g <;> rw [g] <;> decide)
          rw [w, if_neg (nI_pos (by omega)), clI rfl (by omega), q2] at u8
          have eF := nI_inj (by omega) (by omega) u8
          refine ⟨base' + j, by omega, by rw [eF]; exact q3, ?_⟩
          rw [em, (u3.1 j hj).2.2.2.1, (u3.1 kk u5).2.2.2.1, off_inj (u2.o21 j hj) (u2.o21 kk u5) (by omega) (by omega)]
          rw [← hf1]
          unfold kpv
          rw [w, clI rfl (by omega)]
          constructor
          · intro e; rw [if_pos ⟨h21, nI_pos (by omega), e⟩]
          · intro e
            by_cases e2 : Bq 21 j = Bq 21 kk
            · exact e2
            · rw [if_neg (fun z => e2 z.2.2)] at e; exact absurd e (by decide)
  · rw [l3 18 (by decide)]
    rw [eN] at hb hb'
    exact hinj b b' hb hb'
  · rw [eP] at hq
    obtain ⟨base', pt, sz, Bq, u2, u0, u3, _⟩ := hPP q hq
    have hpt := u3.2.2.2.2.2.2
    refine ⟨pt, hpt, by rw [l3 20 (by decide)]; exact u3.2.2.2.1, fun b => ?_⟩
    cases e : qM Q q pt b
    · rfl
    · exfalso
      rw [← cD1 q pt (by omega) (by omega) b, hD1 _ (by omega)] at e
      obtain ⟨q', pt', x, x1, x4, x2, x3, x5, x6⟩ := fdv_bt hPB rb bs _ (Nat.le_refl _) e
      have eq' : q' = q := by omega
      subst eq'
      have : pt' = pt := nI_inj (by omega) (by omega) (x3.symm.trans u3.2.2.2.1)
      omega
  · rw [l2 _ (by omega), ← hD1 _ (by omega)]; exact cD1 q s hq hs b
  · intro q hq B1 P hB1 hP
    rw [eP] at hq
    obtain ⟨base', pt, sz, Bq, u2, u0, u3, u4, u5, u6, _⟩ := hPP q hq
    have hb' := u3.2.2.2.2.1
    have e21 : B1 21 q = off base' (nI 0) := by rw [hB1 21 (by decide), l3 21 (by decide), u5, off_n (by omega), Nat.add_zero]
    rw [e21]
    have hR1 : RT base' q pt sz Bq B1 := RT_cg u3 (fun r hr => by
      rw [hB1 r (by simp at hr ⊢; omega), l3 r (by simp at hr; omega)])
    have hx : okX (nI 0) sz := Or.inr (Or.inr ⟨0, u0, rfl⟩)
    refine q_instead hR1 u2 r8 (by omega) (by omega) hx (by decide) ?_
    refine q_pointOf hR1 u2 hx ?_
    rw [← u6, c13 q (by omega)]; exact hP
theorem zmixE {α : Type} {n : Nat} {f g : Nat → α} (h : ∀ k, ¬ k < n → f k = g k) : zmix n f g = f := funext (fun k => by
  unfold zmix; split
  · rfl
  · exact (h k ‹_›).symm)
theorem zd3x {D' : Nat → Nat → Int64} {x : Nat → Int64} : ∀ k, k < 3 → va_up (zmix 3 D' D) 3 x k = D' k := fun k hk => by
  have : ¬ k = 3 := by omega
  simp [va_up, this, zl hk]
/-- the reference's fields after a reading -/
def NG (q e g : Int32) (I9 : Nat → Int32) : Prop := I9 0 = e ∧ I9 1 = 0 ∧ I9 4 = q ∧ I9 5 = g ∧ I9 18 = 0 ∧ I9 24 = -1 ∧ I9 26 = -1
theorem KK_non {sh : Bool} {q e : Int32} (h : NG q e 0 I9) (c0 : I 0 = -1) (c1 : I 1 = 0) (c2 : I 2 = 0) (c3 : I 3 = 0) (c6 : I 6 = q) (c38 : sh = true → I 38 = 0) : KK sh I J B D I9 J9 B9 D9 := by
  obtain ⟨h0, h1, h4, h5, h18, h24, h26⟩ := h
  exact ⟨⟨0, by omega, c3, h1, fun k hk => absurd hk (by omega), fun k hk => absurd hk (by omega)⟩, c6.trans h4.symm, Or.inl ⟨c1, h5, c2, h18, c0, h26, h24, c38⟩⟩
theorem KK_new {sh : Bool} {q e : Int32} {d : zD} {Q : zQ} {X : zG} {mc : Nat} {LP : Nat → Int32} (h : NG q e 1 I9) (hK : KM d Q X mc LP I J B D I9 B9 D9) (c0 : I 0 = -1) (c1 : I 1 = 1) (c2 : I 2 = 0) (c3 : I 3 = 0) (c6 : I 6 = q) (c38 : sh = true → I 38 = 0) : KK sh I J B D I9 J9 B9 D9 := by
  obtain ⟨h0, h1, h4, h5, h18, h24, h26⟩ := h
  exact ⟨⟨0, by omega, c3, h1, fun k hk => absurd hk (by omega), fun k hk => absurd hk (by omega)⟩, c6.trans h4.symm, Or.inr ⟨c1, h5, d, Q, X, mc, LP, hK, Or.inl ⟨c0, h26⟩, Or.inl ⟨c2, h18⟩, Or.inl ⟨h24, c38⟩⟩⟩
theorem r_model_bad {Post : Int32 → (Nat → Int32) → (Nat → Int64) → (Nat → Nat → Int32) → (Nat → Nat → Int64) → Prop} {f : Nat → Int32} {n : Nat} {s : zS} {q : Int32} (h1 : I9 1 = nI n) (hn : n ≤ 240) (h0 : ∀ k, k < n → B9 0 k = f k) (hok : okC f n) (hM : MBAD f n s q) (k : ∀ I9' B9', NG q 1 0 I9' → Post 0 I9' J9 B9' D9) : wp_LassoFinderModel_model I9 J9 B9 D9 Post := by
  refine r_whole_bad (f := f) (n := n) (by simp [upd]; exact h1) hn h0 hok hM (fun I7 B7 hF e3 => ⟨fun _ => ⟨fun _ => ⟨fun z => absurd rfl z, fun _ => k _ _ ?_⟩, fun z => absurd rfl z⟩, fun z => absurd rfl z⟩)
  refine ⟨by simp [upd], by simp [upd], by simp [upd]; exact e3, ?_, ?_, ?_, ?_⟩
  · have := hF.1 5 (by decide); simp [upd] at this ⊢; exact this
  · have := hF.1 18 (by decide); simp [upd] at this ⊢; exact this
  · have := hF.1 24 (by decide); simp [upd] at this ⊢; exact this
  · have := hF.1 26 (by decide); simp [upd] at this ⊢; exact this
theorem r_model_ok {Post : Int32 → (Nat → Int32) → (Nat → Int64) → (Nat → Nat → Int32) → (Nat → Nat → Int64) → Prop} {f : Nat → Int32} {n : Nat} {s t : zS} {d : zD} {s1 : zS} {Q : zQ} (h1 : I9 1 = nI n) (hn : n ≤ 240) (h0 : ∀ k, k < n → B9 0 k = f k) (hok : okC f n) (hM : MAT f n s t d s1) (hend : t.1 5 = nI n) (hW : QW d Q) (hC : PC d Q t.1 t.2.1 t.2.2.1 t.2.2.2)
    (k0 : gall d Q = none → ∀ I9' B9' D9', NG (-1) 2 0 I9' → Post 0 I9' J9 B9' D9')
    (k1 : ∀ X mc r I9' B9' D9', gall d Q = some X → mc ≤ 240 → okLP (t.2.2.1 14) → r = nI (gN X) → (PR d Q I9' B9' D9' ∧ RG9 d Q X I9' B9' D9' ∧ (∀ j, j ≤ gN X → B9' 29 j = nI (gF X j)) ∧ RT9 X B9' ∧ kn9 B9' d.2.2.2.1 ∧ I9' 22 = nI mc ∧ COD mc Q B9' ∧ HLx (qP Q) (t.2.2.1 14) I9' B9') → NG (-1) 0 1 I9' → Post r I9' J9 B9' D9') : wp_LassoFinderModel_model I9 J9 B9 D9 Post := by
  refine r_whole_ok (f := f) (n := n) (by simp [upd]; exact h1) hn h0 hok hM hend (fun I7 B7 hR hNM hF => ⟨fun z => absurd z (by decide), fun _ => ⟨fun z => absurd z (by decide), fun _ => ⟨fun _ => ?_, fun z => absurd z (by decide)⟩⟩⟩)
  obtain ⟨mc, m1, m2, m3, m4⟩ := RM_c hR hC hW
  obtain ⟨l1, l2⟩ := RM_l hR hC.2.2.1 hW.1
  have f5 := hF.1 5 (by decide)
  have f18 := hF.1 18 (by decide)
  have f24 := hF.1 24 (by decide)
  have f26 := hF.1 26 (by decide)
  simp [upd] at f5 f18 f24 f26
  have hNM' : NM d (upd (upd (upd (upd I7 4 (-1)) 1 0) 0 0) 22 (upd (upd I7 4 (-1)) 1 0 11)) B7 := by
    obtain ⟨n1, n2, n3⟩ := hNM
    exact ⟨by simp [upd]; exact n1, by simp [upd]; exact n2, n3⟩
  refine r_linkR hW hC hR (by simp [upd]) (by simp [upd]) (by simp [upd]) hNM' (fun B8 D8 hPR hst g1 g2 => r_reach hW hPR hst (fun hg I4 B4 D4 hX => ⟨Or.inl rfl, fun _ => ⟨fun _ => k0 hg _ _ _ ?_, fun z => absurd (by simp [upd]) z⟩, fun z => absurd rfl z⟩) (fun X I4 B4 D4 hg hXI hRG h29 hRT hX h16 => ⟨Or.inr rfl, fun z => absurd z (by decide), fun _ => ⟨fun z => absurd z (by simp [upd]), fun _ => k1 X mc _ _ _ _ hg m1 l2 ?_ ⟨?_, ?_, h29, hRT, ?_, ?_, ?_, ?_⟩ ?_⟩⟩))
  · have x1 := hX.1 1 (by decide)
    have x4 := hX.1 4 (by decide)
    have x18 := hX.1 18 (by decide)
    have x24 := hX.1 24 (by decide)
    have x26 := hX.1 26 (by decide)
    simp [upd] at x1 x4 x18 x24 x26
    exact ⟨by simp [upd], by simp [upd]; exact x1, by simp [upd]; exact x4, by simp [upd], by simp [upd]; exact x18.trans f18, by simp [upd]; exact x24.trans f24, by simp [upd]; exact x26.trans f26⟩
  · simp [upd]; exact hRG.1
  · have hc : COD mc Q B4 := by
      unfold COD; rw [hX.2.1 18 (by decide), hX.2.1 15 (by decide), g1 18 (by decide), g1 15 (by decide)]; exact m3
    exact (hPR.fx hX).cg hc m1 (fun k hk => by simp at hk; rcases hk with e | e | e | e <;> simp [upd, e]) (fun _ _ _ => rfl) (fun _ _ => rfl) rfl
  · obtain ⟨e1, e2, e3, e4⟩ := hRG
    exact ⟨by simp [upd]; exact e1, by simp [upd]; exact e2, e3, e4⟩
  · unfold kn9; rw [hX.2.1 1 (by decide), hX.2.1 2 (by decide), g1 1 (by decide), g1 2 (by decide)]; exact m4
  · have x22 := hX.1 22 (by decide)
    simp [upd] at x22 ⊢
    exact x22.trans m2
  · unfold COD; rw [hX.2.1 18 (by decide), hX.2.1 15 (by decide), g1 18 (by decide), g1 15 (by decide)]; exact m3
  · have x8 := hX.1 8 (by decide)
    simp [upd] at x8
    exact l1.cg (by simp [upd]; exact x8) (fun k hk => by rw [hX.2.1 k (by simp at hk ⊢; omega), g1 k (by simp at hk; omega)])
  · have x1 := hX.1 1 (by decide)
    have x4 := hX.1 4 (by decide)
    have x18 := hX.1 18 (by decide)
    have x24 := hX.1 24 (by decide)
    have x26 := hX.1 26 (by decide)
    simp [upd] at x1 x4 x18 x24 x26
    exact ⟨by simp [upd], by simp [upd]; exact x1, by simp [upd]; exact x4, by simp [upd], by simp [upd]; exact x18.trans f18, by simp [upd]; exact x24.trans f24, by simp [upd]; exact x26.trans f26⟩
/-- the class explores, then the reference reads -/
theorem c_expl {Post : Int32 → (Nat → Int32) → (Nat → Int64) → (Nat → Nat → Int32) → (Nat → Nat → Int64) → Prop} {f : Nat → Int32} {n : Nat} {s : zS} {d : zD} {s1 : zS} (h1 : I9 1 = nI n) (hn : n ≤ 240) (h0 : ∀ k, k < n → B9 0 k = f k) (hok : okC f n) (hM : MAT f n s (I, J, B, D) d s1) (hCM : CM f n d.2.2.2.1 (I, J, B, D)) (hend : I 5 = nI n)
    (k0 : ∀ I' J' B' D', FX I J B D I' J' B' D' → (∀ P : Int32 → (Nat → Int32) → (Nat → Int64) → (Nat → Nat → Int32) → (Nat → Nat → Int64) → Prop, (∀ I9' B9' D9', NG (-1) 2 0 I9' → P 0 I9' J9 B9' D9') → wp_LassoFinderModel_model I9 J9 B9 D9 P) → Post 0 I' J' B' D')
    (k1 : ∀ Q X LP I' J' B' D', FX I J B D I' J' B' D' → I' 19 = nI (gN X) → (∀ P : Int32 → (Nat → Int32) → (Nat → Int64) → (Nat → Nat → Int32) → (Nat → Nat → Int64) → Prop, (∀ mc r I9' B9' D9', r = nI (gN X) → KM d Q X mc LP I' J' B' D' I9' B9' D9' → NG (-1) 0 1 I9' → P r I9' J9 B9' D9') → wp_LassoFinderModel_model I9 J9 B9 D9 P) → Post 1 I' J' B' D') : wp_Graph_explore I J B D Post := by
  obtain ⟨hN, Q, hW, hC⟩ := mkQ hM hCM
  have hP1 := MAT_1 hM hend hn hC.2.2.1 hW.1
  have hk2 : ∀ j, j < 8 → B 2 j = d.2.2.2.1 j := by
    obtain ⟨_, _, _, _, _, _, _, _, _, _, _, g⟩ := hCM
    exact g
  refine q_explore hN hW hC (fun hg I' J' B' D' hF => k0 _ _ _ _ hF (fun P hP => r_model_ok h1 hn h0 hok hM hend hW hC (fun _ => hP) (fun X _ _ _ _ _ hg' => absurd (hg.symm.trans hg') (by simp)))) (fun X I' J' B' D' hg hX hG hG32 hF => q_turnRound hX hG (fun B2 hT hB2 => ⟨Or.inr rfl, ?_⟩))
  have hF2 : FX I J B D I' J' B2 D' := ⟨hF.1, hF.2.1, fun k hk => (hB2 k (by simp at hk ⊢; omega)).trans (hF.2.2.1 k hk), hF.2.2.2⟩
  refine k1 Q X (B 14) I' J' B2 D' hF2 hG.1 (fun P hP => r_model_ok h1 hn h0 hok hM hend hW hC (fun hg' => absurd (hg'.symm.trans hg) (by simp)) (fun X' mc r I9' B9' D9' hg' hmc hLP er hR hNG => ?_))
  have eX : X' = X := by
    have := hg'.symm.trans hg
    exact Option.some.inj this
  subst eX
  have hP2 := hC.fx hF2
  obtain ⟨c1, c2, c3, c4⟩ := hG
  refine hP mc r I9' B9' D9' er ⟨⟨hN, hW, hg, hP1, hmc, hLP⟩, ⟨hP2, fun j hj => by rw [hF2.2.2.1 2 (by decide)]; exact hk2 j hj, ⟨c1, c2, c3, fun j hj => by rw [hB2 33 (by decide), hB2 34 (by decide), hB2 35 (by decide), hB2 36 (by decide)]; exact c4 j hj⟩, fun j hj => by rw [hB2 32 (by decide)]; exact hG32.1 j hj, hT, fun j _ => by rw [hF2.2.2.1 14 (by decide)]⟩, hR⟩ hNG
theorem bst_6 {f : Nat → Int32} {n : Nat} {kd : Nat → Int32} {s t : zBo} (h : bst f n kd s t) : t.2.2.1 6 = s.2.2.1 6 := by
  obtain ⟨a, sz, bs, ln, bk, nd, lt, fr, I, I', J, J', B, B', D, D', _, h⟩ := h
  rcases h with ⟨rfl, rfl, _, _, _, h1, _⟩ | ⟨kk, I1, rfl, rfl, _, h1, h2⟩ | ⟨I1, rfl, rfl, _, _, _, h1, h2⟩ | ⟨I1, B1, rfl, rfl, _, _, _, h1, h2, _⟩ | ⟨pk, ch, vr, ex, out, a', rfl, rfl, _, _, _, h⟩ | ⟨rfl, rfl, _, h1⟩ | ⟨rfl, rfl, _, h1⟩ | ⟨rfl, rfl, _, _, h1⟩
  · exact h1.2 6 (by decide)
  · have : I1 6 = I 6 := by
      rcases h1 with ⟨_, _, _, w⟩ | ⟨_, _, _, _, w⟩ | ⟨_, _, _, w⟩ <;> exact w.2 6 (by decide)
    exact (h2.2.2.1 6 (by decide)).trans this
  · exact (h2.2.2.1 6 (by decide)).trans (h1.2 6 (by decide))
  · exact (h2.2.2.1 6 (by decide)).trans (h1.2 6 (by decide))
  · obtain ⟨b1, b2, b3, b4, b5, b6, _⟩ := h
    exact b6 6 (by decide)
  · exact h1.2 6 (by decide)
  · exact h1.2 6 (by decide)
  · exact h1.2 6 (by decide)
theorem MAT_6 {f : Nat → Int32} {n : Nat} {s t : zS} {d : zD} {s1 : zS} (h : MAT f n s t d s1) : t.1 6 = s.1 6 := by
  obtain ⟨_, _, _, m4, _, _, m7⟩ := h
  have e := m7 (fun u => u.1 6 = s1.1 6) rfl (fun u v c g => by
    obtain ⟨a, p, bs0, a1, sz, pt, v, I1, J1, B1, D1, B2, D2, k1, k2, k3, k4, k5, k6, rfl⟩ := g
    have := k2 (fun w => w.2.2.1 6 = (p0 a u).2.2.1 6) rfl (fun x y c g => (bst_6 g).trans c)
    simp [p0, upd] at this
    simp [upd]; exact this.trans c)
  have e2 := m4.1 6 (by decide)
  simp [s00, upd] at e2
  exact e.trans e2
theorem lc1N {a b : Int32} (h : KK false I J B D I9 J9 B9 D9) : lc1_N (KK false) a b I J B D I9 J9 B9 D9 := by
  obtain ⟨n, hn, t3, t1, tok, t0⟩ := h.1
  refine q_readAll (f := B 1) (n := n) ⟨by simp [upd]; rfl, by simp [upd]; exact t3, by omega, hn, fun _ _ => rfl, tok⟩ (fun I3 J3 B3 D3 hMOK hF => ?_) (fun q I3 J3 B3 D3 hB hF e6 => ?_)
  · obtain ⟨d, s1, hM, hCM, hend⟩ := hMOK
    have f6 := MAT_6 hM
    have f0 := hF.1 0 (by omega)
    have f1 := hF.1 1 (by omega)
    have f2 := hF.1 2 (by omega)
    have f3 := hF.1 3 (by omega)
    have f38 := hF.1 38 (by omega)
    simp [zmix, upd] at f0 f1 f2 f3 f6 f38
    refine c_expl (f := B 1) (J9 := J9) (D9 := D9) t1 hn t0 tok hM hCM hend (fun I4 J4 B4 D4 hX hk => ⟨fun z => absurd rfl z, fun _ => ?_⟩) (fun Q X LP I4 J4 B4 D4 hX e19 hk => ⟨fun _ z2 e2 => ⟨vin2 (show (0 : Int32) = nI 0 from rfl) (by omega) (by omega), ?_⟩, fun z => absurd z (by decide)⟩)
    · refine ⟨fun z => absurd z (by decide), fun _ => ?_, Or.inr rfl⟩
      refine hk _ (fun I9' B9' D9' hG => ⟨fun _ => ⟨fun _ => KK_non hG ((hX.1 0 (by decide)).trans f0) ((hX.1 1 (by decide)).trans f1) ((hX.1 2 (by decide)).trans f2) ((hX.1 3 (by decide)).trans f3) ((hX.1 6 (by decide)).trans f6) (fun _ => absurd ‹_› (by decide)), fun z => absurd z (by decide)⟩, fun z => z hG.1⟩)
    · refine hk _ (fun mc r I9' B9' D9' er hKM hG => ⟨fun _ => ⟨fun z => absurd rfl z, fun _ z6 e6 z7 e7 z8 e8 => ?_⟩, fun z => z hG.1⟩)
      have d6 := rd3 e6
      have eq : z8 = 0 := by rw [e8, e7, d6, e2, er, e19]; exact (cmp0 _ _).mpr rfl
      refine ⟨fun _ => KK_new hG (hKM.cg (fun k hk => by simp at hk; rcases hk with e | e | e | e | e | e | e <;> simp [upd, e]) rfl (fun _ _ => rfl) (fun k hk => zd3x k hk) (fun _ _ => rfl) (fun _ _ => rfl) (fun _ _ => rfl) (fun _ _ => rfl)) ?_ ?_ ?_ ?_ ?_ ?_, fun z => z eq⟩
      · simp [upd]; exact (hX.1 0 (by decide)).trans f0
      · simp [upd]
      · simp [upd]; exact (hX.1 2 (by decide)).trans f2
      · simp [upd]; exact (hX.1 3 (by decide)).trans f3
      · simp [upd]; exact (hX.1 6 (by decide)).trans f6
      · intro _; simp [upd]; exact absurd ‹_› (by decide)
  · have f0 := hF.1 0 (by omega)
    have f1 := hF.1 1 (by omega)
    have f2 := hF.1 2 (by omega)
    have f3 := hF.1 3 (by omega)
    have f38 := hF.1 38 (by omega)
    simp [zmix, upd] at f0 f1 f2 f3 f38
    refine ⟨fun _ => ?_, fun z => absurd z (by decide), Or.inl rfl⟩
    exact r_model_bad t1 hn t0 tok hB (fun I9' B9' hG => ⟨fun _ => ⟨fun _ => KK_non hG f0 f1 f2 f3 e6 (fun _ => absurd ‹_› (by decide)), fun z => absurd z (by decide)⟩, fun z => z hG.1⟩)
theorem lc1S {a b : Int32} (h : KK true I J B D I9 J9 B9 D9) : lc1_S (KK true) a b I J B D I9 J9 B9 D9 := by
  obtain ⟨n, hn, t3, t1, tok, t0⟩ := h.1
  refine q_readAll (f := B 1) (n := n) ⟨by simp [zmix, upd]; rfl, by simp [zmix, upd]; exact t3, by omega, hn, fun _ _ => rfl, tok⟩ (fun I3 J3 B3 D3 hMOK hF => ?_) (fun q I3 J3 B3 D3 hB hF e6 => ?_)
  · obtain ⟨d, s1, hM, hCM, hend⟩ := hMOK
    have f6 := MAT_6 hM
    have f0 := hF.1 0 (by omega)
    have f1 := hF.1 1 (by omega)
    have f2 := hF.1 2 (by omega)
    have f3 := hF.1 3 (by omega)
    have f38 := hF.1 38 (by omega)
    simp [zmix, upd] at f0 f1 f2 f3 f6 f38
    rw [zmixE (n := 32) (f := I3) (fun k hk => hF.1 k (by omega)), zmixE (n := 50) (f := B3) (fun k hk => hF.2.2.1 k (by omega))]
    refine c_expl (f := B 1) (J9 := J9) (D9 := D9) t1 hn t0 tok hM hCM hend (fun I4 J4 B4 D4 hX hk => ⟨fun z => absurd rfl z, fun _ => ?_⟩) (fun Q X LP I4 J4 B4 D4 hX e19 hk => ⟨fun _ z2 e2 => ⟨vin2 (show (0 : Int32) = nI 0 from rfl) (by omega) (by omega), ?_⟩, fun z => absurd z (by decide)⟩)
    · refine ⟨fun z => absurd z (by decide), fun _ => ?_, Or.inr rfl⟩
      rw [zmixE (n := 32) (f := I4) (fun k hk => hX.1 k (by simp; omega)), zmixE (n := 50) (f := B4) (fun k hk => hX.2.2.1 k (by simp; omega))]
      refine hk _ (fun I9' B9' D9' hG => ⟨fun _ => ⟨fun _ => KK_non hG ((hX.1 0 (by decide)).trans f0) ((hX.1 1 (by decide)).trans f1) ((hX.1 2 (by decide)).trans f2) ((hX.1 3 (by decide)).trans f3) ((hX.1 6 (by decide)).trans f6) (fun _ => (hX.1 38 (by decide)).trans f38), fun z => absurd z (by decide)⟩, fun z => z hG.1⟩)
    · rw [zmixE (n := 32) (f := I4) (fun k hk => hX.1 k (by simp; omega))] at e2
      rw [zmixE (n := 32) (f := I4) (fun k hk => hX.1 k (by simp; omega)), zmixE (n := 50) (f := B4) (fun k hk => hX.2.2.1 k (by simp; omega))]
      refine hk _ (fun mc r I9' B9' D9' er hKM hG => ⟨fun _ => ⟨fun z => absurd rfl z, fun _ z6 e6 z7 e7 z8 e8 => ?_⟩, fun z => z hG.1⟩)
      have d6 := rd3 e6
      have eq : z8 = 0 := by rw [e8, e7, d6, e2, er, e19]; exact (cmp0 _ _).mpr rfl
      refine ⟨fun _ => KK_new hG (hKM.cg (fun k hk => by simp at hk; rcases hk with e | e | e | e | e | e | e <;> simp [upd, e]) rfl (fun _ _ => rfl) (fun k hk => zd3x k hk) (fun _ _ => rfl) (fun _ _ => rfl) (fun _ _ => rfl) (fun _ _ => rfl)) ?_ ?_ ?_ ?_ ?_ ?_, fun z => z eq⟩
      · simp [upd]; exact (hX.1 0 (by decide)).trans f0
      · simp [upd]
      · simp [upd]; exact (hX.1 2 (by decide)).trans f2
      · simp [upd]; exact (hX.1 3 (by decide)).trans f3
      · simp [upd]; exact (hX.1 6 (by decide)).trans f6
      · intro _; simp [upd]; exact (hX.1 38 (by decide)).trans f38
  · have f0 := hF.1 0 (by omega)
    have f1 := hF.1 1 (by omega)
    have f2 := hF.1 2 (by omega)
    have f3 := hF.1 3 (by omega)
    have f38 := hF.1 38 (by omega)
    simp [zmix, upd] at f0 f1 f2 f3 f38
    rw [zmixE (n := 32) (f := I3) (fun k hk => hF.1 k (by omega)), zmixE (n := 50) (f := B3) (fun k hk => hF.2.2.1 k (by omega))]
    refine ⟨fun _ => ?_, fun z => absurd z (by decide), Or.inl rfl⟩
    exact r_model_bad t1 hn t0 tok hB (fun I9' B9' hG => ⟨fun _ => ⟨fun _ => KK_non hG f0 f1 f2 f3 e6 (fun _ => f38), fun z => absurd z (by decide)⟩, fun z => z hG.1⟩)
end ZT8
