/-! Expressions: the reference's turn behind a part, and the whole loop. -/
section ZY3
variable {I : Nat → Int32} {J : Nat → Int64} {B : Nat → Nat → Int32} {D : Nat → Nat → Int64}
theorem sg_1 {x : Int32} (h : sg x = 1) : x = 16 ∨ x = 17 := by
  unfold sg at h
  split at h
  · assumption
  · split at h
    · omega
    · split at h <;> omega
theorem r_turn0 {Post : Int32 → (Nat → Int32) → (Nat → Int64) → (Nat → Nat → Int32) → (Nat → Nat → Int64) → Prop} {K15 : Int32 → Int32 → Int32 → Int32 → Int32 → (Nat → Int32) → (Nat → Int64) → (Nat → Nat → Int32) → (Nat → Nat → Int64) → Prop} {f : Nat → Int32} {n b ob a0 a t : Nat} {kd : Nat → Int32} {st out : List Int32} {q o : Nat} (hb : b ≤ 240 + a0) (hN : NI n ob a0 (0, a, st, out, q, o)) (hE : ME f n b I B (0, a, st, out, q, o)) (ht : t ≤ a)
    (kk : ∀ s' I' B', est f n kd ob (0, a, st, out, q, o) s' → FM b I B I' B' → ME f n b I' B' s' → K15 (nI ob) (nI s'.2.2.2.2.1) (nI s'.2.2.2.2.2) (nI s'.1) (nI (t + 1)) I' J B' D)
    (ks : estop f n ob (0, a, st, out, q, o) → sgn (tkn f n a) = -1 → o = ob → ∀ I' B', FM b I B I' B' → ME f n b I' B' (0, a, [], (popw 1 st out).2, q, o) → Post 1 I' J B' D)
    (kf : estop f n ob (0, a, st, out, q, o) → (¬ sgn (tkn f n a) = -1 ∨ ob < o) → ∀ I' B', FM b I B I' B' → I' 2 = nI a → Post 0 (upd I' 3 (I' 2)) J B' D) : wb_LassoFinderModel_expression_15 (nI ob) K15 Post (nI ob) (nI q) (nI o) 0 (nI t) I J B D := by
  have hE1 : TY (B 0) f (I 2) (I 1) a n := hE.1
  obtain ⟨t1, t2, t3, t4⟩ := hE.2
  dsimp only at t1 t2 t3 t4
  have hn := hE1.2.2.2.1
  have han := hE1.2.2.1
  have ho4 : o ≤ 4 := hN.2.2.1
  have hln := NI_len hN
  have hd3 := hd_le st
  have hno := hN.2.1
  have hrm := NI_room9 hN hn hb
  have hst : okst st := hN.1
  dsimp only at hln hno hrm
  have h438 : ∀ (p' q' o' : Nat) (I' : Nat → Int32) (B' : Nat → Nat → Int32), K15 (nI ob) (nI q') (nI o') (nI p') (nI (t + 1)) I' J B' D → wc_LassoFinderModel_expression_438 (nI ob) K15 Post (nI ob) (nI q') (nI o') (nI p') (nI t) I' J B' D := by
    intro p' q' o' I' B' h z1 e1
    have : z1 = nI (t + 1) := inI rfl e1
    rw [this]; exact h
  -- what settling leaves
  have set : ∀ l : Nat, 1 ≤ l → l ≤ 3 → ∀ (Q : (Nat → Int32) → (Nat → Int64) → (Nat → Nat → Int32) → (Nat → Nat → Int64) → Prop), (∀ I' B', FM b I B I' B' → I' 2 = I 2 → I' 1 = I 1 → TS9 I' B' b (popw l st out).1 (popw l st out).2 → Q I' J B' D) → wp_LassoFinderModel_settle I J B D (nI l) Q := by
    intro l h1 h3 Q hQ
    refine ⟨_, q_settle h1 h3 (b := b) st out I B (okst_G hst) ⟨t1, t2, t3, t4⟩ (by omega) hrm ?_⟩
    intro I' B' f1 f2 f3 f4
    refine hQ I' B' ⟨fun k hk => f1 k ?_, fun k hk => f2 k ?_, f3⟩ (f1 2 (by decide)) (f1 1 (by decide)) f4
    · simp at hk ⊢; omega
    · simp at hk ⊢; omega
  have mety : ∀ (I' : Nat → Int32) (B' : Nat → Nat → Int32), FM b I B I' B' → I' 2 = I 2 → TY (B' 0) f (I' 2) (I' 1) a n := by
    intro I' B' hF h2
    obtain ⟨y1, y2, y3, y4, y5, y6⟩ := hE1
    exact ⟨by rw [h2]; exact y1, by rw [hF.1 1 (by decide)]; exact y2, y3, y4, by rw [hF.2.1 0 (by decide)]; exact y5, y6⟩
  refine ⟨fun g => ?_, fun _ => q_here hE1.tx (q_from (by decide) hE1.tx ?_)⟩
  · have g := (ltI hE1.2.1 rfl (by omega) (by omega)).mp g; omega
  rw [hE1.tk]
  -- a sign, or the end
  have w250 : ¬ (tkn f n a = 41 ∧ ob < o) → wc_LassoFinderModel_expression_250 (nI ob) K15 Post (nI ob) (nI q) (nI o) (nI t) (tkn f n a) I J B D := by
    intro h41
    have wend : sgn (tkn f n a) = -1 → wc_LassoFinderModel_expression_311 (nI ob) K15 Post (nI ob) (nI q) (nI o) (nI t) (-1) I J B D := by
      intro hs
      have hes : estop f n ob (0, a, st, out, q, o) := ⟨rfl, h41, Or.inl hs⟩
      refine ⟨fun g => absurd g (by decide), fun _ => set 1 (by omega) (by omega) _ ?_⟩
      intro I' B' hF h2 h1' hT
      rcases popw_1 st out hst with ⟨p1, p2⟩ | ⟨r, p1, p2, p3, p4⟩
      · have hob : o = ob := by omega
        have hm := ks hes hs hob I' B' hF ⟨mety I' B' hF h2, by rw [p1] at hT; exact hT⟩
        rw [p1] at hT
        refine ⟨fun _ => ⟨Or.inr rfl, hm⟩, fun g => absurd hT.1 g⟩
      · have hob : ob < o := by omega
        rw [p1] at hT
        have hm := kf hes (Or.inr hob) I' B' hF (by rw [h2]; exact hE1.1)
        refine ⟨fun g => ?_, fun _ => ⟨fun _ => ⟨Or.inl rfl, hm⟩, fun g => absurd rfl g⟩⟩
        have := (eqI hT.1 (y := 0) (b := 0) rfl (by have := (popw_len 1 st out).2; rw [p1] at this; omega) (by omega)).mp g
        simp at this
    have wsg : ¬ sgn (tkn f n a) = -1 → ∀ y, y = om (sgn (tkn f n a)) → wc_LassoFinderModel_expression_311 (nI ob) K15 Post (nI ob) (nI q) (nI o) (nI t) y I J B D := by
      intro hs y hy
      subst hy
      have hk := sgn_ok hs
      have hp := (sg_str hk).2.2
      have ha : a < n := tkn_lt (f := f) (c := tkn f n a) rfl (sgn_ne hs)
      generalize hx : sgn (tkn f n a) = x at hs hk hp ⊢
      have hom : 0 ≤ om x := by rcases hk with rfl | rfl | rfl | rfl | rfl <;> decide
      refine ⟨fun _ => q_strength (Or.inl hk) ?_, fun g => absurd hom g⟩
      have n21 : ¬ x = 21 := sg_neq hk
      -- behind settling
      have w362 : ∀ l : Nat, (2 ≤ sg x ∧ l = sg x) ∨ (sg x = 1 ∧ l = 2) → wc_LassoFinderModel_expression_362 (nI ob) K15 Post (nI ob) (nI q) (nI o) (nI t) (om x) (nI l) I J B D := by
        intro l hl
        refine set l (by omega) (by omega) _ ?_
        intro I' B' hF h2 h1' hT
        refine q_strength (Or.inl hk) ?_
        have hpl := popw_len l st out
        have hps := popw_st l (by omega) st out hst
        have hl6 := okst_len hps.1
        have hpc := popw_cb l (by omega) st out
        have push : ¬ ((x = 16 ∨ x = 17) ∧ hcm st) → wc_LassoFinderModel_expression_404 (nI ob) K15 Post (nI ob) (nI q) (nI o) (nI t) (om x) I' J B' D := by
          intro hc
          have hpw : popw (sg x) st out = popw l st out := by
            rcases hl with ⟨_, rfl⟩ | ⟨s1, rfl⟩
            · rfl
            · rw [s1]; exact popw_12 st out hst (fun z => hc ⟨sg_1 s1, z⟩)
          have hes : est f n kd ob (0, a, st, out, q, o) (1, a + 1, x :: (popw l st out).1, (popw l st out).2, q, o) := by
            refine Or.inr (Or.inr (Or.inr ⟨rfl, ?_, ?_, ?_⟩))
            · dsimp only; rw [hx]; exact hs
            · dsimp only; rw [hx]; exact hc
            · dsimp only; rw [hx, hpw]
          obtain ⟨u1, u2, u3, u4⟩ := hT
          refine ⟨vin2 u1 (by omega) (by omega), fun z2 e2 z3 e3 => ?_⟩
          have n2 := inI u1 e2
          have n3 : z3 = nI (a + 1) := inI (by show I' 2 = _; rw [h2]; exact hE1.1) e3
          rw [clI u1 (by omega)]
          refine h438 1 q o _ _ (kk _ _ _ hes (hF.tr ⟨fun k hk => ?_, fun k hk => ?_, fun k hk => ?_⟩) ⟨?_, ⟨?_, ?_, ?_, ?_⟩⟩)
          · simp at hk; simp [upd, hk]
          · simp at hk; simp [va_up, hk]
          · simp [va_up]
          · obtain ⟨y1, y2, y3, y4, y5, y6⟩ := mety I' B' hF h2
            exact ⟨n3, y2, ha, y4, y5, y6⟩
          · simp [upd, n2]
          · simp only [va_up, if_true, List.map_cons]
            exact rep_push u2 _ (by simp)
          · simpa [upd] using u3
          · simpa [va_up] using u4
        have hsg : nI (sg x) = 1 ↔ sg x = 1 := eqI rfl (y := 1) (b := 1) rfl (by omega) (by omega)
        refine ⟨fun g => push (fun z => g (hsg.mpr ?_)), fun g => ?_⟩
        · have := z.1; unfold sg; rw [if_pos this]
        have s1 := hsg.mp g
        have hl2 : l = 2 := by omega
        subst hl2
        cases hc : (popw 2 st out).1 with
        | nil =>
          rw [hc] at hT hpc
          have hn0 : ¬ hcm st := fun z => hpc.2.mpr z
          refine ⟨fun _ => push (fun z => hn0 z.2), fun g2 => absurd (by rw [hT.1]; decide) g2⟩
        | cons y r =>
          have hTT := hT
          rw [hc] at hT hpc hps hpl
          have hy : okG y := hps.1.2.1
          have hlr : r.length < 200 := by simp at hpl; omega
          obtain ⟨u1, u2, u3, u4⟩ := hT
          refine ⟨fun g2 => ?_, fun g2 z8 e8 => ?_⟩
          · have := (leI u1 (y := 0) (b := 0) rfl (by simp; omega) (by omega)).mp g2
            simp at this
          have n8 : z8 = nI r.length := deI (by simpa using u1) e8
          refine ⟨vin2 n8 (by omega) (by omega), fun z9 e9 => ?_⟩
          have h9 : z9 = om y := by rw [e9, clI n8 (by omega)]; have := u2.1; simpa using this
          subst h9
          refine q_strength hy ?_
          have hsy : nI (sg y) = 1 ↔ sg y = 1 := eqI rfl (y := 1) (b := 1) rfl (by have := @sg_le y; omega) (by omega)
          have h2y : sg y < 2 := hps.2.1
          refine ⟨fun g3 => push (fun z => g3 (hsy.mpr ?_)), fun g3 => ⟨Or.inl rfl, kf ⟨rfl, h41, Or.inr ⟨?_, ?_⟩⟩ (Or.inl ?_) I' B' hF (by rw [h2]; exact hE1.1)⟩⟩
          · have hc2 := (cb_lt hps.1).2.2 (hpc.2.mpr z.2)
            simp only [hd] at hc2; omega
          · dsimp only; rw [hx]; exact sg_1 s1
          · dsimp only
            have := sg_1 (hsy.mp g3)
            refine hpc.2.mp ⟨?_, Or.inl this⟩
            rcases this with rfl | rfl <;> decide
          · rw [hx]; exact hs
      have h2 : (2 : Int32) ≤ nI (sg x) ↔ 2 ≤ sg x := leI (x := 2) (a := 2) rfl rfl (by omega) (by omega)
      refine ⟨fun g => q_strength (Or.inl hk) (w362 (sg x) (Or.inl ⟨h2.mp g, rfl⟩)), fun g => w362 2 (Or.inr ⟨?_, rfl⟩)⟩
      have : ¬ 2 ≤ sg x := fun z => g (h2.mpr z)
      omega
    refine ⟨fun g1 => ⟨fun g2 => ⟨fun g3 => ⟨fun g4 => ⟨fun g5 => ?_, fun g5 => ?_⟩, fun g4 => ?_⟩, fun g3 => ?_⟩, fun g2 => ?_⟩, fun g1 => ?_⟩
    · refine wend ?_
      unfold sgn
      rw [if_neg g3, if_neg g1, if_neg g2, if_neg g5, if_neg g4]
    · rw [g5] at wsg; exact wsg (by decide) _ (by decide)
    · rw [g4] at wsg; exact wsg (by decide) _ (by decide)
    · rw [g3] at wsg; exact wsg (by decide) _ (by decide)
    · rw [g2] at wsg; exact wsg (by decide) _ (by decide)
    · rw [g1] at wsg; exact wsg (by decide) _ (by decide)
  refine ⟨fun _ => ?_, fun g => absurd rfl g⟩
  refine ⟨fun _ => ⟨fun g => w250 (fun z => g z.1), fun g => ?_⟩, fun g => absurd rfl g⟩
  have hob : nI o ≤ nI ob ↔ o ≤ ob := leI rfl rfl (by omega) (by omega)
  refine ⟨fun g2 => w250 (fun z => by have := hob.mp g2; omega), fun g2 => ?_⟩
  have g2 : ob < o := by
    have : ¬ o ≤ ob := fun z => g2 (hob.mpr z)
    omega
  have ha := tkn_lt g (by decide)
  refine set 1 (by omega) (by omega) _ ?_
  intro I' B' hF h2 h1' hT z41 e41 z42 e42 z43 e43
  have hs : est f n kd ob (0, a, st, out, q, o) (0, a + 1, (popw 1 st out).1.tail, (popw 1 st out).2, q, o - 1) := Or.inr (Or.inr (Or.inl ⟨rfl, g, g2, rfl⟩))
  rcases popw_1 st out hst with ⟨_, w2⟩ | ⟨r, w1, w2, w3, w4⟩
  · omega
  rw [w1] at hs hT
  simp only [List.tail_cons] at hs
  obtain ⟨u1, u2, u3, u4⟩ := hT
  have n41 : z41 = nI r.length := deI (by simpa using u1) e41
  have n42 : z42 = nI (o - 1) := by
    refine deI (x := nI o) (k := o - 1) (by congr 1; omega) ?_
    rw [e42]; grind
  have n43 : z43 = nI (a + 1) := inI (by rw [h2]; exact hE1.1) e43
  rw [n42]
  refine h438 0 q (o - 1) _ _ (kk _ _ _ hs (hF.tr ⟨fun k hk => ?_, fun _ _ => rfl, fun _ _ => rfl⟩) ⟨?_, ⟨?_, ?_, ?_, ?_⟩⟩)
  · simp at hk; simp [upd, hk]
  · obtain ⟨y1, y2, y3, y4, y5, y6⟩ := mety I' B' hF h2
    exact ⟨n43, y2, ha, y4, y5, y6⟩
  · simp [upd, n41]
  · exact u2.2
  · simpa [upd] using u3
  · exact u4
theorem est_det {f : Nat → Int32} {n : Nat} {kd : Nat → Int32} {ob : Nat} {x y z : zN} (e : est f n kd ob x y) (e' : est f n kd ob x z) : z = y := by
  obtain ⟨p, a, st, out, q, o⟩ := x
  rcases e' with ⟨e0, e1, e2, rfl⟩ | ⟨e0, e1, e2, e3, rfl⟩ | ⟨e0, e1, e2, rfl⟩ | ⟨e0, e1, e2, rfl⟩ <;> rcases e with ⟨d0, d1, d2, rfl⟩ | ⟨d0, d1, d2, d3, rfl⟩ | ⟨d0, d1, d2, rfl⟩ | ⟨d0, d1, d2, rfl⟩ <;> first | rfl | (dsimp only at *; omega) | exact absurd d1 e1 | exact absurd e1 d1 | (dsimp only at *; rw [e1] at d1; exact absurd (by decide) d1) | (dsimp only at *; rw [d1] at e1; exact absurd (by decide) e1)
theorem est_end {f : Nat → Int32} {n : Nat} {kd : Nat → Int32} {ob : Nat} {x y : zN} (e : est f n kd ob x y) : ¬ efail f n kd x ∧ ¬ estop f n ob x := by
  obtain ⟨p, a, st, out, q, o⟩ := x
  rcases e with ⟨e0, e1, e2, rfl⟩ | ⟨e0, e1, e2, e3, rfl⟩ | ⟨e0, e1, e2, rfl⟩ | ⟨e0, e1, e2, rfl⟩
  · refine ⟨fun z => ?_, fun z => ?_⟩
    · rcases z.2 with w | w
      · exact e2 w.2
      · exact w.1 e1
    · have := z.1; dsimp only at *; omega
  · refine ⟨fun z => ?_, fun z => ?_⟩
    · rcases z.2 with w | w
      · exact e1 w.1
      · exact w.2.elim e2 (fun w => w e3)
    · have := z.1; dsimp only at *; omega
  · refine ⟨fun z => ?_, fun z => z.2.1 ⟨e1, e2⟩⟩
    have := z.1; dsimp only at *; omega
  · refine ⟨fun z => ?_, fun z => ?_⟩
    · have := z.1; dsimp only at *; omega
    · rcases z.2.2 with w | w
      · exact e1 w
      · exact e2 w
/-- the reference at a state of reading: so many turns are enough, whatever else stands -/
def Fu (J : Nat → Int64) (D : Nat → Nat → Int64) (Post : Int32 → (Nat → Int32) → (Nat → Int64) → (Nat → Nat → Int32) → (Nat → Nat → Int64) → Prop) (f : Nat → Int32) (n b ob : Nat) (I0 : Nat → Int32) (B0 : Nat → Nat → Int32) (u : zN) : Prop := ∃ m, ∀ (I : Nat → Int32) (B : Nat → Nat → Int32) (t : Nat), t ≤ u.2.1 → FM b I0 B0 I B → ME f n b I B u → wl_LassoFinderModel_expression_15 (nI ob) Post m (nI ob) (nI u.2.2.2.2.1) (nI u.2.2.2.2.2) (nI u.1) (nI t) I J B D
theorem r_loop {Post : Int32 → (Nat → Int32) → (Nat → Int64) → (Nat → Nat → Int32) → (Nat → Nat → Int64) → Prop} {f : Nat → Int32} {n b ob a0 : Nat} {kd : Nat → Int32} {I0 : Nat → Int32} {B0 : Nat → Nat → Int32} (hb : b ≤ 240 + a0) (ho : ob ≤ 4) (ha : a0 ≤ n) (hk : kn9 B0 kd) {s' : zN} (hs : star (est f n kd ob) (1, a0, [], [], 0, ob) s') (he : estop f n ob s' ∨ efail f n kd s')
    (ks : estop f n ob s' → sgn (tkn f n s'.2.1) = -1 → s'.2.2.2.2.2 = ob → ∀ I' B', FM b I0 B0 I' B' → ME f n b I' B' (0, s'.2.1, [], (popw 1 s'.2.2.1 s'.2.2.2.1).2, s'.2.2.2.2.1, s'.2.2.2.2.2) → Post 1 I' J B' D)
    (kf : efail f n kd s' ∨ (estop f n ob s' ∧ (¬ sgn (tkn f n s'.2.1) = -1 ∨ ob < s'.2.2.2.2.2)) → ∀ I' B', FM b I0 B0 I' B' → I' 2 = nI s'.2.1 → Post 0 (upd I' 3 (I' 2)) J B' D) :
    Fu J D Post f n b ob I0 B0 (1, a0, [], [], 0, ob) := by
  have hkB : ∀ I B, FM b I0 B0 I B → kn9 B kd := by
    intro I B hF j hj
    rw [hF.2.1 1 (by decide), hF.2.1 2 (by decide)]; exact hk j hj
  have hend : Fu J D Post f n b ob I0 B0 s' := by
    refine ⟨1, fun I B t ht hF hE => ?_⟩
    have hN := (KN_star ho ha hs).1
    obtain ⟨p, a, st, out, q, o⟩ := s'
    have hp1 : p ≤ 1 := hN.2.2.2.2.2.2.2.2.2.1
    have hno : ∀ s'', ¬ est f n kd ob (p, a, st, out, q, o) s'' := fun s'' e => he.elim (est_end e).2 (est_end e).1
    have hp : p = 1 ∨ p = 0 := by omega
    rcases hp with rfl | rfl
    · exact r_turn1 (kd := kd) hb hN hE (hkB I B hF) ht (fun s'' I' B' e1 => absurd e1 (hno s'')) (fun z => kf (Or.inl z) I B hF hE.1.1)
    · exact r_turn0 (kd := kd) hb hN hE ht (fun s'' I' B' e1 => absurd e1 (hno s'')) (fun z1 z2 z3 I' B' z4 z5 => ks z1 z2 z3 I' B' (hF.tr z4) z5) (fun z1 z2 I' B' z4 z5 => kf (Or.inr ⟨z1, z2⟩) I' B' (hF.tr z4) z5)
  have key := hs (fun u => star (est f n kd ob) (1, a0, [], [], 0, ob) u ∧ (Fu J D Post f n b ob I0 B0 u → Fu J D Post f n b ob I0 B0 (1, a0, [], [], 0, ob))) ⟨star.refl _, fun h => h⟩ ?_
  · exact key.2 hend
  · intro x y hx hxy
    refine ⟨hx.1.tail hxy, fun hy => hx.2 ?_⟩
    obtain ⟨m, hm⟩ := hy
    refine ⟨m + 1, fun I B t ht hF hE => ?_⟩
    have hN := (KN_star ho ha hx.1).1
    obtain ⟨p, a, st, out, q, o⟩ := x
    have hp1 : p ≤ 1 := hN.2.2.2.2.2.2.2.2.2.1
    have hty : t + 1 ≤ y.2.1 := by
      rcases hxy with ⟨_, _, _, rfl⟩ | ⟨_, _, _, _, rfl⟩ | ⟨_, _, _, rfl⟩ | ⟨_, _, _, rfl⟩ <;> (dsimp only at *; omega)
    have hp : p = 1 ∨ p = 0 := by omega
    rcases hp with rfl | rfl
    · refine r_turn1 (kd := kd) hb hN hE (hkB I B hF) ht (fun s'' I' B' e1 e2 e3 => ?_) (fun z => absurd z (est_end hxy).1)
      have := est_det hxy e1
      subst this
      exact hm I' B' (t + 1) hty (hF.tr e2) e3
    · refine r_turn0 (kd := kd) hb hN hE ht (fun s'' I' B' e1 e2 e3 => ?_) (fun z => absurd z (est_end hxy).2) (fun z => absurd z (est_end hxy).2)
      have := est_det hxy e1
      subst this
      exact hm I' B' (t + 1) hty (hF.tr e2) e3
/-- the reference reads an expression -/
theorem q_expr_ok {Post : Int32 → (Nat → Int32) → (Nat → Int64) → (Nat → Nat → Int32) → (Nat → Nat → Int64) → Prop} {f : Nat → Int32} {n b ob a a' : Nat} {kd : Nat → Int32} {out : List Int32} (hb : b ≤ 240 + a) (ho : ob ≤ 4) (hT : TY (B 0) f (I 2) (I 1) a n) (hL : I 11 = nI b) (hk : kn9 B kd) (h : EXP f n kd ob a a' out)
    (kok : sgn (tkn f n a') = -1 → ∀ I' B', FM b I B I' B' → TY (B' 0) f (I' 2) (I' 1) a' n → I' 11 = nI (b + out.length) → rep (B' 24) b (out.map om) → Post 1 I' J B' D)
    (kf : ¬ sgn (tkn f n a') = -1 → ∀ I' B', FM b I B I' B' → I' 2 = nI a' → Post 0 (upd I' 3 (I' 2)) J B' D) : wp_LassoFinderModel_expression I J B D (nI ob) Post := by
  obtain ⟨s, h1, h2, h3, h4, h5⟩ := h
  have hF : FM b I B (upd I 13 0) B := ⟨fun k hk => by simp at hk; simp [upd, hk], fun _ _ => rfl, fun _ _ => rfl⟩
  have hu : Fu J D Post f n b ob I B (1, a, [], [], 0, ob) := by
    refine r_loop hb ho hT.2.2.1 hk h1 (Or.inl h2) (fun _ g1 _ I' B' g3 g4 => kok (by rw [← h4]; exact g1) I' B' g3 (by rw [← h4]; exact g4.1) (by rw [← h5]; exact g4.2.2.2.1) (by rw [← h5]; exact g4.2.2.2.2)) (fun z I' B' g1 g2 => ?_)
    rcases z with z | z
    · exfalso; have := z.1; have := h2.1; omega
    · rw [h4] at z g2
      exact kf (z.2.resolve_right (by omega)) I' B' g1 g2
  obtain ⟨m, hm⟩ := hu
  exact ⟨m, hm _ _ 0 (Nat.zero_le _) hF ⟨hT, rfl, trivial, by simpa [upd] using hL, trivial⟩⟩
theorem q_expr_bad {Post : Int32 → (Nat → Int32) → (Nat → Int64) → (Nat → Nat → Int32) → (Nat → Nat → Int64) → Prop} {f : Nat → Int32} {n b ob a a' : Nat} {kd : Nat → Int32} (hb : b ≤ 240 + a) (ho : ob ≤ 4) (hT : TY (B 0) f (I 2) (I 1) a n) (hL : I 11 = nI b) (hk : kn9 B kd) (h : EXPF f n kd ob a a')
    (kf : ∀ I' B', FM b I B I' B' → I' 2 = nI a' → Post 0 (upd I' 3 (I' 2)) J B' D) : wp_LassoFinderModel_expression I J B D (nI ob) Post := by
  obtain ⟨s, h1, h2, h3⟩ := h
  have hF : FM b I B (upd I 13 0) B := ⟨fun k hk => by simp at hk; simp [upd, hk], fun _ _ => rfl, fun _ _ => rfl⟩
  have hu : Fu J D Post f n b ob I B (1, a, [], [], 0, ob) := by
    refine r_loop hb ho hT.2.2.1 hk h1 (h3.elim Or.inr (fun z => Or.inl z.1)) (fun g0 _ g1 => ?_) (fun z I' B' g1 g2 => kf I' B' g1 (by rw [← h2]; exact g2))
    rcases h3 with z | z
    · exfalso; have := z.1; have := g0.1; omega
    · omega
  obtain ⟨m, hm⟩ := hu
  exact ⟨m, hm _ _ 0 (Nat.zero_le _) hF ⟨hT, rfl, trivial, by simpa [upd] using hL, trivial⟩⟩
end ZY3
