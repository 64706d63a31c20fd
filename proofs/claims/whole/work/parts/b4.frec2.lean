/-! Formulas: the class reads one. -/
section ZN5
variable {I : Nat → Int32} {J : Nat → Int64} {B : Nat → Nat → Int32} {D : Nat → Nat → Int64}
variable {f : Nat → Int32} {n : Nat} {kd : Nat → Int32} {np : Nat} {LP : Nat → Int32} {I0 : Nat → Int32} {B0 : Nat → Nat → Int32} {P0 : zTgf0} {P1 : zTgf1} {P2 : zTgf2} {P3 : zTgf3}
theorem dpt_1 {k : Nat} (h : ¬ (k = 1 ∨ k = 2)) (st : List Nat) : dpt (k :: st) = dpt st + 1 := by
  show dpt st + (if k = 1 ∨ k = 2 then 0 else 1) = dpt st + 1
  rw [if_neg h]
theorem dpt_0 {k : Nat} (h : k = 1 ∨ k = 2) (st : List Nat) : dpt (k :: st) = dpt st := by
  show dpt st + (if k = 1 ∨ k = 2 then 0 else 1) = dpt st
  rw [if_pos h, Nat.add_zero]
theorem SU_R {d : Nat} (hnp : np ≤ 4) (hLP : okLP LP) (h1 : d < 8 → SU9 f n kd np LP I0 B0 (d + 1) P1) (h2 : SB9 f n kd np LP I0 B0 d P2) : SU9 f n kd np LP I0 B0 d (fun I J B D a0 Post PX => wp_Formula_readUnit_R I J B D P0 P1 P2 P3 a0 Post PX) := by
  intro I J B D a st out Post PX hd hP hC hF hK h
  subst hd
  have c1 := hC.1
  dsimp only at c1
  have hn := c1.2.2.2.1
  obtain ⟨p1, p2, p3, p4, p5, p6, p7, p8, p9, p10, p11, p12⟩ := id hP
  dsimp only at p1 p2 p4 p6
  -- what the three signs before one side have in common
  have un : ∀ (k : Nat), uop (tkn f n a) = k → isU k → dpt st < 8 → (isT k → metp st out < 3) → ∀ I3, CF f n kd np LP (1, a + 1, k :: st, out) I3 B → FF I0 B0 I3 B → ∀ (Q : Int32 → (Nat → Int32) → (Nat → Int64) → (Nat → Nat → Int32) → (Nat → Nat → Int64) → Prop), (∀ a' out' r I' B', star (fst9 f n kd np LP) (1, a, st, out) (2, a', k :: st, out') → rts out' = r :: rts out → out'.length < 240 → metp (k :: st) out' ≤ 3 → CF f n kd np LP (2, a', k :: st, out') I' B' → FF I0 B0 I' B' → Q (nI r) I' J B' D) → P1 I3 J B D (nI (dpt st + 1)) Q PX := by
    intro k hk hku hd8 hm I3 hC3 hF3 Q hQ
    have s1 : fst9 f n kd np LP (1, a, st, out) (1, a + 1, k :: st, out) := ⟨a, st, out, Or.inl ⟨rfl, by rw [hk]; omega, hd8, by rw [hk]; exact hm, by rw [hk]⟩⟩
    refine h1 hd8 I3 J B D (a + 1) (k :: st) out Q PX (dpt_1 (by omega) st) (PI_step hP s1) hC3 hF3 (hK.mono (star.head s1 (star.refl _))) (fun a' out' r I' B' hs hr hC' hF' => ?_)
    have hP' := PI_star (PI_step hP s1) hs
    have l1 := hP'.2.1
    have l2 := hP'.1
    dsimp only at l1 l2
    simp only [List.length_cons] at l1
    exact hQ a' out' r I' B' (star.head s1 hs) hr (by omega) hP'.2.2.2.2.2.1 hC' hF'
  -- .. and behind it
  have po : ∀ (k a' : Nat) (out' : List zIt) (r : Nat), isU k → star (fst9 f n kd np LP) (1, a, st, out) (2, a', k :: st, out') → rts out' = r :: rts out → star (fst9 f n kd np LP) (1, a, st, out) (2, a', st, opI k :: out') ∧ rts (opI k :: out') = out'.length :: rts out := by
    intro k a' out' r hku hs hr
    refine ⟨hs.tail ⟨a', k :: st, out', Or.inr (Or.inr (Or.inr (Or.inl ⟨k, st, rfl, rfl, hku, rfl⟩)))⟩, ?_⟩
    rw [rts_u hku, hr]; rfl
  refine q_ahead c1.tx ?_
  rw [c1.tk]
  refine ⟨fun g => ?_, fun g => ?_, fun g => ?_, fun g => ?_, fun g1 g2 g3 g4 => ?_⟩
  · have hk : uop (tkn f n a) = 0 := by rw [g]; rfl
    have han := tkn_lt g (by decide)
    refine q_deep (k := 0) hC hF p4 han (by decide) (fun hb => ⟨a, st, out, Or.inl ⟨rfl, by rw [hk]; decide, rfl, Or.inl hb⟩⟩) hK (fun hd8 I3 hC3 hF3 z4 e4 => ?_)
    rw [inI rfl e4]
    refine un 0 hk (by decide) hd8 (fun z => absurd z (by decide)) I3 hC3 hF3 _ (fun a' out' r I' B' hs hr hl hm hC' hF' => ?_)
    obtain ⟨q1, q2⟩ := po 0 a' out' r (by decide) hs hr
    exact q_popn (k := 0) (ph' := 2) hC' hl (by decide) (by decide) (fun _ => ⟨r, _, hr, rfl⟩) (fun z => absurd (by decide) z) (fun I2 B2 hC2 hF2 => h a' _ _ I2 B2 q1 q2 hC2 (hF'.tr hF2))
  · exact h2 I J B D a st out _ PX rfl g hP hC hF hK h
  · have hk : uop (tkn f n a) = 5 := by rw [g]; rfl
    have han := tkn_lt g (by decide)
    refine q_meet (k := 5) hC hF p4 p6 han (by decide) (fun hb => ⟨a, st, out, Or.inl ⟨rfl, by rw [hk]; decide, rfl, hb.imp id (fun w => ⟨by rw [hk]; decide, w⟩)⟩⟩) hK (fun hd8 hm3 I3 hC3 hF3 z4 e4 => ?_)
    rw [inI rfl e4]
    refine un 5 hk (by decide) hd8 (fun _ => hm3) I3 hC3 hF3 _ (fun a' out' r I' B' hs hr hl hm hC' hF' => ?_)
    obtain ⟨q1, q2⟩ := po 5 a' out' r (by decide) hs hr
    exact q_popt (k := 5) (ph' := 2) hC' hl hm (by decide) (by decide) (fun _ => ⟨r, _, hr, rfl⟩) (fun z => absurd (by decide) z) (fun I2 B2 hC2 hF2 => h a' _ _ I2 B2 q1 q2 hC2 (hF'.tr hF2))
  · have hk : uop (tkn f n a) = 4 := by rw [g]; rfl
    have han := tkn_lt g (by decide)
    refine q_meet (k := 4) hC hF p4 p6 han (by decide) (fun hb => ⟨a, st, out, Or.inl ⟨rfl, by rw [hk]; decide, rfl, hb.imp id (fun w => ⟨by rw [hk]; decide, w⟩)⟩⟩) hK (fun hd8 hm3 I3 hC3 hF3 z4 e4 => ?_)
    rw [inI rfl e4]
    refine un 4 hk (by decide) hd8 (fun _ => hm3) I3 hC3 hF3 _ (fun a' out' r I' B' hs hr hl hm hC' hF' => ?_)
    obtain ⟨q1, q2⟩ := po 4 a' out' r (by decide) hs hr
    exact q_popt (k := 4) (ph' := 2) hC' hl hm (by decide) (by decide) (fun _ => ⟨r, _, hr, rfl⟩) (fun z => absurd (by decide) z) (fun I2 B2 hC2 hF2 => h a' _ _ I2 B2 q1 q2 hC2 (hF'.tr hF2))
  · have hk : uop (tkn f n a) = 9 := by unfold uop; simp [g1, g2, g3, g4]
    refine q_readAtom hnp hLP hP hC hF hk hK (fun a' x I' B' hs hx hC' hF' => ?_)
    exact h a' _ _ I' B' (star.head hs (star.refl _)) (rts_a hx out) hC' (hF.tr hF')
theorem SB_R {d : Nat} (h0 : d < 8 → SF9 f n kd np LP I0 B0 (d + 1) 0 P0) : SB9 f n kd np LP I0 B0 d (fun I J B D a0 Post PX => wp_Formula_readBracketed_R I J B D P0 P1 P2 P3 a0 Post PX) := by
  intro I J B D a st out Post PX hd g hP hC hF hK h
  subst hd
  have p4 := hP.2.2.2.1
  dsimp only at p4
  have hk : uop (tkn f n a) = 8 := by rw [g]; rfl
  have han := tkn_lt g (by decide)
  refine q_deep (k := 8) hC hF p4 han (by decide) (fun hb => ⟨a, st, out, Or.inl ⟨rfl, by rw [hk]; decide, rfl, Or.inl hb⟩⟩) hK (fun hd8 I3 hC3 hF3 z2 e2 => ?_)
  rw [inI rfl e2]
  have s1 : fst9 f n kd np LP (1, a, st, out) (1, a + 1, 8 :: st, out) := ⟨a, st, out, Or.inl ⟨rfl, by rw [hk]; decide, hd8, fun z => absurd z (by rw [hk]; decide), by rw [hk]⟩⟩
  refine h0 hd8 I3 J B D (a + 1) (8 :: st) out _ PX (dpt_1 (by decide) st) (Or.inl ⟨rfl, Or.inl rfl⟩) (PI_step hP s1) hC3 hF3 (hK.mono (star.head s1 (star.refl _))) (fun a' out' r I' B' hs hj hr hC' hF' => ?_)
  have hj9 : jo (tkn f n a') = 9 := hj.resolve_right (by omega)
  have c1 := hC'.1
  have c4 := hC'.2.2.2.1
  dsimp only at c1 c4
  have hs1 := star.head s1 hs
  refine q_expect c1 (fun g1 => ?_) (fun g1 => (hK.mono hs1).at (q := a') ⟨a', 8 :: st, out', Or.inr (Or.inr (Or.inr (Or.inr (Or.inr ⟨rfl, hj9, rfl, Or.inl ⟨st, rfl, g1⟩⟩))))⟩ hF' c1.1)
  have ha' := tkn_lt g1 (by decide)
  refine h (a' + 1) out' r _ B' (hs1.tail ⟨a', 8 :: st, out', Or.inr (Or.inr (Or.inr (Or.inr (Or.inr (Or.inr (Or.inr ⟨st, rfl, rfl, g1, rfl⟩))))))⟩) hr (CF_adv hC' (by simp [upd]) (by omega) ?_ (fun j h1 _ => by simp [upd, h1])) (hF'.tr ⟨fun j hj => by simp at hj; simp [upd, hj], fun _ _ => rfl⟩)
  have : metp (8 :: st) out' = metp st out' := by rw [metp_p, if_neg (by decide), Nat.add_zero]
  rw [this] at c4
  simp [upd]; exact c4
theorem SS_R {d k : Nat} (h0 : (k = 3 → d < 8 → SF9 f n kd np LP I0 B0 (d + 1) 0 P0) ∧ (k = 2 → SF9 f n kd np LP I0 B0 d 2 P0) ∧ (k = 1 → SF9 f n kd np LP I0 B0 d 3 P0) ∧ (k = 6 ∨ k = 7 → d < 8 → SF9 f n kd np LP I0 B0 (d + 1) 3 P0)) : SS9 f n kd np LP I0 B0 d k (fun I J B D a0 a1 a2 Post PX => wp_Formula_readSecond_R I J B D P0 P1 P2 P3 a0 a1 a2 Post PX) := by
  obtain ⟨h3, h2, h1, h67⟩ := h0
  intro I J B D a s r1 R st out Post PX hd hFR hk hk9 hsk hrt hP hC hF hK h
  subst hd
  obtain ⟨u1, u2⟩ := jo_c (c := tkn f n a) (by rw [hk]; exact hk9)
  rw [hk] at u2
  have han := tkn_lt rfl u1
  have hno := FR_noP hFR u2 hsk
  have p4 := hP.2.2.2.1
  have p6 := hP.2.2.2.2.2.1
  have hn := hC.1.2.2.2.1
  dsimp only at p4 p6
  -- behind the sign
  have po : ∀ (s' d' : Nat), ((k = 3 ∧ s' = 0) ∨ (k = 2 ∧ s' = 2) ∨ ((k = 1 ∨ k = 6 ∨ k = 7) ∧ s' = 3)) → d' = dpt (k :: st) → SF9 f n kd np LP I0 B0 d' s' P0 → (isT k → metp st out < 3) → (k = 1 ∨ k = 2 ∨ dpt st < 8) → ∀ I3, CF f n kd np LP (1, a + 1, k :: st, out) I3 B → FF I0 B0 I3 B → ∀ (Q : Int32 → (Nat → Int32) → (Nat → Int64) → (Nat → Nat → Int32) → (Nat → Nat → Int64) → Prop), (∀ a' out' r I' B', star (fst9 f n kd np LP) (0, a, st, out) (0, a', st, opI k :: out') → a < a' → rts (opI k :: out') = out'.length :: R → rts out' = r :: r1 :: R → out'.length < 240 → metp (k :: st) out' ≤ 3 → CF f n kd np LP (0, a', k :: st, out') I' B' → FF I0 B0 I' B' → Q (nI r) I' J B' D) → P0 I3 J B D (nI s') (nI d') Q PX := by
    intro s' d' hks hd' hSF hm hdp I3 hC3 hF3 Q hQ
    have s1 : fst9 f n kd np LP (0, a, st, out) (1, a + 1, k :: st, out) := ⟨a, st, out, Or.inr (Or.inr (Or.inr (Or.inr (Or.inr (Or.inr (Or.inl ⟨rfl, by rw [hk]; exact hk9, by rw [hk]; exact hno, by rw [hk]; exact hm, by rw [hk]; exact hdp, by rw [hk]⟩))))))⟩
    have hfr : FR s' (k :: st) := by
      show (s' = 0 ∧ (k = 8 ∨ k = 3)) ∨ (s' = 2 ∧ k = 2) ∨ (s' = 3 ∧ (k = 1 ∨ k = 6 ∨ k = 7))
      omega
    refine hSF I3 J B D (a + 1) (k :: st) out Q PX hd'.symm hfr (PI_step hP s1) hC3 hF3 (hK.mono (star.head s1 (star.refl _))) (fun a' out' r I' B' hs hj hr hC' hF' => ?_)
    have hP' := PI_star (PI_step hP s1) hs
    have l1 := hP'.2.1
    have l2 := hP'.1
    have l3 := star_a (PI_step hP s1) hs
    dsimp only at l1 l2 l3
    simp only [List.length_cons] at l1
    have hj' : jo (tkn f n a') = 9 ∨ ((jo (tkn f n a') = 1 ∨ jo (tkn f n a') = 2 ∨ jo (tkn f n a') = 3 ∨ jo (tkn f n a') = 6 ∨ jo (tkn f n a') = 7) ∧ strn (jo (tkn f n a')) < s') := by
      by_cases e : jo (tkn f n a') = 9
      · exact Or.inl e
      · exact Or.inr ⟨(jo_c e).2, hj.resolve_left e⟩
    have s2 : fst9 f n kd np LP (0, a', k :: st, out') (0, a', st, opI k :: out') := ⟨a', k :: st, out', Or.inr (Or.inr (Or.inr (Or.inr (Or.inr (Or.inl ⟨k, st, rfl, rfl, by omega, pop_ok hks hj', rfl⟩)))))⟩
    rw [hrt] at hr
    refine hQ a' out' r I' B' ((star.head s1 hs).tail s2) (by omega) ?_ hr (by omega) hP'.2.2.2.2.2.1 hC' hF'
    rw [rts_b (by omega) (by omega), hr]; rfl
  have q : ∀ (m : Nat) (x : Int32), x = nI m → m ≤ 9 → (nI k = x ↔ k = m) := fun m x hx hm => eqI rfl hx (by omega) (by omega)
  have w82 : (k = 1 ∨ k = 2) → wc_Formula_readSecond_R_82 P0 P1 P2 P3 (nI k) (nI r1) (nI (dpt st)) Post PX (nI k) (nI r1) (nI (dpt st)) I J B D := by
    intro hk12
    have c1 := hC.1
    have c4 := hC.2.2.2.1
    dsimp only at c1 c4
    refine q_skip c1.1 (q_strengthOf (by omega) (fun z3 e3 => ?_))
    rw [inI rfl e3]
    have hC3 : CF f n kd np LP (1, a + 1, k :: st, out) (upd I 5 (nI (a + 1))) B := by
      refine CF_adv hC (by simp [upd]) (by omega) ?_ (fun j h1 _ => by simp [upd, h1])
      have : metp (k :: st) out = metp st out := by rw [metp_p, if_neg (by omega), Nat.add_zero]
      rw [this]; simp [upd]; exact c4
    have hF3 : FF I0 B0 (upd I 5 (nI (a + 1))) B := hF.tr ⟨fun j hj => by simp at hj; simp [upd, hj], fun _ _ => rfl⟩
    have fin : ∀ a' out' r I' B', star (fst9 f n kd np LP) (0, a, st, out) (0, a', st, opI k :: out') → a < a' → rts (opI k :: out') = out'.length :: R → rts out' = r :: r1 :: R → out'.length < 240 → metp (k :: st) out' ≤ 3 → CF f n kd np LP (0, a', k :: st, out') I' B' → FF I0 B0 I' B' → wp_Formula_add I' J B' D (nI k) (nI r1) (nI r) (fun r5 I5 J5 B5 D5 => Post r5 I5 J5 B5 D5) := fun a' out' r I' B' hs ha hr hr2 hl hm hC' hF' => q_popn (k := k) (ph' := 0) hC' hl (by omega) (by omega) (fun z => absurd z (by omega)) (fun _ => ⟨r, r1, R, hr2, rfl, rfl⟩) (fun I2 B2 hC2 hF2 => h a' _ _ I2 B2 hs ha hr hC2 (hF'.tr hF2))
    rcases hk12 with rfl | rfl
    · exact po 3 (dpt st) (Or.inr (Or.inr ⟨Or.inl rfl, rfl⟩)) (dpt_0 (Or.inl rfl) st).symm (h1 rfl) (fun z => absurd z (by decide)) (Or.inl rfl) _ hC3 hF3 _ fin
    · exact po 2 (dpt st) (Or.inr (Or.inl ⟨rfl, rfl⟩)) (dpt_0 (Or.inr rfl) st).symm (h2 rfl) (fun z => absurd z (by decide)) (Or.inr (Or.inl rfl)) _ hC3 hF3 _ fin
  have w59 : (k = 6 ∨ k = 7) → wc_Formula_readSecond_R_59 P0 P1 P2 P3 (nI k) (nI r1) (nI (dpt st)) Post PX (nI k) (nI r1) (nI (dpt st)) I J B D := by
    intro hk67
    refine q_meet (k := k) hC hF p4 p6 han (by omega) (fun hb => ⟨a, st, out, Or.inr (Or.inr (Or.inr (Or.inr (Or.inl ⟨rfl, by rw [hk]; exact hk9, by rw [hk]; exact hno, rfl, ?_⟩))))⟩) hK (fun hd8 hm3 I3 hC3 hF3 => q_strengthOf (by omega) (fun z8 e8 => ?_))
    · rw [hk]
      rcases hb with w | w
      · exact Or.inr ⟨by omega, by omega, w⟩
      · exact Or.inl ⟨by omega, w⟩
    · rw [inI rfl e8]
      have es : strn k = 3 := by rcases hk67 with rfl | rfl <;> rfl
      rw [es]
      exact po 3 (dpt st + 1) (Or.inr (Or.inr ⟨Or.inr hk67, rfl⟩)) (dpt_1 (by omega) st).symm (h67 hk67 hd8) (fun _ => hm3) (Or.inr (Or.inr hd8)) _ hC3 hF3 _ (fun a' out' r I' B' hs ha hr hr2 hl hm hC' hF' => q_popt (k := k) (ph' := 0) hC' hl hm (by omega) (by omega) (fun z => absurd z (by omega)) (fun _ => ⟨r, r1, R, hr2, rfl, rfl⟩) (fun I2 B2 hC2 hF2 => h a' _ _ I2 B2 hs ha hr hC2 (hF'.tr hF2)))
  refine ⟨fun g => ?_, fun g => ?_, fun g => ?_, fun g => ?_, fun g => ?_, fun g3 g4 g5 g6 g7 => ?_⟩
  · have k3 := (q 3 3 rfl (by omega)).mp g
    subst k3
    refine q_deep (k := 3) hC hF p4 han (by decide) (fun hb => ⟨a, st, out, Or.inr (Or.inr (Or.inr (Or.inr (Or.inl ⟨rfl, by rw [hk]; exact hk9, by rw [hk]; exact hno, rfl, Or.inr ⟨by rw [hk]; decide, by rw [hk]; decide, hb⟩⟩))))⟩) hK (fun hd8 I3 hC3 hF3 => q_strengthOf (k := 3) (by omega) (fun z14 e14 => ?_))
    rw [inI rfl e14]
    exact po 0 (dpt st + 1) (Or.inl ⟨rfl, rfl⟩) (dpt_1 (by decide) st).symm (h3 rfl hd8) (fun z => absurd z (by decide)) (Or.inr (Or.inr hd8)) _ hC3 hF3 _ (fun a' out' r I' B' hs ha hr hr2 hl hm hC' hF' => q_popn (k := 3) (ph' := 0) hC' hl (by omega) (by decide) (fun z => absurd z (by decide)) (fun _ => ⟨r, r1, R, hr2, rfl, rfl⟩) (fun I2 B2 hC2 hF2 => h a' _ _ I2 B2 hs ha hr hC2 (hF'.tr hF2)))
  · have := (q 4 4 rfl (by omega)).mp g; omega
  · have := (q 5 5 rfl (by omega)).mp g; omega
  · exact w59 (Or.inl ((q 6 6 rfl (by omega)).mp g))
  · exact w59 (Or.inr ((q 7 7 rfl (by omega)).mp g))
  · refine w82 ?_
    have e3 : ¬ k = 3 := fun e => g3 ((q 3 3 rfl (by omega)).mpr e)
    have e6 : ¬ k = 6 := fun e => g6 ((q 6 6 rfl (by omega)).mpr e)
    have e7 : ¬ k = 7 := fun e => g7 ((q 7 7 rfl (by omega)).mpr e)
    omega
theorem SF_R {d s : Nat} (h1 : SU9 f n kd np LP I0 B0 d P1) (h3 : ∀ k, s ≤ strn k → SS9 f n kd np LP I0 B0 d k P3) (hs3 : s ≤ 3) : SF9 f n kd np LP I0 B0 d s (fun I J B D a0 a1 Post PX => wp_Formula_readFrom_R I J B D P0 P1 P2 P3 a0 a1 Post PX) := by
  intro I J B D a st out Post PX hd hFR hP hC hF hK h
  refine h1 I J B D a st out _ PX hd hP hC hF hK (fun a1 out1 r1 I1 B1 hs1 hr1 hC1 hF1 => ⟨n + 2, ?_⟩)
  subst hd
  have s0 : fst9 f n kd np LP (2, a1, st, out1) (0, a1, st, out1) := ⟨a1, st, out1, Or.inr (Or.inr (Or.inr (Or.inr (Or.inl ⟨rfl, FR_noU hFR, rfl⟩))))⟩
  have hs0 := hs1.tail s0
  have lp : ∀ (m a2 i : Nat) (out2 : List zIt) (r2 : Nat) (I2 : Nat → Int32) (B2 : Nat → Nat → Int32), n ≤ a2 + m → i < a2 → star (fst9 f n kd np LP) (1, a, st, out) (0, a2, st, out2) → rts out2 = r2 :: rts out → CF f n kd np LP (0, a2, st, out2) I2 B2 → FF I0 B0 I2 B2 → wl_Formula_readFrom_R_9 P0 P1 P2 P3 (nI s) (nI (dpt st)) Post PX (m + 1) (nI s) (nI (dpt st)) (nI r2) (nI i) I2 J B2 D := by
    intro m
    induction m with
    | zero =>
      intro a2 i out2 r2 I2 B2 hm hi hs hr hC2 hF2
      have c1 := hC2.1
      dsimp only at c1
      have hn := c1.2.2.2.1
      have ha2 := c1.2.2.1
      refine ⟨fun z => ?_, fun _ => q_ahead c1.tx ?_⟩
      · have := (leI (x := 240) (a := 240) rfl (y := nI i) rfl (by omega) (by omega)).mp z; omega
      · rw [c1.tk]
        have e9 : jo (tkn f n a2) = 9 := by
          have : tkn f n a2 = 0 := by unfold tkn; rw [if_neg (by omega)]
          rw [this]; rfl
        refine q_joining ?_
        rw [if_pos e9]
        exact ⟨fun _ => h a2 out2 r2 I2 B2 hs (Or.inl e9) hr hC2 hF2, fun z => absurd rfl z⟩
    | succ m ih =>
      intro a2 i out2 r2 I2 B2 hm hi hs hr hC2 hF2
      have c1 := hC2.1
      dsimp only at c1
      have hn := c1.2.2.2.1
      have ha2 := c1.2.2.1
      refine ⟨fun z => ?_, fun _ => q_ahead c1.tx ?_⟩
      · have := (leI (x := 240) (a := 240) rfl (y := nI i) rfl (by omega) (by omega)).mp z; omega
      · rw [c1.tk]
        refine q_joining ?_
        by_cases e9 : jo (tkn f n a2) = 9
        · rw [if_pos e9]
          exact ⟨fun _ => h a2 out2 r2 I2 B2 hs (Or.inl e9) hr hC2 hF2, fun z => absurd rfl z⟩
        · rw [if_neg e9]
          have hj := (jo_c e9).2
          refine ⟨fun z => absurd z (nI_m1 (by omega)), fun _ => q_strengthOf (by omega) ?_⟩
          have hst : strn (jo (tkn f n a2)) ≤ 3 := by
            rcases hj with w | w | w | w | w <;> rw [w] <;> decide
          have le : nI s ≤ nI (strn (jo (tkn f n a2))) ↔ s ≤ strn (jo (tkn f n a2)) := leI rfl rfl (by omega) (by omega)
          refine ⟨fun g => ?_, fun g => h a2 out2 r2 I2 B2 hs (Or.inr ?_) hr hC2 hF2⟩
          · refine h3 _ (le.mp g) I2 J B2 D a2 s r2 (rts out) st out2 _ PX rfl hFR rfl e9 (le.mp g) hr (PI_star hP hs) hC2 hF2 (hK.mono hs) (fun a3 out3 r3 I3 B3 hs3 ha3 hr3 hC3 hF3 z8 e8 => ?_)
            rw [inI rfl e8]
            exact ih a3 (i + 1) out3 r3 I3 B3 (by omega) (by omega) (hs.trans hs3) hr3 hC3 hF3
          · have : ¬ s ≤ strn (jo (tkn f n a2)) := fun e => g (le.mpr e)
            omega
  have ha1 : 0 < a1 := by
    have := (PI_star hP hs1).2.2.1
    dsimp only at this
    omega
  have hC0 : CF f n kd np LP (0, a1, st, out1) I1 B1 := hC1
  exact lp (n + 1) a1 0 out1 r1 I1 B1 (by omega) ha1 hs0 hr1 hC0 hF1
theorem gf_all (hnp : np ≤ 4) (hLP : okLP LP) : ∀ m, (∀ d s, d ≤ 8 → (s = 0 ∨ s = 2 ∨ s = 3) → 9 * (8 - d) + 3 + 2 * (3 - s) ≤ m → SF9 f n kd np LP I0 B0 d s (wG_gf m).1) ∧ (∀ d, d ≤ 8 → 9 * (8 - d) + 2 ≤ m → SU9 f n kd np LP I0 B0 d (wG_gf m).2.1) ∧ (∀ d, d ≤ 8 → 9 * (8 - d) + 1 ≤ m → SB9 f n kd np LP I0 B0 d (wG_gf m).2.2.1) ∧ (∀ d k, d ≤ 8 → 9 * (8 - d) + 2 + 2 * (3 - strn k) ≤ m → SS9 f n kd np LP I0 B0 d k (wG_gf m).2.2.2) := by
  intro m
  induction m with
  | zero => exact ⟨fun d s _ _ h => by omega, fun d _ h => by omega, fun d _ h => by omega, fun d k _ h => by omega⟩
  | succ m ih =>
    obtain ⟨i0, i1, i2, i3⟩ := ih
    refine ⟨fun d s hd hs h => ?_, fun d hd h => ?_, fun d hd h => ?_, fun d k hd h => ?_⟩
    · exact SF_R (P0 := (wG_gf m).1) (P1 := (wG_gf m).2.1) (P2 := (wG_gf m).2.2.1) (P3 := (wG_gf m).2.2.2) (i1 d hd (by omega)) (fun k hk => i3 d k hd (by omega)) (by omega)
    · exact SU_R (P0 := (wG_gf m).1) (P1 := (wG_gf m).2.1) (P2 := (wG_gf m).2.2.1) (P3 := (wG_gf m).2.2.2) hnp hLP (fun h8 => i1 (d + 1) (by omega) (by omega)) (i2 d hd (by omega))
    · exact SB_R (P0 := (wG_gf m).1) (P1 := (wG_gf m).2.1) (P2 := (wG_gf m).2.2.1) (P3 := (wG_gf m).2.2.2) (fun h8 => i0 (d + 1) 0 (by omega) (Or.inl rfl) (by omega))
    · refine SS_R (P0 := (wG_gf m).1) (P1 := (wG_gf m).2.1) (P2 := (wG_gf m).2.2.1) (P3 := (wG_gf m).2.2.2) ⟨fun hk h8 => ?_, fun hk => ?_, fun hk => ?_, fun hk h8 => ?_⟩
      · subst hk
        have : strn 3 = 0 := rfl
        exact i0 (d + 1) 0 (by omega) (Or.inl rfl) (by omega)
      · subst hk
        have : strn 2 = 1 := rfl
        exact i0 d 2 hd (Or.inr (Or.inl rfl)) (by omega)
      · subst hk
        have : strn 1 = 2 := rfl
        exact i0 d 3 hd (Or.inr (Or.inr rfl)) (by omega)
      · have : strn k = 3 := by rcases hk with rfl | rfl <;> rfl
        exact i0 (d + 1) 3 (by omega) (Or.inr (Or.inr rfl)) (by omega)
end ZN5
