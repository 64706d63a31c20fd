/-! Statements: the reference's breaks and jumps. -/
section ZF4
variable {I : Nat → Int32} {J : Nat → Int64} {B : Nat → Nat → Int32} {D : Nat → Nat → Int64} {I9 : Nat → Int32} {J9 : Nat → Int64} {B9 : Nat → Nat → Int32} {D9 : Nat → Nat → Int64}
/-- a statement without a body: both states behind it -/
theorem r_leaf {f : Nat → Int32} {n : Nat} {kd : Nat → Int32} {base p a sz pt bs ln cl bk a' pt' bs' ln' cl' : Nat} {nd lt kind kind9 : Int32} {fr : zF} {I1 It In I3 I' I9f : Nat → Int32} {Bt B3 B' B9f : Nat → Nat → Int32} {J' : Nat → Int64} {D' : Nat → Nat → Int64} (h : RG f n kd base p a sz pt bs ln cl 0 ((bk, nd, lt) :: fr) I B I9 B9) (hT : TA kind nd lt sz I1 B It Bt) (hN : NA9 kind9 (base + sz) fr.length p pt bs In B9 I3 B3) (hTR' : TR base p (sz + 1) Bt B3) (h27 : rep (B3 27) 0 (((bk, nd, nI sz) :: fr).map (fun x => off base x.2.2)))
    (ha : a < a' ∧ a' ≤ n) (hp : pt ≤ pt') (hbs : bs ≤ bs') (hln : ln ≤ ln') (hcl : cl ≤ cl') (hc1 : I' 5 = nI a' ∧ I' 16 = nI (sz + 1) ∧ I' 17 = nI pt' ∧ I' 9 = nI bs' ∧ I' 11 = nI ln' ∧ pt' ≤ 30 ∧ bs' ≤ 48 ∧ ln' ≤ 480 ∧ I' 10 = nI p)
    (hcB : ∀ k, k ∈ [18, 19, 21, 22, 23, 25] → B' k = Bt k) (hc28 : B' 28 = B 28) (hc26 : same sz (B 26) (B' 26)) (hc27 : same sz (B 27) (B' 27)) (hcb : ∀ k, k ∈ [6, 7, 8, 9, 10] → same bs (B k) (B' k)) (hc15 : same ln (B 15) (B' 15))
    (hr1 : I9f 2 = nI a' ∧ I9f 1 = I9 1 ∧ I9f 8 = nI (base + sz + 1) ∧ I9f 9 = nI bs' ∧ I9f 10 = nI p ∧ I9f 11 = nI cl' ∧ cl' ≤ a' ∧ I9f 12 = nI fr.length) (hr20 : B3 20 p = nI pt') (hrB : ∀ k, k ∉ [5, 12, 13, 14, 15, 16, 24, 28] → B9f k = B3 k) (hrN : ∀ k, k ∈ [5, 12, 13, 14, 15, 16] → same (base + sz) (B3 k) (B9f k)) (hr24 : same cl (B3 24) (B9f 24))
    (hK : K1 base p pt' bs' sz B' B9f) (hB1 : ∀ b, bs ≤ b → b < bs' → B1 kd ln' cl' (base + sz + 1) b B' B9f) : RB f n kd base p (1, (bk, nd, nI sz) :: fr, I', J', B', D') I9f B9f := by
  obtain ⟨⟨q1, q2, q3, q4, q5, q6, q7, q8, q9⟩, ⟨hTy, g8, g9, g10, gp, g11, gc, g12, g20⟩, ⟨c1, c2, c3, c4, c5⟩, ⟨f1, f2, f3⟩, hTR, hKR, hBR, hlab, hkn, hok, hTc⟩ := h
  simp only [List.length_cons] at c1 c2
  obtain ⟨n1, n2, n3, n5, n6, n7, n8, n9, n10, n11, n27, n20, n23, n19, n18, nk⟩ := id hN
  obtain ⟨t1, t2, t3, t18, t19, t20, t21, t22, t23, t24, t25, tk⟩ := id hT
  refine RG.rb (a := a') (sz := sz + 1) (pt := pt') (bs := bs') (ln := ln') (cl := cl') hc1 ?_ ?_ ?_ ?_ ?_ ?_ ?_ ?_
  · refine ⟨?_, by rw [← Nat.add_assoc]; exact hr1.2.2.1, hr1.2.2.2.1, hr1.2.2.2.2.1, gp, hr1.2.2.2.2.2.1, hr1.2.2.2.2.2.2.1, by simpa using hr1.2.2.2.2.2.2.2, by rw [hrB 20 (by decide)]; exact hr20⟩
    have e : TY (B9 0) f (I9f 2) (I9 1) a' n := hTy.up hr1.1 ha.2
    rw [hrB 0 (by decide), nk 0 (by decide), hr1.2.1]; exact e
  · simp only [List.length_cons]; omega
  · refine ⟨?_, ?_, ?_⟩
    · rw [hrB 25 (by decide), nk 25 (by decide)]; exact f1
    · rw [hrB 26 (by decide), nk 26 (by decide)]; exact f2
    · rw [hrB 27 (by decide)]; exact h27
  · refine hTR'.same (same.of (hcB 19 (by decide))) (same.of (hcB 23 (by decide))) (same.of (hcB 22 (by decide))) (same.of (hcB 21 (by decide))) (same.of (hcB 25 (by decide))) ?_ ?_ ?_ ?_ ?_ ?_
    all_goals exact hrB _ (by decide)
  · intro k hk
    by_cases e : k = sz
    · subst e; exact hK
    · have hks : k < sz := by omega
      refine (KR_old hKR hT hN (bs' := bs) hp (Nat.le_refl _) hok.1 k hks).up (Nat.le_refl _) hbs ?_ ?_ ?_ ?_ ?_ ?_ ?_ ?_ ?_ (fun q hq => ?_)
      · exact congrFun (hcB 18 (by decide)) k
      · rw [hc26 k hks, tk 26 (by decide)]
      · rw [hc27 k hks, tk 27 (by decide)]
      · exact congrFun (hcB 25 (by decide)) k
      · rw [tk 6 (by decide)]; exact hcb 6 (by decide)
      · exact hrN 5 (by decide) _ (by omega)
      · exact same.of (hrB 18 (by decide))
      · exact hrN 12 (by decide) _ (by omega)
      · exact hrN 16 (by decide) _ (by omega)
      · rw [hrB 23 (by decide)]
  · intro b hb
    by_cases e : b < bs
    · refine (BR_old hBR hT hN b e).up hln hcl (by omega) ?_ ?_ ?_ ?_ ?_ ?_ ?_ ?_ ?_ ?_ ?_ ?_ ?_ ?_ ?_ ?_
      · rw [hcb 6 (by decide) b e, tk 6 (by decide)]
      · rw [hcb 7 (by decide) b e, tk 7 (by decide)]
      · rw [hcb 8 (by decide) b e, tk 8 (by decide)]
      · rw [hcb 9 (by decide) b e, tk 9 (by decide)]
      · rw [hcb 10 (by decide) b e, tk 10 (by decide)]
      · rw [tk 15 (by decide)]; exact hc15
      · rw [hrB 18 (by decide)]
      · exact hrN 5 (by decide)
      · exact same.of (hrB 6 (by decide))
      · exact hrN 12 (by decide)
      · exact hrN 13 (by decide)
      · exact hrN 14 (by decide)
      · exact hrN 15 (by decide)
      · exact hr24
      · exact hrB 1 (by decide)
      · exact hrB 2 (by decide)
    · have := hB1 b (by omega) hb
      rw [← Nat.add_assoc]; exact this
  · intro l hl
    obtain ⟨w1, w2⟩ := hlab l hl
    rw [hc28, hrB 22 (by decide), nk 22 (by decide)]
    exact ⟨w1, w2.imp id (fun ⟨j, hj, e⟩ => ⟨j, by omega, e⟩)⟩
  · intro j hj
    rw [hrB 1 (by decide), hrB 2 (by decide), nk 1 (by decide), nk 2 (by decide)]; exact hkn j hj
theorem fb_leaf {base p sz bs : Nat} {B3 B9f : Nat → Nat → Int32} (hf : FB base p bs B9 B3) (hrB : ∀ k, k ∉ [5, 12, 13, 14, 15, 16, 24, 28] → B9f k = B3 k) (hrN : ∀ k, k ∈ [5, 12, 13, 14, 15, 16] → same (base + sz) (B3 k) (B9f k)) : FB base p bs B9 B9f := by
  refine hf.tr ⟨fun k hk => ?_, fun q hq => by rw [hrB 20 (by decide)], fun j hj => by rw [hrB 22 (by decide)], fun j hj => by rw [hrB 23 (by decide)], fun k hk => hrB k (by simp at hk ⊢; omega), same.of (hrB 18 (by decide))⟩
  simp at hk
  rcases hk with rfl | rfl | rfl | rfl | rfl | rfl | rfl | rfl | rfl
  · exact (hrN 5 (by decide)).le (by omega)
  · exact same.of (hrB 6 (by decide))
  · exact same.of (hrB 7 (by decide))
  · exact same.of (hrB 8 (by decide))
  · exact same.of (hrB 9 (by decide))
  · exact same.of (hrB 10 (by decide))
  · exact same.of (hrB 11 (by decide))
  · exact (hrN 12 (by decide)).le (by omega)
  · exact (hrN 16 (by decide)).le (by omega)
theorem RG.top {f : Nat → Int32} {n : Nat} {kd : Nat → Int32} {base p a sz pt bs ln cl m bk : Nat} {nd lt : Int32} {fr : zF} (h : RG f n kd base p a sz pt bs ln cl m ((bk, nd, lt) :: fr) I B I9 B9) : B9 27 fr.length = off base lt ∧ okI (B9 27 fr.length) (base + sz) ∧ (∀ j, B9 27 fr.length = nI j → j < base + sz → base ≤ j) ∧ I9 12 = nI fr.length := by
  obtain ⟨_, ⟨hTy, g8, g9, g10, gp, g11, gc, g12, g20⟩, ⟨c1, c2, c3, c4, c5⟩, ⟨f1, f2, f3⟩, hTR, hKR, hBR, hlab, hkn, hok, hTc⟩ := h
  have t27 : B9 27 fr.length = off base lt := by have := rep_top f3; simpa using this
  have hlt : okI lt sz := hok.1
  exact ⟨t27, by rw [t27]; exact (off_neg hlt (by omega) (by omega)).2, by rw [t27]; exact okI_ge hlt (by omega) (by omega), by simpa using g12⟩
theorem r_break_ok {Post : Int32 → (Nat → Int32) → (Nat → Int64) → (Nat → Nat → Int32) → (Nat → Nat → Int64) → Prop} {f : Nat → Int32} {n : Nat} {kd : Nat → Int32} {base p a sz pt bs ln cl bk : Nat} {nd lt : Int32} {fr : zF} {I1 I' : Nat → Int32} {B' : Nat → Nat → Int32} (h : RG f n kd base p a sz pt bs ln cl 0 ((bk, nd, lt) :: fr) I B I9 B9) (h46 : tkn f n a = 46) (hld : ¬ (¬ nd = -1 ∧ lt = -1)) (hlp : ¬ lpi B nd = -1) (hadv : adv (a + 1) I I1) (hT : TA 4 nd lt sz I1 B I' B')
    (k : ∀ I9' B9', RB f n kd base p (1, (bk, nd, nI sz) :: fr, I', J, B', D) I9' B9' → FB base p bs B9 B9' → FI I9 I9' → I9' 12 = I9 12 → Post 1 I9' J9 B9' D9) : wp_LassoFinderModel_statement I9 J9 B9 D9 Post := by
  have hG := h
  obtain ⟨w27, w27o, w27g, g12'⟩ := h.top
  obtain ⟨⟨q1, q2, q3, q4, q5, q6, q7, q8, q9⟩, ⟨hTy, g8, g9, g10, gp, g11, gc, g12, g20⟩, ⟨c1, c2, c3, c4, c5⟩, ⟨f1, f2, f3⟩, hTR, hKR, hBR, hlab, hkn, hok, hTc⟩ := h
  simp only [List.length_cons] at c1 c2
  have han := tkn_le h46 (by decide)
  have hin := hok.inside (by omega)
  have har := arf_f (by omega) hok f1
  simp only [List.length_cons, Nat.add_sub_cancel] at har
  have ha2 : arf (B9 25) 2 fr.length := har.1.mpr (by rw [← hin.1]; exact hlp)
  refine r_head hG (fun y hy => ?_)
  have hy0 : y = 0 := by
    rcases hy with w | w
    · exact absurd w.2 hld
    · exact w.1
  subst hy0
  refine ⟨fun w => by rw [h46] at w; exact absurd w (by decide), fun _ => ⟨fun _ => ⟨fun _ => ⟨fun w => absurd h46 w, fun _ => ?_⟩, fun w => by rw [h46] at w; exact absurd w (by decide)⟩, fun w => by rw [h46] at w; exact absurd w (by decide)⟩⟩
  refine q_around g12' (by omega) (fun _ => ⟨fun w => absurd w (by decide), fun _ => ⟨fun _ => ?_, fun w => absurd rfl w⟩⟩) (fun w => absurd ha2 w)
  refine r_node hG hT (hadv.2 17 (by decide)) (fun _ _ => rfl) (by decide) (fun _ => by decide) (fun z => absurd (by decide) z) (fun z => absurd (by decide) z) ?_
  intro I3 B3 hN hTR' hrep27 z35 e35
  obtain ⟨n1, n2, n3, n5, n6, n7, n8, n9, n10, n11, n27, n20, n23, n19, n18, nk⟩ := id hN
  obtain ⟨t1, t2, t3, t18, t19, t20, t21, t22, t23, t24, t25, tk⟩ := id hT
  have i2 : I3 2 = nI a := (n3 2 (by decide)).trans hTy.1
  have m2 := inI i2 e35
  have hfb : FB base p bs B9 B3 := hN.fb (fun z => absurd (by decide) z) w27o w27g (by omega)
  have cI : ∀ j, j ∉ [5, 16, 17] → I' j = I j := by
    intro j hj
    simp at hj
    rw [t3 j (by simp [hj]), hadv.2 j (by simp [hj])]
  refine k _ _ (r_leaf (a' := a + 1) (pt' := pt) (bs' := bs) (ln' := ln) (cl' := cl) hG hT hN hTR' hrep27 ⟨by omega, han⟩ (Nat.le_refl _) (Nat.le_refl _) (Nat.le_refl _) (Nat.le_refl _) ⟨(t3 5 (by decide)).trans hadv.1, t1, ?_, (cI 9 (by decide)).trans q4, (cI 11 (by decide)).trans q5, q6, q7, q8, (cI 10 (by decide)).trans q9⟩ (fun _ _ => rfl) (tk 28 (by decide)) (same.of (tk 26 (by decide))) (same.of (tk 27 (by decide))) (fun j hj => ?_) (same.of (tk 15 (by decide))) ⟨?_, ?_, ?_, ?_, ?_, ?_, by omega, ?_⟩ ?_ (fun _ _ => rfl) (fun _ _ => same.rf) same.rf ?_ (fun b hb1 hb2 => by omega)) hfb (fun j hj => ?_) ?_
  · rw [t2, if_pos (by decide), hadv.2 17 (by decide)]; exact q3
  · simp at hj
    exact same.of (tk j (by simp; omega))
  · simp [upd, m2]
  · simp [upd, n3 1 (by decide)]
  · simpa [upd] using n1
  · have : I3 9 = nI bs := by rw [n2, if_pos (by decide)]; exact g9
    simpa [upd] using this
  · simpa [upd] using (n3 10 (by decide)).trans g10
  · simpa [upd] using (n3 11 (by decide)).trans g11
  · simpa [upd] using (n3 12 (by decide)).trans g12'
  · rw [n20, if_pos (by decide)]; exact g20
  · have b18 : B' 18 sz = 4 := by rw [t18]; simp [upd]
    refine ⟨by rw [b18]; exact Or.inr (Or.inr (Or.inr (Or.inr (Or.inl rfl)))), fun z => by rw [b18] at z; exact absurd z (by decide), fun _ => ?_, fun z => by rw [b18] at z; exact absurd z (by decide), fun z => by rw [b18] at z; exact absurd (by decide) z, fun _ => ?_⟩
    · rw [b18, n5]; simp only [upd, if_true]; decide
    · rw [t25, if_pos (by decide)]; simp [upd]
  · simp at hj
    simp only [upd, hj, if_false]; exact n3 j (by simp [hj])
  · simp [upd, n3 12 (by decide)]
theorem r_jump_ok {Post : Int32 → (Nat → Int32) → (Nat → Int64) → (Nat → Nat → Int32) → (Nat → Nat → Int64) → Prop} {f : Nat → Int32} {n : Nat} {kd : Nat → Int32} {base p a sz pt bs ln cl bk : Nat} {nd lt : Int32} {fr : zF} {I1 I' : Nat → Int32} {Bt B' : Nat → Nat → Int32} (h : RG f n kd base p a sz pt bs ln cl 0 ((bk, nd, lt) :: fr) I B I9 B9) (h94 : tkn f n a = 94) (hld : ¬ (¬ nd = -1 ∧ lt = -1)) (hx : ¬ one (tkn f n (a + 1)) 65 8 = -1) (hadv : adv (a + 2) I I1) (hT : TA 5 nd lt sz I1 B I' Bt) (h26 : B' 26 = upd (B 26) sz (one (tkn f n (a + 1)) 65 8)) (h27 : B' 27 = upd (B 27) sz (nI (a + 1))) (hBk : ∀ k, k ∉ [26, 27] → B' k = Bt k)
    (k : ∀ I9' B9', RB f n kd base p (1, (bk, nd, nI sz) :: fr, I', J, B', D) I9' B9' → FB base p bs B9 B9' → FI I9 I9' → I9' 12 = I9 12 → Post 1 I9' J9 B9' D9) : wp_LassoFinderModel_statement I9 J9 B9 D9 Post := by
  have hG := h
  obtain ⟨w27, w27o, w27g, g12'⟩ := h.top
  obtain ⟨⟨q1, q2, q3, q4, q5, q6, q7, q8, q9⟩, ⟨hTy, g8, g9, g10, gp, g11, gc, g12, g20⟩, ⟨c1, c2, c3, c4, c5⟩, ⟨f1, f2, f3⟩, hTR, hKR, hBR, hlab, hkn, hok, hTc⟩ := h
  simp only [List.length_cons] at c1 c2
  have ha1 := tkn_le h94 (by decide)
  have han := one_tk (Or.inr (Or.inl rfl)) hx
  refine r_head hG (fun y hy => ?_)
  have hy0 : y = 0 := by
    rcases hy with w | w
    · exact absurd w.2 hld
    · exact w.1
  subst hy0
  refine ⟨fun w => by rw [h94] at w; exact absurd w (by decide), fun _ => ⟨fun _ => ⟨fun _ => ⟨fun _ => ⟨fun w => absurd h94 w, fun _ => ⟨fun _ z23 e23 => ?_, fun w => absurd rfl w⟩⟩, fun w => by rw [h94] at w; exact absurd w (by decide)⟩, fun w => by rw [h94] at w; exact absurd w (by decide)⟩, fun w => by rw [h94] at w; exact absurd w (by decide)⟩⟩
  have m23 := inI hTy.1 e23
  have hT1 : TY (B9 0) f (upd I9 2 z23 2) (upd I9 2 z23 1) (a + 1) n := hTy.up m23 ha1
  refine q_from (by decide) hT1.tx ?_
  rw [hT1.tk]
  refine ⟨fun _ => ?_, fun w => absurd (one_in hx).1 w⟩
  refine r_node hG hT (hadv.2 17 (by decide)) (fun j hj => by simp [upd, hj]) (by decide) (fun _ => by decide) (fun z => absurd (by decide) z) (fun z => absurd (by decide) z) ?_
  intro I3 B3 hN hTR' hrep27
  obtain ⟨n1, n2, n3, n5, n6, n7, n8, n9, n10, n11, n27, n20, n23, n19, n18, nk⟩ := id hN
  obtain ⟨t1, t2, t3, t18, t19, t20, t21, t22, t23, t24, t25, tk⟩ := id hT
  have i2 : I3 2 = nI (a + 1) := (n3 2 (by decide)).trans (by simp [upd, m23])
  have hT3 : TY (B3 0) f (I3 2) (I3 1) (a + 1) n := by
    have e : TY (B9 0) f (I3 2) (I9 1) (a + 1) n := hTy.up i2 ha1
    rw [nk 0 (by decide), n3 1 (by decide)]; exact e
  refine q_from (by decide) hT3.tx ?_
  rw [hT3.tk]
  have hvN : vp_in (nI (base + sz)) 140 := vin2 rfl (by omega) (by omega)
  refine ⟨hvN, hvN, fun z28 e28 => ?_⟩
  have m28 := inI i2 e28
  rw [clI (x := nI (base + sz)) rfl (by omega), i2]
  have hfb : FB base p bs B9 B3 := hN.fb (fun z => absurd (by decide) z) w27o w27g (by omega)
  have cI : ∀ j, j ∉ [5, 16, 17] → I' j = I j := by
    intro j hj
    simp at hj
    rw [t3 j (by simp [hj]), hadv.2 j (by simp [hj])]
  have rB : ∀ j, j ∉ [5, 12, 13, 14, 15, 16, 24, 28] → (va_up (va_up B3 12 (upd (B3 12) (base + sz) (one (tkn f n (a + 1)) 65 8))) 16 (upd (B3 16) (base + sz) (nI (a + 1)))) j = B3 j := by
    intro j hj; simp at hj; simp [va_up, hj]
  have rN : ∀ j, j ∈ [5, 12, 13, 14, 15, 16] → same (base + sz) (B3 j) ((va_up (va_up B3 12 (upd (B3 12) (base + sz) (one (tkn f n (a + 1)) 65 8))) 16 (upd (B3 16) (base + sz) (nI (a + 1)))) j) := by
    intro j hj; simp at hj
    rcases hj with rfl | rfl | rfl | rfl | rfl | rfl
    · exact same.of (by simp [va_up])
    · simp only [va_up]; simp only [show ¬ (12 : Nat) = 16 by decide, if_false, if_true]; exact same_upd (Nat.le_refl _)
    · exact same.of (by simp [va_up])
    · exact same.of (by simp [va_up])
    · exact same.of (by simp [va_up])
    · simp only [va_up]; simp only [show ¬ (16 : Nat) = 12 by decide, if_false, if_true]; exact same_upd (Nat.le_refl _)
  refine k _ _ (r_leaf (a' := a + 2) (pt' := pt) (bs' := bs) (ln' := ln) (cl' := cl) hG hT hN hTR' hrep27 ⟨by omega, han⟩ (Nat.le_refl _) (Nat.le_refl _) (Nat.le_refl _) (Nat.le_refl _) ⟨(t3 5 (by decide)).trans hadv.1, t1, ?_, (cI 9 (by decide)).trans q4, (cI 11 (by decide)).trans q5, q6, q7, q8, (cI 10 (by decide)).trans q9⟩ (fun j hj => hBk j (by simp at hj ⊢; omega)) ((hBk 28 (by decide)).trans (tk 28 (by decide))) (by rw [h26]; exact same_upd (Nat.le_refl _)) (by rw [h27]; exact same_upd (Nat.le_refl _)) (fun j hj => ?_) (same.of ((hBk 15 (by decide)).trans (tk 15 (by decide)))) ⟨?_, ?_, ?_, ?_, ?_, ?_, by omega, ?_⟩ ?_ rB rN (same.of (by simp [va_up])) ?_ (fun b hb1 hb2 => by omega)) (fb_leaf hfb rB rN) (fun j hj => ?_) ?_
  · rw [t2, if_pos (by decide), hadv.2 17 (by decide)]; exact q3
  · simp at hj
    exact same.of ((hBk j (by simp; omega)).trans (tk j (by simp; omega)))
  · simp [upd, m28]
  · simp [upd, n3 1 (by decide)]
  · simpa [upd] using n1
  · have : I3 9 = nI bs := by rw [n2, if_pos (by decide)]; simpa [upd] using g9
    simpa [upd] using this
  · have : I3 10 = nI p := (n3 10 (by decide)).trans (by simpa [upd] using g10)
    simpa [upd] using this
  · have : I3 11 = nI cl := (n3 11 (by decide)).trans (by simpa [upd] using g11)
    simpa [upd] using this
  · have : I3 12 = nI fr.length := (n3 12 (by decide)).trans (by simpa [upd] using g12')
    simpa [upd] using this
  · rw [n20, if_pos (by decide)]; exact g20
  · have b18 : B' 18 sz = 5 := by rw [hBk 18 (by decide), t18]; simp [upd]
    have hnl := nI_clamp_one hx
    have wl := (one_lt hx).1
    have b26' : B' 26 sz = one (tkn f n (a + 1)) 65 8 := by rw [h26]; simp [upd]
    refine ⟨by rw [b18]; exact Or.inr (Or.inr (Or.inr (Or.inr (Or.inr rfl)))), fun z => by rw [b18] at z; exact absurd z (by decide), fun _ => ?_, fun _ => ⟨⟨_, wl, b26'.trans hnl⟩, ?_, ?_⟩, fun z => by rw [b18] at z; exact absurd (by decide) z, fun _ => ?_⟩
    · rw [b18]
      have : B3 5 (base + sz) = 10 := by rw [n5]; simp [upd]
      have e : (va_up (va_up B3 12 (upd (B3 12) (base + sz) (one (tkn f n (a + 1)) 65 8))) 16 (upd (B3 16) (base + sz) (nI (a + 1)))) 5 = B3 5 := by simp [va_up]
      rw [e, this]; decide
    · rw [b26']; simp [va_up, upd]
    · rw [h27]; simp [va_up, upd]
    · rw [hBk 25 (by decide), t25, if_pos (by decide)]; simp [upd]
  · have hj' := hj
    simp at hj
    simp only [upd, hj, if_false]
    rw [n3 j (by simp [hj])]; simp [upd, hj]
  · have : I3 12 = I9 12 := (n3 12 (by decide)).trans (by simp [upd])
    simp [upd, this]
end ZF4
