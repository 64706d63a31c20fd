/-! Statements: the reference goes the same steps (labels, blocks, breaks, jumps). -/
section ZF1
variable {I : Nat → Int32} {J : Nat → Int64} {B : Nat → Nat → Int32} {D : Nat → Nat → Int64} {I9 : Nat → Int32} {J9 : Nat → Int64} {B9 : Nat → Nat → Int32} {D9 : Nat → Nat → Int64}
/-- both states at once -/
def RG (f : Nat → Int32) (n : Nat) (kd : Nat → Int32) (base p a sz pt bs ln cl m : Nat) (F : zF) (I : Nat → Int32) (B : Nat → Nat → Int32) (I9 : Nat → Int32) (B9 : Nat → Nat → Int32) : Prop :=
  (I 5 = nI a ∧ I 16 = nI sz ∧ I 17 = nI pt ∧ I 9 = nI bs ∧ I 11 = nI ln ∧ pt ≤ 30 ∧ bs ≤ 48 ∧ ln ≤ 480 ∧ I 10 = nI p) ∧
  (TY (B9 0) f (I9 2) (I9 1) a n ∧ I9 8 = nI (base + sz) ∧ I9 9 = nI bs ∧ I9 10 = nI p ∧ p < 4 ∧ I9 11 = nI cl ∧ cl ≤ a ∧ I9 12 = nI (F.length - 1) ∧ B9 20 p = nI pt) ∧
  (2 * (base + sz) + 1 ≤ a + F.length + m ∧ F.length ≤ 7 ∧ m ≤ 1 ∧ base + sz < 125 ∧ a ≤ 240) ∧
  (rep (B9 25) 0 (F.map (fun x => nI x.1)) ∧ rep (B9 26) 0 (F.map (fun x => off base x.2.1)) ∧ rep (B9 27) 0 (F.map (fun x => off base x.2.2))) ∧
  TR base p sz B B9 ∧ KR base p pt bs sz B B9 ∧ BRs kd ln cl (base + sz) bs B B9 ∧
  (∀ l, l < 8 → B9 22 (8 * p + l) = off base (B 28 l) ∧ (B 28 l = -3 ∨ ∃ k, k ≤ sz ∧ B 28 l = nI k)) ∧ knm B9 kd ∧ okF B sz F ∧ TY (B 1) f (I 5) (I 4) a n
theorem RB.get {f : Nat → Int32} {n : Nat} {kd : Nat → Int32} {base p m : Nat} {F : zF} (h : RB f n kd base p (m, F, I, J, B, D) I9 B9) (hB : BI f n kd (m, F, I, J, B, D)) : ∃ a sz pt bs ln cl, RG f n kd base p a sz pt bs ln cl m F I B I9 B9 := by
  obtain ⟨a, sz, pt, bs, ln, cl, ⟨q1, q2, q3, q4, q5, q6, q7, q8, q9⟩, g2, g3, g4, g5, g6, g7, g8, g9⟩ := h
  obtain ⟨a2, sz2, pt2, bs2, pr, ln2, hT, h16, h17, h9, h10, h11, l1, l2, l3, l4, l5, l6, l7, l8, l9⟩ := hB
  dsimp only at *
  have han := g2.1.2.2.1
  have hn := g2.1.2.2.2.1
  have hT2 := hT.2.2
  have e1 : a2 = a := nI_inj (by omega) (by omega) (hT.1.symm.trans q1)
  have e2 : sz2 = sz := nI_inj (by omega) (by omega) (h16.symm.trans q2)
  subst e1; subst e2
  exact ⟨a2, sz2, pt, bs, ln, cl, ⟨q1, q2, q3, q4, q5, q6, q7, q8, q9⟩, g2, ⟨g3, l6, l7, by omega, by omega⟩, g4, g5, g6, g7, g8, g9, l9, hT⟩
theorem RG.eq {f : Nat → Int32} {n : Nat} {kd : Nat → Int32} {base p a sz pt bs ln cl m : Nat} {F : zF} (h : RG f n kd base p a sz pt bs ln cl m F I B I9 B9) {a2 sz2 bs2 ln2 : Nat} (hh : I 5 = nI a2 ∧ I 16 = nI sz2 ∧ I 9 = nI bs2 ∧ I 11 = nI ln2 ∧ a2 ≤ 1000 ∧ sz2 ≤ 1000 ∧ bs2 ≤ 1000 ∧ ln2 ≤ 1000) : a2 = a ∧ sz2 = sz ∧ bs2 = bs ∧ ln2 = ln := by
  obtain ⟨⟨q1, q2, q3, q4, q5, q6, q7, q8, q9⟩, _, ⟨_, _, _, g3, g4⟩, _⟩ := h
  obtain ⟨e1, e2, e3, e4, b1, b2, b3, b4⟩ := hh
  exact ⟨nI_inj (by omega) (by omega) (e1.symm.trans q1), nI_inj (by omega) (by omega) (e2.symm.trans q2), nI_inj (by omega) (by omega) (e3.symm.trans q4), nI_inj (by omega) (by omega) (e4.symm.trans q5)⟩
theorem RG.rb {f : Nat → Int32} {n : Nat} {kd : Nat → Int32} {base p a sz pt bs ln cl m : Nat} {F : zF} (h1 : I 5 = nI a ∧ I 16 = nI sz ∧ I 17 = nI pt ∧ I 9 = nI bs ∧ I 11 = nI ln ∧ pt ≤ 30 ∧ bs ≤ 48 ∧ ln ≤ 480 ∧ I 10 = nI p) (h2 : TY (B9 0) f (I9 2) (I9 1) a n ∧ I9 8 = nI (base + sz) ∧ I9 9 = nI bs ∧ I9 10 = nI p ∧ p < 4 ∧ I9 11 = nI cl ∧ cl ≤ a ∧ I9 12 = nI (F.length - 1) ∧ B9 20 p = nI pt) (h3 : 2 * (base + sz) + 1 ≤ a + F.length + m)
    (h4 : rep (B9 25) 0 (F.map (fun x => nI x.1)) ∧ rep (B9 26) 0 (F.map (fun x => off base x.2.1)) ∧ rep (B9 27) 0 (F.map (fun x => off base x.2.2))) (h5 : TR base p sz B B9) (h6 : KR base p pt bs sz B B9) (h7 : BRs kd ln cl (base + sz) bs B B9) (h8 : ∀ l, l < 8 → B9 22 (8 * p + l) = off base (B 28 l) ∧ (B 28 l = -3 ∨ ∃ k, k ≤ sz ∧ B 28 l = nI k)) (h9 : knm B9 kd) : RB f n kd base p (m, F, I, J, B, D) I9 B9 := ⟨a, sz, pt, bs, ln, cl, h1, h2, h3, h4, h5, h6, h7, h8, h9⟩
theorem TR.same {base p sz : Nat} {B B' B9 B9' : Nat → Nat → Int32} (h : TR base p sz B B9) (h19 : same sz (B 19) (B' 19)) (h23 : same sz (B 23) (B' 23)) (h22 : same sz (B 22) (B' 22)) (h21 : same sz (B 21) (B' 21)) (h25 : same sz (B 25) (B' 25)) (n7 : B9' 7 = B9 7) (n8 : B9' 8 = B9 8) (n9 : B9' 9 = B9 9) (n10 : B9' 10 = B9 10) (n11 : B9' 11 = B9 11) (n6 : B9' 6 = B9 6) : TR base p sz B' B9' := by
  intro k hk
  obtain ⟨r1, r2, r3, r4, r5, r6⟩ := h k hk
  rw [n7, n8, n9, n10, n11, n6, h19 k hk, h23 k hk, h22 k hk, h21 k hk, h25 k hk]
  exact ⟨r1, r2, r3, r4, r5, r6⟩
theorem r_label_ok {Post : Int32 → (Nat → Int32) → (Nat → Int64) → (Nat → Nat → Int32) → (Nat → Nat → Int64) → Prop} {f : Nat → Int32} {n : Nat} {kd : Nat → Int32} {base p a sz pt bs ln cl : Nat} {F : zF} {I' : Nat → Int32} {B' : Nat → Nat → Int32} (h : RG f n kd base p a sz pt bs ln cl 0 F I B I9 B9) (h58 : tkn f n a = 58) (hx : ¬ one (tkn f n (a + 1)) 65 8 = -1) (hy : B 28 (one (tkn f n (a + 1)) 65 8).toNatClampNeg = -3) (ha : adv (a + 2) I I') (hb : B' 28 = upd (B 28) (one (tkn f n (a + 1)) 65 8).toNatClampNeg (nI sz)) (hbk : ∀ k, k ≠ 28 → B' k = B k)
    (k : ∀ I9' B9', RB f n kd base p (0, F, I', J, B', D) I9' B9' → FB base p bs B9 B9' → FI I9 I9' → Post 1 I9' J9 B9' D9) : wp_LassoFinderModel_label I9 J9 B9 D9 Post := by
  obtain ⟨⟨q1, q2, q3, q4, q5, q6, q7, q8, q9⟩, ⟨hT, g8, g9, g10, gp, g11, gc, g12, g20⟩, ⟨c1, c2, c3, c4, c5⟩, ⟨f1, f2, f3⟩, hTR, hKR, hBR, hlab, hkn, hok, hTc⟩ := h
  have ha1 := tkn_le h58 (by decide)
  have ha2 := one_tk (Or.inr (Or.inl rfl)) hx
  intro z2 e2
  have n2 : z2 = nI (a + 1) := inI hT.1 e2
  subst n2
  have hT1 : TY (B9 0) f (upd I9 2 (nI (a + 1)) 2) (upd I9 2 (nI (a + 1)) 1) (a + 1) n := hT.up rfl ha1
  refine q_from (by decide) hT1.tx ?_
  rw [hT1.tk]
  obtain ⟨wl, wv⟩ := one_lt hx
  have hnI := nI_clamp_one hx
  generalize hl : (one (tkn f n (a + 1)) 65 8).toNatClampNeg = l at *
  have lab := hlab l wl
  rw [hy] at lab
  have hp8 : ∀ p : Nat, p < 4 → 8 * nI p = nI (8 * p) := by decide +kernel
  refine ⟨fun w => absurd (one_neg.mp w) hx, fun _ z5 e5 z6 e6 => ?_⟩
  have n5 : z5 = nI (8 * p) := by rw [e5]; show 8 * I9 10 = _; rw [g10, hp8 p gp]
  have n6 : z6 = nI (8 * p + l) := by rw [e6, n5, hnI, nI_add]
  refine ⟨vin2 n6 (by omega) (by omega), fun z7 e7 => ⟨fun _ z9 e9 z10 e10 => ?_, fun w => ?_⟩⟩
  · have n9 : z9 = nI (8 * p) := by rw [e9]; show 8 * I9 10 = _; rw [g10, hp8 p gp]
    have n10 : z10 = nI (8 * p + l) := by rw [e10, n9, hnI, nI_add]
    refine ⟨vin2 n10 (by omega) (by omega), fun z11 e11 => ?_⟩
    have n11 : z11 = nI (a + 2) := inI (k := a + 1) (by simp [upd]) e11
    rw [clI n10 (by omega)]
    refine k _ _ (RG.rb (a := a + 2) (sz := sz) (pt := pt) (bs := bs) (ln := ln) (cl := cl) ?_ ?_ (by omega) ?_ ?_ ?_ ?_ ?_ ?_) ⟨fun j hj => ?_, fun q hq => by simp [va_up], fun j hj => ?_, fun j hj => by simp [va_up], fun j hj => ?_, same.of (by simp [va_up])⟩ (fun j hj => ?_)
    · exact ⟨ha.1, (ha.2 16 (by decide)).trans q2, (ha.2 17 (by decide)).trans q3, (ha.2 9 (by decide)).trans q4, (ha.2 11 (by decide)).trans q5, q6, q7, q8, (ha.2 10 (by decide)).trans q9⟩
    · refine ⟨hT1.up n11 ha2, ?_, ?_, ?_, gp, ?_, by omega, ?_, ?_⟩
      · simpa [upd] using g8
      · simpa [upd] using g9
      · simpa [upd] using g10
      · simpa [upd] using g11
      · simpa [upd] using g12
      · simpa [va_up] using g20
    · exact ⟨by simpa [va_up] using f1, by simpa [va_up] using f2, by simpa [va_up] using f3⟩
    · refine hTR.same ?_ ?_ ?_ ?_ ?_ ?_ ?_ ?_ ?_ ?_ ?_
      all_goals first | exact same.of (hbk _ (by decide)) | simp [va_up]
    · intro j hj
      refine (hKR j hj).up (Nat.le_refl _) (Nat.le_refl _) ?_ ?_ ?_ ?_ ?_ ?_ ?_ ?_ ?_ (fun q hq => ?_)
      all_goals first | exact congrFun (hbk _ (by decide)) _ | exact same.of (hbk _ (by decide)) | (simp [va_up]; done) | exact same.of (by simp [va_up])
    · intro j hj
      refine (hBR j hj).up (Nat.le_refl _) (Nat.le_refl _) (Nat.le_refl _) ?_ ?_ ?_ ?_ ?_ ?_ ?_ ?_ ?_ ?_ ?_ ?_ ?_ ?_ ?_ ?_
      all_goals first | exact congrFun (hbk _ (by decide)) _ | exact same.of (hbk _ (by decide)) | (simp [va_up]; done) | exact same.of (by simp [va_up])
    · intro l2 hl2
      rw [hb]
      simp only [va_up, if_true]
      by_cases e : l2 = l
      · subst e
        have g8' : (upd I9 2 (nI (a + 1))) 8 = nI (base + sz) := g8
        simp only [upd, if_true]
        exact ⟨by rw [off_n (by omega)]; exact g8, Or.inr ⟨sz, Nat.le_refl _, rfl⟩⟩
      · have e' : ¬ 8 * p + l2 = 8 * p + l := by omega
        simp only [upd, e, e', if_false]; exact hlab l2 hl2
    · intro j hj; simpa [va_up] using hkn j hj
    · simp at hj
      exact same.of (by rcases hj with rfl | rfl | rfl | rfl | rfl | rfl | rfl | rfl | rfl <;> simp [va_up])
    · have : ¬ j = 8 * p + l := by omega
      simp [va_up, upd, this]
    · simp at hj; simp [va_up, hj]
    · simp at hj; simp [upd, hj]
  · rw [e7, clI n6 (by omega), lab.1] at w
    rw [show off base (-3) = -1 from rfl] at w
    exact absurd (by decide) w
end ZF1
