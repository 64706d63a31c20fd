/-! Statements: the reference goes all the class's steps, to the same end. -/
section ZG2
variable {I : Nat → Int32} {J : Nat → Int64} {B : Nat → Nat → Int32} {D : Nat → Nat → Int64} {I9 : Nat → Int32} {J9 : Nat → Int64} {B9 : Nat → Nat → Int32} {D9 : Nat → Nat → Int64}
/-- signs between and ends of blocks change places alone -/
theorem RB_adv {f : Nat → Int32} {n : Nat} {kd : Nat → Int32} {base p a sz pt bs ln cl m m' bk : Nat} {nd lt lt' : Int32} {fr F' : zF} {I' I9' : Nat → Int32} {B9' : Nat → Nat → Int32} (h : RG f n kd base p a sz pt bs ln cl m ((bk, nd, lt) :: fr) I B I9 B9) (hadv : adv (a + 1) I I') (han : a + 1 ≤ n) (hF : F' = fr ∨ F' = (bk, nd, lt') :: fr) (hlen : fr.length + 1 + m ≤ F'.length + m' + 1) (h2 : I9' 2 = nI (a + 1)) (h12 : I9' 12 = nI (F'.length - 1)) (hIk : ∀ j, j ∉ [2, 12] → I9' j = I9 j) (hB : ∀ j, j ≠ 27 → B9' j = B9 j) (h27 : rep (B9' 27) 0 (F'.map (fun x => off base x.2.2))) : RB f n kd base p (m', F', I', J, B, D) I9' B9' := by
  obtain ⟨⟨q1, q2, q3, q4, q5, q6, q7, q8, q9⟩, ⟨hTy, g8, g9, g10, gp, g11, gc, g12, g20⟩, ⟨c1, c2, c3, c4, c5⟩, ⟨f1, f2, f3⟩, hTR, hKR, hBR, hlab, hkn, hok, hTc⟩ := h
  simp only [List.length_cons] at c1 c2
  refine RG.rb (a := a + 1) (sz := sz) (pt := pt) (bs := bs) (ln := ln) (cl := cl) ⟨hadv.1, (hadv.2 16 (by decide)).trans q2, (hadv.2 17 (by decide)).trans q3, (hadv.2 9 (by decide)).trans q4, (hadv.2 11 (by decide)).trans q5, q6, q7, q8, (hadv.2 10 (by decide)).trans q9⟩ ⟨?_, (hIk 8 (by decide)).trans g8, (hIk 9 (by decide)).trans g9, (hIk 10 (by decide)).trans g10, gp, (hIk 11 (by decide)).trans g11, by omega, h12, by rw [hB 20 (by decide)]; exact g20⟩ (by omega) ⟨?_, ?_, h27⟩ ?_ ?_ ?_ ?_ ?_
  · have e : TY (B9 0) f (I9' 2) (I9 1) (a + 1) n := hTy.up h2 han
    rw [hB 0 (by decide), hIk 1 (by decide)]; exact e
  · rw [hB 25 (by decide)]
    rcases hF with rfl | rfl
    · exact f1.2
    · exact f1
  · rw [hB 26 (by decide)]
    rcases hF with rfl | rfl
    · exact f2.2
    · exact f2
  · exact hTR.same same.rf same.rf same.rf same.rf same.rf (hB 7 (by decide)) (hB 8 (by decide)) (hB 9 (by decide)) (hB 10 (by decide)) (hB 11 (by decide)) (hB 6 (by decide))
  · intro k hk
    exact (hKR k hk).up (Nat.le_refl _) (Nat.le_refl _) rfl rfl rfl rfl same.rf (congrFun (hB 5 (by decide)) _) (same.of (hB 18 (by decide))) (congrFun (hB 12 (by decide)) _) (congrFun (hB 16 (by decide)) _) (fun q _ => congrFun (hB 23 (by decide)) _)
  · intro b hb
    exact (hBR b hb).up (Nat.le_refl _) (Nat.le_refl _) (Nat.le_refl _) rfl rfl rfl rfl rfl same.rf (congrFun (hB 18 (by decide)) _) (same.of (hB 5 (by decide))) (same.of (hB 6 (by decide))) (same.of (hB 12 (by decide))) (same.of (hB 13 (by decide))) (same.of (hB 14 (by decide))) (same.of (hB 15 (by decide))) (same.of (hB 24 (by decide))) (hB 1 (by decide)) (hB 2 (by decide))
  · intro l hl; rw [hB 22 (by decide)]; exact hlab l hl
  · intro j hj; rw [hB 1 (by decide), hB 2 (by decide)]; exact hkn j hj
theorem FW.of {base p bs0 : Nat} {I90 I9' : Nat → Int32} {B90 B9' : Nat → Nat → Int32} (h1 : FI I90 I9) (h2 : FB base p bs0 B90 B9) (h : FW I9 B9 I9' B9') : FW I90 B90 I9' B9' := ⟨fun j hj => (h.1 j hj).trans (h1 j hj), fun j hj => (h.2 j hj).trans (h2.2.2.2.2.1 j hj)⟩
theorem FI.tr {I91 I92 : Nat → Int32} (h : FI I9 I91) (g : FI I91 I92) : FI I9 I92 := fun j hj => (g j hj).trans (h j hj)
/-- so many turns are enough -/
def GB (J9 : Nat → Int64) (D9 : Nat → Nat → Int64) (Post : Int32 → (Nat → Int32) → (Nat → Int64) → (Nat → Nat → Int32) → (Nat → Nat → Int64) → Prop) (f : Nat → Int32) (n : Nat) (kd : Nat → Int32) (base p bs0 : Nat) (I90 : Nat → Int32) (B90 : Nat → Nat → Int32) (u : zBo) : Prop := ∃ m,
  (u.1 = 0 → ∃ m64, ∀ (I9 : Nat → Int32) (B9 : Nat → Nat → Int32) (t a : Nat), u.2.2.1 5 = nI a → a ≤ 1000 → t ≤ a → RB f n kd base p u I9 B9 → FB base p bs0 B90 B9 → FI I90 I9 → wl_LassoFinderModel_body_64 (wl_LassoFinderModel_body_56 Post m) Post m64 (nI base) (nI t) I9 J9 B9 D9) ∧
  (u.1 = 1 → ∃ m110, ∀ (I9 : Nat → Int32) (B9 : Nat → Nat → Int32) (t a : Nat), u.2.2.1 5 = nI a → a ≤ 1000 → t < a → RB f n kd base p u I9 B9 → FB base p bs0 B90 B9 → FI I90 I9 → wl_LassoFinderModel_body_110 (wl_LassoFinderModel_body_56 Post m) Post m110 (nI base) (nI t) 1 I9 J9 B9 D9) ∧
  (u.1 = 1 → ∀ a, u.2.2.1 5 = nI a → a ≤ 1000 → ¬ sgn (tkn f n a) = -1 → ∀ I9' B9', FW I90 B90 I9' B9' → I9' 3 = nI a → Post 0 I9' J9 B9' D9)
theorem GB_step {Post : Int32 → (Nat → Int32) → (Nat → Int64) → (Nat → Nat → Int32) → (Nat → Nat → Int64) → Prop} {f : Nat → Int32} {n : Nat} {kd : Nat → Int32} {base p bs0 : Nat} {I90 : Nat → Int32} {B90 : Nat → Nat → Int32} {u v : zBo} (hB : BI f n kd u) (h : bst f n kd u v) (hb0 : ∀ bs, u.2.2.1 9 = nI bs → bs ≤ 1000 → bs0 ≤ bs) (hv : GB J9 D9 Post f n kd base p bs0 I90 B90 v) : GB J9 D9 Post f n kd base p bs0 I90 B90 u := by
  have hBv := BI_step hB h
  obtain ⟨m, hv0, hv1, hv2⟩ := hv
  obtain ⟨pa, pa', e5u, e5v, hlt, hpn, hn240⟩ := bst_pos hB h
  obtain ⟨a, sz, bs, ln, bk, nd, lt, fr, I, I', J, J', B, B', D, D', hh, h⟩ := h
  -- a new turn of the outer loop
  have turn : ∀ (m64 : Nat) (I9 : Nat → Int32) (B9 : Nat → Nat → Int32) (t : Nat), t ≤ n → I9 1 = nI n → wl_LassoFinderModel_body_64 (wl_LassoFinderModel_body_56 Post m) Post m64 (nI base) (nI t) I9 J9 B9 D9 → wl_LassoFinderModel_body_56 Post (m + 1) (nI base) (nI t) I9 J9 B9 D9 := by
    intro m64 I9 B9 t ht h1 hw
    refine ⟨fun z => ?_, fun _ => ⟨m64, hw⟩⟩
    have := (ltI h1 rfl (by omega) (by omega)).mp z; omega
  rcases h with ⟨rfl, rfl, h0, hx, hy, h1, h2, h3⟩ | ⟨kk, I1, rfl, rfl, hl6, h1, h2⟩ | ⟨I1, rfl, rfl, h0, hx, hy, h1, h2⟩ | ⟨I1, B1, rfl, rfl, h0, hx, hy, h1, h2, h3, h4, h5⟩ | ⟨pk, ch, vr, ex, out, a', rfl, rfl, hp30, hb48, hbas, h⟩ | ⟨rfl, rfl, h0, h1⟩ | ⟨rfl, rfl, h0, h1⟩ | ⟨rfl, rfl, h0, hx, h1⟩
  all_goals dsimp only at e5u e5v
  all_goals have epa : pa = a := nI_inj (by omega) (by omega) (e5u.symm.trans hh.1)
  all_goals subst epa
  all_goals have hbs0 : bs0 ≤ bs := hb0 bs hh.2.2.1 (by omega)
  · -- a label
    obtain ⟨m64, hw⟩ := hv0 rfl
    refine ⟨m, fun _ => ⟨m64 + 1, fun I9 B9 t a2 ea ha ht hR hF hI => ?_⟩, fun z => absurd (show (0 : Nat) = 1 from z) (by decide), fun z => absurd (show (0 : Nat) = 1 from z) (by decide)⟩
    have e2 : a2 = pa := nI_inj (by omega) (by omega) (ea.symm.trans e5u)
    subst e2
    obtain ⟨a3, sz3, pt3, bs3, ln3, cl3, hG⟩ := hR.get hB
    obtain ⟨r1, r2, r3, r4⟩ := hG.eq hh
    subst r1; subst r2; subst r3; subst r4
    have hTy := hG.2.1.1
    refine q_here hTy.tx ?_
    rw [hTy.tk]
    refine ⟨fun z => absurd h0 z, fun _ => ?_⟩
    refine r_label_ok (J := J) (D := D) hG h0 hx hy h1 h2 h3 ?_
    intro I9' B9' k1 k2 k3
    exact ⟨fun _ => hw I9' B9' t pa' e5v (by omega) (by omega) k1 (hF.tr (k2.le hbs0)) (hI.tr k3), fun z => absurd z (by decide)⟩
  · -- a block
    obtain ⟨m64, hw⟩ := hv0 rfl
    refine ⟨m + 1, fun _ => ⟨1, fun I9 B9 t a2 ea ha ht hR hF hI => ?_⟩, fun z => absurd (show (0 : Nat) = 1 from z) (by decide), fun z => absurd (show (0 : Nat) = 1 from z) (by decide)⟩
    have e2 : a2 = pa := nI_inj (by omega) (by omega) (ea.symm.trans e5u)
    subst e2
    obtain ⟨a3, sz3, pt3, bs3, ln3, cl3, hG⟩ := hR.get hB
    obtain ⟨r1, r2, r3, r4⟩ := hG.eq hh
    subst r1; subst r2; subst r3; subst r4
    have hTy := hG.2.1.1
    have g12 := hG.top.2.2.2
    have h58 : ¬ tkn f n a2 = 58 := by
      rcases h1 with z | z | z <;> (rw [z.2.1]; decide)
    refine q_here hTy.tx ?_
    rw [hTy.tk]
    refine ⟨fun _ => ?_, fun z => absurd z h58⟩
    refine r_block_ok (J := J) (D := D) hG hl6 h1 h2 ?_
    intro I9' B9' k1 k2 k3 k4
    refine ⟨fun _ => ⟨fun z => ?_, fun _ z1 e1 => ?_⟩, fun z => absurd z (by decide)⟩
    · rw [k4, g12, nI_1] at z
      have := (leI rfl rfl (by have := hG.2.2.1.2.1; simp at this; omega) (by have := hG.2.2.1.2.1; simp at this; omega)).mp z
      omega
    · have n1 : z1 = nI (t + 1) := inI rfl e1
      rw [n1]
      refine turn m64 I9' B9' (t + 1) (by omega) ((k3 1 (by decide)).trans hTy.2.1) ?_
      exact hw I9' B9' (t + 1) pa' e5v (by omega) (by omega) k1 (hF.tr (k2.le hbs0)) (hI.tr k3)
  · -- a break
    obtain ⟨m110, hw⟩ := hv1 rfl
    refine ⟨m, fun _ => ⟨1, fun I9 B9 t a2 ea ha ht hR hF hI => ?_⟩, fun z => absurd (show (0 : Nat) = 1 from z) (by decide), fun z => absurd (show (0 : Nat) = 1 from z) (by decide)⟩
    have e2 : a2 = pa := nI_inj (by omega) (by omega) (ea.symm.trans e5u)
    subst e2
    obtain ⟨a3, sz3, pt3, bs3, ln3, cl3, hG⟩ := hR.get hB
    obtain ⟨r1, r2, r3, r4⟩ := hG.eq hh
    subst r1; subst r2; subst r3; subst r4
    have hTy := hG.2.1.1
    refine q_here hTy.tx ?_
    rw [hTy.tk]
    refine ⟨fun _ => ?_, fun z => by rw [h0] at z; exact absurd z (by decide)⟩
    refine r_break_ok (J := J) (D := D) hG h0 hx hy h1 h2 ?_
    intro I9' B9' k1 k2 k3 k4
    exact ⟨fun _ => ⟨fun _ => ⟨m110, hw I9' B9' t pa' e5v (by omega) (by omega) k1 (hF.tr (k2.le hbs0)) (hI.tr k3)⟩, fun z => absurd (by rw [k4]; exact Int32.le_refl _) z⟩, fun z => absurd z (by decide)⟩
  · -- a jump
    obtain ⟨m110, hw⟩ := hv1 rfl
    refine ⟨m, fun _ => ⟨1, fun I9 B9 t a2 ea ha ht hR hF hI => ?_⟩, fun z => absurd (show (0 : Nat) = 1 from z) (by decide), fun z => absurd (show (0 : Nat) = 1 from z) (by decide)⟩
    have e2 : a2 = pa := nI_inj (by omega) (by omega) (ea.symm.trans e5u)
    subst e2
    obtain ⟨a3, sz3, pt3, bs3, ln3, cl3, hG⟩ := hR.get hB
    obtain ⟨r1, r2, r3, r4⟩ := hG.eq hh
    subst r1; subst r2; subst r3; subst r4
    have hTy := hG.2.1.1
    refine q_here hTy.tx ?_
    rw [hTy.tk]
    refine ⟨fun _ => ?_, fun z => by rw [h0] at z; exact absurd z (by decide)⟩
    refine r_jump_ok (J := J) (D := D) hG h0 hx hy h1 h2 h3 h4 h5 ?_
    intro I9' B9' k1 k2 k3 k4
    exact ⟨fun _ => ⟨fun _ => ⟨m110, hw I9' B9' t pa' e5v (by omega) (by omega) k1 (hF.tr (k2.le hbs0)) (hI.tr k3)⟩, fun z => absurd (by rw [k4]; exact Int32.le_refl _) z⟩, fun z => absurd z (by decide)⟩
  · -- a basic statement
    obtain ⟨m110, hw⟩ := hv1 rfl
    refine ⟨m, fun _ => ⟨1, fun I9 B9 t a2 ea ha ht hR hF hI => ?_⟩, fun z => absurd (show (0 : Nat) = 1 from z) (by decide), fun z => absurd (show (0 : Nat) = 1 from z) (by decide)⟩
    have e2 : a2 = pa := nI_inj (by omega) (by omega) (ea.symm.trans e5u)
    subst e2
    obtain ⟨a3, sz3, pt3, bs3, ln3, cl3, hG⟩ := hR.get hB
    obtain ⟨r1, r2, r3, r4⟩ := hG.eq hh
    subst r1; subst r2; subst r3; subst r4
    obtain ⟨_, _, _, _, _, _, _, _, hlna, _⟩ := BI_get hB hh
    have hTy := hG.2.1.1
    have h58 : ¬ tkn f n a2 = 58 := by
      rcases hbas with w | w | w | w | w | w
      · rw [w.1]; decide
      · rw [w.1]; decide
      · rw [w.1]; decide
      · exact fun z => w.1 (by rw [z]; decide)
      · exact fun z => w.1 (by rw [z]; decide)
      · exact fun z => w.1 (by rw [z]; decide)
    have ea' : a' = pa' := nI_inj (by have := (hbas.place hTy.2.2.1).2.1; omega) (by omega) (h.1.symm.trans e5v)
    refine q_here hTy.tx ?_
    rw [hTy.tk]
    refine ⟨fun _ => ?_, fun z => absurd z h58⟩
    refine r_stmt_basic hG hp30 hb48 hlna hbas h ?_ ?_
    · intro _ I9' B9' k1 k2 k3 k4
      exact ⟨fun _ => ⟨fun _ => ⟨m110, hw I9' B9' t pa' e5v (by omega) (by omega) k1 (hF.tr (k2.le hbs0)) (hI.tr k3)⟩, fun z => absurd (by rw [k4]; exact Int32.le_refl _) z⟩, fun z => absurd z (by decide)⟩
    · intro hsg I9' B9' k1 k2
      exact ⟨fun z => absurd rfl z, fun _ => hv2 rfl a' h.1 (by omega) hsg I9' B9' (k1.of hI hF) k2⟩
  · -- a block's end
    obtain ⟨m110, hw⟩ := hv1 rfl
    have hsg : sgn (tkn f n pa) = -1 := by rcases h0 with z | z <;> (rw [z.1]; decide)
    refine ⟨m, fun z => absurd (show (1 : Nat) = 0 from z) (by decide), fun _ => ⟨m110 + 1, fun I9 B9 t a2 ea ha ht hR hF hI => ?_⟩, fun _ a2 ea ha z => ?_⟩
    · have e2 : a2 = pa := nI_inj (by omega) (by omega) (ea.symm.trans e5u)
      subst e2
      obtain ⟨a3, sz3, pt3, bs3, ln3, cl3, hG⟩ := hR.get hB
      obtain ⟨r1, r2, r3, r4⟩ := hG.eq hh
      subst r1; subst r2; subst r3; subst r4
      have han : a2 + 1 ≤ n := by rcases h0 with z | z <;> exact tkn_le z.1 (by decide)
      refine r_turn hG (fun _ => ?_) (fun z => absurd h0 z)
      refine hw _ B9 t pa' e5v (by omega) (by omega) (RB_adv (F' := fr) (lt' := lt) hG h1 han (Or.inl rfl) (by omega) (by simp [upd]) (by simp [upd]) (fun j hj => by simp at hj; simp [upd, hj]) (fun _ _ => rfl) hG.2.2.2.1.2.2.2) hF (hI.tr (fun j hj => by simp at hj; simp [upd, hj]))
    · have e2 : a2 = pa := nI_inj (by omega) (by omega) (ea.symm.trans e5u)
      rw [e2] at z; exact absurd hsg z
  · -- ";"
    obtain ⟨m64, hw⟩ := hv0 rfl
    have hsg : sgn (tkn f n pa) = -1 := by rw [h0]; decide
    refine ⟨m + 1, fun z => absurd (show (1 : Nat) = 0 from z) (by decide), fun _ => ⟨2, fun I9 B9 t a2 ea ha ht hR hF hI => ?_⟩, fun _ a2 ea ha z => ?_⟩
    · have e2 : a2 = pa := nI_inj (by omega) (by omega) (ea.symm.trans e5u)
      subst e2
      obtain ⟨a3, sz3, pt3, bs3, ln3, cl3, hG⟩ := hR.get hB
      obtain ⟨r1, r2, r3, r4⟩ := hG.eq hh
      subst r1; subst r2; subst r3; subst r4
      have han := tkn_le h0 (by decide)
      have hTy := hG.2.1.1
      refine r_turn hG (fun z => ?_) (fun _ => ?_)
      · rcases z with z | z <;> (rw [h0] at z; exact absurd z.1 (by decide))
      · refine r_turn2 hG (fun _ => ?_) (fun z => by rw [h0] at z; exact absurd z (by decide)) (fun z => by rw [h0] at z; exact absurd z (by decide)) (fun z => absurd h0 z)
        refine turn m64 _ B9 (t + 1) (by omega) (by simpa [upd] using hTy.2.1) ?_
        refine hw _ B9 (t + 1) pa' e5v (by omega) (by omega) (RB_adv (F' := (bk, nd, lt) :: fr) (lt' := lt) hG h1 han (Or.inr rfl) (by simp) (by simp [upd]) (by simpa [upd] using hG.top.2.2.2) (fun j hj => by simp at hj; simp [upd, hj]) (fun _ _ => rfl) hG.2.2.2.1.2.2) hF (hI.tr (fun j hj => by simp at hj; simp [upd, hj]))
    · have e2 : a2 = pa := nI_inj (by omega) (by omega) (ea.symm.trans e5u)
      rw [e2] at z; exact absurd hsg z
  · -- "|"
    obtain ⟨m64, hw⟩ := hv0 rfl
    have hsg : sgn (tkn f n pa) = -1 := by rw [h0]; decide
    refine ⟨m + 1, fun z => absurd (show (1 : Nat) = 0 from z) (by decide), fun _ => ⟨2, fun I9 B9 t a2 ea ha ht hR hF hI => ?_⟩, fun _ a2 ea ha z => ?_⟩
    · have e2 : a2 = pa := nI_inj (by omega) (by omega) (ea.symm.trans e5u)
      subst e2
      obtain ⟨a3, sz3, pt3, bs3, ln3, cl3, hG⟩ := hR.get hB
      obtain ⟨r1, r2, r3, r4⟩ := hG.eq hh
      subst r1; subst r2; subst r3; subst r4
      have han := tkn_le h0 (by decide)
      have hTy := hG.2.1.1
      refine r_turn hG (fun z => ?_) (fun _ => ?_)
      · rcases z with z | z <;> (rw [h0] at z; exact absurd z.1 (by decide))
      · refine r_turn2 hG (fun z => by rw [h0] at z; exact absurd z (by decide)) (fun _ _ => ?_) (fun z => by rw [h0] at z; exact absurd z (by decide)) (fun _ z => absurd ⟨h0, hx⟩ z)
        refine turn m64 _ _ (t + 1) (by omega) (by simpa [upd] using hTy.2.1) ?_
        refine hw _ _ (t + 1) pa' e5v (by omega) (by omega) (RB_adv (F' := (bk, nd, -1) :: fr) (lt' := -1) hG h1 han (Or.inr rfl) (by simp) (by simp [upd]) (by simpa [upd] using hG.top.2.2.2) (fun j hj => by simp at hj; simp [upd, hj]) (fun j hj => by simp [va_up, hj]) ?_) (hF.tr ⟨fun j hj => ?_, fun q hq => by simp [va_up], fun j hj => by simp [va_up], fun j hj => by simp [va_up], fun j hj => ?_, same.of (by simp [va_up])⟩) (hI.tr (fun j hj => by simp at hj; simp [upd, hj]))
        · simp only [va_up, if_true, List.map_cons, off_m]
          exact rep_set hG.2.2.2.1.2.2 (by simp)
        · simp at hj
          exact same.of (by rcases hj with rfl | rfl | rfl | rfl | rfl | rfl | rfl | rfl | rfl <;> simp [va_up])
        · simp at hj; simp [va_up, hj]
    · have e2 : a2 = pa := nI_inj (by omega) (by omega) (ea.symm.trans e5u)
      rw [e2] at z; exact absurd hsg z
end ZG2
