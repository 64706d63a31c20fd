/-! The reference reads a model's text as the class has. -/
section ZI5
variable {I : Nat → Int32} {J : Nat → Int64} {B : Nat → Nat → Int32} {D : Nat → Nat → Int64} {I9 : Nat → Int32} {J9 : Nat → Int64} {B9 : Nat → Nat → Int32} {D9 : Nat → Nat → Int64}
theorem dst_det {f : Nat → Int32} {n : Nat} {s t t' : zD} (h : dst f n s t) (g : dst f n s t') : t = t' := by
  obtain ⟨_, _, h⟩ := h
  obtain ⟨_, _, g⟩ := g
  rcases h with ⟨h1, h2, h3, h4, h5, rfl⟩ | ⟨h1, h2, h3, h4, h5, rfl⟩ | ⟨h1, h2, h3, rfl⟩ <;> rcases g with ⟨g1, g2, g3, g4, g5, rfl⟩ | ⟨g1, g2, g3, g4, g5, rfl⟩ | ⟨g1, g2, g3, rfl⟩
  all_goals first | rfl | exact absurd h1 g1 | exact absurd g1 h1 | (rw [h3] at g3; exact absurd g3 (by decide))
theorem dst_nf {f : Nat → Int32} {n q : Nat} {s t : zD} (h : dst f n s t) : ¬ dfail f n s q := by
  obtain ⟨a1, a2, h⟩ := h
  unfold dfail
  dsimp only at *
  grind
theorem dfail_det {f : Nat → Int32} {n q q' : Nat} {s : zD} (h : dfail f n s q) (g : dfail f n s q') : q = q' := by
  unfold dfail at h g
  dsimp only at *
  grind
theorem dst_123 {f : Nat → Int32} {n : Nat} {s t : zD} (h : dst f n s t) : ¬ tkn f n s.1 = 123 := by
  intro z
  obtain ⟨h1, _⟩ := h
  have e : dpl f n s.1 = s.1 := by unfold dpl; rw [if_neg (by rw [z]; decide)]
  rw [e, z] at h1; exact h1 (by decide)
theorem CM_step {f : Nat → Int32} {n : Nat} {kd : Nat → Int32} {s t : zS} (hC : CM f n kd s) (h : pst f n kd s t) : CM f n kd t := by
  obtain ⟨a, p, bs0, a1, sz, pt, v, I1, J1, B1, D1, B2, D2, ⟨h1, h2, h3, h4, h5, h6, h7⟩, hs, ⟨y1, y2, y3, y4, y5, y6⟩, ⟨hTT, hsz, hC1⟩, hnb, hTP, rfl⟩ := h
  have hB0 := BI_0 hC h1 h4 h2 h5 h7
  obtain ⟨a2, sz2, pt2, bs, ln1, hTy, h16, h17, h9', h11', m1, m2, m3, ebs, _, _, _, hk2⟩ := end_TT (BI_star hB0 hs) (TI_star hB0 hs TI_0) (CI_star hB0 hs (CI_0 h3 (by omega)))
  have hTy2 := hTy.2.2
  have e1 : a2 = a1 := nI_inj (by omega) (by omega) (hTy.1.symm.trans y1)
  subst e1
  refine ⟨a2 + 1, bs, p + 1, ln1, ?_, ?_, ?_, ?_, m2, by omega, by omega, fun j hj => ?_⟩
  · have := hTy.up (at2 := nI (a2 + 1)) rfl (tkn_le y3 (by decide))
    have e1 : B2 1 = B1 1 := hTP.2.2.2.2.2.2.1 1 (by decide)
    simpa [upd, e1] using this
  · simpa [upd] using h9'
  · simp [upd]
  · simpa [upd] using h11'
  · have e2 : B2 2 = B1 2 := hTP.2.2.2.2.2.2.1 2 (by decide)
    show B2 2 j = kd j
    rw [e2]; exact hk2 j hj
theorem CM_star {f : Nat → Int32} {n : Nat} {kd : Nat → Int32} {s t : zS} (hC : CM f n kd s) (h : star (pst f n kd) s t) : CM f n kd t := h (CM f n kd) hC (fun _ _ c g => CM_step c g)
/-- the reference's names at the end of the declarations -/
def NM (d : zD) (I9 : Nat → Int32) (B9 : Nat → Nat → Int32) : Prop := I9 6 = nI d.2.1 ∧ I9 7 = nI d.2.2.1 ∧ d.2.1 ≤ 6 ∧ d.2.2.1 ≤ 2 ∧ NR B9 d.2.1 d.2.2.1 d.2.2.2.1 d.2.2.2.2.1 d.2.2.2.2.2.1 d.2.2.2.2.2.2
theorem NR.cg {B' : Nat → Nat → Int32} {nv nc : Nat} {kd dg vn cn : Nat → Int32} (h : NR B nv nc kd dg vn cn) (e : ∀ j, j ∈ [1, 2, 3, 4] → B' j = B j) : NR B' nv nc kd dg vn cn := by
  unfold NR at *
  rw [e 1 (by decide), e 2 (by decide), e 3 (by decide), e 4 (by decide)]; exact h
/-- processes, from the end -/
def WP (J9 : Nat → Int64) (D9 : Nat → Nat → Int64) (Post : Int32 → (Nat → Int32) → (Nat → Int64) → (Nat → Nat → Int32) → (Nat → Nat → Int64) → Prop) (f : Nat → Int32) (n : Nat) (d : zD) (I90 : Nat → Int32) (B90 : Nat → Nat → Int32) (t : zS) : Prop := ∃ m, ∀ I9 B9, RM f n d.2.2.2.1 t I9 B9 → NM d I9 B9 → FMo I90 B90 I9 B9 → wl_LassoFinderModel_wholeModel_107 Post m I9 J9 B9 D9
theorem RM.pos {f : Nat → Int32} {n : Nat} {kd : Nat → Int32} {s : zS} (h : RM f n kd s I9 B9) : ∃ a p, s.1 5 = nI a ∧ s.1 10 = nI p ∧ TY (B9 0) f (I9 2) (I9 1) a n ∧ I9 10 = nI p ∧ p ≤ 4 := by
  obtain ⟨a, p, base, bs, ln, cl, cv, ⟨r1, r2, r3, r4, r5, r6, r7⟩, ⟨hTy, g8, g9, g10, g11, gc, gb⟩, _⟩ := h
  exact ⟨a, p, r1, r2, hTy, g10, r6⟩
theorem WP_step {Post : Int32 → (Nat → Int32) → (Nat → Int64) → (Nat → Nat → Int32) → (Nat → Nat → Int64) → Prop} {f : Nat → Int32} {n : Nat} {d : zD} {I90 : Nat → Int32} {B90 : Nat → Nat → Int32} {s t : zS} (hC : CM f n d.2.2.2.1 s) (h : pst f n d.2.2.2.1 s t) (hw : WP J9 D9 Post f n d I90 B90 t) : WP J9 D9 Post f n d I90 B90 s := by
  obtain ⟨m, hw⟩ := hw
  refine ⟨m + 1, fun I9 B9 hR hN hF => ?_⟩
  obtain ⟨a, p, r1, r2, hTy, g10, gp⟩ := hR.pos
  have hTy2 := hTy.2.2
  have h123 : tkn f n a = 123 ∧ p < 4 := by
    obtain ⟨a2, p2, bs0, a1, sz, pt, v, I1, J1, B1, D1, B2, D2, ⟨h1, h2, h3, h4, h5, h6, h7⟩, _⟩ := h
    have e1 : a2 = a := nI_inj (by omega) (by omega) (h1.symm.trans r1)
    have e2 : p2 = p := nI_inj (by omega) (by omega) (h2.symm.trans r2)
    subst e1; subst e2; exact ⟨h7, h5⟩
  refine q_here hTy.tx ?_
  rw [hTy.tk]
  refine ⟨fun z => absurd h123.1 z, fun _ => ⟨fun _ z7 e7 => ?_, fun z => ?_⟩⟩
  · have e7' : z7 = nI (a + 1) := inI hTy.1 e7
    rw [e7']
    refine r_proc_ok hR hC r1 (by omega) h (fun I9' B9' hR' hF' hB' hI' => ⟨fun _ z10 e10 => ?_, fun z => absurd z (by decide)⟩)
    refine hw _ _ (hR' z10 e10) ⟨?_, ?_, hN.2.2.1, hN.2.2.2.1, hN.2.2.2.2.cg hB'⟩ (hF.trn (hF'.trn ⟨fun j hj => ?_, fun _ _ => rfl⟩))
    · have : (upd I9' 10 z10) 6 = I9 6 := by rw [← hI' 6 (by decide)]; simp [upd]
      rw [this]; exact hN.1
    · have : (upd I9' 10 z10) 7 = I9 7 := by rw [← hI' 7 (by decide)]; simp [upd]
      rw [this]; exact hN.2.1
    · have : ¬ j = 10 := by simp at hj; omega
      simp [upd, this]
  · have := (eqI g10 (y := 4) (b := 4) rfl (by omega) (by omega)).mp z; omega
theorem q_fail {Post : Int32 → (Nat → Int32) → (Nat → Int64) → (Nat → Nat → Int32) → (Nat → Nat → Int64) → Prop} (h : Post 0 (upd I9 3 (I9 2)) J9 B9 D9) : wp_LassoFinderModel_fail I9 J9 B9 D9 Post := h
theorem WP_bad {Post : Int32 → (Nat → Int32) → (Nat → Int64) → (Nat → Nat → Int32) → (Nat → Nat → Int64) → Prop} {f : Nat → Int32} {n : Nat} {d : zD} {I90 : Nat → Int32} {B90 : Nat → Nat → Int32} {t : zS} {q : Int32} (hC : CM f n d.2.2.2.1 t) (hn : ¬ t.1 5 = nI n) (h : pfail f n d.2.2.2.1 t q) (k : ∀ I9' B9', FMo I90 B90 I9' B9' → I9' 3 = q → Post 0 I9' J9 B9' D9) : WP J9 D9 Post f n d I90 B90 t := by
  refine ⟨1, fun I9 B9 hR hN hF => ?_⟩
  obtain ⟨a, p, r1, r2, hTy, g10, gp⟩ := hR.pos
  have hTy2 := hTy.2.2
  refine q_here hTy.tx ?_
  rw [hTy.tk]
  obtain ⟨a2, p2, ⟨w1, w2, w3, w4⟩, w⟩ := id h
  have e1 : a2 = a := nI_inj (by omega) (by omega) (w1.symm.trans r1)
  have e2 : p2 = p := nI_inj (by omega) (by omega) (w2.symm.trans r2)
  subst e1; subst e2
  have hfm : FMo I90 B90 (upd I9 3 (I9 2)) B9 := hF.trn ⟨fun j hj => by
    have : ¬ j = 3 := by simp at hj; omega
    simp [upd, this], fun _ _ => rfl⟩
  have hp4 : I9 10 = 4 ↔ p2 = 4 := eqI g10 (y := 4) (b := 4) rfl (by omega) (by omega)
  refine ⟨fun z => ⟨fun z2 => ?_, fun z2 => q_fail ⟨fun _ => ⟨Or.inl rfl, k _ _ hfm ?_⟩, fun z => absurd rfl z⟩⟩, fun z => ⟨fun z2 z7 e7 => ?_, fun z2 => q_fail ⟨Or.inl rfl, k _ _ hfm ?_⟩⟩⟩
  · exfalso
    rw [hTy.1, hTy.2.1] at z2
    exact hn (r1.trans z2)
  · rcases w with ⟨w, _⟩ | ⟨w, _⟩ | ⟨w, _⟩
    · simp [upd, hTy.1, w]
    · exact absurd w z
    · exact absurd w z
  · have e7' : z7 = nI (a2 + 1) := inI hTy.1 e7
    rw [e7']
    have hp3 : p2 < 4 := by
      have : ¬ p2 = 4 := fun z => z2 (hp4.mpr z)
      omega
    exact r_proc_bad hR hC r1 (by omega) r2 hp3 z h (fun I9' B9' hF' h3 => ⟨fun z => absurd rfl z, fun _ => k I9' B9' (hF.trn hF') h3⟩)
  · rcases w with ⟨w, _⟩ | ⟨_, w, _⟩ | ⟨_, w, _⟩
    · simp [upd, hTy.1, w]
    · have := hp4.mp z2; omega
    · have := hp4.mp z2; omega
theorem WP_ok {Post : Int32 → (Nat → Int32) → (Nat → Int64) → (Nat → Nat → Int32) → (Nat → Nat → Int64) → Prop} {f : Nat → Int32} {n : Nat} {d : zD} {I90 : Nat → Int32} {B90 : Nat → Nat → Int32} {t : zS} (hn : t.1 5 = nI n) (k : ∀ I9' B9', RM f n d.2.2.2.1 t I9' B9' → NM d I9' B9' → FMo I90 B90 I9' B9' → Post 1 I9' J9 B9' D9) : WP J9 D9 Post f n d I90 B90 t := by
  refine ⟨1, fun I9 B9 hR hN hF => ?_⟩
  obtain ⟨a, p, r1, r2, hTy, g10, gp⟩ := hR.pos
  have hTy2 := hTy.2.2
  have e : a = n := nI_inj (by omega) (by omega) (r1.symm.trans hn)
  subst e
  refine q_here hTy.tx ?_
  rw [hTy.tk]
  refine ⟨fun z => ⟨fun z2 => ⟨Or.inr rfl, k I9 B9 hR hN hF⟩, fun z2 => absurd ?_ z2⟩, fun z => ?_⟩
  · rw [hTy.1, hTy.2.1]
  · have := tkn_le z (by decide); omega
theorem WP_star {Post : Int32 → (Nat → Int32) → (Nat → Int64) → (Nat → Nat → Int32) → (Nat → Nat → Int64) → Prop} {f : Nat → Int32} {n : Nat} {d : zD} {I90 : Nat → Int32} {B90 : Nat → Nat → Int32} {s t : zS} (hC : CM f n d.2.2.2.1 s) (h : star (pst f n d.2.2.2.1) s t) (hw : WP J9 D9 Post f n d I90 B90 t) : WP J9 D9 Post f n d I90 B90 s := by
  have := h (fun v => CM f n d.2.2.2.1 v ∧ (WP J9 D9 Post f n d I90 B90 v → WP J9 D9 Post f n d I90 B90 s)) ⟨hC, fun z => z⟩ (fun x y c g => ⟨CM_step c.1 g, fun z => c.2 (WP_step c.1 g z)⟩)
  exact this.2 hw
end ZI5
