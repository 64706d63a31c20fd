/-! Statements: the reference behind a statement: ends of blocks, signs between. -/
section ZG1
variable {I : Nat → Int32} {J : Nat → Int64} {B : Nat → Nat → Int32} {D : Nat → Nat → Int64} {I9 : Nat → Int32} {J9 : Nat → Int64} {B9 : Nat → Nat → Int32} {D9 : Nat → Nat → Int64}
def clos (f : Nat → Int32) (n a bk : Nat) : Prop := (tkn f n a = 93 ∧ (bk = 1 ∨ bk = 2)) ∨ (tkn f n a = 62 ∧ bk = 3)
theorem q_in {Post : Int32 → (Nat → Int32) → (Nat → Int64) → (Nat → Nat → Int32) → (Nat → Nat → Int64) → Prop} {v lo hi : Int32} (h1 : lo ≤ v ∧ v ≤ hi → Post 1 I J B D) (h0 : ¬ (lo ≤ v ∧ v ≤ hi) → Post 0 I J B D) : wp_LassoFinderModel_in I J B D v lo hi Post :=
  ⟨fun g => ⟨Or.inl rfl, h0 (fun z => absurd g (Int32.not_lt.mpr z.1))⟩, fun g => ⟨fun g2 => ⟨Or.inl rfl, h0 (fun z => absurd g2 (Int32.not_lt.mpr z.2))⟩, fun g2 => ⟨Or.inr rfl, h1 ⟨Int32.not_lt.mp g, Int32.not_lt.mp g2⟩⟩⟩⟩
theorem bk12 {bk : Nat} {x : Int32} (hx : x = nI bk) (hb : bk ≤ 3) : (1 ≤ x ∧ x ≤ 2) ↔ (bk = 1 ∨ bk = 2) := by
  rw [leI (x := 1) (a := 1) rfl hx (by omega) (by omega), leI hx (y := 2) (b := 2) rfl (by omega) (by omega)]; omega
/-- the first turn behind a statement -/
theorem r_turn {Post : Int32 → (Nat → Int32) → (Nat → Int64) → (Nat → Nat → Int32) → (Nat → Nat → Int64) → Prop} {K56 : Int32 → Int32 → (Nat → Int32) → (Nat → Int64) → (Nat → Nat → Int32) → (Nat → Nat → Int64) → Prop} {K110 : Int32 → Int32 → Int32 → (Nat → Int32) → (Nat → Int64) → (Nat → Nat → Int32) → (Nat → Nat → Int64) → Prop} {x1 x2 : Int32} {f : Nat → Int32} {n : Nat} {kd : Nat → Int32} {base p a sz pt bs ln cl bk : Nat} {nd lt : Int32} {fr : zF} (h : RG f n kd base p a sz pt bs ln cl 1 ((bk, nd, lt) :: fr) I B I9 B9)
    (k1 : clos f n a bk → K110 x1 x2 1 (upd (upd I9 12 (nI (fr.length - 1))) 2 (nI (a + 1))) J9 B9 D9) (k0 : ¬ clos f n a bk → K110 x1 x2 0 I9 J9 B9 D9) : wb_LassoFinderModel_body_110 K110 K56 Post x1 x2 1 I9 J9 B9 D9 := by
  obtain ⟨w27, w27o, w27g, g12'⟩ := h.top
  obtain ⟨⟨q1, q2, q3, q4, q5, q6, q7, q8, q9⟩, ⟨hTy, g8, g9, g10, gp, g11, gc, g12, g20⟩, ⟨c1, c2, c3, c4, c5⟩, ⟨f1, f2, f3⟩, hTR, hKR, hBR, hlab, hkn, hok, hTc⟩ := h
  simp only [List.length_cons] at c1 c2
  have t25 : B9 25 fr.length = nI bk := by have := rep_top f1; simpa using this
  have hb0 := hok.bk0 (by omega)
  have hv : vp_in (I9 12) 8 := vin2 g12' (by omega) (by omega)
  have w163 : clos f n a bk → wc_LassoFinderModel_body_163 K56 K110 Post x1 x2 I9 J9 B9 D9 := by
    intro hc
    refine ⟨fun z => absurd z (by decide), fun _ z14 e14 => ⟨fun z => absurd z (by decide), fun _ z13 e13 => ?_⟩⟩
    have hfr : 1 ≤ fr.length := by
      have : ¬ nd = -1 := fun z => by have := hb0.1.mpr z; rcases hc with u | u <;> omega
      have : ¬ fr = [] := fun z => this (hb0.2.2.mp z)
      cases fr with
      | nil => exact absurd rfl this
      | cons _ _ => simp
    have m14 : z14 = nI (fr.length - 1) := by
      refine deI (x := I9 12) (k := fr.length - 1) (by rw [g12']; congr 1; omega) ?_
      rw [e14]
    have m13 : z13 = nI (a + 1) := by
      rw [e13, hTy.1, nI_1]
    rw [m14, m13]; exact k1 hc
  have w167 : ¬ clos f n a bk → wc_LassoFinderModel_body_167 K56 K110 Post x1 x2 I9 J9 B9 D9 := by
    intro hc
    refine ⟨fun _ z14 e14 => ⟨fun _ z13 e13 => ?_, fun z => absurd rfl z⟩, fun z => absurd rfl z⟩
    have m14 : z14 = I9 12 := by rw [e14]; grind
    have m13 : z13 = I9 2 := by rw [e13]; grind
    have e : upd (upd I9 12 z14) 2 z13 = I9 := by
      funext j
      by_cases u : j = 2
      · subst u; simp [upd, m13]
      · by_cases u2 : j = 12
        · subst u2; simp [upd, m14]
        · simp [upd, u, u2]
    rw [e]; exact k0 hc
  have w141 : ¬ (tkn f n a = 93 ∧ (bk = 1 ∨ bk = 2)) → wc_LassoFinderModel_body_141 K56 K110 Post x1 x2 I9 J9 B9 D9 := by
    intro hc
    refine q_here hTy.tx ?_
    rw [hTy.tk]
    refine ⟨fun u => w167 (fun z => z.elim hc (fun z => u z.1)), fun u => ⟨hv, fun z19 e19 => ?_⟩⟩
    rw [clI g12' (by omega), t25] at e19
    have h3 : z19 = 3 ↔ bk = 3 := eqI e19 (y := 3) (b := 3) rfl (by omega) (by omega)
    exact ⟨fun v => w167 (fun z => z.elim hc (fun z => v (h3.mpr z.2))), fun v => w163 (Or.inr ⟨u, h3.mp v⟩)⟩
  refine ⟨fun z => absurd z (by decide), fun _ => q_here hTy.tx ?_⟩
  rw [hTy.tk]
  refine ⟨fun u => w141 (fun z => u z.1), fun u => ⟨hv, fun z29 e29 => ?_⟩⟩
  rw [clI g12' (by omega), t25] at e29
  have hb := bk12 e29 hb0.2.1
  exact q_in (fun v => ⟨fun _ => w163 (Or.inl ⟨u, hb.mp v⟩), fun z => absurd z (by decide)⟩) (fun v => ⟨fun z => absurd rfl z, fun _ => w141 (fun z => v (hb.mpr z.2))⟩)
/-- .. and the last, where no block ends -/
theorem r_turn2 {Post : Int32 → (Nat → Int32) → (Nat → Int64) → (Nat → Nat → Int32) → (Nat → Nat → Int64) → Prop} {K56 : Int32 → Int32 → (Nat → Int32) → (Nat → Int64) → (Nat → Nat → Int32) → (Nat → Nat → Int64) → Prop} {K110 : Int32 → Int32 → Int32 → (Nat → Int32) → (Nat → Int64) → (Nat → Nat → Int32) → (Nat → Nat → Int64) → Prop} {x1 : Int32} {t : Nat} {f : Nat → Int32} {n : Nat} {kd : Nat → Int32} {base p a sz pt bs ln cl bk : Nat} {nd lt : Int32} {fr : zF} (h : RG f n kd base p a sz pt bs ln cl 1 ((bk, nd, lt) :: fr) I B I9 B9)
    (kn : tkn f n a = 59 → K56 x1 (nI (t + 1)) (upd I9 2 (nI (a + 1))) J9 B9 D9) (kv : tkn f n a = 124 → (bk = 1 ∨ bk = 2) → K56 x1 (nI (t + 1)) (upd I9 2 (nI (a + 1))) J9 (va_up B9 27 (upd (B9 27) fr.length (-1))) D9)
    (ke : tkn f n a = 125 → fr = [] → wp_LassoFinderModel_jumps (upd I9 2 (nI (a + 1))) J9 B9 D9 x1 (fun r I J B D => (r = 0 ∨ r = 1) ∧ Post r I J B D))
    (kf : ¬ tkn f n a = 59 → ¬ (tkn f n a = 124 ∧ (bk = 1 ∨ bk = 2)) → ¬ (tkn f n a = 125 ∧ fr = []) → Post 0 (upd I9 3 (I9 2)) J9 B9 D9) : wb_LassoFinderModel_body_110 K110 K56 Post x1 (nI t) 0 I9 J9 B9 D9 := by
  obtain ⟨w27, w27o, w27g, g12'⟩ := h.top
  obtain ⟨⟨q1, q2, q3, q4, q5, q6, q7, q8, q9⟩, ⟨hTy, g8, g9, g10, gp, g11, gc, g12, g20⟩, ⟨c1, c2, c3, c4, c5⟩, ⟨f1, f2, f3⟩, hTR, hKR, hBR, hlab, hkn, hok, hTc⟩ := h
  simp only [List.length_cons] at c1 c2
  have t25 : B9 25 fr.length = nI bk := by have := rep_top f1; simpa using this
  have hb0 := hok.bk0 (by omega)
  have hv : vp_in (I9 12) 8 := vin2 g12' (by omega) (by omega)
  have h12 : I9 12 = 0 ↔ fr = [] := by
    rw [eqI g12' (y := 0) (b := 0) rfl (by omega) (by omega)]
    exact List.length_eq_zero_iff
  have w320 : ∀ (Bx : Nat → Nat → Int32), K56 x1 (nI (t + 1)) (upd I9 2 (nI (a + 1))) J9 Bx D9 → wc_LassoFinderModel_body_310 K56 Post x1 (nI t) I9 J9 Bx D9 := by
    intro Bx hk z2 e2 z1 e1
    have m2 : z2 = nI (a + 1) := inI hTy.1 e2
    have m1 : z1 = nI (t + 1) := inI rfl e1
    rw [m1, m2]; exact hk
  have w273 : ¬ (tkn f n a = 124 ∧ (bk = 1 ∨ bk = 2)) → ¬ (tkn f n a = 125 ∧ fr = []) → wc_LassoFinderModel_body_273 K56 Post x1 (nI t) I9 J9 B9 D9 := by
    intro h1 h2
    refine ⟨fun _ => ⟨fun z => absurd rfl z, fun _ => q_here hTy.tx ?_⟩, fun z => absurd rfl z⟩
    rw [hTy.tk]
    exact ⟨fun u => w320 B9 (kn u), fun u => ⟨Or.inl rfl, kf u h1 h2⟩⟩
  have w243 : ¬ (tkn f n a = 125 ∧ fr = []) → wc_LassoFinderModel_body_243 K56 Post x1 (nI t) I9 J9 B9 D9 := by
    intro h2
    refine q_here hTy.tx ?_
    rw [hTy.tk]
    refine ⟨fun u => w273 (fun z => u z.1) h2, fun u => ⟨hv, fun z10 e10 => ?_⟩⟩
    rw [clI g12' (by omega), t25] at e10
    have hb := bk12 e10 hb0.2.1
    refine q_in (fun v => ⟨fun z => absurd z (by decide), fun _ => ⟨fun z => absurd z (by decide), fun _ => ⟨hv, ?_⟩⟩⟩) (fun v => ⟨fun _ => w273 (fun z => v (hb.mpr z.2)) h2, fun z => absurd rfl z⟩)
    rw [clI g12' (by omega)]
    exact ⟨fun _ => w320 _ (kv u (hb.mp v)), fun z => absurd z (by decide)⟩
  refine ⟨fun _ => q_here hTy.tx ?_, fun z => absurd rfl z⟩
  rw [hTy.tk]
  refine ⟨fun u => w243 (fun z => u z.1), fun u => ⟨fun v => w243 (fun z => v (h12.mpr z.2)), fun v z25 e25 => ?_⟩⟩
  have m25 : z25 = nI (a + 1) := inI hTy.1 e25
  rw [m25]; exact ke u (h12.mp v)
end ZG1
