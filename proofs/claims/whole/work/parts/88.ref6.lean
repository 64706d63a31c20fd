/-! Statements: the reference reads basic ones. -/
section ZF6
variable {I : Nat → Int32} {J : Nat → Int64} {B : Nat → Nat → Int32} {D : Nat → Nat → Int64} {I9 : Nat → Int32} {J9 : Nat → Int64} {B9 : Nat → Nat → Int32} {D9 : Nat → Nat → Int64}
/-- what a failed reading leaves alone -/
def FW (I9 : Nat → Int32) (B9 : Nat → Nat → Int32) (I9' : Nat → Int32) (B9' : Nat → Nat → Int32) : Prop := FI I9 I9' ∧ (∀ k, k ∉ [5, 6, 7, 8, 9, 10, 11, 12, 13, 14, 15, 16, 18, 19, 20, 22, 23, 24, 25, 26, 27, 28] → B9' k = B9 k)
/-- may there be a basic statement -/
def mayb (f : Nat → Int32) (n : Nat) (kd : Nat → Int32) (bk : Nat) (nd lt : Int32) (a : Nat) : Prop := (¬ one (tkn f n a) 97 8 = -1 ∧ ¬ kd (one (tkn f n a) 97 8).toNatClampNeg = 0) ∨ tkn f n a = 40 ∨ tkn f n a = 45 ∨ (tkn f n a = 126 ∧ (¬ nd = -1 ∧ lt = -1) ∧ ¬ bk = 3)
theorem one_sym {c : Int32} (h : c = 40 ∨ c = 45 ∨ c = 126) : one c 97 8 = -1 := by
  rcases h with rfl | rfl | rfl <;> decide
theorem r_pre {Post : Int32 → (Nat → Int32) → (Nat → Int64) → (Nat → Nat → Int32) → (Nat → Nat → Int64) → Prop} {f : Nat → Int32} {n : Nat} {kd : Nat → Int32} {base p a sz pt bs ln cl bk : Nat} {nd lt : Int32} {fr : zF} {y : Int32} (h : RG f n kd base p a sz pt bs ln cl 0 ((bk, nd, lt) :: fr) I B I9 B9) (hy : (y = 1 ∧ ¬ nd = -1 ∧ lt = -1) ∨ (y = 0 ∧ ¬ (¬ nd = -1 ∧ lt = -1)))
    (kgo : mayb f n kd bk nd lt a → bs < 48 → pt < 30 → ∀ x4 k9 : Int32, ((x4 = 1 ∧ ¬ one (tkn f n a) 97 8 = -1 ∧ ¬ kd (one (tkn f n a) 97 8).toNatClampNeg = 0) ∨ (x4 = 0 ∧ ¬ (¬ one (tkn f n a) 97 8 = -1 ∧ ¬ kd (one (tkn f n a) 97 8).toNatClampNeg = 0))) → ((tkn f n a = 40 ∧ k9 = 1) ∨ (tkn f n a = 45 ∧ k9 = 4) ∨ (tkn f n a = 126 ∧ k9 = 5) ∨ (¬ tkn f n a = 40 ∧ ¬ tkn f n a = 45 ∧ ¬ tkn f n a = 126 ∧ k9 = 0)) → wc_LassoFinderModel_basic_150 (tkn f n a) y Post (tkn f n a) (one (tkn f n a) 97 8) x4 k9 I9 J9 B9 D9)
    (kbad : ¬ mayb f n kd bk nd lt a ∨ bs = 48 ∨ pt = 30 → Post 0 (upd I9 3 (I9 2)) J9 B9 D9) : wp_LassoFinderModel_basic I9 J9 B9 D9 (tkn f n a) y Post := by
  have hG := h
  obtain ⟨w27, w27o, w27g, g12'⟩ := h.top
  obtain ⟨⟨q1, q2, q3, q4, q5, q6, q7, q8, q9⟩, ⟨hTy, g8, g9, g10, gp, g11, gc, g12, g20⟩, ⟨c1, c2, c3, c4, c5⟩, ⟨f1, f2, f3⟩, hTR, hKR, hBR, hlab, hkn, hok, hTc⟩ := h
  simp only [List.length_cons] at c1 c2
  have t25 : B9 25 fr.length = nI bk := by have := rep_top f1; simpa using this
  have hb0 := hok.bk0 (by omega)
  have h113 : (¬ mayb f n kd bk nd lt a ∨ bs = 48 ∨ pt = 30) → wc_LassoFinderModel_basic_113 (tkn f n a) y Post I9 J9 B9 D9 := fun w => ⟨Or.inl rfl, kbad w⟩
  have e48 : I9 9 = 48 ↔ bs = 48 := eqI g9 (y := 48) (b := 48) rfl (by omega) (by omega)
  have e30 : ∀ z, z = B9 20 p → (z = 30 ↔ pt = 30) := fun z hz => by rw [hz]; exact eqI g20 (y := 30) (b := 30) rfl (by omega) (by omega)
  have w83 : ∀ x4 y0 : Int32, ((x4 = 1 ∧ ¬ one (tkn f n a) 97 8 = -1 ∧ ¬ kd (one (tkn f n a) 97 8).toNatClampNeg = 0) ∨ (x4 = 0 ∧ ¬ (¬ one (tkn f n a) 97 8 = -1 ∧ ¬ kd (one (tkn f n a) 97 8).toNatClampNeg = 0))) → ((y0 = 1 ∧ mayb f n kd bk nd lt a) ∨ (y0 = 0 ∧ ¬ mayb f n kd bk nd lt a)) → wc_LassoFinderModel_basic_83 (tkn f n a) y Post (tkn f n a) (one (tkn f n a) 97 8) x4 y0 I9 J9 B9 D9 := by
    intro x4 y0 hx4 hy0
    refine ⟨fun w => h113 (Or.inl ?_), fun w => ⟨fun w2 => h113 (Or.inr (Or.inl (e48.mp w2))), fun w2 => ⟨vin2 g10 (by omega) (by omega), fun z31 e31 => ?_⟩⟩⟩
    · rcases hy0 with z | z
      · rw [z.1] at w; exact absurd w (by decide)
      · exact z.2
    · have hm : mayb f n kd bk nd lt a := by
        rcases hy0 with z | z
        · exact z.2
        · exact absurd z.1 w
      rw [clI g10 (by omega)] at e31
      have hb48 : bs < 48 := by
        have : ¬ bs = 48 := fun z => w2 (e48.mpr z)
        omega
      refine ⟨fun w3 => ?_, fun w3 => h113 (Or.inr (Or.inr ((e30 z31 e31).mp w3)))⟩
      have hp30 : pt < 30 := by
        have : ¬ pt = 30 := fun z => w3 ((e30 z31 e31).mpr z)
        omega
      exact ⟨fun w4 => ⟨fun w5 => ⟨fun w6 => kgo hm hb48 hp30 x4 0 hx4 (Or.inr (Or.inr (Or.inr ⟨w4, w5, w6, rfl⟩))), fun w6 => kgo hm hb48 hp30 x4 5 hx4 (Or.inr (Or.inr (Or.inl ⟨w6, rfl⟩)))⟩, fun w5 => kgo hm hb48 hp30 x4 4 hx4 (Or.inr (Or.inl ⟨w5, rfl⟩))⟩, fun w4 => kgo hm hb48 hp30 x4 1 hx4 (Or.inl ⟨w4, rfl⟩)⟩
  have w36 : ∀ x4 : Int32, ((x4 = 1 ∧ ¬ one (tkn f n a) 97 8 = -1 ∧ ¬ kd (one (tkn f n a) 97 8).toNatClampNeg = 0) ∨ (x4 = 0 ∧ ¬ (¬ one (tkn f n a) 97 8 = -1 ∧ ¬ kd (one (tkn f n a) 97 8).toNatClampNeg = 0))) → wc_LassoFinderModel_basic_36 (tkn f n a) y Post (tkn f n a) y (one (tkn f n a) 97 8) x4 I9 J9 B9 D9 := by
    intro x4 hx4
    have y78 : mayb f n kd bk nd lt a → wc_LassoFinderModel_basic_78 (tkn f n a) y Post (tkn f n a) (one (tkn f n a) 97 8) x4 I9 J9 B9 D9 := fun w => w83 x4 1 hx4 (Or.inl ⟨rfl, w⟩)
    have y82 : ¬ mayb f n kd bk nd lt a → wc_LassoFinderModel_basic_82 (tkn f n a) y Post (tkn f n a) (one (tkn f n a) 97 8) x4 I9 J9 B9 D9 := fun w => w83 x4 0 hx4 (Or.inr ⟨rfl, w⟩)
    refine ⟨fun w => y78 (Or.inl ?_), fun w => ⟨fun w2 => y78 (Or.inr (Or.inl w2)), fun w2 => ⟨fun w3 => y78 (Or.inr (Or.inr (Or.inl w3))), fun w3 => ⟨fun w4 => y82 (fun z => ?_), fun w4 => ⟨fun w5 => y82 (fun z => ?_), fun w5 => ⟨vin2 g12' (by omega) (by omega), fun z41 e41 => ?_⟩⟩⟩⟩⟩⟩
    · rcases hx4 with z | z
      · exact z.2
      · exact absurd z.1 w
    · rcases z with z | z | z | z
      · rcases hx4 with v | v
        · rw [v.1] at w; exact absurd w (by decide)
        · exact v.2 z
      · exact w2 z
      · exact w3 z
      · exact w4 z.1
    · rcases z with z | z | z | z
      · exact z.1 (one_sym (Or.inr (Or.inr w4)))
      · exact w2 z
      · exact w3 z
      · rcases hy with v | v
        · rw [v.1] at w5; exact absurd w5 (by decide)
        · exact v.2 z.2.1
    · have hld : ¬ nd = -1 ∧ lt = -1 := by
        rcases hy with v | v
        · exact v.2
        · exact absurd v.1 w5
      rw [clI g12' (by omega), t25] at e41
      have h3 : (3 : Int32) ≤ z41 ↔ bk = 3 := by rw [leI (x := 3) (a := 3) rfl e41 (by omega) (by omega)]; have := hb0.2.1; omega
      refine ⟨fun w6 => y82 (fun z => ?_), fun w6 => y78 (Or.inr (Or.inr (Or.inr ⟨w4, hld, fun z => w6 (h3.mpr z)⟩)))⟩
      rcases z with z | z | z | z
      · exact z.1 (one_sym (Or.inr (Or.inr w4)))
      · exact w2 z
      · exact w3 z
      · exact z.2.2 (h3.mp w6)
  refine q_from (by decide) hTy.tx ?_
  rw [hTy.tk]
  refine ⟨fun w => w36 0 (Or.inr ⟨rfl, fun z => z.1 (one_neg.mp w)⟩), fun w => ?_⟩
  have w : ¬ one (tkn f n a) 97 8 = -1 := fun z => w (one_neg.mpr z)
  obtain ⟨wl, wv⟩ := one_lt w
  obtain ⟨k0, k1, k2⟩ := hkn _ wl
  refine ⟨wv, fun z45 e45 => ⟨fun w2 => w36 1 (Or.inl ⟨rfl, w, ?_⟩), fun w2 => ⟨wv, fun z47 e47 => ⟨fun w3 => w36 0 (Or.inr ⟨rfl, fun z => ?_⟩), fun w3 => w36 1 (Or.inl ⟨rfl, w, ?_⟩)⟩⟩⟩⟩
  · rw [e45] at w2; rw [k1.mp w2]; decide
  · rw [e45] at w2; rw [e47] at w3
    rcases k0 with v | v | v
    · exact z.2 v
    · exact w2 (k1.mpr v)
    · exact absurd (k2.mpr v) (Int32.not_le.mpr w3)
  · rw [e47] at w3; rw [k2.mp (Int32.not_lt.mp w3)]; decide
end ZF6
