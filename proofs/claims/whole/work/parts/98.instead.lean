/-! The tree of a process at its end: the reference. -/
section ZH4
variable {I : Nat → Int32} {J : Nat → Int64} {B : Nat → Nat → Int32} {D : Nat → Nat → Int64} {I9 : Nat → Int32} {J9 : Nat → Int64} {B9 : Nat → Nat → Int32} {D9 : Nat → Nat → Int64}
theorem nI_mul (a b : Nat) : nI a * nI b = nI (a * b) := (Int32.ofNat_mul a b).symm
/-- up to the repetition around a break -/
theorem q_up_l {K4 : Int32 → Int32 → (Nat → Int32) → (Nat → Int64) → (Nat → Nat → Int32) → (Nat → Nat → Int64) → Prop} {Post : Int32 → (Nat → Int32) → (Nat → Int64) → (Nat → Nat → Int32) → (Nat → Nat → Int64) → Prop} {a0 x3 : Int32} {base p pt sz : Nat} {dp : Nat → Nat} (hR : RT base p pt sz B B9) (hTT : TT sz B) (hT : ∀ k, k < sz → T1 B sz dp k) : ∀ (m i k : Nat), k < sz → dp k ≤ m → i + m ≤ 6 → ¬ (if B 18 k = 2 then nI k else B 20 k) = -1 → wc_LassoFinderModel_instead_123 a0 K4 Post (off base (if B 18 k = 2 then nI k else B 20 k)) x3 I9 J9 B9 D9 → wl_LassoFinderModel_instead_92 a0 K4 Post (m + 1) (nI (base + k)) x3 (nI i) I9 J9 B9 D9 := by
  have hz := hTT.1
  have hb := hR.2.2.2.2.1
  intro m
  induction m with
  | zero =>
    intro i k hk hd hi hne h
    have hv : vp_in (nI (base + k)) 140 := vin2 rfl (by omega) (by omega)
    have hc : (nI (base + k)).toNatClampNeg = base + k := clI rfl (by omega)
    have h7 : B9 5 (base + k) = 7 ↔ B 18 k = 2 := hR.kd hTT hk (c := 2) (i := 2) rfl (by omega) (by omega)
    obtain ⟨t1, t2, t3, t4, t5, t6, t7⟩ := hT k hk
    have g2 : B 18 k = 2 := by
      rcases t1 with w | ⟨j, hj, ej, ed, _⟩
      · refine Classical.not_not.mp (fun z => hne ?_)
        rw [if_neg z, t3, w.1]; rfl
      · omega
    rw [if_pos g2, off_n (by omega)] at h
    refine ⟨fun _ => h, fun _ => ⟨hv, fun z4 e4 => ⟨fun _ => h, fun z => absurd ?_ z⟩⟩⟩
    rw [e4, hc]; exact h7.mpr g2
  | succ m ih =>
    intro i k hk hd hi hne h
    have hv : vp_in (nI (base + k)) 140 := vin2 rfl (by omega) (by omega)
    have hc : (nI (base + k)).toNatClampNeg = base + k := clI rfl (by omega)
    have h7 : B9 5 (base + k) = 7 ↔ B 18 k = 2 := hR.kd hTT hk (c := 2) (i := 2) rfl (by omega) (by omega)
    obtain ⟨t1, t2, t3, t4, t5, t6, t7⟩ := hT k hk
    refine ⟨fun z => ?_, fun _ => ⟨hv, fun z4 e4 => ⟨fun g => ?_, fun g => ⟨hv, fun z6 e6 z7 e7 => ?_⟩⟩⟩⟩
    · have := (leI (x := 8) (a := 8) rfl (y := nI i) rfl (by omega) (by omega)).mp z; omega
    · rw [e4, hc, h7] at g
      rw [if_pos g, off_n (by omega)] at h; exact h
    · rw [e4, hc, h7] at g
      rw [if_neg g] at h hne
      rw [hc, (hR.1 k hk).1] at e6
      rcases t1 with w | ⟨j, hj, ej, ed, _⟩
      · exfalso; apply hne; rw [t3, w.1]; rfl
      · rw [inI rfl e7, e6, ej, off_n (by omega)]
        have el : B 20 k = (if B 18 j = 2 then nI j else B 20 j) := by
          rw [t3, ej]; unfold lpi
          rw [if_neg (nI_m1 (by omega)), clI (x := nI j) rfl (by omega)]
        rw [el] at h hne
        exact ih (i + 1) j (by omega) (by omega) (by omega) hne h
/-- what the reference says for what the class says -/
def ins (base : Nat) (x : Int32) : Int32 := if x = -4 then -3 else if x = -3 then -2 else off base x
theorem ins_n {base k : Nat} (hk : k ≤ 1000) : ins base (nI k) = nI (base + k) := by
  unfold ins
  have h4 : ¬ nI k = -4 := fun z => by have := nI_pos (n := k) (by omega); rw [z] at this; exact this (by decide)
  have h3 : ¬ nI k = -3 := fun z => by have := nI_pos (n := k) (by omega); rw [z] at this; exact this (by decide)
  rw [if_neg h4, if_neg h3, off_n hk]
theorem q_instead_l {Post : Int32 → (Nat → Int32) → (Nat → Int64) → (Nat → Nat → Int32) → (Nat → Nat → Int64) → Prop} {a0 : Int32} {base p pt sz N : Nat} (hR : RT base p pt sz B B9) (hT : TT sz B) (h8 : I9 8 = nI N) (hN : N ≤ 140) : ∀ (m i : Nat) (x : Int32), okX x sz → ¬ x = -3 → i + m = 2 * N + 1 → Post (ins base (sv9 B m x)) I9 J9 B9 D9 → wl_LassoFinderModel_instead_4 a0 Post (m + 1) (off base x) (nI i) I9 J9 B9 D9 := by
  have hz := hT.1
  have hb := hR.2.2.2.2.1
  have h2N : ∀ z8, z8 = 2 * I9 8 → z8 = nI (2 * N) := by
    intro z8 e8
    have e2 : (2 : Int32) = nI 2 := rfl
    rw [e8, h8, e2, nI_mul]
  intro m
  induction m with
  | zero =>
    intro i x hx hx3 hi h
    intro z8 e8
    refine ⟨fun _ => h, fun z => absurd ?_ z⟩
    rw [ltI (h2N z8 e8) (y := nI i) rfl (by omega) (by omega)]; omega
  | succ m ih =>
    intro i x hx hx3 hi h
    intro z8 e8
    refine ⟨fun z => ?_, fun _ => ?_⟩
    · rw [ltI (h2N z8 e8) (y := nI i) rfl (by omega) (by omega)] at z; omega
    · rw [sv9] at h
      rcases hx with w | w | ⟨k, hk, e⟩
      · subst w
        rw [if_pos (Or.inl (by decide))] at h
        exact ⟨fun _ => h, fun z => absurd (by rw [off_m2]; decide) z⟩
      · exact absurd w hx3
      · have eo : off base x = nI (base + k) := by rw [e, off_n (by omega)]
        have hv : vp_in (nI (base + k)) 140 := vin2 rfl (by omega) (by omega)
        have hc : (nI (base + k)).toNatClampNeg = base + k := clI rfl (by omega)
        have hcx : x.toNatClampNeg = k := clI e (by omega)
        have hx : okX x sz := Or.inr (Or.inr ⟨k, hk, e⟩)
        rw [eo]
        have hrec : ¬ isS B x → ¬ stp B x = -3 → ∀ y, y = off base (stp B x) → wc_LassoFinderModel_instead_129 a0 (wl_LassoFinderModel_instead_4 a0 Post (m + 1)) Post y (nI i) I9 J9 B9 D9 := by
          intro hs h3 y ey z1 e1
          rw [if_neg hs, if_neg h3] at h
          rw [inI rfl e1, ey]
          exact ih (i + 1) _ (stp_ok hT hx hs) h3 (by omega) h
        have hn : (B 18 k = 3 ∨ B 18 k = 4 ∨ B 18 k = 5) → ¬ isS B x := by
          rintro w (z | z)
          · rw [e] at z; exact absurd z (nI_pos (by omega))
          · rw [hcx] at z; exact z w
        have hT0 := hT
        obtain ⟨_, dp, hTk, hl⟩ := hT0
        obtain ⟨r1, r2, r3, r4, r5, r6⟩ := hR.1 k hk
        obtain ⟨s1, s2, s3, s4, s5⟩ := hR.2.1 k hk
        have k8 : B9 5 (base + k) = 8 ↔ B 18 k = 3 := hR.kd hT hk (c := 3) (i := 3) rfl (by omega) (by omega)
        have k9 : B9 5 (base + k) = 9 ↔ B 18 k = 4 := hR.kd hT hk (c := 4) (i := 4) rfl (by omega) (by omega)
        have k10 : B9 5 (base + k) = 10 ↔ B 18 k = 5 := hR.kd hT hk (c := 5) (i := 5) rfl (by omega) (by omega)
        have kS : 8 ≤ B9 5 (base + k) ↔ (B 18 k = 3 ∨ B 18 k = 4 ∨ B 18 k = 5) := by
          constructor
          · intro w
            rcases (hTk k hk).2.2.1 with z | z | z | z | z | z
            · have := s1 z; grind
            · have := s2 (by rw [z]; decide); rw [this, z] at w; exact absurd w (by decide)
            · have := s2 (by rw [z]; decide); rw [this, z] at w; exact absurd w (by decide)
            · exact Or.inl z
            · exact Or.inr (Or.inl z)
            · exact Or.inr (Or.inr z)
          · rintro (z | z | z)
            · rw [k8.mpr z]; decide
            · rw [k9.mpr z]; decide
            · rw [k10.mpr z]; decide
        refine ⟨fun z => absurd z (nI_pos (by omega)), fun _ => ⟨hv, fun z11 e11 => ?_⟩⟩
        rw [hc] at e11 ⊢
        refine ⟨fun g => ⟨hv, fun z13 e13 => ⟨fun g3 => ⟨hv, fun z15 e15 => ⟨fun g5 => ?_, fun g5 => ⟨hv, fun z17 e17 z18 e18 => ⟨hv, fun z19 e19 z20 e20 => ?_⟩⟩⟩⟩, fun g3 z23 e23 => ?_⟩⟩, fun g => ?_⟩
        · rw [e11, kS] at g
          rw [e13, k8] at g3
          rw [e15, k10] at g5
          have g4 : B 18 k = 4 := by
            rcases g with z | z | z
            · exact absurd z g3
            · exact z
            · exact absurd z g5
          obtain ⟨j, hj, ej⟩ := hT.loop hk g4
          have hne2 : ¬ B 18 k = 2 := by rw [g4]; decide
          refine ⟨7, q_up_l (i := 0) hR hT (fun k hk' => (hTk k hk').1) 6 k hk (hTk k hk).1.2.1 (by omega) ?_ ?_⟩
          · rw [if_neg hne2, ej]; exact nI_m1 (by omega)
          · rw [if_neg hne2]
            have hst : stp B x = beh B (B 20 k) := by
              unfold stp; rw [hcx, if_neg g3, if_pos g4]
            refine q_next hR hT (x := B 20 k) (Or.inr ⟨j, hj, ej⟩) ?_
            refine hrec (hn g) ?_ _ (by rw [hst])
            rw [hst]
            intro z
            rcases beh_ok hT (x := B 20 k) (Or.inr ⟨j, hj, ej⟩) with w | ⟨i, _, w⟩
            · rw [w] at z; exact absurd z (by decide)
            · rw [w] at z; have := nI_pos (n := i) (by omega); rw [z] at this; exact this (by decide)
        · rw [e11, kS] at g
          rw [e13, k8] at g3
          rw [e15, k10] at g5
          obtain ⟨l, hl8, el⟩ := (hTk k hk).2.2.2 g5
          have hp := hR.2.2.2.2.2.1
          have e20' : z20 = nI (8 * p + l) := by
            have e8' : (8 : Int32) = nI 8 := rfl
            rw [e20, e18, e17, r6, e19, (s3 g5).1, el, e8', nI_mul, nI_add]
          refine ⟨vin2 e20' (by omega) (by omega), fun z21 e21 => ?_⟩
          rw [clI e20' (by omega), hR.2.2.1 l hl8] at e21
          have hst : stp B x = B 28 l := by
            unfold stp; rw [hcx, if_neg g3, if_neg (by rw [g5]; decide), el, clI (x := nI l) rfl (by omega)]
          rcases hl l hl8 with w | ⟨j, hj, w⟩
          · rw [w, off_m3] at e21
            refine ⟨fun z => by rw [e21] at z; exact absurd z (by decide), fun _ => ?_⟩
            rw [if_neg (hn g), if_pos (by rw [hst, w])] at h
            exact h
          · rw [w, off_n (by omega)] at e21
            refine ⟨fun _ => hrec (hn g) ?_ _ (by rw [hst, w, off_n (by omega)]; exact e21), fun z => absurd ?_ z⟩
            · rw [hst, w]; intro z; have := nI_pos (n := j) (by omega); rw [z] at this; exact this (by decide)
            · rw [e21]; exact Int32.not_lt.mp (nI_pos (by omega))
        · rw [e11, kS] at g
          rw [e13, k8] at g3
          have hA := (hTk k hk).2.1 g3
          have hA : k + 1 < sz ∧ B 24 k = nI (k + 1) := by
            rcases hA with w | ⟨_, _, w⟩
            · exact w
            · simp at w
          have hst : stp B x = nI (k + 1) := by
            unfold stp; rw [hcx, if_pos g3, hA.2]
          refine hrec (hn g) ?_ _ ?_
          · rw [hst]; intro z; have := nI_pos (n := k + 1) (by omega); rw [z] at this; exact this (by decide)
          · rw [hst, off_n (by omega), e23, nI_1]; rfl
        · rw [e11, kS] at g
          have : isS B x := Or.inr (by rw [hcx]; exact g)
          rw [if_pos this, e, ins_n (by omega)] at h; exact h
theorem q_instead {Post : Int32 → (Nat → Int32) → (Nat → Int64) → (Nat → Nat → Int32) → (Nat → Nat → Int64) → Prop} {x : Int32} {base p pt sz N : Nat} (hR : RT base p pt sz B B9) (hT : TT sz B) (h8 : I9 8 = nI N) (hN : N ≤ 140) (hs : sz ≤ N) (hx : okX x sz) (hx3 : ¬ x = -3) (h : Post (ins base (stl B sz x)) I9 J9 B9 D9) : wp_LassoFinderModel_instead I9 J9 B9 D9 (off base x) Post := by
  refine ⟨2 * N + 1 + 1, ?_⟩
  refine q_instead_l (i := 0) hR hT h8 hN (2 * N + 1) x hx hx3 (by omega) ?_
  rw [sv9_st hT hx (m := 2 * N) (by omega)]; exact h
end ZH4
