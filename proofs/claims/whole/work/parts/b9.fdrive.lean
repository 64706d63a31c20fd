/-! Formulas: the reference reads one. -/
section ZO1
variable {J9 : Nat → Int64} {D9 : Nat → Nat → Int64} {I0 : Nat → Int32} {B0 : Nat → Nat → Int32} {Post : Int32 → (Nat → Int32) → (Nat → Int64) → (Nat → Nat → Int32) → (Nat → Nat → Int64) → Prop} {f : Nat → Int32} {n mc : Nat} {kd : Nat → Int32} {np : Nat} {LP : Nat → Int32}
section
variable (J9 : Nat → Int64) (D9 : Nat → Nat → Int64) (I0 : Nat → Int32) (B0 : Nat → Nat → Int32) (Post : Int32 → (Nat → Int32) → (Nat → Int64) → (Nat → Nat → Int32) → (Nat → Nat → Int64) → Prop) (f : Nat → Int32) (n mc : Nat)
def W1 (u : zPs) : Prop := ∃ m, ∀ I9 B9, RF9 f n mc u I9 B9 → FF9 mc I0 B0 I9 B9 → wl_LassoFinderModel_wholeFormula_47 Post m (nI (npar u.2.2.1)) 1 I9 J9 B9 D9
def W2 (u : zPs) : Prop := ∃ m m2, ∀ I9 B9, RF9 f n mc u I9 B9 → FF9 mc I0 B0 I9 B9 → wl_LassoFinderModel_putAll_0 5 (fun I J B D => wl_LassoFinderModel_wholeFormula_47 Post m (nI (npar u.2.2.1)) 0 I J B D) m2 5 I9 J9 B9 D9
def WB (k : Nat) (u : zPs) : Prop := ∃ m m2, ∀ I9 B9, RF9 f n mc u I9 B9 → FF9 mc I0 B0 I9 B9 → wl_LassoFinderModel_putAll_0 (nI (thr k)) (fun I3 J3 B3 D3 => wc_LassoFinderModel_wholeFormula_336 (wl_LassoFinderModel_wholeFormula_47 Post m) Post (nI (npar u.2.2.1)) (nI (rc k)) I3 J3 B3 D3) m2 (nI (thr k)) I9 J9 B9 D9
def WU (k : Nat) (u : zPs) : Prop := ∃ m, ∀ I9 B9, RF9 f n mc u I9 B9 → FF9 mc I0 B0 I9 B9 → wc_LassoFinderModel_wholeFormula_336 (wl_LassoFinderModel_wholeFormula_47 Post m) Post (nI (npar u.2.2.1)) (nI (rc k)) I9 J9 B9 D9
def WC9 (u : zPs) : Prop := ∃ m m2, ∀ I9 B9, RF9 f n mc u I9 B9 → FF9 mc I0 B0 I9 B9 → wl_LassoFinderModel_putAll_0 1 (fun I30 J30 B30 D30 => ∀ z31 : Int32, z31 = ((I30 13) - 1) → ∀ z32 : Int32, z32 = (nI (npar u.2.2.1) + (-1)) → ∀ z33 : Int32, z33 = ((I30 2) + 1) → wp_LassoFinderModel_putAll (upd (upd I30 13 z31) 2 z33) J30 B30 D30 5 (fun I34 J34 B34 D34 => wc_LassoFinderModel_wholeFormula_349 (wl_LassoFinderModel_wholeFormula_47 Post m) Post z32 0 I34 J34 B34 D34)) m2 1 I9 J9 B9 D9
def WE (u : zPs) : Prop := ∃ m2, ∀ I9 B9, RF9 f n mc u I9 B9 → FF9 mc I0 B0 I9 B9 → wl_LassoFinderModel_putAll_0 1 (fun I43 J43 B43 D43 => Post 1 I43 J43 B43 D43) m2 1 I9 J9 B9 D9
def W0 (u : zPs) : Prop :=
  (¬ jo (tkn f n u.2.1) = 9 → ((jo (tkn f n u.2.1) = 6 ∨ jo (tkn f n u.2.1) = 7) → WU J9 D9 I0 B0 Post f n mc (jo (tkn f n u.2.1)) u) ∧ (¬ (jo (tkn f n u.2.1) = 6 ∨ jo (tkn f n u.2.1) = 7) → WB J9 D9 I0 B0 Post f n mc (jo (tkn f n u.2.1)) u)) ∧
  (tkn f n u.2.1 = 41 → 8 ∈ u.2.2.1 → WC9 J9 D9 I0 B0 Post f n mc u) ∧
  (¬ u.2.1 < n → 8 ∉ u.2.2.1 → WE J9 D9 I0 B0 Post f n mc u) ∧
  (jo (tkn f n u.2.1) = 9 → ¬ (tkn f n u.2.1 = 41 ∧ 8 ∈ u.2.2.1) → ¬ (¬ u.2.1 < n ∧ 8 ∉ u.2.2.1) → ∀ I9 B9, TY (B9 0) f (I9 2) (I9 1) u.2.1 n → FF9 mc I0 B0 I9 B9 → Post 0 (upd I9 3 (I9 2)) J9 B9 D9)
def GW (u : zPs) : Prop := (u.1 = 1 → W1 J9 D9 I0 B0 Post f n mc u) ∧ (u.1 = 2 → W2 J9 D9 I0 B0 Post f n mc u) ∧ (u.1 = 0 → W0 J9 D9 I0 B0 Post f n mc u)
end
theorem jo_v {c : Int32} : (c = 38 ∧ jo c = 1) ∨ (c = 62 ∧ jo c = 3) ∨ (c = 82 ∧ jo c = 7) ∨ (c = 85 ∧ jo c = 6) ∨ (c = 124 ∧ jo c = 2) ∨ (¬ c = 38 ∧ ¬ c = 62 ∧ ¬ c = 82 ∧ ¬ c = 85 ∧ ¬ c = 124 ∧ jo c = 9) := by
  by_cases h1 : c = 38
  · subst h1; exact Or.inl ⟨rfl, rfl⟩
  · by_cases h2 : c = 62
    · subst h2; exact Or.inr (Or.inl ⟨rfl, rfl⟩)
    · by_cases h3 : c = 82
      · subst h3; exact Or.inr (Or.inr (Or.inl ⟨rfl, rfl⟩))
      · by_cases h4 : c = 85
        · subst h4; exact Or.inr (Or.inr (Or.inr (Or.inl ⟨rfl, rfl⟩)))
        · by_cases h5 : c = 124
          · subst h5; exact Or.inr (Or.inr (Or.inr (Or.inr (Or.inl ⟨rfl, rfl⟩))))
          · exact Or.inr (Or.inr (Or.inr (Or.inr (Or.inr ⟨h1, h2, h3, h4, h5, by unfold jo; simp [h1, h2, h3, h4, h5]⟩))))
/-- the loop's head, where a unit is there -/
theorem hd0 {a : Nat} {st : List Nat} {out : List zIt} (hP : PI f n kd (0, a, st, out)) (h : W0 J9 D9 I0 B0 Post f n mc (0, a, st, out)) : ∃ m, ∀ I9 B9, RF9 f n mc (0, a, st, out) I9 B9 → FF9 mc I0 B0 I9 B9 → wl_LassoFinderModel_wholeFormula_47 Post m (nI (npar st)) 0 I9 J9 B9 D9 := by
  obtain ⟨hb, hc, he, hj⟩ := h
  dsimp only at hb hc he hj
  have p2 := hP.2.1
  have p1 := hP.1
  dsimp only at p1 p2
  have np_le := npar_le st
  have hmem := npar_m st
  -- what stands ahead, once for all
  have key : ∃ m, ∀ I9 B9, RF9 f n mc (0, a, st, out) I9 B9 → FF9 mc I0 B0 I9 B9 → ((I9 1 ≤ I9 2 → ((nI (npar st) ≤ 0 → wp_LassoFinderModel_putAll I9 J9 B9 D9 1 (fun I43 J43 B43 D43 => Post 1 I43 J43 B43 D43)) ∧ (¬ nI (npar st) ≤ 0 → wp_LassoFinderModel_fail I9 J9 B9 D9 (fun r44 I44 J44 B44 D44 => (r44 = 0 ∨ r44 = 1) ∧ Post r44 I44 J44 B44 D44)))) ∧ (¬ I9 1 ≤ I9 2 → wc_LassoFinderModel_wholeFormula_62 (wl_LassoFinderModel_wholeFormula_47 Post m) Post (nI (npar st)) 0 I9 J9 B9 D9)) := by
    have fl : ∀ I9 B9, RF9 f n mc (0, a, st, out) I9 B9 → FF9 mc I0 B0 I9 B9 → jo (tkn f n a) = 9 → ¬ (tkn f n a = 41 ∧ 8 ∈ st) → ¬ (¬ a < n ∧ 8 ∉ st) → wp_LassoFinderModel_fail I9 J9 B9 D9 (fun r44 I44 J44 B44 D44 => (r44 = 0 ∨ r44 = 1) ∧ Post r44 I44 J44 B44 D44) := fun I9 B9 hR hF g1 g2 g3 => ⟨Or.inl rfl, hj g1 g2 g3 I9 B9 hR.1 hF⟩
    by_cases han : a < n
    · -- not at the end
      have nend : ∀ I9 B9, RF9 f n mc (0, a, st, out) I9 B9 → ¬ I9 1 ≤ I9 2 := fun I9 B9 hR z => by
        have c1 := hR.1
        dsimp only at c1
        have := (leI c1.2.1 c1.1 (by have := c1.2.2.2.1; omega) (by have := c1.2.2.2.1; omega)).mp z
        omega
      -- a sign of the kind k
      have two : ∀ k, jo (tkn f n a) = k → ¬ k = 9 → ∃ m, ∀ I9 B9, RF9 f n mc (0, a, st, out) I9 B9 → FF9 mc I0 B0 I9 B9 → wc_LassoFinderModel_wholeFormula_295 (wl_LassoFinderModel_wholeFormula_47 Post m) Post (nI (npar st)) (nI (rc k)) I9 J9 B9 D9 := by
        intro k hk hk9
        have kk := (jo_c (c := tkn f n a) (by rw [hk]; exact hk9)).2
        rw [hk] at kk
        have r := rc_9 (k := k) (by omega)
        rw [hk] at hb
        obtain ⟨hb6, hbn⟩ := hb hk9
        have le0 : (0 : Int32) ≤ nI (rc k) := nI_pos' (by omega)
        have b4 : (4 : Int32) ≤ nI (bnd k) ↔ 4 ≤ bnd k := leI (x := 4) (a := 4) rfl rfl (by omega) (by
          have : k = 1 ∨ k = 2 ∨ k = 3 ∨ k = 6 ∨ k = 7 := kk
          rcases this with rfl | rfl | rfl | rfl | rfl <;> decide)
        by_cases g67 : k = 6 ∨ k = 7
        · obtain ⟨m, hm⟩ := hb6 g67
          refine ⟨m, fun I9 B9 hR hF => ⟨fun _ => r_binds (by omega) ⟨fun _ => hm I9 B9 hR hF, fun z => absurd (b4.mpr ?_) z⟩, fun z => absurd le0 z⟩⟩
          rcases g67 with rfl | rfl <;> decide
        · obtain ⟨m, m2, hm⟩ := hbn g67
          have q11 : nI (rc k) = 11 ↔ rc k = 11 := rc_q (by omega) rfl (by omega)
          refine ⟨m, fun I9 B9 hR hF => ⟨fun _ => r_binds (by omega) ⟨fun z => absurd (b4.mp z) ?_, fun _ => ⟨fun g11 => r_binds (by omega) ⟨m2, ?_⟩, fun g11 => ⟨m2, ?_⟩⟩⟩, fun z => absurd le0 z⟩⟩
          · have : k = 1 ∨ k = 2 ∨ k = 3 := by omega
            rcases this with rfl | rfl | rfl <;> decide
          · have n11 : ¬ rc k = 11 := fun e => g11 (q11.mpr e)
            have : k = 1 ∨ k = 2 := by omega
            have e : bnd k = thr k := by rcases this with rfl | rfl <;> rfl
            rw [e]; exact hm I9 B9 hR hF
          · have := q11.mp g11
            have e : k = 3 := by omega
            subst e
            exact hm I9 B9 hR hF
      have none9 : jo (tkn f n a) = 9 → ¬ (tkn f n a = 41 ∧ 8 ∈ st) → ∀ m, ∀ I9 B9, RF9 f n mc (0, a, st, out) I9 B9 → FF9 mc I0 B0 I9 B9 → wc_LassoFinderModel_wholeFormula_295 (wl_LassoFinderModel_wholeFormula_47 Post m) Post (nI (npar st)) (-1) I9 J9 B9 D9 := fun g1 g2 m I9 B9 hR hF => ⟨fun z => absurd z (by decide), fun _ => fl I9 B9 hR hF g1 g2 (fun z => z.1 han)⟩
      -- by cases of the token
      by_cases t41 : tkn f n a = 41
      · have j9 : jo (tkn f n a) = 9 := by rw [t41]; rfl
        by_cases h8 : 8 ∈ st
        · obtain ⟨m, m2, hm⟩ := hc t41 h8
          refine ⟨m, fun I9 B9 hR hF => ⟨fun z => absurd z (nend I9 B9 hR), fun _ => ?_⟩⟩
          have c1 := hR.1
          dsimp only at c1
          refine q_here c1.tx ?_
          rw [c1.tk]
          refine ⟨fun _ => ⟨fun z => absurd t41 z, fun _ => ⟨fun _ => ⟨m2, hm I9 B9 hR hF⟩, fun z => ?_⟩⟩, fun z => absurd rfl z⟩
          have := (eqI (x := nI (npar st)) rfl (y := 0) (b := 0) rfl (by have := c1.2.2.2.1; omega) (by omega)).mp z
          have := hmem.mp h8
          omega
        · refine ⟨0, fun I9 B9 hR hF => ⟨fun z => absurd z (nend I9 B9 hR), fun _ => ?_⟩⟩
          have c1 := hR.1
          dsimp only at c1
          refine q_here c1.tx ?_
          rw [c1.tk]
          refine ⟨fun _ => ⟨fun z => absurd t41 z, fun _ => ⟨fun z => absurd ?_ z, fun _ => fl I9 B9 hR hF j9 (fun z => h8 z.2) (fun z => z.1 han)⟩⟩, fun z => absurd rfl z⟩
          have : npar st = 0 := by
            have : ¬ 0 < npar st := fun e => h8 (hmem.mpr e)
            omega
          rw [this]; rfl
      · have j := jo_v (c := tkn f n a)
        have go : ∃ m, ∀ I9 B9, RF9 f n mc (0, a, st, out) I9 B9 → FF9 mc I0 B0 I9 B9 → wc_LassoFinderModel_wholeFormula_295 (wl_LassoFinderModel_wholeFormula_47 Post m) Post (nI (npar st)) (if jo (tkn f n a) = 9 then -1 else nI (rc (jo (tkn f n a)))) I9 J9 B9 D9 := by
          by_cases e9 : jo (tkn f n a) = 9
          · exact ⟨0, fun I9 B9 hR hF => by rw [if_pos e9]; exact none9 e9 (fun z => t41 z.1) 0 I9 B9 hR hF⟩
          · obtain ⟨m, hm⟩ := two _ rfl e9
            exact ⟨m, fun I9 B9 hR hF => by rw [if_neg e9]; exact hm I9 B9 hR hF⟩
        obtain ⟨m, hm⟩ := go
        refine ⟨m, fun I9 B9 hR hF => ⟨fun z => absurd z (nend I9 B9 hR), fun _ => ?_⟩⟩
        have c1 := hR.1
        dsimp only at c1
        have hm' := hm I9 B9 hR hF
        refine q_here c1.tx ?_
        rw [c1.tk]
        refine ⟨fun _ => ⟨fun _ => ⟨fun g62 => ⟨fun g124 => ⟨fun g38 => ⟨fun g85 => ⟨fun g82 => ?_, fun g82 => ?_⟩, fun g85 => ?_⟩, fun g38 => ?_⟩, fun g124 => ?_⟩, fun g62 => ?_⟩, fun z => absurd z t41⟩, fun z => absurd rfl z⟩
        · have e9 : jo (tkn f n a) = 9 := by unfold jo; simp [g62, g124, g38, g85, g82]
          rw [if_pos e9] at hm'; exact hm'
        · rw [g82] at hm'; exact hm'
        · rw [g85] at hm'; exact hm'
        · rw [g38] at hm'; exact hm'
        · rw [g124] at hm'; exact hm'
        · rw [g62] at hm'; exact hm'
    · -- the end
      have e0 : tkn f n a = 0 := by unfold tkn; rw [if_neg han]
      have j9 : jo (tkn f n a) = 9 := by rw [e0]; rfl
      have isend : ∀ I9 B9, RF9 f n mc (0, a, st, out) I9 B9 → I9 1 ≤ I9 2 := fun I9 B9 hR => by
        have c1 := hR.1
        dsimp only at c1
        exact (leI c1.2.1 c1.1 (by have := c1.2.2.2.1; omega) (by have := c1.2.2.2.1; omega)).mpr (by omega)
      refine ⟨0, fun I9 B9 hR hF => ⟨fun _ => ⟨fun z => ?_, fun z => ?_⟩, fun z => absurd (isend I9 B9 hR) z⟩⟩
      · have hn := hR.1.2.2.2.1
        have := (leI (x := nI (npar st)) rfl (y := 0) (b := 0) rfl (by omega) (by omega)).mp z
        have h8 : 8 ∉ st := fun e => by have := hmem.mp e; omega
        obtain ⟨m2, hm⟩ := he han h8
        exact ⟨m2, hm I9 B9 hR hF⟩
      · have hn := hR.1.2.2.2.1
        have h8 : 8 ∈ st := by
          refine hmem.mpr ?_
          have : ¬ npar st ≤ 0 := fun e => z ((leI (x := nI (npar st)) rfl (y := 0) (b := 0) rfl (by omega) (by omega)).mpr e)
          omega
        exact fl I9 B9 hR hF j9 (fun z => by rw [e0] at z; exact absurd z.1 (by decide)) (fun z => z.2 h8)
  obtain ⟨m, hm⟩ := key
  exact ⟨m + 1, fun I9 B9 hR hF => ⟨fun z => absurd rfl z, fun _ => hm I9 B9 hR hF⟩⟩
end ZO1
