/-! The tree of a process at its end: what is behind a statement. -/
section ZH2
variable {I : Nat → Int32} {J : Nat → Int64} {B : Nat → Nat → Int32} {D : Nat → Nat → Int64} {I9 : Nat → Int32} {J9 : Nat → Int64} {B9 : Nat → Nat → Int32} {D9 : Nat → Nat → Int64}
/-- a process's whole tree -/
def TT (sz : Nat) (B : Nat → Nat → Int32) : Prop := sz ≤ 140 ∧ ∃ dp, (∀ k, k < sz → T1 B sz dp k ∧ A1 B sz [] k ∧ (B 18 k = 0 ∨ B 18 k = 1 ∨ B 18 k = 2 ∨ B 18 k = 3 ∨ B 18 k = 4 ∨ B 18 k = 5) ∧ (B 18 k = 5 → ∃ l, l < 8 ∧ B 26 k = nI l)) ∧ (∀ l, l < 8 → B 28 l = -3 ∨ ∃ k, k < sz ∧ B 28 l = nI k)
/-- .. as the reference keeps it -/
def RT (base p pt sz : Nat) (B B9 : Nat → Nat → Int32) : Prop := TR base p sz B B9 ∧ (∀ k, k < sz → (B 18 k = 0 → 0 ≤ B9 5 (base + k) ∧ B9 5 (base + k) ≤ 5) ∧ (¬ B 18 k = 0 → B9 5 (base + k) = B 18 k + 5) ∧ (B 18 k = 5 → B9 12 (base + k) = B 26 k ∧ B9 16 (base + k) = B 27 k) ∧ (¬ 2 < B 18 k → ∃ q, q < pt ∧ B 25 k = nI q ∧ B9 23 (31 * p + q) = nI (base + k)) ∧ (2 < B 18 k → B 25 k = -1)) ∧ (∀ l, l < 8 → B9 22 (8 * p + l) = off base (B 28 l)) ∧ B9 20 p = nI pt ∧ base + sz ≤ 140 ∧ p < 4 ∧ pt ≤ 30
def bh (B : Nat → Nat → Int32) : Nat → Int32 → Int32
  | 0, _ => -2
  | m + 1, x => if x = -1 then -2 else if ¬ B 23 x.toNatClampNeg = -1 then B 23 x.toNatClampNeg else if ¬ B 19 x.toNatClampNeg = -1 ∧ B 18 (B 19 x.toNatClampNeg).toNatClampNeg = 2 then B 19 x.toNatClampNeg else bh B m (B 19 x.toNatClampNeg)
theorem bh_ok {sz : Nat} {dp : Nat → Nat} (hz : sz ≤ 140) (hT : ∀ k, k < sz → T1 B sz dp k) : ∀ (m : Nat) (x : Int32), okI x sz → bh B m x = -2 ∨ ∃ k, k < sz ∧ bh B m x = nI k := by
  intro m
  induction m with
  | zero => intro x _; exact Or.inl rfl
  | succ m ih =>
    intro x hx
    simp only [bh]
    by_cases g : x = -1
    · rw [if_pos g]; exact Or.inl rfl
    · rw [if_neg g]
      obtain ⟨k, hk, e⟩ := hx.at g
      rw [clI e (by omega)]
      obtain ⟨t1, t2, t3, t4, t5, t6, t7⟩ := hT k hk
      have ho := (hT k hk).okI19 hk
      by_cases g2 : B 23 k = -1
      · rw [if_neg (fun z => z g2)]
        by_cases g3 : ¬ B 19 k = -1 ∧ B 18 (B 19 k).toNatClampNeg = 2
        · rw [if_pos g3]
          obtain ⟨j, hj, ej⟩ := ho.at g3.1
          exact Or.inr ⟨j, hj, ej⟩
        · rw [if_neg g3]; exact ih _ ho
      · rw [if_pos g2]
        rcases t5 with w | ⟨j, h1, h2, h3⟩
        · exact absurd w g2
        · exact Or.inr ⟨j, h2, h3⟩
theorem q_behind_l {Post : Int32 → (Nat → Int32) → (Nat → Int64) → (Nat → Nat → Int32) → (Nat → Nat → Int64) → Prop} {a0 : Int32} {sz : Nat} {dp : Nat → Nat} (hz : sz ≤ 140) (hT : ∀ k, k < sz → T1 B sz dp k) : ∀ (m i : Nat) (x : Int32), (x = -1 ∨ ∃ k, k < sz ∧ x = nI k ∧ dp k < m) → i + m ≤ 100 → Post (bh B m x) I J B D → wl_Tree_behind_4 a0 Post (m + 1) x (nI i) I J B D := by
  intro m
  induction m with
  | zero =>
    intro i x hx hi h
    have e : x = -1 := hx.resolve_right (fun ⟨k, _, _, h⟩ => by omega)
    exact ⟨fun _ => h, fun _ => ⟨fun _ => h, fun z => absurd e z⟩⟩
  | succ m ih =>
    intro i x hx hi h
    simp only [bh] at h
    refine ⟨fun z => ?_, fun _ => ⟨fun z => by rw [if_pos z] at h; exact h, fun g => ?_⟩⟩
    · have := (leI (x := 240) (a := 240) rfl (y := nI i) rfl (by omega) (by omega)).mp z; omega
    · rw [if_neg g] at h
      obtain ⟨k, hk, e, hd⟩ := hx.resolve_left g
      rw [clI e (by omega)] at h ⊢
      obtain ⟨t1, t2, t3, t4, t5, t6, t7⟩ := hT k hk
      have ho := (hT k hk).okI19 hk
      have hv : vp_in x 240 := vin2 e (by omega) (by omega)
      refine ⟨hv, fun z4 e4 => ⟨fun g2 => ⟨hv, fun z6 e6 => ?_⟩, fun g2 => ⟨hv, fun z10 e10 => ?_⟩⟩⟩
      · rw [e4] at g2
        rw [if_neg (fun z => z g2)] at h
        subst e6
        have hrec : ¬ (¬ B 19 k = -1 ∧ B 18 (B 19 k).toNatClampNeg = 2) → wc_Tree_behind_57 a0 (wl_Tree_behind_4 a0 Post (m + 1)) Post (B 19 k) (nI i) I J B D := by
          intro g3
          rw [if_neg g3] at h
          intro z1 e1
          rw [inI rfl e1]
          refine ih (i + 1) _ ?_ (by omega) h
          rcases t1 with w | ⟨j, hj, ej, ed, _⟩
          · exact Or.inl w.1
          · exact Or.inr ⟨j, by omega, ej, by omega⟩
        refine ⟨fun g3 => hrec (fun z => z.1 g3), fun g3 => ?_⟩
        obtain ⟨j, hj, ej⟩ := ho.at g3
        refine ⟨vin2 ej (by omega) (by omega), fun z8 e8 => ⟨fun g4 => hrec (fun z => g4 (by rw [e8]; exact z.2)), fun g4 => ?_⟩⟩
        rw [if_pos ⟨g3, by rw [← e8]; exact g4⟩] at h; exact h
      · rw [e4] at g2
        rw [if_pos g2] at h; rw [e10]; exact h
def beh (B : Nat → Nat → Int32) (x : Int32) : Int32 := bh B 7 x
theorem q_behind {Post : Int32 → (Nat → Int32) → (Nat → Int64) → (Nat → Nat → Int32) → (Nat → Nat → Int64) → Prop} {x : Int32} {sz : Nat} (hT : TT sz B) (hx : okI x sz) (h : Post (beh B x) I J B D) : wp_Tree_behind I J B D x Post := by
  obtain ⟨hz, dp, hk, _⟩ := hT
  refine ⟨8, ?_⟩
  refine q_behind_l (i := 0) hz (fun k hk' => (hk k hk').1) 7 x ?_ (by omega) h
  rcases hx with w | ⟨k, hk', e⟩
  · exact Or.inl w
  · exact Or.inr ⟨k, hk', e, by have := (hk k hk').1.2.1; omega⟩
theorem beh_ok {x : Int32} {sz : Nat} (hT : TT sz B) (hx : okI x sz) : beh B x = -2 ∨ ∃ k, k < sz ∧ beh B x = nI k := by
  obtain ⟨hz, dp, hk, _⟩ := hT
  exact bh_ok hz (fun k hk' => (hk k hk').1) 7 x hx
theorem off_m2 (base : Nat) : off base (-2) = -1 := rfl
theorem off_m3 (base : Nat) : off base (-3) = -1 := rfl
/-- kinds on both sides -/
theorem RT.kd {base p pt sz : Nat} (h : RT base p pt sz B B9) (hT : TT sz B) {k : Nat} (hk : k < sz) {c : Int32} {i : Nat} (hc : c = nI i) (hi : i ≤ 5) (hi1 : 1 ≤ i) : B9 5 (base + k) = nI (i + 5) ↔ B 18 k = c := by
  obtain ⟨h0, h1, _⟩ := h.2.1 k hk
  by_cases g : B 18 k = 0
  · have := h0 g
    rw [g]
    constructor
    · intro z; rw [z] at this
      have := (leI (x := nI (i + 5)) rfl (y := 5) (b := 5) rfl (by omega) (by omega)).mp this.2
      omega
    · intro z; rw [hc] at z
      have := nI_inj (a := 0) (b := i) (by omega) (by omega) z
      omega
  · rw [h1 g, hc]
    have e5 : (5 : Int32) = nI 5 := rfl
    rw [e5]
    constructor
    · intro z
      have e : nI (i + 5) = nI i + nI 5 := (nI_add _ _).symm
      rw [e] at z
      grind
    · intro z; rw [z, nI_add]
theorem q_next_l {Post : Int32 → (Nat → Int32) → (Nat → Int64) → (Nat → Nat → Int32) → (Nat → Nat → Int64) → Prop} {a0 : Int32} {base p pt sz : Nat} {dp : Nat → Nat} (hR : RT base p pt sz B B9) (hTT : TT sz B) (hT : ∀ k, k < sz → T1 B sz dp k) : ∀ (m i : Nat) (x : Int32), (x = -1 ∨ ∃ k, k < sz ∧ x = nI k ∧ dp k < m) → i + m ≤ 7 → Post (off base (bh B m x)) I9 J9 B9 D9 → wl_LassoFinderModel_next_4 a0 Post (m + 1) (off base x) (nI i) I9 J9 B9 D9 := by
  have hz := hTT.1
  have hb := hR.2.2.2.2.1
  intro m
  induction m with
  | zero =>
    intro i x hx hi h
    have e : x = -1 := hx.resolve_right (fun ⟨k, _, _, h⟩ => by omega)
    subst e
    exact ⟨fun _ => h, fun _ => ⟨fun _ => h, fun z => absurd (by rw [off_m]; decide) z⟩⟩
  | succ m ih =>
    intro i x hx hi h
    simp only [bh] at h
    refine ⟨fun z => ?_, fun _ => ?_⟩
    · have := (leI (x := 8) (a := 8) rfl (y := nI i) rfl (by omega) (by omega)).mp z; omega
    · by_cases g : x = -1
      · rw [if_pos g] at h
        subst g
        exact ⟨fun _ => h, fun z => absurd (by rw [off_m]; decide) z⟩
      · rw [if_neg g] at h
        obtain ⟨k, hk, e, hd⟩ := hx.resolve_left g
        rw [clI e (by omega)] at h
        obtain ⟨t1, t2, t3, t4, t5, t6, t7⟩ := hT k hk
        have ho := (hT k hk).okI19 hk
        have eo : off base x = nI (base + k) := by rw [e, off_n (by omega)]
        rw [eo]
        have hv : vp_in (nI (base + k)) 140 := vin2 rfl (by omega) (by omega)
        have hc : (nI (base + k)).toNatClampNeg = base + k := clI rfl (by omega)
        obtain ⟨r1, r2, r3, r4, r5, r6⟩ := hR.1 k hk
        refine ⟨fun z => absurd z (nI_pos (by omega)), fun _ => ?_⟩
        rw [hc, r1, r2]
        have h23 : off base (B 23 k) < 0 ↔ B 23 k = -1 := by
          refine (off_neg (n := sz) ?_ (by omega) (by omega)).1
          rcases t5 with w | ⟨j, w1, w2, w3⟩
          · exact Or.inl w
          · exact Or.inr ⟨j, w2, w3⟩
        have h19 := (off_neg (base := base) ho (by omega) (by omega)).1
        refine ⟨hv, fun z4 e4 => ⟨fun g2 => ⟨hv, fun z6 e6 => ?_⟩, fun g2 => ⟨hv, fun z10 e10 => ?_⟩⟩⟩
        · rw [e4, h23] at g2
          rw [if_neg (fun z => z g2)] at h
          subst e6
          have hrec : ¬ (¬ B 19 k = -1 ∧ B 18 (B 19 k).toNatClampNeg = 2) → wc_LassoFinderModel_next_54 a0 (wl_LassoFinderModel_next_4 a0 Post (m + 1)) Post (off base (B 19 k)) (nI i) I9 J9 B9 D9 := by
            intro g3
            rw [if_neg g3] at h
            intro z1 e1
            rw [inI rfl e1]
            refine ih (i + 1) _ ?_ (by omega) h
            rcases t1 with w | ⟨j, hj, ej, ed, _⟩
            · exact Or.inl w.1
            · exact Or.inr ⟨j, by omega, ej, by omega⟩
          refine ⟨fun g3 => hrec (fun z => z.1 (h19.mp g3)), fun g3 => ?_⟩
          have g3' : ¬ B 19 k = -1 := fun z => g3 (h19.mpr z)
          obtain ⟨j, hj, ej⟩ := ho.at g3'
          have eo2 : off base (B 19 k) = nI (base + j) := by rw [ej, off_n (by omega)]
          refine ⟨vin2 eo2 (by omega) (by omega), fun z8 e8 => ?_⟩
          rw [clI eo2 (by omega)] at e8
          have hk7 : z8 = 7 ↔ B 18 (B 19 k).toNatClampNeg = 2 := by
            rw [e8, clI ej (by omega)]; exact hR.kd hTT hj (c := 2) (i := 2) rfl (by omega) (by omega)
          refine ⟨fun g4 => hrec (fun z => g4 (hk7.mpr z.2)), fun g4 => ?_⟩
          rw [if_pos ⟨g3', hk7.mp g4⟩] at h; exact h
        · rw [e4, h23] at g2
          rw [if_pos g2] at h; rw [e10]; exact h
theorem q_next {Post : Int32 → (Nat → Int32) → (Nat → Int64) → (Nat → Nat → Int32) → (Nat → Nat → Int64) → Prop} {x : Int32} {base p pt sz : Nat} (hR : RT base p pt sz B B9) (hT : TT sz B) (hx : okI x sz) (h : Post (off base (beh B x)) I9 J9 B9 D9) : wp_LassoFinderModel_next I9 J9 B9 D9 (off base x) Post := by
  obtain ⟨hz, dp, hk, _⟩ := id hT
  refine ⟨8, ?_⟩
  refine q_next_l (i := 0) hR hT (fun k hk' => (hk k hk').1) 7 x ?_ (by omega) h
  rcases hx with w | ⟨k, hk', e⟩
  · exact Or.inl w
  · exact Or.inr ⟨k, hk', e, by have := (hk k hk').1.2.1; omega⟩
end ZH2
