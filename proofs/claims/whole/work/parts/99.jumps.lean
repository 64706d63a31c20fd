/-! The tree of a process at its end: jumps that go nowhere. -/
section ZH5
variable {I : Nat → Int32} {J : Nat → Int64} {B : Nat → Nat → Int32} {D : Nat → Nat → Int64} {I9 : Nat → Int32} {J9 : Nat → Int64} {B9 : Nat → Nat → Int32} {D9 : Nat → Nat → Int64}
def badJ (B : Nat → Nat → Int32) (sz k : Nat) : Prop := B 18 k = 5 ∧ (B 28 (B 26 k).toNatClampNeg = -3 ∨ stl B sz (nI k) = -4)
theorem q_checkJumps_l {Post : (Nat → Int32) → (Nat → Int64) → (Nat → Nat → Int32) → (Nat → Nat → Int64) → Prop} {PX : String → (Nat → Int32) → (Nat → Int64) → (Nat → Nat → Int32) → (Nat → Nat → Int64) → Prop} {sz : Nat} (hT : TT sz B) (h16 : I 16 = nI sz)
    (hb : ∀ k, k < sz → badJ B sz k → (∀ j, j < k → ¬ badJ B sz j) → PX "java/lang/IllegalArgumentException" (upd I 6 (B 27 k)) J B D) (hk : (∀ k, k < sz → ¬ badJ B sz k) → Post I J B D) : ∀ (m k : Nat), k + m = sz → (∀ j, j < k → ¬ badJ B sz j) → wl_ModelReader_checkJumps_2 Post PX (m + 1) (nI k) I J B D := by
  have hz := hT.1
  have hT0 := hT
  obtain ⟨_, dp, hTk, hl⟩ := hT0
  intro m
  induction m with
  | zero =>
    intro k hm hn
    refine ⟨fun _ => hk (fun j hj => hn j (by omega)), fun z => absurd ?_ z⟩
    rw [leI h16 (y := nI k) rfl (by omega) (by omega)]; omega
  | succ m ih =>
    intro k hm hn
    have hv : vp_in (nI k) 240 := vin2 rfl (by omega) (by omega)
    have hc : (nI k).toNatClampNeg = k := clI rfl (by omega)
    have go : ¬ badJ B sz k → wc_ModelReader_checkJumps_87 (wl_ModelReader_checkJumps_2 Post PX (m + 1)) Post PX (nI k) I J B D := by
      intro hb' z1 e1
      rw [inI rfl e1]
      refine ih (k + 1) (by omega) (fun j hj => ?_)
      by_cases e : j = k
      · subst e; exact hb'
      · exact hn j (by omega)
    have no : badJ B sz k → wc_ModelReader_checkJumps_71 (wl_ModelReader_checkJumps_2 Post PX (m + 1)) Post PX (nI k) I J B D := by
      intro hb'
      refine ⟨hv, fun z2 e2 => ?_⟩
      rw [hc] at e2
      subst e2
      exact hb k (by omega) hb' hn
    refine ⟨fun z => ?_, fun _ => ⟨hv, fun z8 e8 => ⟨fun g => go ?_, fun g => ⟨hv, fun z10 e10 => ?_⟩⟩⟩⟩
    · rw [leI h16 (y := nI k) rfl (by omega) (by omega)] at z; omega
    · rw [e8, hc] at g; exact fun z => g z.1
    · rw [e8, hc] at g
      rw [hc] at e10
      obtain ⟨l, hl8, el⟩ := (hTk k (by omega)).2.2.2 g
      refine ⟨vin2 (e10.trans el) (by omega) (by omega), fun z11 e11 => ⟨fun g2 => ⟨fun z => absurd rfl z, fun _ => ?_⟩, fun g2 => ⟨fun _ => no ⟨g, Or.inl (by rw [← e10, ← e11]; exact g2)⟩, fun z => absurd z (by decide)⟩⟩⟩
      rw [e11, e10] at g2
      refine q_settled hT (Or.inr (Or.inr ⟨k, by omega, rfl⟩)) ⟨fun g3 => go (fun z => z.2.elim g2 g3), fun g3 => no ⟨g, Or.inr g3⟩⟩
theorem q_checkJumps {Post : (Nat → Int32) → (Nat → Int64) → (Nat → Nat → Int32) → (Nat → Nat → Int64) → Prop} {PX : String → (Nat → Int32) → (Nat → Int64) → (Nat → Nat → Int32) → (Nat → Nat → Int64) → Prop} {sz : Nat} (hT : TT sz B) (h16 : I 16 = nI sz)
    (hb : ∀ k, k < sz → badJ B sz k → (∀ j, j < k → ¬ badJ B sz j) → PX "java/lang/IllegalArgumentException" (upd I 6 (B 27 k)) J B D) (hk : (∀ k, k < sz → ¬ badJ B sz k) → Post I J B D) : wp_ModelReader_checkJumps I J B D Post PX := ⟨sz + 1, q_checkJumps_l (k := 0) hT h16 hb hk sz (by omega) (fun _ h => by omega)⟩
theorem ins_r {base sz : Nat} {v : Int32} (hz : sz ≤ 140) (hb : base ≤ 1000) (h : v = -4 ∨ v = -3 ∨ v = -2 ∨ ∃ k, k < sz ∧ v = nI k ∧ (B 18 k = 0 ∨ B 18 k = 1 ∨ B 18 k = 2)) : ins base v = -3 ↔ v = -4 := by
  rcases h with rfl | rfl | rfl | ⟨k, hk, rfl, _⟩
  · exact ⟨fun _ => rfl, fun _ => rfl⟩
  · exact ⟨fun z => absurd z (by rw [show ins base (-3) = -2 from rfl]; decide), fun z => absurd z (by decide)⟩
  · exact ⟨fun z => absurd z (by rw [show ins base (-2) = -1 from rfl]; decide), fun z => absurd z (by decide)⟩
  · rw [ins_n (by omega)]
    constructor
    · intro z; have := nI_pos (n := base + k) (by omega); rw [z] at this; exact absurd (by decide) this
    · intro z; have := nI_pos (n := k) (by omega); rw [z] at this; exact absurd (by decide) this
theorem stl_jump {sz k : Nat} (hT : TT sz B) (hk : k < sz) (h5 : B 18 k = 5) : stl B sz (B 28 (B 26 k).toNatClampNeg) = stl B sz (nI k) := by
  have hz := hT.1
  have hx : okX (nI k) sz := Or.inr (Or.inr ⟨k, hk, rfl⟩)
  have hc : (nI k).toNatClampNeg = k := clI rfl (by omega)
  have hs : ¬ isS B (nI k) := by
    rintro (z | z)
    · exact absurd z (nI_pos (by omega))
    · rw [hc] at z; exact z (Or.inr (Or.inr h5))
  have hst : stp B (nI k) = B 28 (B 26 k).toNatClampNeg := by
    unfold stp
    rw [hc, if_neg (by rw [h5]; decide), if_neg (by rw [h5]; decide)]
  rw [← sv_st hT hx (m := sz + 1) (by omega), sv, if_neg hs, hst]; rfl
theorem q_jumps_l {Post : Int32 → (Nat → Int32) → (Nat → Int64) → (Nat → Nat → Int32) → (Nat → Nat → Int64) → Prop} {a0 : Int32} {base p pt sz : Nat} (hR : RT base p pt sz B B9) (hT : TT sz B) (h8 : I9 8 = nI (base + sz)) (h10 : I9 10 = nI p)
    (hb : ∀ k, k < sz → badJ B sz k → (∀ j, j < k → ¬ badJ B sz j) → Post 0 (upd I9 3 (B 27 k)) J9 B9 D9) (hk : (∀ k, k < sz → ¬ badJ B sz k) → Post 1 I9 J9 B9 D9) : ∀ (m k : Nat), k + m = sz → (∀ j, j < k → ¬ badJ B sz j) → wl_LassoFinderModel_jumps_2 a0 Post (m + 1) (nI (base + k)) I9 J9 B9 D9 := by
  have hz := hT.1
  have hb140 := hR.2.2.2.2.1
  have hp := hR.2.2.2.2.2.1
  have hT0 := hT
  obtain ⟨_, dp, hTk, hl⟩ := hT0
  intro m
  induction m with
  | zero =>
    intro k hm hn
    refine ⟨fun _ => hk (fun j hj => hn j (by omega)), fun z => absurd ?_ z⟩
    rw [leI h8 (y := nI (base + k)) rfl (by omega) (by omega)]; omega
  | succ m ih =>
    intro k hm hn
    have hv : vp_in (nI (base + k)) 140 := vin2 rfl (by omega) (by omega)
    have hc : (nI (base + k)).toNatClampNeg = base + k := clI rfl (by omega)
    have k10 : B9 5 (base + k) = 10 ↔ B 18 k = 5 := hR.kd hT (by omega) (c := 5) (i := 5) rfl (by omega) (by omega)
    obtain ⟨s1, s2, s3, s4, s5⟩ := hR.2.1 k (by omega)
    have go : ¬ badJ B sz k → wc_LassoFinderModel_jumps_70 a0 (wl_LassoFinderModel_jumps_2 a0 Post (m + 1)) Post (nI (base + k)) I9 J9 B9 D9 := by
      intro hb' z1 e1
      rw [inI rfl e1]
      refine ih (k + 1) (by omega) (fun j hj => ?_)
      by_cases e : j = k
      · subst e; exact hb'
      · exact hn j (by omega)
    have no : badJ B sz k → wc_LassoFinderModel_jumps_58 a0 Post (nI (base + k)) I9 J9 B9 D9 := by
      intro hb'
      refine ⟨hv, fun z2 e2 => ?_⟩
      rw [hc, (s3 hb'.1).2] at e2
      subst e2
      exact hb k (by omega) hb' hn
    refine ⟨fun z => ?_, fun _ => ⟨hv, fun z4 e4 => ⟨fun g z6 e6 => ⟨hv, fun z7 e7 z8 e8 => ?_⟩, fun g => go ?_⟩⟩⟩
    · rw [leI h8 (y := nI (base + k)) rfl (by omega) (by omega)] at z; omega
    · rw [e4, hc, k10] at g
      obtain ⟨l, hl8, el⟩ := (hTk k (by omega)).2.2.2 g
      have e8' : z8 = nI (8 * p + l) := by
        have q8 : (8 : Int32) = nI 8 := rfl
        rw [e8, e6, h10, e7, hc, (s3 g).1, el, q8, nI_mul, nI_add]
      refine ⟨vin2 e8' (by omega) (by omega), fun z9 e9 => ?_⟩
      rw [clI e8' (by omega), hR.2.2.1 l hl8] at e9
      have hlc : (B 26 k).toNatClampNeg = l := by rw [el]; exact clI rfl (by omega)
      have hj := stl_jump hT (k := k) (by omega) g
      rw [hlc] at hj
      rcases hl l hl8 with w | ⟨j, hj', w⟩
      · rw [w, off_m3] at e9
        exact ⟨fun _ => no ⟨g, Or.inl (by rw [hlc]; exact w)⟩, fun z => absurd (by rw [e9]; decide) z⟩
      · refine ⟨fun z => ?_, fun _ => ?_⟩
        · rw [e9, w, off_n (by omega)] at z; exact absurd z (nI_pos (by omega))
        · rw [e9]
          have hx : okX (B 28 l) sz := Or.inr (Or.inr ⟨j, hj', w⟩)
          have hn3 : ¬ B 28 l = -3 := by rw [w]; intro z; have := nI_pos (n := j) (by omega); rw [z] at this; exact this (by decide)
          refine q_instead hR hT h8 (by omega) (by omega) hx hn3 ?_
          have hi := ins_r (base := base) hT.1 (by omega) (stl_ok hT hx)
          refine ⟨fun g3 => go (fun z => z.2.elim (fun q => hn3 (by rw [← hlc]; exact q)) (fun q => g3 (hi.mpr (by rw [hj]; exact q)))), fun g3 => no ⟨g, Or.inr (by rw [← hj]; exact hi.mp g3)⟩⟩
    · rw [e4, hc, k10] at g; exact fun z => g z.1
theorem q_jumps {Post : Int32 → (Nat → Int32) → (Nat → Int64) → (Nat → Nat → Int32) → (Nat → Nat → Int64) → Prop} {base p pt sz : Nat} (hR : RT base p pt sz B B9) (hT : TT sz B) (h8 : I9 8 = nI (base + sz)) (h10 : I9 10 = nI p)
    (hb : ∀ k, k < sz → badJ B sz k → (∀ j, j < k → ¬ badJ B sz j) → Post 0 (upd I9 3 (B 27 k)) J9 B9 D9) (hk : (∀ k, k < sz → ¬ badJ B sz k) → Post 1 I9 J9 B9 D9) : wp_LassoFinderModel_jumps I9 J9 B9 D9 (nI base) Post := ⟨sz + 1, q_jumps_l (k := 0) hR hT h8 h10 hb hk sz (by omega) (fun _ h => by omega)⟩
end ZH5
