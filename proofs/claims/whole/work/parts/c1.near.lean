/-! The reference: the nearest round, what lies ahead. -/
section ZS2
variable {I9 : Nat → Int32} {J9 : Nat → Int64} {B9 : Nat → Nat → Int32} {D9 : Nat → Nat → Int64}
/-- a step that may begin a round -/
def Cnd (d : zD) (X : zG) (out : List zIt) (q t j g : Nat) : Prop := j < gM X ∧ gS X j = q ∧ g < 2 ^ ntm out ∧ bfx d X out q g = t
def Cvl (d : zD) (X : zG) (out : List zIt) (ds : Nat → Nat) (v j g : Nat) : Nat := ds (8 * (8 * gT X j + g) + (Sx d X out v ||| Sx d X out (8 * gT X j + g)))
theorem fw_v {d : zD} {X : zG} {out : List zIt} (h3 : ntm out ≤ 3) {w v n m : Nat} (hm : m < 8) (h : fw d X out w (n + 1) (8 * v + m)) : Sx d X out v ||| m = m := by
  obtain ⟨z, _, u, _, e⟩ := h
  have := or8 (show z % 8 < 8 by omega) (Sx_lt (d := d) (X := X) h3 u).2
  have e1 : v = u := by omega
  have e2 : m = z % 8 ||| Sx d X out u := by omega
  rw [e2, e1, Nat.or_comm (z % 8), ← Nat.or_assoc, Nat.or_self]
/-- how far such a step's end is from the round's end -/
theorem Cvl_fw {d : zD} {Q : zQ} {X : zG} {out : List zIt} (hX : XI d Q X) (h3 : ntm out ≤ 3) {v j g : Nat} (hv : v < 8 * gN X) (hc : Cnd d X out (v / 8) (v % 8) j g) (k : Nat) : pn (R9x d X out) k (8 * v + (2 ^ ntm out - 1)) (8 * (8 * gT X j + g) + (Sx d X out v ||| Sx d X out (8 * gT X j + g))) → fw d X out v (k + 1) (8 * v + (2 ^ ntm out - 1)) := by
  obtain ⟨c1, c2, c3, c4⟩ := hc
  have p8 := p2_3 h3
  have hsv := (Sx_lt (d := d) (X := X) h3 v).2
  have hsw := (Sx_lt (d := d) (X := X) h3 (8 * gT X j + g)).2
  have ho := or8 hsv hsw
  intro hp
  have := (fw9 hX h3 hv k _).mp hp
  rw [show (8 * (8 * gT X j + g) + (Sx d X out v ||| Sx d X out (8 * gT X j + g))) / 8 = 8 * gT X j + g by omega, show (8 * (8 * gT X j + g) + (Sx d X out v ||| Sx d X out (8 * gT X j + g))) % 8 = Sx d X out v ||| Sx d X out (8 * gT X j + g) by omega] at this
  obtain ⟨_, _, r, b3, b4, b5⟩ := this
  have hfr := fw_sub h3 (show r < 8 by omega) b4
  rw [or_ab hfr, Nat.or_comm (Sx d X out v) r, Nat.or_assoc, Nat.or_self] at b5
  refine ⟨_, b4, v, ?_, ?_⟩
  · have := Er_st (d := d) (out := out) hX c1 (show g < 8 by omega)
    rw [c2, c4, show 8 * (v / 8) + v % 8 = v by omega] at this
    rw [show (8 * (8 * gT X j + g) + r) / 8 = 8 * gT X j + g by omega]; exact this
  · rw [show (8 * (8 * gT X j + g) + r) % 8 = r by omega, b5]
theorem fw_Cvl {d : zD} {Q : zQ} {X : zG} {out : List zIt} (hX : XI d Q X) (h3 : ntm out ≤ 3) {v k : Nat} (hv : v < 8 * gN X) (hvg : v % 8 < 2 ^ ntm out) (h : fw d X out v (k + 1) (8 * v + (2 ^ ntm out - 1))) : ∃ j g, Cnd d X out (v / 8) (v % 8) j g ∧ pn (R9x d X out) k (8 * v + (2 ^ ntm out - 1)) (8 * (8 * gT X j + g) + (Sx d X out v ||| Sx d X out (8 * gT X j + g))) := by
  have p8 := p2_3 h3
  have hv8 : 8 * (v / 8) + v % 8 = v := by omega
  obtain ⟨j, g, r, c1, c2, c3, c4, c5, c6, c7⟩ := fw_in (s := v / 8) (g := v % 8) (r := 2 ^ ntm out - 1) hX h3 hv hvg (by omega) (by omega) (by rw [hv8]; exact h)
  rw [hv8] at c7
  have hsv := Sx_lt (d := d) (X := X) h3 v
  have hsw := Sx_lt (d := d) (X := X) h3 (8 * gT X j + g)
  have ho := or8 hsv.2 hsw.2
  refine ⟨j, g, ⟨c1, c2, c3, by rw [c2] at c4; exact c4⟩, (fw9 hX h3 hv k _).mpr ?_⟩
  rw [show (8 * (8 * gT X j + g) + (Sx d X out v ||| Sx d X out (8 * gT X j + g))) / 8 = 8 * gT X j + g by omega, show (8 * (8 * gT X j + g) + (Sx d X out v ||| Sx d X out (8 * gT X j + g))) % 8 = Sx d X out v ||| Sx d X out (8 * gT X j + g) by omega]
  refine ⟨Nat.or_lt_two_pow hsv.1 hsw.1, by rw [Nat.or_comm (Sx d X out v), ← Nat.or_assoc, Nat.or_self], r, c5, c6, ?_⟩
  rw [or_ab (fw_sub h3 (show r < 8 by omega) c6), Nat.or_comm (Sx d X out v) r, Nat.or_assoc, Nat.or_self, ← c7]
theorem r_nearest {Post : Int32 → (Nat → Int32) → (Nat → Int64) → (Nat → Nat → Int32) → (Nat → Nat → Int64) → Prop} {mc : Nat} {d : zD} {Q : zQ} {X : zG} {out : List zIt} {v : Nat} {x y : Int32} (hS : SV mc d Q X out I9 B9) (hF : XF X (gN X)) (hx : x = nI (v / 8)) (hy : y = nI (v % 8)) (hv : v < 8 * gN X) (hvg : v % 8 < 2 ^ ntm out)
    (h : ∀ b ds B', ((b = 0 ∧ ¬ gd d X out v) ∨ CLx d X out v b) → MD (R9x d X out) (fun p => p = 8 * v + (2 ^ ntm out - 1)) ds → AW X ds B' → (∀ k, k ≠ 51 → B' k = B9 k) → Post (nI b) I9 J9 B' D9) : wp_LassoFinderModel_nearest I9 J9 B9 D9 x y Post := by
  subst hx; subst hy
  have x1 := hS.1.1
  have x2 := hS.1.2.1
  have h3 := hS.2.1
  have p8 := p2_3 h3
  have hv8 : 8 * (v / 8) + v % 8 = v := by omega
  have hq : v / 8 < gN X := by omega
  refine r_measure hS rfl rfl hq (by omega) (fun ds B1 hM hA hB => ?_)
  rw [hv8] at hM
  have hS1 : SV mc d Q X out I9 B1 := hS.b (fun k hk => hB k (by omega))
  have hgl := gF_le hF hq
  have hgm := gF_mono hF (v / 8) (v / 8 + 1) (by omega) (by omega)
  refine r_stx hS1 rfl rfl hq (by omega) ⟨vin2 rfl (by omega) (by omega), fun z26 e26 => ?_⟩
  rw [clI rfl (by omega), hS1.2.2.2.2.2.2.2.1 _ (by omega)] at e26
  rw [e26, hv8]
  -- the end: the least length
  have fin : ∀ b, (∀ j g, Cnd d X out (v / 8) (v % 8) j g → ¬ Cvl d X out ds v j g = 0 → ¬ b = 0 ∧ b ≤ Cvl d X out ds v j g) → (¬ b = 0 → ∃ j g, Cnd d X out (v / 8) (v % 8) j g ∧ Cvl d X out ds v j g = b) → Post (nI b) I9 J9 B1 D9 := by
    intro b hb1 hb2
    refine h b ds B1 ?_ hM hA hB
    have low : ∀ k, fw d X out v (k + 1) (8 * v + (2 ^ ntm out - 1)) → ¬ b = 0 ∧ b ≤ k + 1 := fun k hf => by
      obtain ⟨j, g, c, hp⟩ := fw_Cvl hS.1 h3 hv hvg hf
      obtain ⟨a1, a2⟩ := hM.2 k _ ⟨_, rfl, hp⟩
      obtain ⟨a3, a4⟩ := hb1 j g c a1
      exact ⟨a3, Nat.le_trans a4 a2⟩
    by_cases e : b = 0
    · refine Or.inl ⟨e, fun hg => ?_⟩
      obtain ⟨n, hn⟩ := (gd_fw h3).mp hg
      exact (low n hn).1 e
    · refine Or.inr ?_
      obtain ⟨j, g, c, hcv⟩ := hb2 e
      obtain ⟨s, hs, hp⟩ := hM.1 _ (show ¬ Cvl d X out ds v j g = 0 by omega)
      rw [show s = 8 * v + (2 ^ ntm out - 1) from hs] at hp
      have hcv' : ds (8 * (8 * gT X j + g) + (Sx d X out v ||| Sx d X out (8 * gT X j + g))) = b := hcv
      rw [hcv'] at hp
      have hf := Cvl_fw hS.1 h3 hv c _ hp
      rw [show b - 1 + 1 = b by omega] at hf
      refine ⟨by omega, hf, fun k h1 h2 hk => ?_, ?_⟩
      · obtain ⟨k, rfl⟩ : ∃ k', k = k' + 1 := ⟨k - 1, by omega⟩
        have := (low k hk).2
        omega
      · have := R9x_bnd hS.1 h3 (show 8 * v + (2 ^ ntm out - 1) < 64 * gN X by omega) hp (fun k hk hpk => by
          have := (hM.2 k _ ⟨_, rfl, hpk⟩).2
          omega)
        omega
  have inner : ∀ (K24 : Int32 → Int32 → Int32 → Int32 → Int32 → (Nat → Int32) → (Nat → Int64) → (Nat → Nat → Int32) → (Nat → Nat → Int64) → Prop) (j : Nat), j < gM X → gS X j = v / 8 →
      ∀ u g b, g + u = 2 ^ ntm out → (∀ j' g', (j' < j ∨ (j' = j ∧ g' < g)) → Cnd d X out (v / 8) (v % 8) j' g' → ¬ Cvl d X out ds v j' g' = 0 → ¬ b = 0 ∧ b ≤ Cvl d X out ds v j' g') → (¬ b = 0 → ∃ j g, Cnd d X out (v / 8) (v % 8) j g ∧ Cvl d X out ds v j g = b) → b ≤ 3073 →
      (∀ b', (∀ j' g', j' < j + 1 → Cnd d X out (v / 8) (v % 8) j' g' → ¬ Cvl d X out ds v j' g' = 0 → ¬ b' = 0 ∧ b' ≤ Cvl d X out ds v j' g') → (¬ b' = 0 → ∃ j g, Cnd d X out (v / 8) (v % 8) j g ∧ Cvl d X out ds v j g = b') → b' ≤ 3073 → K24 (nI (v / 8)) (nI (v % 8)) (nI (Sx d X out v)) (nI b') (nI (j + 1)) I9 J9 B1 D9) →
      wl_LassoFinderModel_nearest_40 (nI (v / 8)) (nI (v % 8)) K24 Post (u + 1) (nI (v / 8)) (nI (v % 8)) (nI (Sx d X out v)) (nI b) (nI j) (nI g) I9 J9 B1 D9 := by
    intro K24 j hj hjs u
    obtain ⟨_, ht⟩ := hS.1.2.2.2.2 j hj
    induction u with
    | zero =>
      intro g b hg hb1 hb2 hb3 hK z7 e7
      rw [tw hS1] at e7
      refine ⟨fun _ z9 e9 => ?_, fun z => absurd ((leI e7 (y := nI g) rfl (by omega) (by omega)).mpr (by omega)) z⟩
      rw [inI rfl e9]
      refine hK b (fun j' g' h1 h2 => hb1 j' g' ?_ h2) hb2 hb3
      by_cases e : j' = j
      · exact Or.inr ⟨e, by have := h2.2.2.1; omega⟩
      · exact Or.inl (by omega)
    | succ u ih =>
      intro g b hg hb1 hb2 hb3 hK z7 e7
      rw [tw hS1] at e7
      refine ⟨fun z => ?_, fun _ => ?_⟩
      · have := (leI e7 (y := nI g) rfl (by omega) (by omega)).mp z; omega
      have hsv := (Sx_lt (d := d) (X := X) h3 v).2
      have hsw := (Sx_lt (d := d) (X := X) h3 (8 * gT X j + g)).2
      have ho := or8 hsv hsw
      have hw : 8 * gT X j + g < 8 * gN X := by omega
      have keep : (Cnd d X out (v / 8) (v % 8) j g → ¬ Cvl d X out ds v j g = 0 → ¬ b = 0 ∧ b ≤ Cvl d X out ds v j g) → wc_LassoFinderModel_nearest_129 (nI (v / 8)) (nI (v % 8)) K24 (wl_LassoFinderModel_nearest_40 (nI (v / 8)) (nI (v % 8)) K24 Post (u + 1)) Post (nI (v / 8)) (nI (v % 8)) (nI (Sx d X out v)) (nI b) (nI j) (nI g) I9 J9 B1 D9 := by
        intro hk z1 e1
        rw [inI rfl e1]
        refine ih (g + 1) b (by omega) (fun j' g' h1 h2 h4 => ?_) hb2 hb3 hK
        by_cases e : j' = j ∧ g' = g
        · obtain ⟨u1, u2⟩ := e
          subst u1; subst u2; exact hk h2 h4
        · exact hb1 j' g' (by omega) h2 h4
      refine r_bf hS1 rfl rfl hq (by omega) ?_
      have hbl := (bfx_lt (d := d) (X := X) (q := v / 8) (g := g) h3).2
      have qb : nI (bfx d X out (v / 8) g) = nI (v % 8) ↔ bfx d X out (v / 8) g = v % 8 := eqI rfl rfl (by omega) (by omega)
      refine ⟨fun z => ⟨vin2 rfl (by omega) (by omega), fun z12 e12 z13 e13 z14 e14 z15 e15 => ⟨vin2 rfl (by omega) (by omega), fun z16 e16 => ?_⟩⟩, fun z => ?_⟩
      · rw [clI rfl (by omega), (hS1.2.2.2.2.2.2.2.2 j hj).2] at e12 e16
        refine r_stx hS1 e16 rfl ht (by omega) (fun z18 e18 z19 e19 => ?_)
        rw [nI_or] at e18
        have n19 : z19 = nI (8 * (8 * gT X j + g) + (Sx d X out v ||| Sx d X out (8 * gT X j + g))) := by
          rw [e19, e15, e13, e14, e12, e18, show (64 : Int32) = nI 64 from rfl, show (8 : Int32) = nI 8 from rfl, nI_mul, nI_mul, nI_add, nI_add]; congr 1; omega
        have hpl : 8 * (8 * gT X j + g) + (Sx d X out v ||| Sx d X out (8 * gT X j + g)) < 64 * gN X := by omega
        have hc : Cnd d X out (v / 8) (v % 8) j g := ⟨hj, hjs, by omega, qb.mp z⟩
        refine r_away x1 hA hpl n19 ?_
        have hd := (hA _ hpl).2.2
        have ecv : ds (8 * (8 * gT X j + g) + (Sx d X out v ||| Sx d X out (8 * gT X j + g))) = Cvl d X out ds v j g := rfl
        rw [ecv] at hd ⊢
        have take : ¬ Cvl d X out ds v j g = 0 → (¬ b = 0 → Cvl d X out ds v j g ≤ b) → wc_LassoFinderModel_nearest_123 (nI (v / 8)) (nI (v % 8)) K24 (wl_LassoFinderModel_nearest_40 (nI (v / 8)) (nI (v % 8)) K24 Post (u + 1)) Post (nI (v / 8)) (nI (v % 8)) (nI (Sx d X out v)) (nI j) (nI g) (nI (Cvl d X out ds v j g) - 1) I9 J9 B1 D9 := by
          intro hz hle z2 e2 z1 e1
          have n2 : z2 = nI (Cvl d X out ds v j g) := by
            rw [e2]
            generalize nI (Cvl d X out ds v j g) = y
            grind
          rw [inI rfl e1, n2]
          refine ih (g + 1) _ (by omega) (fun j' g' h1 h2 h4 => ?_) (fun _ => ⟨j, g, hc, rfl⟩) hd hK
          by_cases e : j' = j ∧ g' = g
          · obtain ⟨u1, u2⟩ := e
            subst u1; subst u2; exact ⟨hz, Nat.le_refl _⟩
          · obtain ⟨a1, a2⟩ := hb1 j' g' (by omega) h2 h4
            exact ⟨hz, Nat.le_trans (hle a1) a2⟩
        by_cases e0 : Cvl d X out ds v j g = 0
        · rw [e0]
          exact ⟨fun _ => keep (fun _ h4 => absurd e0 h4), fun w => absurd (by decide) w⟩
        · have m1 : nI (Cvl d X out ds v j g) - 1 = nI (Cvl d X out ds v j g - 1) := deI (k := Cvl d X out ds v j g - 1) (by rw [show Cvl d X out ds v j g - 1 + 1 = Cvl d X out ds v j g by omega]) rfl
          refine ⟨fun w => ?_, fun _ => ⟨fun w => take e0 (fun hb => ?_), fun w z5 e5 => ?_⟩⟩
          · have := (ltI m1 (y := 0) (b := 0) rfl (by omega) (by omega)).mp w; omega
          · exact absurd w (nI_nz (by omega) (by omega))
          · have n5 : z5 = nI (Cvl d X out ds v j g) := by
              rw [e5]
              generalize nI (Cvl d X out ds v j g) = y
              grind
            have q5 : nI b ≤ z5 ↔ b ≤ Cvl d X out ds v j g := leI rfl n5 (by omega) (by omega)
            have hb0 : ¬ b = 0 := fun e => w (by rw [e]; rfl)
            exact ⟨fun y => keep (fun _ _ => ⟨hb0, q5.mp y⟩), fun y => take e0 (fun _ => by
              have : ¬ b ≤ Cvl d X out ds v j g := fun g => y (q5.mpr g)
              omega)⟩
      · exact ⟨fun _ => keep (fun hc => absurd (qb.mpr hc.2.2.2) z), fun w => absurd (by decide) w⟩
  have outer : ∀ u j b, j + u = gF X (v / 8 + 1) → gF X (v / 8) ≤ j → (∀ j' g', j' < j → Cnd d X out (v / 8) (v % 8) j' g' → ¬ Cvl d X out ds v j' g' = 0 → ¬ b = 0 ∧ b ≤ Cvl d X out ds v j' g') → (¬ b = 0 → ∃ j g, Cnd d X out (v / 8) (v % 8) j g ∧ Cvl d X out ds v j g = b) → b ≤ 3073 → wl_LassoFinderModel_nearest_24 (nI (v / 8)) (nI (v % 8)) Post (u + 1) (nI (v / 8)) (nI (v % 8)) (nI (Sx d X out v)) (nI b) (nI j) I9 J9 B1 D9 := by
    intro u
    induction u with
    | zero =>
      intro j b hj hlo hb1 hb2 hb3 z21 e21
      have n21 := inI rfl e21
      refine ⟨vin2 n21 (by omega) (by omega), fun z22 e22 => ?_⟩
      rw [clI n21 (by omega), hS1.2.2.2.2.2.2.2.1 _ (by omega)] at e22
      refine ⟨fun _ => fin b (fun j' g' hc => hb1 j' g' ?_ hc) hb2, fun z => absurd ((leI e22 (y := nI j) rfl (by omega) (by omega)).mpr (by omega)) z⟩
      have := gF_all hF hc.1 hq hc.2.1
      omega
    | succ u ih =>
      intro j b hj hlo hb1 hb2 hb3 z21 e21
      have n21 := inI rfl e21
      refine ⟨vin2 n21 (by omega) (by omega), fun z22 e22 => ?_⟩
      rw [clI n21 (by omega), hS1.2.2.2.2.2.2.2.1 _ (by omega)] at e22
      refine ⟨fun z => ?_, fun _ => ⟨2 ^ ntm out + 1, ?_⟩⟩
      · have := (leI e22 (y := nI j) rfl (by omega) (by omega)).mp z; omega
      have hjM : j < gM X := by omega
      have hjs : gS X j = v / 8 := (gF_q hF hjM hq).mp ⟨hlo, by omega⟩
      exact inner (wl_LassoFinderModel_nearest_24 (nI (v / 8)) (nI (v % 8)) Post (u + 1)) j hjM hjs (2 ^ ntm out) 0 b (by omega) (fun j' g' h1 => hb1 j' g' (by omega)) hb2 hb3 (fun b' c1 c2 c3 => ih (j + 1) b' (by omega) (by omega) c1 c2 c3)
  exact ⟨gF X (v / 8 + 1) - gF X (v / 8) + 1, outer (gF X (v / 8 + 1) - gF X (v / 8)) (gF X (v / 8)) 0 (by omega) (Nat.le_refl _) (fun j' g' h1 hc => by
    have := gF_all hF hc.1 hq hc.2.1
    omega) (fun hb => absurd rfl hb) (by omega)⟩
end ZS2
