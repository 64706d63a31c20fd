/-! The class follows the stem. -/
section ZR3
variable {I : Nat → Int32} {J : Nat → Int64} {B : Nat → Nat → Int32} {D : Nat → Nat → Int64}
/-- where stems begin -/
def Z0x (d : zD) (X : zG) (out : List zIt) (L g : Nat) : Prop := g < 2 ^ ntm out ∧ sat (atv d (gK X 0)) out g = false ∧ Pnx d X out L g
theorem DS_n {d : zD} {X : zG} {out : List zIt} {ds : Nat → Nat} {B : Nat → Nat → Int32} (hD : DS d X out ds B) {n v w : Nat} (hv : ds v = n + 2) (he : Er d X out w v) : ds w = n + 1 ↔ Pnx d X out n w := by
  constructor
  · intro e
    have := hD.1.1 w (by omega)
    rw [e, Nat.add_sub_cancel] at this; exact this
  · intro hp
    obtain ⟨a1, a2⟩ := hD.1.2 n w hp
    have h1 := hD.1.1 w a1
    have h2 := hD.1.2 _ v (Pnx_s h1 he)
    omega
theorem q_followStem {Post : Int32 → (Nat → Int32) → (Nat → Int64) → (Nat → Nat → Int32) → (Nat → Nat → Int64) → Prop} {d : zD} {Q : zQ} {X : zG} {out : List zIt} {ds : Nat → Nat} {L : Nat} (hR : SR d Q X out I B) (hF : XF X (gN X)) (h0 : 0 < gN X) (hD : DS d X out ds B) (h36 : I 36 = nI L) (hL : L < 768) (hmin : MNx (fun g => sat (atv d (gK X 0)) out g = false) ds (2 ^ ntm out) (L + 1))
    (h : ∀ js s' Z' al' B', js.length = L → SGx d X out js 0 (Z0x d X out L) s' Z' → al' < 256 → (∀ g, al'.testBit g = true ↔ Z' g) → (∀ k, k < L → B' 58 k = nI (js.getD k 0)) → (∀ k, k ≠ 58 → B' k = B k) → s' < gN X → (∀ g, Z' g → g < 2 ^ ntm out ∧ ds (8 * s' + g) = 1) → (∃ g, Z' g) → ((L = 0 ∧ s' = 0) ∨ (0 < L ∧ ∃ j, j < gM X ∧ B' 58 (L - 1) = nI j ∧ gT X j = s')) → Post (nI al') I J B' D) : wp_LassoSearch_followStem I J B D Post := by
  have x1 := hR.1.1
  have x2 := hR.1.2.1
  have h3 := hR.2.1
  have p8 := p2_3 h3
  have i30 := hR.2.2.2.1
  have hcg : ∀ B1 : Nat → Nat → Int32, (∀ k, k ≠ 58 → B1 k = B k) → SR d Q X out I B1 ∧ DS d X out ds B1 := fun B1 hB => ⟨hR.cg (fun _ _ => rfl) (fun k hk => hB k (by simp at hk; omega)), hD.1, by rw [hB 56 (by decide)]; exact hD.2.1, hD.2.2⟩
  have lp : ∀ t i s (Z : Nat → Prop) al B1, i + t = L → s < gN X → al < 256 → (∀ g, al.testBit g = true ↔ Z g) → (∀ g, Z g → g < 2 ^ ntm out ∧ ds (8 * s + g) = t + 1) → (∃ g, Z g) → (∀ k, k ≠ 58 → B1 k = B k) → ((i = 0 ∧ s = 0) ∨ (0 < i ∧ ∃ j, j < gM X ∧ B1 58 (i - 1) = nI j ∧ gT X j = s)) →
      (∀ js s' Z' al' B', js.length = t → SGx d X out js s Z s' Z' → al' < 256 → (∀ g, al'.testBit g = true ↔ Z' g) → (∀ k, k < t → B' 58 (i + k) = nI (js.getD k 0)) → (∀ k, k < i → B' 58 k = B1 58 k) → (∀ k, k ≠ 58 → B' k = B k) → s' < gN X → (∀ g, Z' g → g < 2 ^ ntm out ∧ ds (8 * s' + g) = 1) → (∃ g, Z' g) → ((L = 0 ∧ s' = 0) ∨ (0 < L ∧ ∃ j, j < gM X ∧ B' 58 (L - 1) = nI j ∧ gT X j = s')) → Post (nI al') I J B' D) →
      wl_LassoSearch_followStem_56 Post (t + 1) (nI al) (nI s) (nI i) I J B1 D := by
    intro t
    induction t with
    | zero =>
      intro i s Z al B1 hi hs hal hZ hZd hne hB hlast hK
      refine ⟨fun _ => ?_, fun z => absurd ((leI h36 (y := nI i) rfl (by omega) (by omega)).mpr (by omega)) z⟩
      refine hK [] s Z al B1 rfl ⟨rfl, fun _ => Iff.rfl⟩ hal hZ (fun k hk => by omega) (fun _ _ => rfl) hB hs hZd hne ?_
      rw [show L = i by omega]; exact hlast
    | succ t ih =>
      intro i s Z al B1 hi hs hal hZ hZd hne hB hlast hK
      obtain ⟨hR1, hD1⟩ := hcg B1 hB
      have hgl := gF_le hF hs
      have hgm := gF_mono hF s (s + 1) (by omega) (by omega)
      refine ⟨fun z => ?_, fun _ => ⟨vin2 rfl (by omega) (by omega), fun z13 e13 => ?_⟩⟩
      · have := (leI h36 (y := nI i) rfl (by omega) (by omega)).mp z; omega
      rw [clI rfl (by omega), hR1.2.2.2.2.2.2.1 _ (by omega)] at e13
      -- what may come next
      have nx : ∀ j, j < gM X → gS X j = s → ∀ g, (bN (fun g => al.testBit (bfx d X out (gS X j) g) && (ds (8 * gT X j + g) == t + 1)) (2 ^ ntm out)).testBit g = true ↔ nxS d X out t j Z g := by
        intro j hj hjs g
        rw [bN_bit]
        have hv := fun hz : Z (bfx d X out (gS X j) g) => (hZd _ hz).2
        rw [Bool.and_eq_true, Bool.and_eq_true, decide_eq_true_eq, beq_iff_eq]
        unfold nxS
        refine ⟨fun ⟨a1, a2, a3⟩ => ?_, fun ⟨a1, a2, a3⟩ => ?_⟩
        · have hz := (hZ _).mp a2
          refine ⟨a1, hz, (DS_n hD (n := t) (v := 8 * s + bfx d X out (gS X j) g) (hv hz) ?_).mp a3⟩
          have := Er_st (d := d) (out := out) hR.1 hj (show g < 8 by omega)
          rw [hjs] at this ⊢; exact this
        · refine ⟨a1, (hZ _).mpr a2, (DS_n hD (n := t) (v := 8 * s + bfx d X out (gS X j) g) (hv a2) ?_).mpr a3⟩
          have := Er_st (d := d) (out := out) hR.1 hj (show g < 8 by omega)
          rw [hjs] at this ⊢; exact this
      -- there is a next one
      have ex : ∃ j g, j < gM X ∧ gS X j = s ∧ nxS d X out t j Z g := by
        obtain ⟨g, hg⟩ := hne
        obtain ⟨g1, g2⟩ := hZd g hg
        have hp := hD.1.1 (8 * s + g) (by omega)
        rw [g2, Nat.add_sub_cancel] at hp
        obtain ⟨src, hs1, z, hs2, hs3⟩ := hp
        obtain ⟨j, j1, j2, j3⟩ := Er_in hs3
        have hz := Pnx_lt (d := d) (out := out) hR.1 h3 (n := t) (w := z) ⟨src, hs1, hs2⟩
        have hb := bfx_lt (d := d) (X := X) (q := gS X j) (g := z % 8) h3
        have e1 : gS X j = s := by omega
        have e2 : bfx d X out (gS X j) (z % 8) = g := by omega
        refine ⟨j, z % 8, j1, e1, hz.2, by rw [e2]; exact hg, ?_⟩
        rw [j2, show 8 * (z / 8) + z % 8 = z by omega]
        exact ⟨src, hs1, hs2⟩
      have inner : ∀ u j B2, j + u = gF X (s + 1) → gF X s ≤ j → (∀ j', gF X s ≤ j' → j' < j → ∀ g, ¬ nxS d X out t j' Z g) → (∀ k, k ≠ 58 → B2 k = B k) → (∀ k, k < i → B2 58 k = B1 58 k) → wl_LassoSearch_followStem_78 (wl_LassoSearch_followStem_56 Post (t + 1)) Post (u + 1) (nI al) (nI s) (nI i) 0 (nI j) I J B2 D := by
        intro u
        induction u with
        | zero =>
          intro j B2 hj hlo hno hB2 hk58
          obtain ⟨j', g, a1, a2, a3⟩ := ex
          obtain ⟨b1, b2⟩ := gF_all hF a1 hs a2
          exact absurd a3 (hno j' b1 (by omega) g)
        | succ u ihu =>
          intro j B2 hj hlo hno hB2 hk58 z4 e4
          obtain ⟨hR2, hD2⟩ := hcg B2 hB2
          have n4 := inI rfl e4
          have hjM : j < gM X := by omega
          have hjs : gS X j = s := (gF_q hF hjM hs).mp ⟨hlo, by omega⟩
          refine ⟨vin2 n4 (by omega) (by omega), fun z5 e5 => ?_⟩
          rw [clI n4 (by omega), hR2.2.2.2.2.2.2.1 _ (by omega)] at e5
          refine ⟨fun z => ?_, fun _ => ⟨fun z => absurd rfl z, fun _ z8 e8 z9 e9 => ?_⟩⟩
          · have := (leI e5 (y := nI j) rfl (by omega) (by omega)).mp z; omega
          have n8 : z8 = nI (t + 1) := by rw [e8, h36, show L = (t + 1) + i by omega]; exact nI_sk _ _
          have n9 := deI n8 e9
          refine q_allowedBehind (f := t) hR2 hD2 hal hjM (by omega) rfl n9 ⟨vin2 rfl (by omega) (by omega), fun z11 e11 => ?_⟩
          rw [inI rfl e11, clI rfl (by omega)]
          have hnx := nx j hjM hjs
          have hlt := bN_256 (F := fun g => al.testBit (bfx d X out (gS X j) g) && (ds (8 * gT X j + g) == t + 1)) h3
          generalize hal2 : bN (fun g => al.testBit (bfx d X out (gS X j) g) && (ds (8 * gT X j + g) == t + 1)) (2 ^ ntm out) = al2 at hnx hlt
          have hB3 : ∀ k, k ≠ 58 → va_up B2 58 (upd (B2 58) i (nI j)) k = B k := fun k hk => by simp [va_up, hk]; exact hB2 k hk
          have hk3 : ∀ k, k < i → va_up B2 58 (upd (B2 58) i (nI j)) 58 k = B1 58 k := fun k hk => by
            have : ¬ k = i := by omega
            simp [va_up, upd, this]; exact hk58 k hk
          have h3i : va_up B2 58 (upd (B2 58) i (nI j)) 58 i = nI j := by simp [va_up, upd]
          generalize va_up B2 58 (upd (B2 58) i (nI j)) = B3 at hB3 hk3 h3i
          by_cases hz2 : al2 = 0
          · subst hz2
            refine ihu (j + 1) B3 (by omega) (by omega) (fun j' h1 h2 g hg => ?_) hB3 hk3
            by_cases e : j' = j
            · subst e
              have := (hnx g).mpr hg
              rw [Nat.zero_testBit] at this
              exact absurd this (by decide)
            · exact hno j' h1 (by omega) g hg
          · -- it is found
            have hex : ∃ g, nxS d X out t j Z g := by
              refine Classical.byContradiction (fun w => hz2 ?_)
              apply Nat.eq_of_testBit_eq
              intro g
              rw [Nat.zero_testBit]
              cases hb : al2.testBit g
              · rfl
              · exact absurd ⟨g, (hnx g).mp hb⟩ w
            obtain ⟨hR3, hD3⟩ := hcg B3 hB3
            obtain ⟨_, ht⟩ := hR.1.2.2.2.2 j hjM
            have go : wc_LassoSearch_followStem_130 (wl_LassoSearch_followStem_56 Post (t + 1)) Post (nI i) (nI al2) I J B3 D := by
              refine ⟨vin2 rfl (by omega) (by omega), fun y1 f1 => ?_⟩
              rw [clI rfl (by omega), h3i] at f1
              refine ⟨vin2 f1 (by omega) (by omega), fun y2 f2 y3 f3 => ?_⟩
              rw [clI f1 (by omega), (hR3.2.2.2.2.2.2.2 j hjM).2] at f2
              rw [f2, inI rfl f3]
              refine ih (i + 1) (gT X j) (nxS d X out t j Z) al2 B3 (by omega) ht hlt hnx (fun g hg => ⟨hg.1, ?_⟩) hex hB3 (Or.inr ⟨by omega, j, hjM, by rw [Nat.add_sub_cancel]; exact h3i, rfl⟩) (fun js s' Z' al' B' hl hG ha hZ' hr hk' hB' hs' hd' hne' hla => ?_)
              · refine (DS_n hD (n := t) (v := 8 * s + bfx d X out (gS X j) g) (hZd _ hg.2.1).2 ?_).mpr hg.2.2
                have := Er_st (d := d) (out := out) hR.1 hjM (show g < 8 by have := hg.1; omega)
                rw [hjs] at this ⊢; exact this
              · refine hK (j :: js) s' Z' al' B' (by simp [hl]) ⟨hjM, hjs, by rw [hl]; exact hex, fun j' h1 h2 g => ?_, by rw [hl]; exact hG⟩ ha hZ' (fun k hk => ?_) (fun k hk => by rw [hk' k (by omega)]; exact hk3 k hk) hB' hs' hd' hne' hla
                · rw [hl]
                  obtain ⟨b1, b2⟩ := gF_all hF (show j' < gM X by omega) hs h2
                  exact hno j' b1 h1 g
                · by_cases e : k = 0
                  · subst e
                    rw [Nat.add_zero, hk' i (by omega), h3i]; rfl
                  · obtain ⟨k, rfl⟩ : ∃ k', k = k' + 1 := ⟨k - 1, by omega⟩
                    have := hr k (by omega)
                    rw [show i + 1 + k = i + (k + 1) by omega] at this
                    rw [this]; rfl
            intro y4 f4
            have m4 := inI rfl f4
            refine ⟨vin2 m4 (by omega) (by omega), fun y5 f5 => ⟨fun _ => go, fun _ => ⟨fun _ => go, fun w => absurd w (nI_nz (by omega) (by omega))⟩⟩⟩
      rw [e13]
      exact ⟨gF X (s + 1) - gF X s + 1, inner (gF X (s + 1) - gF X s) (gF X s) B1 (by omega) (Nat.le_refl _) (fun j' h1 h2 => by omega) hB (fun _ _ => rfl)⟩
  -- the guesses that stems begin with
  have first : ∀ t g, g + t = 2 ^ ntm out → wl_LassoSearch_followStem_4 Post (t + 1) (nI (bN (fun g => !sat (atv d (gK X 0)) out g && (ds g == L + 1)) g)) (nI g) I J B D := by
    intro t
    induction t with
    | zero =>
      intro g hg
      refine ⟨fun _ => ⟨L + 1, ?_⟩, fun z => absurd ((leI i30 (y := nI g) rfl (by omega) (by omega)).mpr (by omega)) z⟩
      rw [show g = 2 ^ ntm out by omega]
      have hbit : ∀ g, (bN (fun g => !sat (atv d (gK X 0)) out g && (ds g == L + 1)) (2 ^ ntm out)).testBit g = true ↔ Z0x d X out L g := by
        intro g
        rw [bN_bit, Bool.and_eq_true, Bool.and_eq_true, decide_eq_true_eq, beq_iff_eq, Bool.not_eq_true']
        unfold Z0x
        refine ⟨fun ⟨a1, a2, a3⟩ => ⟨a1, a2, ?_⟩, fun ⟨a1, a2, a3⟩ => ⟨a1, a2, ?_⟩⟩
        · have := hD.1.1 g (by omega)
          rw [a3, Nat.add_sub_cancel] at this; exact this
        · obtain ⟨b1, b2⟩ := hD.1.2 L g a3
          have := (hmin.1 g a1 a2 b1).2
          omega
      refine lp L 0 0 (Z0x d X out L) _ B (by omega) h0 (bN_256 h3) hbit (fun g hg => ⟨hg.1, ?_⟩) ?_ (fun _ _ => rfl) (Or.inl ⟨rfl, rfl⟩) (fun js s' Z' al' B' c1 c2 c3 c4 c5 c6 c7 c8 c9 c10 c11 => h js s' Z' al' B' c1 c2 c3 c4 (fun k hk => by have := c5 k hk; rw [Nat.zero_add] at this; exact this) c7 c8 c9 c10 c11)
      · obtain ⟨b1, b2⟩ := hD.1.2 L g hg.2.2
        have := (hmin.1 g hg.1 hg.2.1 b1).2
        rw [Nat.mul_zero, Nat.zero_add]; omega
      · obtain ⟨g, g1, g2, g3⟩ := hmin.2 (by omega)
        refine ⟨g, g1, g2, ?_⟩
        have := hD.1.1 g (by omega)
        rw [g3, Nat.add_sub_cancel] at this; exact this
    | succ t ih =>
      intro g hg
      refine ⟨fun z => ?_, fun _ => ⟨vin2 rfl (by omega) (by omega), fun z16 e16 => ?_⟩⟩
      · have := (leI i30 (y := nI g) rfl (by omega) (by omega)).mp z; omega
      have b49 := (hR.2.2.2.2.1 0 h0 g (by omega)).2.2
      rw [Nat.mul_zero, Nat.zero_add] at b49
      rw [clI rfl (by omega), b49] at e16
      have skip : (!sat (atv d (gK X 0)) out g && (ds g == L + 1)) = false → wc_LassoSearch_followStem_46 (wl_LassoSearch_followStem_4 Post (t + 1)) Post (nI (bN (fun g => !sat (atv d (gK X 0)) out g && (ds g == L + 1)) g)) (nI g) I J B D := by
        intro hF z1 e1
        have := ih (g + 1) (by omega)
        rw [bN_or, hF, show b2n false * 2 ^ g = 0 by simp [b2n], Nat.or_zero] at this
        rw [inI rfl e1]; exact this
      refine ⟨fun z => skip ?_, fun z => ⟨vin2 rfl (by omega) (by omega), fun z18 e18 => ?_⟩⟩
      · cases hb : sat (atv d (gK X 0)) out g
        · rw [e16, hb] at z; exact absurd rfl z
        · rfl
      have hs : sat (atv d (gK X 0)) out g = false := by
        cases hb : sat (atv d (gK X 0)) out g
        · rfl
        · rw [e16, hb] at z; exact absurd z (by decide)
      rw [clI rfl (by omega), hD.2.1 g (by omega)] at e18
      have dN := hD.2.2 g
      have q : z18 = I 36 ↔ ds g = L + 1 := by
        rw [e18, h36, show nI L = nI (L + 1) - 1 from (nI_pred L).symm]
        exact (nI_md (by omega) (by omega)).1
      refine ⟨fun w => skip ?_, fun w z20 e20 z21 e21 z1 e1 => ?_⟩
      · rw [hs, Bool.not_false, Bool.true_and]
        exact beq_eq_false_iff_ne.mpr (fun y => w (q.mpr y))
      · have := ih (g + 1) (by omega)
        have hT : (!sat (atv d (gK X 0)) out g && (ds g == L + 1)) = true := by
          rw [hs, Bool.not_false, Bool.true_and]; exact beq_iff_eq.mpr (q.mp w)
        have n21 : z21 = nI (bN (fun g => !sat (atv d (gK X 0)) out g && (ds g == L + 1)) (g + 1)) := by
          rw [bN_or, hT, e21, e20, show (1 : Int32) = nI 1 from rfl, nI_shl (by omega), nI_or]; rfl
        rw [inI rfl e1, n21]; exact this
  exact ⟨2 ^ ntm out + 1, first (2 ^ ntm out) 0 (by omega)⟩
end ZR3
