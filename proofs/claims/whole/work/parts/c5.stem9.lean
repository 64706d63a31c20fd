/-! The reference follows the stem. -/
section ZS6
variable {I9 : Nat → Int32} {J9 : Nat → Int64} {B9 : Nat → Nat → Int32} {D9 : Nat → Nat → Int64}
theorem r_stemOf {Post : Int32 → (Nat → Int32) → (Nat → Int64) → (Nat → Nat → Int32) → (Nat → Nat → Int64) → Prop} {mc : Nat} {d : zD} {Q : zQ} {X : zG} {out : List zIt} {n : Nat} {dp : Nat → Nat} (hS : SV mc d Q X out I9 B9) (hF : XF X (gN X)) (h0 : 0 < gN X) (hD : DPx d X out n dp B9) (h24 : I9 24 = nI n)
    (h : ∀ js s' Z' al B', js.length = n → SGx d X out js 0 (Z0x d X out n) s' Z' → al < 256 → (∀ g, al.testBit g = true ↔ Z' g) → (∀ k, k < n → stq (B' 52) k = nI (js.getD k 0)) → (∀ k, k ≠ 52 → B' k = B9 k) → s' < gN X → (∀ g, Z' g → g < 2 ^ ntm out ∧ gd d X out (8 * s' + g)) → (∃ g, Z' g) → ((n = 0 ∧ s' = 0) ∨ (0 < n ∧ ∃ j, j < gM X ∧ stq (B' 52) (n - 1) = nI j ∧ gT X j = s')) → Post (nI al) I9 J9 B' D9) : wp_LassoFinderModel_stemOf I9 J9 B9 D9 Post := by
  have x1 := hS.1.1
  have x2 := hS.1.2.1
  have h3 := hS.2.1
  have p8 := p2_3 h3
  obtain ⟨h49, h50, hL, hmin, hex, hn768⟩ := hD
  have dN : ∀ w, dp w ≤ n + 1 := fun w => by
    by_cases e : dp w = 0
    · omega
    · exact (hL.1 w e).1
  have fr : ∀ B1 : Nat → Nat → Int32, (∀ k, k ≠ 52 → B1 k = B9 k) → SV mc d Q X out I9 B1 := fun B1 hB => hS.b (fun k hk => hB k (by omega))
  have lp : ∀ t i s (Z : Nat → Prop) al B1, i + t = n → s < gN X → al < 256 → (∀ g, al.testBit g = true ↔ Z g) → (∀ g, Z g → g < 2 ^ ntm out ∧ dp (8 * s + g) = i + 1 ∧ Pnx d X out t (8 * s + g)) → (∃ g, Z g) → (∀ k, k ≠ 52 → B1 k = B9 k) → ((i = 0 ∧ s = 0) ∨ (0 < i ∧ ∃ j, j < gM X ∧ stq (B1 52) (i - 1) = nI j ∧ gT X j = s)) →
      (∀ js s' Z' al' B', js.length = t → SGx d X out js s Z s' Z' → al' < 256 → (∀ g, al'.testBit g = true ↔ Z' g) → (∀ k, k < t → stq (B' 52) (i + k) = nI (js.getD k 0)) → (∀ k, k < i → stq (B' 52) k = stq (B1 52) k) → (∀ k, k ≠ 52 → B' k = B9 k) → s' < gN X → (∀ g, Z' g → g < 2 ^ ntm out ∧ gd d X out (8 * s' + g)) → (∃ g, Z' g) → ((n = 0 ∧ s' = 0) ∨ (0 < n ∧ ∃ j, j < gM X ∧ stq (B' 52) (n - 1) = nI j ∧ gT X j = s')) → Post (nI al') I9 J9 B' D9) →
      wl_LassoFinderModel_stemOf_52 Post (t + 1) (nI s) (nI al) (nI (i + 1)) I9 J9 B1 D9 := by
    intro t
    induction t with
    | zero =>
      intro i s Z al B1 hi hs hal hZ hZd hne hB hlast hK
      refine ⟨fun _ => ?_, fun z => absurd ((ltI h24 (y := nI (i + 1)) rfl (by omega) (by omega)).mpr (by omega)) z⟩
      refine hK [] s Z al B1 rfl ⟨rfl, fun _ => Iff.rfl⟩ hal hZ (fun k hk => by omega) (fun _ _ => rfl) hB hs (fun g hg => ⟨(hZd g hg).1, Pnx_0.mp (hZd g hg).2.2⟩) hne ?_
      rw [show n = i by omega]; exact hlast
    | succ t ih =>
      intro i s Z al B1 hi hs hal hZ hZd hne hB hlast hK
      have hS1 := fr B1 hB
      have hgl := gF_le hF hs
      have hgm := gF_mono hF s (s + 1) (by omega) (by omega)
      refine ⟨fun z => ?_, fun _ => ⟨vin2 rfl (by omega) (by omega), fun z28 e28 => ?_⟩⟩
      · have := (ltI h24 (y := nI (i + 1)) rfl (by omega) (by omega)).mp z; omega
      rw [clI rfl (by omega), hS1.2.2.2.2.2.2.2.1 _ (by omega)] at e28
      -- what may come next
      have core : ∀ j g, j < gM X → gS X j = s → g < 2 ^ ntm out → Z (bfx d X out (gS X j) g) → ((dp (8 * gT X j + g) = i + 2 ∧ B1 50 (8 * gT X j + g) = 1) ↔ Pnx d X out t (8 * gT X j + g)) := by
        intro j g hj hjs hg hz
        obtain ⟨_, ht⟩ := hS.1.2.2.2.2 j hj
        have hwl : 8 * gT X j + g < 8 * gN X := by omega
        have hv := (hZd _ hz).2.1
        have hw : Fw d X out (8 * s + bfx d X out (gS X j) g) (8 * gT X j + g) := by
          refine ⟨?_, by omega⟩
          have := Er_st (d := d) (out := out) hS.1 hj (show g < 8 by omega)
          rw [hjs] at this ⊢; exact this
        have hdn := DP_n hS.1 h3 hL hmin (show i + 1 ≤ n by omega) hv (by omega) hw
        rw [show n - (i + 1) = t by omega] at hdn
        rw [hB 50 (by decide)]
        have h5 := (h50 _ hwl).2
        constructor
        · rintro ⟨a1, a2⟩
          have := (h5.mp a2).2
          rw [a1, show n + 1 - (i + 2) = t by omega] at this; exact this
        · intro hp
          have a1 : dp (8 * gT X j + g) = i + 2 := (hdn.mpr hp).1
          refine ⟨a1, h5.mpr ⟨by omega, ?_⟩⟩
          rw [a1, show n + 1 - (i + 2) = t by omega]; exact hp
      -- there is a next one
      have ex : ∃ j g, j < gM X ∧ gS X j = s ∧ nxS d X out t j Z g := by
        obtain ⟨g, hg⟩ := hne
        obtain ⟨g1, g2, src, hs1, z, hs2, hs3⟩ := hZd g hg
        obtain ⟨j, j1, j2, j3⟩ := Er_in hs3
        have hz := Pnx_lt (d := d) (out := out) hS.1 h3 (n := t) (w := z) ⟨src, hs1, hs2⟩
        have hb := bfx_lt (d := d) (X := X) (q := gS X j) (g := z % 8) h3
        have e1 : gS X j = s := by omega
        have e2 : bfx d X out (gS X j) (z % 8) = g := by omega
        refine ⟨j, z % 8, j1, e1, hz.2, by rw [e2]; exact hg, ?_⟩
        rw [j2, show 8 * (z / 8) + z % 8 = z by omega]
        exact ⟨src, hs1, hs2⟩
      -- one step's guesses
      have in2 : ∀ (K52 : Int32 → Int32 → Int32 → (Nat → Int32) → (Nat → Int64) → (Nat → Nat → Int32) → (Nat → Nat → Int64) → Prop) (K74 : Int32 → Int32 → Int32 → Int32 → Int32 → Int32 → (Nat → Int32) → (Nat → Int64) → (Nat → Nat → Int32) → (Nat → Nat → Int64) → Prop) (j : Nat), j < gM X → gS X j = s →
          (∀ al2, al2 < 256 → (∀ g, al2.testBit g = true ↔ nxS d X out t j Z g) → K74 (nI s) (nI al) (nI (i + 1)) (if al2 = 0 then -1 else nI j) (nI al2) (nI (j + 1)) I9 J9 B1 D9) →
          ∀ u g, g + u = 2 ^ ntm out → wl_LassoFinderModel_stemOf_98 K52 K74 Post (u + 1) (nI s) (nI al) (nI (i + 1)) (-1) (nI (bN (fun g => decide (dp (8 * gT X j + g) = i + 2 ∧ B1 50 (8 * gT X j + g) = 1) && al.testBit (bfx d X out s g)) g)) (nI j) (nI g) I9 J9 B1 D9 := by
        intro K52 K74 j hj hjs hK74 u
        obtain ⟨_, ht⟩ := hS.1.2.2.2.2 j hj
        induction u with
        | zero =>
          intro g hg z7 e7
          rw [tw hS1] at e7
          refine ⟨fun _ => ?_, fun z => absurd ((leI e7 (y := nI g) rfl (by omega) (by omega)).mpr (by omega)) z⟩
          rw [show g = 2 ^ ntm out by omega]
          have hlt := bN_256 (F := fun g => decide (dp (8 * gT X j + g) = i + 2 ∧ B1 50 (8 * gT X j + g) = 1) && al.testBit (bfx d X out s g)) h3
          have hbit : ∀ g, (bN (fun g => decide (dp (8 * gT X j + g) = i + 2 ∧ B1 50 (8 * gT X j + g) = 1) && al.testBit (bfx d X out s g)) (2 ^ ntm out)).testBit g = true ↔ nxS d X out t j Z g := by
            intro g
            rw [bN_bit, Bool.and_eq_true, Bool.and_eq_true, decide_eq_true_eq, decide_eq_true_eq]
            unfold nxS
            rw [← hjs]
            refine ⟨fun ⟨a1, a2, a3⟩ => ?_, fun ⟨a1, a2, a3⟩ => ?_⟩
            · have hz := (hZ _).mp a3
              exact ⟨a1, hz, (core j g hj hjs a1 hz).mp a2⟩
            · exact ⟨a1, (core j g hj hjs a1 a2).mpr a3, (hZ _).mpr a2⟩
          generalize bN (fun g => decide (dp (8 * gT X j + g) = i + 2 ∧ B1 50 (8 * gT X j + g) = 1) && al.testBit (bfx d X out s g)) (2 ^ ntm out) = al2 at hlt hbit
          have := hK74 al2 hlt hbit
          refine ⟨fun z y5 f5 => ?_, fun z y5 f5 => ?_⟩
          · have e0 : al2 = 0 := (eqI (x := nI al2) rfl (y := 0) (b := 0) rfl (by omega) (by omega)).mp z
            rw [if_pos e0] at this
            rw [inI rfl f5]; exact this
          · have e0 : ¬ al2 = 0 := fun e => z (by rw [e]; rfl)
            rw [if_neg e0] at this
            rw [inI rfl f5]; exact this
        | succ u ihu =>
          intro g hg z7 e7
          rw [tw hS1] at e7
          refine ⟨fun z => ?_, fun _ => ⟨vin2 rfl (by omega) (by omega), fun z10 e10 z11 e11 z12 e12 => ?_⟩⟩
          · have := (leI e7 (y := nI g) rfl (by omega) (by omega)).mp z; omega
          rw [clI rfl (by omega), (hS1.2.2.2.2.2.2.2.2 j hj).2] at e10
          have n12 : z12 = nI (8 * gT X j + g) := by rw [e12, e11, e10, show (8 : Int32) = nI 8 from rfl, nI_mul, nI_add]
          have hwl : 8 * gT X j + g < 8 * gN X := by omega
          refine ⟨vin2 n12 (by omega) (by omega), fun z13 e13 => ?_⟩
          rw [clI n12 (by omega), hB 49 (by decide), h49 _ hwl] at e13
          have q13 : z13 = nI (i + 1) ↔ dp (8 * gT X j + g) = i + 2 := by
            rw [e13, show nI (i + 1) = nI (i + 2) - 1 from (nI_pred (i + 1)).symm]
            exact (nI_md (by have := dN (8 * gT X j + g); omega) (by omega)).1
          have skip : (decide (dp (8 * gT X j + g) = i + 2 ∧ B1 50 (8 * gT X j + g) = 1) && al.testBit (bfx d X out s g)) = false → wc_LassoFinderModel_stemOf_169 K52 K74 (wl_LassoFinderModel_stemOf_98 K52 K74 Post (u + 1)) Post (nI s) (nI al) (nI (i + 1)) (-1) (nI (bN (fun g => decide (dp (8 * gT X j + g) = i + 2 ∧ B1 50 (8 * gT X j + g) = 1) && al.testBit (bfx d X out s g)) g)) (nI j) (nI g) I9 J9 B1 D9 := by
            intro hFf y6 f6
            have := ihu (g + 1) (by omega)
            rw [bN_or, hFf, show b2n false * 2 ^ g = 0 by simp [b2n], Nat.or_zero] at this
            rw [inI rfl f6]; exact this
          refine ⟨fun z => skip ?_, fun z => ⟨vin2 n12 (by omega) (by omega), fun z15 e15 => ?_⟩⟩
          · rw [decide_eq_false (fun w => z (q13.mpr w.1)), Bool.false_and]
          rw [clI n12 (by omega)] at e15
          have h5 := (h50 _ hwl).1
          rw [← hB 50 (by decide)] at h5
          refine ⟨fun w => skip ?_, fun w => ?_⟩
          · rw [decide_eq_false (fun y => by rw [← e15, w] at y; exact absurd y.2 (by decide)), Bool.false_and]
          have h51 : B1 50 (8 * gT X j + g) = 1 := h5.resolve_left (fun y => w (by rw [e15]; exact y))
          refine r_bf hS1 rfl rfl hs (by omega) (fun z18 e18 z19 e19 => ?_)
          have hbl := (bfx_lt (d := d) (X := X) (q := s) (g := g) h3).2
          have n19 : z19 = nI (b2n (al.testBit (bfx d X out s g))) := by
            rw [e19, e18]; exact nI_bit (by omega) (by omega)
          refine ⟨fun y => skip ?_, fun y z21 e21 z22 e22 y6 f6 => ?_⟩
          · cases hb : al.testBit (bfx d X out s g)
            · rw [Bool.and_false]
            · rw [n19, hb] at y; exact absurd rfl y
          · have hbt : al.testBit (bfx d X out s g) = true := by
              cases hb : al.testBit (bfx d X out s g)
              · rw [n19, hb] at y; exact absurd y (by decide)
              · rfl
            have hT : (decide (dp (8 * gT X j + g) = i + 2 ∧ B1 50 (8 * gT X j + g) = 1) && al.testBit (bfx d X out s g)) = true := by
              rw [hbt, Bool.and_true]; exact decide_eq_true ⟨q13.mp z, h51⟩
            have := ihu (g + 1) (by omega)
            have n22 : z22 = nI (bN (fun g => decide (dp (8 * gT X j + g) = i + 2 ∧ B1 50 (8 * gT X j + g) = 1) && al.testBit (bfx d X out s g)) (g + 1)) := by
              rw [bN_or, hT, e22, e21, show (1 : Int32) = nI 1 from rfl, nI_shl (by omega), nI_or]; rfl
            rw [inI rfl f6, n22]; exact this
      have in1 : ∀ u j, j + u = gF X (s + 1) → gF X s ≤ j → (∀ j', gF X s ≤ j' → j' < j → ∀ g, ¬ nxS d X out t j' Z g) → wl_LassoFinderModel_stemOf_74 (wl_LassoFinderModel_stemOf_52 Post (t + 1)) Post (u + 1) (nI s) (nI al) (nI (i + 1)) (-1) 0 (nI j) I9 J9 B1 D9 := by
        intro u
        induction u with
        | zero =>
          intro j hj hlo hno
          obtain ⟨j', g, a1, a2, a3⟩ := ex
          obtain ⟨b1, b2⟩ := gF_all hF a1 hs a2
          exact absurd a3 (hno j' b1 (by omega) g)
        | succ u ihu =>
          intro j hj hlo hno z23 e23
          have n23 := inI rfl e23
          have hjM : j < gM X := by omega
          have hjs : gS X j = s := (gF_q hF hjM hs).mp ⟨hlo, by omega⟩
          refine ⟨vin2 n23 (by omega) (by omega), fun z24 e24 => ?_⟩
          rw [clI n23 (by omega), hS1.2.2.2.2.2.2.2.1 _ (by omega)] at e24
          refine ⟨fun z => ?_, fun _ => ⟨fun z => absurd z (by decide), fun _ => ⟨2 ^ ntm out + 1, ?_⟩⟩⟩
          · have := (leI e24 (y := nI j) rfl (by omega) (by omega)).mp z; omega
          refine in2 (wl_LassoFinderModel_stemOf_52 Post (t + 1)) (wl_LassoFinderModel_stemOf_74 (wl_LassoFinderModel_stemOf_52 Post (t + 1)) Post (u + 1)) j hjM hjs (fun al2 hlt hnx => ?_) (2 ^ ntm out) 0 (by omega)
          by_cases hz2 : al2 = 0
          · subst hz2
            rw [if_pos rfl]
            refine ihu (j + 1) (by omega) (by omega) (fun j' h1 h2 g hg => ?_)
            by_cases e : j' = j
            · subst e
              have := (hnx g).mpr hg
              rw [Nat.zero_testBit] at this
              exact absurd this (by decide)
            · exact hno j' h1 (by omega) g hg
          · rw [if_neg hz2]
            have hexj : ∃ g, nxS d X out t j Z g := by
              refine Classical.byContradiction (fun w => hz2 ?_)
              apply Nat.eq_of_testBit_eq
              intro g
              rw [Nat.zero_testBit]
              cases hb : al2.testBit g
              · rfl
              · exact absurd ⟨g, (hnx g).mp hb⟩ w
            obtain ⟨_, ht⟩ := hS.1.2.2.2.2 j hjM
            have go : wc_LassoFinderModel_stemOf_195 (wl_LassoFinderModel_stemOf_52 Post (t + 1)) Post (nI (i + 1)) (nI j) (nI al2) I9 J9 B1 D9 := by
              intro y1 f1
              have m1 := deI rfl f1
              refine r_keep55 m1 (by omega) ⟨vin2 rfl (by omega) (by omega), fun y3 f3 y4 f4 => ?_⟩
              have hB3 : ∀ k, k ≠ 52 → va_up B1 52 (kpq (B1 52) i (nI j)) k = B9 k := fun k hk => by simp [va_up, hk]; exact hB k hk
              have h52 : va_up B1 52 (kpq (B1 52) i (nI j)) 52 = kpq (B1 52) i (nI j) := by simp [va_up]
              generalize va_up B1 52 (kpq (B1 52) i (nI j)) = B3 at hB3 h52 f3
              have hS3 := fr B3 hB3
              rw [clI rfl (by omega), (hS3.2.2.2.2.2.2.2.2 j hjM).2] at f3
              rw [f3, inI rfl f4]
              refine ih (i + 1) (gT X j) (nxS d X out t j Z) al2 B3 (by omega) ht hlt hnx (fun g hg => ⟨hg.1, ((core j g hjM hjs hg.1 hg.2.1).mpr hg.2.2).1, hg.2.2⟩) hexj hB3 (Or.inr ⟨by omega, j, hjM, by rw [Nat.add_sub_cancel, h52]; exact kpq_at _ _ (by omega), rfl⟩) (fun js s' Z' al' B' hl hG ha hZ' hr hk' hB' hs' hd' hne' hla => ?_)
              refine hK (j :: js) s' Z' al' B' (by simp [hl]) ⟨hjM, hjs, by rw [hl]; exact hexj, fun j' h1 h2 g => ?_, by rw [hl]; exact hG⟩ ha hZ' (fun k hk => ?_) (fun k hk => by rw [hk' k (by omega), h52]; exact kpq_ne _ (by omega) (by omega)) hB' hs' hd' hne' hla
              · rw [hl]
                obtain ⟨b1, b2⟩ := gF_all hF (show j' < gM X by omega) hs h2
                exact hno j' b1 h1 g
              · by_cases e : k = 0
                · subst e
                  rw [Nat.add_zero, hk' i (by omega), h52, kpq_at _ _ (by omega)]; rfl
                · obtain ⟨k, rfl⟩ : ∃ k', k = k' + 1 := ⟨k - 1, by omega⟩
                  have := hr k (by omega)
                  rw [show i + 1 + k = i + (k + 1) by omega] at this
                  rw [this]; rfl
            intro y4 f4
            have m4 := inI rfl f4
            refine ⟨vin2 m4 (by omega) (by omega), fun y5 f5 => ⟨fun _ => go, fun _ => ⟨fun _ => go, fun w => absurd (nI_nn (k := j) (by omega)) w⟩⟩⟩
      rw [e28]
      exact ⟨gF X (s + 1) - gF X s + 1, in1 (gF X (s + 1) - gF X s) (gF X s) (by omega) (Nat.le_refl _) (fun j' h1 h2 => by omega)⟩
  have first : ∀ t g, g + t = 2 ^ ntm out → wl_LassoFinderModel_stemOf_6 Post (t + 1) (nI 0) (nI (bN (fun g => decide (dp g = 1 ∧ B9 50 g = 1)) g)) (nI g) I9 J9 B9 D9 := by
    intro t
    induction t with
    | zero =>
      intro g hg z31 e31
      rw [tw hS] at e31
      refine ⟨fun _ => ⟨n + 1, ?_⟩, fun z => absurd ((leI e31 (y := nI g) rfl (by omega) (by omega)).mpr (by omega)) z⟩
      rw [show g = 2 ^ ntm out by omega]
      have hbit : ∀ g, (bN (fun g => decide (dp g = 1 ∧ B9 50 g = 1)) (2 ^ ntm out)).testBit g = true ↔ Z0x d X out n g := by
        intro g
        rw [bN_bit, Bool.and_eq_true, decide_eq_true_eq, decide_eq_true_eq]
        unfold Z0x
        refine ⟨fun ⟨a1, a2, a3⟩ => ?_, fun ⟨a1, a2, a3⟩ => ?_⟩
        · obtain ⟨_, s, hs, hp⟩ := hL.1 g (by omega)
          rw [a2] at hp
          have es : s = g := hp
          have := ((h50 g (by omega)).2.mp a3).2
          rw [a2, Nat.add_sub_cancel] at this
          exact ⟨a1, by rw [← es]; exact hs.2, this⟩
        · obtain ⟨b1, b2⟩ := hL.2 0 g (Nat.zero_le _) ⟨g, ⟨a1, a2⟩, rfl⟩
          have e1 : dp g = 1 := by omega
          refine ⟨a1, e1, (h50 g (by omega)).2.mpr ⟨by omega, ?_⟩⟩
          rw [e1, Nat.add_sub_cancel]; exact a3
      refine lp n 0 0 (Z0x d X out n) _ B9 (by omega) h0 (bN_256 h3) hbit (fun g hg => ⟨hg.1, ?_, by rw [Nat.mul_zero, Nat.zero_add]; exact hg.2.2⟩) ?_ (fun _ _ => rfl) (Or.inl ⟨rfl, rfl⟩) (fun js s' Z' al' B' c1 c2 c3 c4 c5 c6 c7 c8 c9 c10 c11 => h js s' Z' al' B' c1 c2 c3 c4 (fun k hk => by have := c5 k hk; rw [Nat.zero_add] at this; exact this) c7 c8 c9 c10 c11)
      · obtain ⟨b1, b2⟩ := hL.2 0 g (Nat.zero_le _) ⟨g, ⟨hg.1, hg.2.1⟩, rfl⟩
        rw [Nat.mul_zero, Nat.zero_add]; omega
      · obtain ⟨u, u1, u2⟩ := hex
        obtain ⟨g, g1, g2⟩ := pf_Pnx n 0 u u1 (Pnx_0.mpr u2)
        rw [Nat.zero_add] at g2
        exact ⟨g, g1.1, g1.2, g2⟩
    | succ t ih =>
      intro g hg z31 e31
      rw [tw hS] at e31
      have hgl : g < 8 * gN X := by omega
      refine ⟨fun z => ?_, fun _ => ⟨vin2 rfl (by omega) (by omega), fun z33 e33 => ?_⟩⟩
      · have := (leI e31 (y := nI g) rfl (by omega) (by omega)).mp z; omega
      rw [clI rfl (by omega), h49 g hgl] at e33
      have q33 : z33 = 0 ↔ dp g = 1 := by
        rw [e33, show (0 : Int32) = nI 1 - 1 by decide]
        exact (nI_md (by have := dN g; omega) (by omega)).1
      have skip : decide (dp g = 1 ∧ B9 50 g = 1) = false → wc_LassoFinderModel_stemOf_41 (wl_LassoFinderModel_stemOf_6 Post (t + 1)) Post (nI 0) (nI g) (nI (bN (fun g => decide (dp g = 1 ∧ B9 50 g = 1)) g)) I9 J9 B9 D9 := by
        intro hFf y29 f29 y30 f30
        have := ih (g + 1) (by omega)
        rw [bN_or, hFf, show b2n false * 2 ^ g = 0 by simp [b2n], Nat.or_zero] at this
        have m29 : y29 = nI (bN (fun g => decide (dp g = 1 ∧ B9 50 g = 1)) g) := by rw [f29, show (0 : Int32) = nI 0 from rfl, nI_or, Nat.or_zero]
        rw [inI rfl f30, m29]; exact this
      refine ⟨fun z => skip (decide_eq_false (fun w => z (q33.mpr w.1))), fun z => ⟨vin2 rfl (by omega) (by omega), fun z35 e35 => ?_⟩⟩
      rw [clI rfl (by omega)] at e35
      refine ⟨fun w => skip (decide_eq_false (fun y => by rw [← e35, w] at y; exact absurd y.2 (by decide))), fun w z37 e37 y29 f29 y30 f30 => ?_⟩
      have h51 : B9 50 g = 1 := (h50 g hgl).1.resolve_left (fun y => w (by rw [e35]; exact y))
      have hT : decide (dp g = 1 ∧ B9 50 g = 1) = true := decide_eq_true ⟨q33.mp z, h51⟩
      have := ih (g + 1) (by omega)
      have m29 : y29 = nI (bN (fun g => decide (dp g = 1 ∧ B9 50 g = 1)) (g + 1)) := by
        rw [bN_or, hT, f29, e37, show (1 : Int32) = nI 1 from rfl, nI_shl (by omega), nI_or]; rfl
      rw [inI rfl f30, m29]; exact this
  exact ⟨2 ^ ntm out + 1, first (2 ^ ntm out) 0 (by omega)⟩
end ZS6
