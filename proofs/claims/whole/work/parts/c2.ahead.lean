/-! The reference goes round. -/
section ZS3
variable {I9 : Nat → Int32} {J9 : Nat → Int64} {B9 : Nat → Nat → Int32} {D9 : Nat → Nat → Int64}
def AHx (d : zD) (X : zG) (out : List zIt) (ds : Nat → Nat) (f j : Nat) (x : Int64) (g m : Nat) : Prop := g < 2 ^ ntm out ∧ ∃ b, b < 2 ^ ntm out ∧ bt x (8 * bfx d X out (gS X j) g + b) = true ∧ m = b ||| Sx d X out (8 * gT X j + g) ∧ ds (8 * (8 * gT X j + g) + m) = f + 1
theorem r_ahead {Post : Int64 → (Nat → Int32) → (Nat → Int64) → (Nat → Nat → Int32) → (Nat → Nat → Int64) → Prop} {mc : Nat} {d : zD} {Q : zQ} {X : zG} {out : List zIt} {ds : Nat → Nat} {f j : Nat} {x : Int64} {y z0 : Int32} (hS : SV mc d Q X out I9 B9) (hA : AW X ds B9) (hy : y = nI j) (hz0 : z0 = nI f) (hj : j < gM X) (hf : f ≤ 4000)
    (h : ∀ x', (∀ g m, g < 8 → m < 8 → (bt x' (8 * g + m) = true ↔ AHx d X out ds f j x g m)) → Post x' I9 J9 B9 D9) : wp_LassoFinderModel_ahead I9 J9 B9 D9 y x z0 Post := by
  subst hy; subst hz0
  have x1 := hS.1.1
  have x2 := hS.1.2.1
  have h3 := hS.2.1
  have p8 := p2_3 h3
  obtain ⟨hs, ht⟩ := hS.1.2.2.2.2 j hj
  obtain ⟨e31, e30⟩ := hS.2.2.2.2.2.2.2.2 j hj
  have inner : ∀ (K6 : Int32 → Int64 → Int32 → Int64 → Int32 → (Nat → Int32) → (Nat → Int64) → (Nat → Nat → Int32) → (Nat → Nat → Int64) → Prop) (g : Nat), g < 2 ^ ntm out → (∀ x', (∀ g' m, g' < 8 → m < 8 → (bt x' (8 * g' + m) = true ↔ g' < g + 1 ∧ AHx d X out ds f j x g' m)) → K6 (nI j) x (nI f) x' (nI (g + 1)) I9 J9 B9 D9) →
      ∀ t b x5, b + t = 2 ^ ntm out → (∀ g' m, g' < 8 → m < 8 → (bt x5 (8 * g' + m) = true ↔ (g' < g ∧ AHx d X out ds f j x g' m) ∨ (g' = g ∧ ∃ b', b' < b ∧ bt x (8 * bfx d X out (gS X j) g + b') = true ∧ m = b' ||| Sx d X out (8 * gT X j + g) ∧ ds (8 * (8 * gT X j + g) + m) = f + 1))) → wl_LassoFinderModel_ahead_48 (nI j) x (nI f) K6 Post (t + 1) (nI j) x (nI f) x5 (nI g) (nI (bfx d X out (gS X j) g)) (nI (Sx d X out (8 * gT X j + g))) (nI b) I9 J9 B9 D9 := by
    intro K6 g hg hK t
    have hb := bfx_lt (d := d) (X := X) (q := gS X j) (g := g) h3
    have hsx := (Sx_lt (d := d) (X := X) h3 (8 * gT X j + g)).2
    induction t with
    | zero =>
      intro b x5 hm hx5 z2 e2
      rw [tw hS] at e2
      refine ⟨fun _ z4 e4 => ?_, fun z => absurd ((leI e2 (y := nI b) rfl (by omega) (by omega)).mpr (by omega)) z⟩
      rw [inI rfl e4]
      refine hK x5 (fun g' m hg' hm' => ?_)
      rw [hx5 g' m hg' hm']
      constructor
      · rintro (⟨a1, a2⟩ | ⟨a1, b', b1, b2, b3, b4⟩)
        · exact ⟨by omega, a2⟩
        · subst a1; exact ⟨by omega, hg, b', by omega, b2, b3, b4⟩
      · rintro ⟨a1, a2⟩
        by_cases e : g' = g
        · subst e
          obtain ⟨_, b', b1, b2, b3, b4⟩ := a2
          exact Or.inr ⟨rfl, b', by omega, b2, b3, b4⟩
        · exact Or.inl ⟨by omega, a2⟩
    | succ t ih =>
      intro b x5 hm hx5 z2 e2
      rw [tw hS] at e2
      refine ⟨fun z => ?_, fun _ z5 e5 z6 e6 z7 e7 z8 e8 z9 e9 z10 e10 => ?_⟩
      · have := (leI e2 (y := nI b) rfl (by omega) (by omega)).mp z; omega
      rw [nI_or] at e5
      have n7 : z7 = nI (8 * bfx d X out (gS X j) g + b) := by rw [e7, e6, show (8 : Int32) = nI 8 from rfl, nI_mul, nI_add]
      have q10 : z10 = 0 ↔ bt x (8 * bfx d X out (gS X j) g + b) = true := by
        rw [e10, e9, e8, n7]; exact tstR1 x (by omega)
      have ho := or8 (show b < 8 by omega) hsx
      have skip : ¬ (bt x (8 * bfx d X out (gS X j) g + b) = true ∧ ds (8 * (8 * gT X j + g) + (b ||| Sx d X out (8 * gT X j + g))) = f + 1) → wc_LassoFinderModel_ahead_125 (nI j) x (nI f) K6 (wl_LassoFinderModel_ahead_48 (nI j) x (nI f) K6 Post (t + 1)) Post (nI j) x (nI f) x5 (nI g) (nI (bfx d X out (gS X j) g)) (nI (Sx d X out (8 * gT X j + g))) (nI b) I9 J9 B9 D9 := by
        intro hn z1 e1
        rw [inI rfl e1]
        refine ih (b + 1) x5 (by omega) (fun g' m hg' hm' => ?_)
        rw [hx5 g' m hg' hm']
        refine or_congr Iff.rfl (and_congr_right (fun _ => ⟨fun ⟨b', b1, b2⟩ => ⟨b', by omega, b2⟩, fun ⟨b', b1, b2, b3, b4⟩ => ?_⟩))
        by_cases e : b' = b
        · subst e; rw [b3] at b4; exact absurd ⟨b2, b4⟩ hn
        · exact ⟨b', by omega, b2, b3, b4⟩
      refine ⟨fun z => skip (fun w => z (q10.mpr w.1)), fun z => ⟨vin2 rfl (by omega) (by omega), fun z12 e12 z13 e13 z14 e14 z15 e15 z16 e16 => ?_⟩⟩
      rw [clI rfl (by omega), e30] at e12
      have n16 : z16 = nI (8 * (8 * gT X j + g) + (b ||| Sx d X out (8 * gT X j + g))) := by
        rw [e16, e15, e13, e14, e12, e5, show (64 : Int32) = nI 64 from rfl, show (8 : Int32) = nI 8 from rfl, nI_mul, nI_mul, nI_add, nI_add]; congr 1; omega
      have hpl : 8 * (8 * gT X j + g) + (b ||| Sx d X out (8 * gT X j + g)) < 64 * gN X := by omega
      refine r_away x1 hA hpl n16 ?_
      have dN := (hA _ hpl).2.2
      have q17 : nI (ds (8 * (8 * gT X j + g) + (b ||| Sx d X out (8 * gT X j + g)))) - 1 = nI f ↔ ds (8 * (8 * gT X j + g) + (b ||| Sx d X out (8 * gT X j + g))) = f + 1 := by
        rw [show nI f = nI (f + 1) - 1 from (nI_pred f).symm]
        exact (nI_md (by omega) (by omega)).1
      refine ⟨fun w => skip (fun y => w (q17.mpr y.2)), fun w z19 e19 z20 e20 z21 e21 z22 e22 z1 e1 => ?_⟩
      have n20 : z20 = nI (8 * g + (b ||| Sx d X out (8 * gT X j + g))) := by rw [e20, e19, e5, show (8 : Int32) = nI 8 from rfl, nI_mul, nI_add]
      have n21 : z21 = bitL (8 * g + (b ||| Sx d X out (8 * gT X j + g))) := by rw [e21, n20]; rfl
      rw [inI rfl e1]
      refine ih (b + 1) z22 (by omega) (fun g' m hg' hm' => ?_)
      rw [e22, bt_or, n21, bt_bit (by omega), Bool.or_eq_true, hx5 g' m hg' hm', decide_eq_true_eq]
      constructor
      · rintro ((a | ⟨a1, b', b1, b2⟩) | a)
        · exact Or.inl a
        · exact Or.inr ⟨a1, b', by omega, b2⟩
        · refine Or.inr ⟨by omega, b, by omega, q10.mp z, by omega, ?_⟩
          rw [show m = b ||| Sx d X out (8 * gT X j + g) by omega]; exact q17.mp w
      · rintro (a | ⟨a1, b', b1, b2, b3, b4⟩)
        · exact Or.inl (Or.inl a)
        · by_cases e : b' = b
          · subst e; exact Or.inr (by omega)
          · exact Or.inl (Or.inr ⟨a1, b', by omega, b2, b3, b4⟩)
  have outer : ∀ t g x5, g + t = 2 ^ ntm out → (∀ g' m, g' < 8 → m < 8 → (bt x5 (8 * g' + m) = true ↔ g' < g ∧ AHx d X out ds f j x g' m)) → wl_LassoFinderModel_ahead_6 (nI j) x (nI f) Post (t + 1) (nI j) x (nI f) x5 (nI g) I9 J9 B9 D9 := by
    intro t
    induction t with
    | zero =>
      intro g x5 hg hx5 z23 e23
      rw [tw hS] at e23
      refine ⟨fun _ => h x5 (fun g' m a b => ?_), fun z => absurd ((leI e23 (y := nI g) rfl (by omega) (by omega)).mpr (by omega)) z⟩
      rw [hx5 g' m a b]
      exact ⟨fun w => w.2, fun w => ⟨by have := w.1; omega, w⟩⟩
    | succ t ih =>
      intro g x5 hg hx5 z23 e23
      rw [tw hS] at e23
      refine ⟨fun z => ?_, fun _ => ⟨vin2 rfl (by omega) (by omega), fun z25 e25 => ?_⟩⟩
      · have := (leI e23 (y := nI g) rfl (by omega) (by omega)).mp z; omega
      rw [clI rfl (by omega), e31] at e25
      refine r_bf hS e25 rfl hs (by omega) ⟨vin2 rfl (by omega) (by omega), fun z27 e27 => ?_⟩
      rw [clI rfl (by omega), e30] at e27
      refine r_stx hS e27 rfl ht (by omega) ⟨2 ^ ntm out + 1, ?_⟩
      refine inner _ g (by omega) (fun x' hx' => ih (g + 1) x' (by omega) hx') (2 ^ ntm out) 0 x5 (by omega) (fun g' m a b => ?_)
      rw [hx5 g' m a b]
      exact ⟨fun w => Or.inl w, fun w => w.elim id (fun ⟨_, b', b1, _⟩ => by omega)⟩
  exact ⟨2 ^ ntm out + 1, outer (2 ^ ntm out) 0 0 (by omega) (fun g' m _ _ => by rw [bt_0]; exact ⟨fun w => absurd w (by decide), fun w => by have := w.1; omega⟩)⟩
theorem or_ad {b r s : Nat} (h : s ||| b = b) : b ||| r ||| s = b ||| r := by
  rw [Nat.or_comm (b ||| r), ← Nat.or_assoc, h]
theorem r_round {Post : Int32 → (Nat → Int32) → (Nat → Int64) → (Nat → Nat → Int32) → (Nat → Nat → Int64) → Prop} {mc : Nat} {d : zD} {Q : zQ} {X : zG} {out : List zIt} {v : Nat} {x y : Int32} (hS : SV mc d Q X out I9 B9) (hF : XF X (gN X)) (hx : x = nI (v / 8)) (hy : y = nI (v % 8)) (hv : v < 8 * gN X) (hvg : v % 8 < 2 ^ ntm out) (hgd : gd d X out v)
    (h : ∀ js B', CYx d X out v js → (∀ k, k < js.length → stq (B' 53) k = nI (js.getD k 0)) → (∀ k, k ∉ [51, 53] → B' k = B9 k) → Post (nI js.length) I9 J9 B' D9) : wp_LassoFinderModel_round I9 J9 B9 D9 x y Post := by
  have x1 := hS.1.1
  have x2 := hS.1.2.1
  have h3 := hS.2.1
  have p8 := p2_3 h3
  have p1 : 0 < 2 ^ ntm out := Nat.two_pow_pos _
  have hv8 : 8 * (v / 8) + v % 8 = v := by omega
  have hq : v / 8 < gN X := by omega
  refine r_nearest hS hF hx hy hv hvg (fun n ds B0 hn0 hM hA hB0 => ?_)
  have hCL : CLx d X out v n := hn0.elim (fun w => absurd hgd w.2) id
  have hn := hCL.2.2.2
  have hn1 := hCL.1
  have sa : ∀ w, (2 ^ ntm out - 1) ||| Sx d X out w = 2 ^ ntm out - 1 := fun w => by rw [Nat.or_comm]; exact sub_e (sub_o (sub_al (Sx_lt h3 w).1) sub.rf) (sub_r _ _)
  have hcg : ∀ B1 : Nat → Nat → Int32, (∀ k, k ≠ 53 → B1 k = B0 k) → SV mc d Q X out I9 B1 ∧ AW X ds B1 := fun B1 hB => ⟨hS.b (fun k hk => (hB k (by omega)).trans (hB0 k (by omega))), by unfold AW; rw [hB 51 (by decide)]; exact hA⟩
  have lp : ∀ t i s (Z : Nat → Nat → Prop) x B1, i + t = n → s < gN X → (∀ g b, g < 8 → b < 8 → (bt x (8 * g + b) = true ↔ ∃ met, Z g met ∧ b = met ||| Sx d X out (8 * s + g))) → (∀ g m, Z g m → g < 2 ^ ntm out ∧ m < 2 ^ ntm out ∧ fw d X out (8 * s + g) i (8 * v + m)) → (∃ g m r, Z g m ∧ r < 2 ^ ntm out ∧ fw d X out v t (8 * (8 * s + g) + r) ∧ m ||| r = 2 ^ ntm out - 1) → (∀ k, k ≠ 53 → B1 k = B0 k) →
      (∀ js B', js.length = t → CGx d X out v js s Z → (∀ k, k < t → stq (B' 53) (i + k) = nI (js.getD k 0)) → (∀ k, k < i → stq (B' 53) k = stq (B1 53) k) → (∀ k, k ≠ 53 → B' k = B0 k) → Post (nI n) I9 J9 B' D9) →
      ∀ xx yy : Int32, wl_LassoFinderModel_round_30 xx yy Post (t + 1) (nI n) (nI s) x (nI t - 1) I9 J9 B1 D9 := by
    intro t
    induction t with
    | zero =>
      intro i s Z x B1 hi hs hZ hZd hne hB hK xx yy
      exact ⟨fun _ => hK [] B1 rfl trivial (fun k hk => by omega) (fun _ _ => rfl) hB, fun z => absurd (by decide) z⟩
    | succ t ih =>
      intro i s Z x B1 hi hs hZ hZd hne hB hK xx yy
      obtain ⟨hS1, hA1⟩ := hcg B1 hB
      have hgl := gF_le hF hs
      have hgm := gF_mono hF s (s + 1) (by omega) (by omega)
      have e7 : nI (t + 1) - 1 = nI t := nI_pred t
      rw [e7]
      refine ⟨fun z => ?_, fun _ => ⟨vin2 rfl (by omega) (by omega), fun z14 e14 => ?_⟩⟩
      · have := (ltI (x := nI t) rfl (y := 0) (b := 0) rfl (by omega) (by omega)).mp z; omega
      rw [clI rfl (by omega), hS1.2.2.2.2.2.2.2.1 _ (by omega)] at e14
      -- what may come next
      have nx : ∀ j, j < gM X → gS X j = s → ∀ g m, AHx d X out ds t j x g m ↔ ∃ m', nxC d X out v t j Z g m' ∧ m = m' ||| Sx d X out (8 * gT X j + g) := by
        intro j hj hjs g m
        have hb := bfx_lt (d := d) (X := X) (q := gS X j) (g := g) h3
        have hsw := Sx_lt (d := d) (X := X) h3 (8 * gT X j + g)
        -- both ways of saying how far it is
        have core : ∀ met, g < 2 ^ ntm out → Z (bfx d X out (gS X j) g) met → ∀ m', m' = met ||| Sx d X out (8 * gS X j + bfx d X out (gS X j) g) → (m' < 2 ^ ntm out ∧ (∀ k, pn (R9x d X out) k (8 * v + (2 ^ ntm out - 1)) (8 * (8 * gT X j + g) + (m' ||| Sx d X out (8 * gT X j + g))) ↔ ∃ r, r < 2 ^ ntm out ∧ fw d X out v k (8 * (8 * gT X j + g) + r) ∧ m' ||| r = 2 ^ ntm out - 1) ∧ fw d X out (8 * gT X j + g) (i + 1) (8 * v + m')) := by
          intro met hg hz m' hm'
          obtain ⟨b1, b2, b3⟩ := hZd _ _ hz
          have hse := Sx_lt (d := d) (X := X) h3 (8 * gS X j + bfx d X out (gS X j) g)
          have hst := fw_st hS.1 h3 (v := v) (i := i) (m := met) hj (show g < 8 by omega) (by omega) (by rw [hjs] at b3 ⊢; exact b3)
          rw [← hm'] at hst
          have hml : m' < 2 ^ ntm out := by rw [hm']; exact Nat.or_lt_two_pow b2 hse.1
          have hvm := fw_v h3 (show m' < 8 by omega) hst
          have ho : m' ||| Sx d X out (8 * gT X j + g) < 2 ^ ntm out := Nat.or_lt_two_pow hml hsw.1
          refine ⟨hml, fun k => ?_, hst⟩
          rw [fw9 hS.1 h3 hv k, show (8 * (8 * gT X j + g) + (m' ||| Sx d X out (8 * gT X j + g))) / 8 = 8 * gT X j + g by omega, show (8 * (8 * gT X j + g) + (m' ||| Sx d X out (8 * gT X j + g))) % 8 = m' ||| Sx d X out (8 * gT X j + g) by omega]
          constructor
          · rintro ⟨_, _, r, r1, r2, r3⟩
            refine ⟨r, r1, r2, ?_⟩
            rw [or_ab (fw_sub h3 (show r < 8 by omega) r2), or_ad hvm] at r3; exact r3
          · rintro ⟨r, r1, r2, r3⟩
            refine ⟨ho, by rw [Nat.or_comm m', ← Nat.or_assoc, Nat.or_self], r, r1, r2, ?_⟩
            rw [or_ab (fw_sub h3 (show r < 8 by omega) r2), or_ad hvm]; exact r3
        constructor
        · rintro ⟨hg, b, b1, b2, b3, b4⟩
          obtain ⟨met, c1, c2⟩ := (hZ _ _ hb.2 (by omega)).mp b2
          rw [← hjs] at c2
          obtain ⟨d1, d2, d3⟩ := core met hg c1 b c2
          refine ⟨b, ⟨hg, met, c1, c2, ?_⟩, b3⟩
          obtain ⟨src, hs0, hp⟩ := hM.1 _ (show ¬ ds (8 * (8 * gT X j + g) + m) = 0 by omega)
          rw [show src = 8 * v + (2 ^ ntm out - 1) from hs0, b4, Nat.add_sub_cancel, b3] at hp
          exact (d2 t).mp hp
        · rintro ⟨m', ⟨hg, met, c1, c2, hr⟩, hm⟩
          obtain ⟨d1, d2, d3⟩ := core met hg c1 m' c2
          refine ⟨hg, m', d1, (hZ _ _ hb.2 (by omega)).mpr ⟨met, c1, by rw [← hjs]; exact c2⟩, hm, ?_⟩
          rw [hm]
          obtain ⟨f1, f2⟩ := hM.2 t _ ⟨_, rfl, (d2 t).mpr hr⟩
          refine Nat.le_antisymm f2 (Nat.le_of_not_lt (fun hlt => ?_))
          obtain ⟨src, hs0, hp⟩ := hM.1 _ f1
          rw [show src = 8 * v + (2 ^ ntm out - 1) from hs0] at hp
          obtain ⟨r, r1, r2, r3⟩ := (d2 _).mp hp
          have hjn := fw_join h3 (show m' < 8 by omega) (show r < 8 by omega) d3 r2
          rw [r3] at hjn
          exact hCL.2.2.1 _ (by omega) (by omega) hjn
      -- there is a next one
      have ex : ∃ j g m', j < gM X ∧ gS X j = s ∧ nxC d X out v t j Z g m' := by
        obtain ⟨g, m, r, a1, a2, a3, a4⟩ := hne
        obtain ⟨b1, b2, b3⟩ := hZd g m a1
        obtain ⟨j, g', r', c1, c2, c3, c4, c5, c6, c7⟩ := fw_in hS.1 h3 hv hvg (show g < 8 by omega) (show r < 8 by omega) a3
        refine ⟨j, g', m ||| Sx d X out (8 * s + g), c1, c2, c3, m, by rw [c4]; exact a1, by rw [c2] at c4 ⊢; rw [c4], r', c5, c6, ?_⟩
        rw [Nat.or_assoc, Nat.or_comm (Sx d X out (8 * s + g)), ← c7, a4]
      have inner : ∀ u j (cc : Int32), j + u = gF X (s + 1) → gF X s ≤ j → (∀ j', gF X s ≤ j' → j' < j → ∀ g m, ¬ nxC d X out v t j' Z g m) → wl_LassoFinderModel_round_50 xx yy (wl_LassoFinderModel_round_30 xx yy Post (t + 1)) Post (u + 1) (nI n) (nI s) x (nI t) 0 cc (nI j) I9 J9 B1 D9 := by
        intro u
        induction u with
        | zero =>
          intro j cc hj hlo hno
          obtain ⟨j', g, m, a1, a2, a3⟩ := ex
          obtain ⟨b1, b2⟩ := gF_all hF a1 hs a2
          exact absurd a3 (hno j' b1 (by omega) g m)
        | succ u ihu =>
          intro j cc hj hlo hno z6 e6
          have n6 := inI rfl e6
          have hjM : j < gM X := by omega
          have hjs : gS X j = s := (gF_q hF hjM hs).mp ⟨hlo, by omega⟩
          refine ⟨vin2 n6 (by omega) (by omega), fun z7 e7 => ?_⟩
          rw [clI n6 (by omega), hS1.2.2.2.2.2.2.2.1 _ (by omega)] at e7
          refine ⟨fun z => ?_, fun _ z9 e9 => ⟨fun z => absurd (by rw [e9]; exact (cmp0 0 0).mpr rfl) z, fun _ => ?_⟩⟩
          · have := (leI e7 (y := nI j) rfl (by omega) (by omega)).mp z; omega
          refine r_ahead (ds := ds) (f := t) hS1 hA1 rfl rfl hjM (by omega) (fun r11 hr11 z12 e12 => ?_)
          rw [inI rfl e12]
          have hnx : ∀ g m, g < 8 → m < 8 → (bt r11 (8 * g + m) = true ↔ ∃ m', nxC d X out v t j Z g m' ∧ m = m' ||| Sx d X out (8 * gT X j + g)) := fun g m hg hm => (hr11 g m hg hm).trans (nx j hjM hjs g m)
          have hnl : ∀ g m, nxC d X out v t j Z g m → g < 2 ^ ntm out ∧ m < 2 ^ ntm out ∧ fw d X out (8 * gT X j + g) (i + 1) (8 * v + m) := by
            rintro g m ⟨a1, met, a2, a3, a4⟩
            obtain ⟨b1, b2, b3⟩ := hZd _ _ a2
            have hst := fw_st hS.1 h3 (v := v) (i := i) (m := met) hjM (show g < 8 by omega) (by omega) (by rw [hjs] at b3 ⊢; exact b3)
            rw [← a3] at hst
            exact ⟨a1, by rw [a3]; exact Nat.or_lt_two_pow b2 (Sx_lt h3 _).1, hst⟩
          by_cases hz2 : r11 = 0
          · subst hz2
            refine ihu (j + 1) _ (by omega) (by omega) (fun j' h1 h2 g m hg => ?_)
            by_cases e : j' = j
            · subst e
              obtain ⟨b1, b2, _⟩ := hnl g m hg
              have hsw := (Sx_lt (d := d) (X := X) h3 (8 * gT X j' + g)).2
              have := (hnx g (m ||| Sx d X out (8 * gT X j' + g)) (by omega) (or8 (by omega) hsw)).mpr ⟨m, hg, rfl⟩
              rw [bt_0] at this
              exact absurd this (by decide)
            · exact hno j' h1 (by omega) g m hg
          · -- it is found
            have hex : ∃ g m, nxC d X out v t j Z g m := by
              refine Classical.byContradiction (fun w => hz2 (bt_ext (fun k hk => ?_)))
              rw [bt_0]
              cases hb : bt r11 k
              · rfl
              · obtain ⟨m', hm', _⟩ := (hnx (k / 8) (k % 8) (by omega) (by omega)).mp (by rw [show 8 * (k / 8) + k % 8 = k by omega]; exact hb)
                exact absurd ⟨k / 8, m', hm'⟩ w
            obtain ⟨_, ht⟩ := hS.1.2.2.2.2 j hjM
            have go : wc_LassoFinderModel_round_93 xx yy (wl_LassoFinderModel_round_30 xx yy Post (t + 1)) Post (nI n) (nI t) r11 (nI j) I9 J9 B1 D9 := by
              intro y1 f1 y2 f2
              have m1 : y1 = nI (n - 1) := deI (by congr 1; omega) f1
              have m2 : y2 = nI i := by rw [f2, m1, show n - 1 = i + t by omega]; exact nI_sk _ _
              refine r_keep56 m2 (by omega) ⟨vin2 rfl (by omega) (by omega), fun y4 f4 y5 f5 => ?_⟩
              have hB3 : ∀ k, k ≠ 53 → va_up B1 53 (kpq (B1 53) i (nI j)) k = B0 k := fun k hk => by simp [va_up, hk]; exact hB k hk
              have h53 : va_up B1 53 (kpq (B1 53) i (nI j)) 53 = kpq (B1 53) i (nI j) := by simp [va_up]
              generalize va_up B1 53 (kpq (B1 53) i (nI j)) = B3 at hB3 h53 f4
              obtain ⟨hS3, hA3⟩ := hcg B3 hB3
              rw [clI rfl (by omega), (hS3.2.2.2.2.2.2.2.2 j hjM).2] at f4
              have m5 : y5 = nI t - 1 := by
                rw [f5]
                generalize nI t = y
                grind
              rw [f4, m5]
              refine ih (i + 1) (gT X j) (nxC d X out v t j Z) r11 B3 (by omega) ht hnx hnl ?_ hB3 (fun js B' hl hG hr hk' hB' => ?_) xx yy
              · obtain ⟨g, m, hgm'⟩ := hex
                have hgm2 := hgm'
                obtain ⟨_, met, _, _, r, r1, r2, r3⟩ := hgm'
                exact ⟨g, m, r, hgm2, r1, r2, r3⟩
              · refine hK (j :: js) B' (by simp [hl]) ⟨hjM, hjs, by rw [hl]; exact hex, fun j' h1 h2 g m => ?_, by rw [hl]; exact hG⟩ (fun k hk => ?_) (fun k hk => by rw [hk' k (by omega), h53]; exact kpq_ne _ (by omega) (by omega)) hB'
                · rw [hl]
                  obtain ⟨b1, b2⟩ := gF_all hF (show j' < gM X by omega) hs h2
                  exact hno j' b1 h1 g m
                · by_cases e : k = 0
                  · subst e
                    rw [Nat.add_zero, hk' i (by omega), h53, kpq_at _ _ (by omega)]; rfl
                  · obtain ⟨k, rfl⟩ : ∃ k', k = k' + 1 := ⟨k - 1, by omega⟩
                    have := hr k (by omega)
                    rw [show i + 1 + k = i + (k + 1) by omega] at this
                    rw [this]; rfl
            intro y4 f4
            have m4 := inI rfl f4
            refine ⟨vin2 m4 (by omega) (by omega), fun y5 f5 => ⟨fun _ => go, fun _ y7 f7 => ⟨fun _ => go, fun w => absurd ((cmp0 _ _).mp (f7.symm.trans w)) hz2⟩⟩⟩
      rw [e14]
      exact ⟨gF X (s + 1) - gF X s + 1, inner (gF X (s + 1) - gF X s) (gF X s) _ (by omega) (Nat.le_refl _) (fun j' h1 h2 => by omega)⟩
  intro z16 e16
  have hS0 : SV mc d Q X out I9 B0 := hS.b (fun k hk => hB0 k (by omega))
  refine r_stx hS0 hx hy hq (by omega) (fun z18 e18 z19 e19 z20 e20 => ⟨n + 1, ?_⟩)
  rw [hv8] at e18
  have hsv := (Sx_lt (d := d) (X := X) h3 v).2
  have n18 : z18 = nI (8 * (v % 8) + Sx d X out v) := by rw [e18, e16, hy, show (8 : Int32) = nI 8 from rfl, nI_mul, nI_add]
  have n19 : z19 = bitL (8 * (v % 8) + Sx d X out v) := by rw [e19, n18]; rfl
  rw [n19, e20]
  have hl := lp n 0 (v / 8) (fun g m => g = v % 8 ∧ m = 0) (bitL (8 * (v % 8) + Sx d X out v)) B0 (by omega) hq (fun g b hg hb => ?_) (fun g m hgm => ?_) ⟨v % 8, 0, 2 ^ ntm out - 1, ⟨rfl, rfl⟩, by omega, by rw [hv8]; exact hCL.2.1, by rw [Nat.zero_or]⟩ (fun _ _ => rfl) (fun js B' c1 c2 c3 c4 c5 => ?_) x y
  · rw [show x = nI (v / 8) from hx] at hl ⊢
    exact hl
  · rw [bt_bit (by omega), decide_eq_true_eq]
    constructor
    · intro e
      have eg : g = v % 8 := by omega
      have eb : b = Sx d X out v := by omega
      exact ⟨0, ⟨eg, rfl⟩, by rw [eg, hv8, Nat.zero_or]; exact eb⟩
    · rintro ⟨met, ⟨eg, em⟩, eb⟩
      rw [em, eg, hv8, Nat.zero_or] at eb
      rw [eg, eb]
  · obtain ⟨e1, e2⟩ := hgm
    rw [e1, e2, hv8, Nat.add_zero]
    exact ⟨hvg, p1, rfl⟩
  · have := h js B' ⟨by rw [c1]; exact hCL, c2⟩ (fun k hk => by have := c3 k (by omega); rw [Nat.zero_add] at this; exact this) (fun k hk => by simp at hk; exact (c5 k (by omega)).trans (hB0 k (by omega)))
    rw [c1] at this; exact this
end ZS3
