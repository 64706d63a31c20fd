/-! The class follows a round, keeps the better one, finds the lasso. -/
section ZR6
variable {I : Nat → Int32} {J : Nat → Int64} {B : Nat → Nat → Int32} {D : Nat → Nat → Int64}
theorem q_followCycle {Post : (Nat → Int32) → (Nat → Int64) → (Nat → Nat → Int32) → (Nat → Nat → Int64) → Prop} {d : zD} {Q : zQ} {X : zG} {out : List zIt} {ds : Nat → Nat} {v n : Nat} (hR : SR d Q X out I B) (hF : XF X (gN X)) (hv : v < 8 * gN X) (hvg : v % 8 < 2 ^ ntm out) (hCL : CLx d X out v n) (hCD : CDx d X out v n ds B)
    (h : ∀ js B', js.length = n → CGx d X out v js (v / 8) (fun g m => g = v % 8 ∧ m = 0) → (∀ k, k < n → B' 60 k = nI (js.getD k 0)) → (∀ k, k ≠ 60 → B' k = B k) → Post I J B' D) : wp_LassoSearch_followCycle I J B D (nI v) (nI n) Post := by
  have x1 := hR.1.1
  have x2 := hR.1.2.1
  have h3 := hR.2.1
  have p8 := p2_3 h3
  have p1 : 0 < 2 ^ ntm out := Nat.two_pow_pos _
  have hn := hCL.2.2.2
  have hcg : ∀ B1 : Nat → Nat → Int32, (∀ k, k ≠ 60 → B1 k = B k) → SR d Q X out I B1 ∧ (∀ p, p < 6144 → B1 56 p = nI (ds p) - 1) := fun B1 hB => ⟨hR.cg (fun _ _ => rfl) (fun k hk => hB k (by simp at hk; omega)), by rw [hB 56 (by decide)]; exact hCD.1⟩
  have lp : ∀ t i s (Z : Nat → Nat → Prop) x B1, i + t = n → s < gN X → (∀ g m, g < 8 → m < 8 → (bt x (8 * g + m) = true ↔ Z g m)) → (∀ g m, Z g m → g < 2 ^ ntm out ∧ m < 2 ^ ntm out ∧ fw d X out (8 * s + g) i (8 * v + m)) → (∃ g m r, Z g m ∧ r < 2 ^ ntm out ∧ fw d X out v t (8 * (8 * s + g) + r) ∧ m ||| r = 2 ^ ntm out - 1) → (∀ k, k ≠ 60 → B1 k = B k) →
      (∀ js B', js.length = t → CGx d X out v js s Z → (∀ k, k < t → B' 60 (i + k) = nI (js.getD k 0)) → (∀ k, k < i → B' 60 k = B1 60 k) → (∀ k, k ≠ 60 → B' k = B k) → Post I J B' D) →
      wl_LassoSearch_followCycle_19 (nI v) (nI n) Post (t + 1) (nI n) x (nI s) (nI i) I J B1 D := by
    intro t
    induction t with
    | zero =>
      intro i s Z x B1 hi hs hZ hZd hne hB hK
      refine ⟨fun _ => ?_, fun z => absurd ((leI (x := nI n) rfl (y := nI i) rfl (by omega) (by omega)).mpr (by omega)) z⟩
      exact hK [] B1 rfl trivial (fun k hk => by omega) (fun _ _ => rfl) hB
    | succ t ih =>
      intro i s Z x B1 hi hs hZ hZd hne hB hK
      obtain ⟨hR1, hD1⟩ := hcg B1 hB
      have hgl := gF_le hF hs
      have hgm := gF_mono hF s (s + 1) (by omega) (by omega)
      refine ⟨fun z => ?_, fun _ => ⟨vin2 rfl (by omega) (by omega), fun z14 e14 => ?_⟩⟩
      · have := (leI (x := nI n) rfl (y := nI i) rfl (by omega) (by omega)).mp z; omega
      rw [clI rfl (by omega), hR1.2.2.2.2.2.2.1 _ (by omega)] at e14
      -- what may come next
      have nx : ∀ j, j < gM X → gS X j = s → ∀ g m', ARx d X out ds t j x g m' ↔ nxC d X out v t j Z g m' := by
        intro j hj hjs g m'
        unfold ARx nxC
        have hb := bfx_lt (d := d) (X := X) (q := gS X j) (g := g) h3
        refine and_congr_right (fun hg => ⟨fun ⟨met, a1, a2, a3, r, a4, a5, a6⟩ => ?_, fun ⟨met, a1, a2, r, a3, a4, a5⟩ => ?_⟩)
        · refine ⟨met, (hZ _ _ hb.2 (by omega)).mp a2, a3, r, a4, ?_, a5⟩
          have := hCD.2.1 _ (show ¬ ds (8 * (8 * gT X j + g) + r) = 0 by omega)
          rw [a6, Nat.add_sub_cancel] at this; exact this
        · obtain ⟨b1, b2, b3⟩ := hZd _ _ a1
          refine ⟨met, b2, (hZ _ _ hb.2 (by omega)).mpr a1, a2, r, a3, a5, ?_⟩
          obtain ⟨c1, c2⟩ := hCD.2.2.1 t _ (by omega) a4
          have c3 := hCD.2.1 _ c1
          refine Nat.le_antisymm c2 (Nat.le_of_not_lt (fun hlt => ?_))
          have hst := fw_st hR.1 h3 (v := v) (i := i) (m := met) hj (show g < 8 by omega) (by omega) (by rw [hjs] at b3 ⊢; exact b3)
          rw [← a2] at hst
          have hm8 : m' < 8 := by rw [a2]; exact or8 (by omega) (Sx_lt h3 _).2
          have hjn := fw_join h3 hm8 (show r < 8 by omega) hst c3
          rw [a5] at hjn
          exact hCL.2.2.1 _ (by omega) (by omega) hjn
      -- there is a next one
      have ex : ∃ j g m', j < gM X ∧ gS X j = s ∧ nxC d X out v t j Z g m' := by
        obtain ⟨g, m, r, a1, a2, a3, a4⟩ := hne
        obtain ⟨b1, b2, b3⟩ := hZd g m a1
        obtain ⟨j, g', r', c1, c2, c3, c4, c5, c6, c7⟩ := fw_in hR.1 h3 hv hvg (show g < 8 by omega) (show r < 8 by omega) a3
        refine ⟨j, g', m ||| Sx d X out (8 * s + g), c1, c2, c3, m, by rw [c4]; exact a1, by rw [c2] at c4 ⊢; rw [c4], r', c5, c6, ?_⟩
        rw [Nat.or_assoc, Nat.or_comm (Sx d X out (8 * s + g)), ← c7, a4]
      have inner : ∀ u j B2, j + u = gF X (s + 1) → gF X s ≤ j → (∀ j', gF X s ≤ j' → j' < j → ∀ g m, ¬ nxC d X out v t j' Z g m) → (∀ k, k ≠ 60 → B2 k = B k) → (∀ k, k < i → B2 60 k = B1 60 k) → wl_LassoSearch_followCycle_40 (nI v) (nI n) (wl_LassoSearch_followCycle_19 (nI v) (nI n) Post (t + 1)) Post (u + 1) (nI n) x (nI s) (nI i) 0 (nI j) I J B2 D := by
        intro u
        induction u with
        | zero =>
          intro j B2 hj hlo hno hB2 hk58
          obtain ⟨j', g, m, a1, a2, a3⟩ := ex
          obtain ⟨b1, b2⟩ := gF_all hF a1 hs a2
          exact absurd a3 (hno j' b1 (by omega) g m)
        | succ u ihu =>
          intro j B2 hj hlo hno hB2 hk58 z4 e4
          obtain ⟨hR2, hD2⟩ := hcg B2 hB2
          have n4 := inI rfl e4
          have hjM : j < gM X := by omega
          have hjs : gS X j = s := (gF_q hF hjM hs).mp ⟨hlo, by omega⟩
          refine ⟨vin2 n4 (by omega) (by omega), fun z5 e5 => ?_⟩
          rw [clI n4 (by omega), hR2.2.2.2.2.2.2.1 _ (by omega)] at e5
          refine ⟨fun z => ?_, fun _ z7 e7 => ⟨fun z => absurd (by rw [e7]; exact (cmp0 0 0).mpr rfl) z, fun _ z9 e9 z10 e10 => ?_⟩⟩
          · have := (leI e5 (y := nI j) rfl (by omega) (by omega)).mp z; omega
          have n9 : z9 = nI (t + 1) := by rw [e9, show n = (t + 1) + i by omega]; exact nI_sk _ _
          have n10 := deI n9 e10
          refine q_allowedRound (f := t) (ds := ds) hR2 rfl n10 hjM (by omega) hD2 hCD.2.2.2 (fun r11 hr11 => ⟨vin2 rfl (by omega) (by omega), fun z12 e12 => ?_⟩)
          rw [inI rfl e12, clI rfl (by omega)]
          have hnx : ∀ g m, g < 8 → m < 8 → (bt r11 (8 * g + m) = true ↔ nxC d X out v t j Z g m) := fun g m hg hm => (hr11 g m hg hm).trans (nx j hjM hjs g m)
          have hnl : ∀ g m, nxC d X out v t j Z g m → g < 2 ^ ntm out ∧ m < 2 ^ ntm out ∧ fw d X out (8 * gT X j + g) (i + 1) (8 * v + m) := by
            rintro g m ⟨a1, met, a2, a3, a4⟩
            obtain ⟨b1, b2, b3⟩ := hZd _ _ a2
            have hst := fw_st hR.1 h3 (v := v) (i := i) (m := met) hjM (show g < 8 by omega) (by omega) (by rw [hjs] at b3 ⊢; exact b3)
            rw [← a3] at hst
            exact ⟨a1, by rw [a3]; exact Nat.or_lt_two_pow b2 (Sx_lt h3 _).1, hst⟩
          have hB3 : ∀ k, k ≠ 60 → va_up B2 60 (upd (B2 60) i (nI j)) k = B k := fun k hk => by simp [va_up, hk]; exact hB2 k hk
          have hk3 : ∀ k, k < i → va_up B2 60 (upd (B2 60) i (nI j)) 60 k = B1 60 k := fun k hk => by
            have : ¬ k = i := by omega
            simp [va_up, upd, this]; exact hk58 k hk
          have h3i : va_up B2 60 (upd (B2 60) i (nI j)) 60 i = nI j := by simp [va_up, upd]
          generalize va_up B2 60 (upd (B2 60) i (nI j)) = B3 at hB3 hk3 h3i
          by_cases hz2 : r11 = 0
          · subst hz2
            refine ihu (j + 1) B3 (by omega) (by omega) (fun j' h1 h2 g m hg => ?_) hB3 hk3
            by_cases e : j' = j
            · subst e
              obtain ⟨b1, b2, _⟩ := hnl g m hg
              have := (hnx g m (by omega) (by omega)).mpr hg
              rw [bt_0] at this
              exact absurd this (by decide)
            · exact hno j' h1 (by omega) g m hg
          · -- it is found
            have hex : ∃ g m, nxC d X out v t j Z g m := by
              refine Classical.byContradiction (fun w => hz2 (bt_ext (fun k hk => ?_)))
              rw [bt_0]
              cases hb : bt r11 k
              · rfl
              · refine absurd ⟨k / 8, k % 8, (hnx (k / 8) (k % 8) (by omega) (by omega)).mp ?_⟩ w
                rw [show 8 * (k / 8) + k % 8 = k by omega]; exact hb
            obtain ⟨hR3, hD3⟩ := hcg B3 hB3
            obtain ⟨_, ht⟩ := hR.1.2.2.2.2 j hjM
            have go : wc_LassoSearch_followCycle_94 (nI v) (nI n) (wl_LassoSearch_followCycle_19 (nI v) (nI n) Post (t + 1)) Post (nI n) (nI i) r11 I J B3 D := by
              refine ⟨vin2 rfl (by omega) (by omega), fun y1 f1 => ?_⟩
              rw [clI rfl (by omega), h3i] at f1
              refine ⟨vin2 f1 (by omega) (by omega), fun y2 f2 y3 f3 => ?_⟩
              rw [clI f1 (by omega), (hR3.2.2.2.2.2.2.2 j hjM).2] at f2
              rw [f2, inI rfl f3]
              refine ih (i + 1) (gT X j) (nxC d X out v t j Z) r11 B3 (by omega) ht hnx hnl ?_ hB3 (fun js B' hl hG hr hk' hB' => ?_)
              · obtain ⟨g, m, hgm'⟩ := hex
                have hgm2 := hgm'
                obtain ⟨_, met, _, _, r, r1, r2, r3⟩ := hgm'
                exact ⟨g, m, r, hgm2, r1, r2, r3⟩
              · refine hK (j :: js) B' (by simp [hl]) ⟨hjM, hjs, by rw [hl]; exact hex, fun j' h1 h2 g m => ?_, by rw [hl]; exact hG⟩ (fun k hk => ?_) (fun k hk => by rw [hk' k (by omega)]; exact hk3 k hk) hB'
                · rw [hl]
                  obtain ⟨b1, b2⟩ := gF_all hF (show j' < gM X by omega) hs h2
                  exact hno j' b1 h1 g m
                · by_cases e : k = 0
                  · subst e
                    rw [Nat.add_zero, hk' i (by omega), h3i]; rfl
                  · obtain ⟨k, rfl⟩ : ∃ k', k = k' + 1 := ⟨k - 1, by omega⟩
                    have := hr k (by omega)
                    rw [show i + 1 + k = i + (k + 1) by omega] at this
                    rw [this]; rfl
            intro y4 f4
            have m4 := inI rfl f4
            refine ⟨vin2 m4 (by omega) (by omega), fun y5 f5 => ⟨fun _ => go, fun _ y7 f7 => ⟨fun _ => go, fun w => absurd ((cmp0 _ _).mp (f7.symm.trans w)) hz2⟩⟩⟩
      rw [e14]
      exact ⟨gF X (s + 1) - gF X s + 1, inner (gF X (s + 1) - gF X s) (gF X s) B1 (by omega) (Nat.le_refl _) (fun j' h1 h2 => by omega) hB (fun _ _ => rfl)⟩
  intro z15 e15 z16 e16 z17 e17 z18 e18
  rw [modI (by omega)] at e15
  rw [divI (by omega)] at e18
  have n16 : z16 = nI (8 * (v % 8)) := by rw [e16, e15, show (8 : Int32) = nI 8 from rfl, nI_mul, Nat.mul_comm]
  have n17 : z17 = bitL (8 * (v % 8)) := by rw [e17, n16]; rfl
  rw [n17, e18]
  have hv8 : 8 * (v / 8) + v % 8 = v := by omega
  refine ⟨n + 1, lp n 0 (v / 8) (fun g m => g = v % 8 ∧ m = 0) _ B (by omega) (by omega) (fun g m hg hm => ?_) (fun g m hgm => ?_) ⟨v % 8, 0, 2 ^ ntm out - 1, ⟨rfl, rfl⟩, by omega, ?_, by rw [Nat.zero_or]⟩ (fun _ _ => rfl) (fun js B' c1 c2 c3 c4 c5 => h js B' c1 c2 (fun k hk => by have := c3 k hk; rw [Nat.zero_add] at this; exact this) c5)⟩
  · rw [bt_bit (by omega), decide_eq_true_eq]; omega
  · obtain ⟨e1, e2⟩ := hgm
    rw [e1, e2, hv8, Nat.add_zero]
    exact ⟨hvg, p1, rfl⟩
  · rw [hv8]; exact hCL.2.1
/-- which of two rounds is the better -/
def LXx (f g : Nat → Nat) (n : Nat) : Prop := ∃ i, i < n ∧ (∀ k, k < i → f k = g k) ∧ f i < g i
def btr : Option (List Nat) → List Nat → Prop
  | none, _ => True
  | some ks, js => js.length < ks.length ∨ (js.length = ks.length ∧ LXx (fun k => js.getD k 0) (fun k => ks.getD k 0) js.length)
def bstx (b : Option (List Nat)) (js : List Nat) (b' : Option (List Nat)) : Prop := (btr b js ∧ b' = some js) ∨ (¬ btr b js ∧ b' = b)
theorem bstx_det {b b1 b2 : Option (List Nat)} {js : List Nat} (h : bstx b js b1) (g : bstx b js b2) : b1 = b2 := by
  rcases h with ⟨h1, h2⟩ | ⟨h1, h2⟩
  · rcases g with ⟨g1, g2⟩ | ⟨g1, g2⟩
    · rw [h2, g2]
    · exact absurd h1 g1
  · rcases g with ⟨g1, g2⟩ | ⟨g1, g2⟩
    · exact absurd g1 h1
    · rw [h2, g2]
/-- the best one so far, as the class keeps it -/
def BSr (b : Option (List Nat)) (I : Nat → Int32) (B : Nat → Nat → Int32) : Prop := (b = none ∧ I 37 = -1) ∨ (∃ ks, b = some ks ∧ I 37 = nI ks.length ∧ ks.length ≤ 3072 ∧ ∀ k, k < ks.length → B 59 k = nI (ks.getD k 0))
theorem q_keepBetter {Post : (Nat → Int32) → (Nat → Int64) → (Nat → Nat → Int32) → (Nat → Nat → Int64) → Prop} {b : Option (List Nat)} {js : List Nat} (hb : BSr b I B) (hn : 1 ≤ js.length) (hn2 : js.length ≤ 3072) (hle : ∀ ks, b = some ks → js.length ≤ ks.length) (hr : ∀ k, k < js.length → B 60 k = nI (js.getD k 0)) (hs : ∀ k, k < js.length → js.getD k 0 ≤ 400) (hs2 : ∀ ks, b = some ks → ∀ k, k < ks.length → ks.getD k 0 ≤ 400)
    (h : ∀ b' I' B', bstx b js b' → BSr b' I' B' → (∀ k, k ∉ [37, 39] → I' k = I k) → (∀ k, k ∉ [59, 60] → B' k = B k) → Post I' J B' D) : wp_LassoSearch_keepBetter I J B D (nI js.length) Post := by
  have take : btr b js → wc_LassoSearch_keepBetter_126 (nI js.length) Post (upd (upd I 39 (zflip (I 39))) 37 (nI js.length)) J (va_up (va_up B 59 (B 60)) 60 (B 59)) D := fun hbt => h (some js) _ _ (Or.inl ⟨hbt, rfl⟩) (Or.inr ⟨js, rfl, by simp [upd], hn2, fun k hk => by simp [va_up]; exact hr k hk⟩) (fun k hk => by simp at hk; simp [upd, hk]) (fun k hk => by simp at hk; simp [va_up, hk])
  have keep : ¬ btr b js → wc_LassoSearch_keepBetter_126 (nI js.length) Post I J B D := fun hbt => h b I B (Or.inr ⟨hbt, rfl⟩) hb (fun _ _ => rfl) (fun _ _ => rfl)
  have fast : btr b js → wc_LassoSearch_keepBetter_16 (nI js.length) Post (nI js.length) I J B D := by
    intro hbt
    refine ⟨fun _ => ⟨1, fun z => ?_, fun _ => ⟨fun _ => ⟨fun z => absurd z (by decide), fun _ => take hbt⟩, fun z => absurd rfl z⟩⟩, fun z => absurd z (by decide)⟩
    have := (leI (x := nI js.length) rfl (y := 0) (b := 0) rfl (by omega) (by omega)).mp z; omega
  refine ⟨fun z => ?_, fun z => ⟨fun w => ?_, fun w => ?_⟩⟩
  · rcases hb with ⟨e, _⟩ | ⟨ks, e, e2, e3, _⟩
    · exact fast (by rw [e]; trivial)
    · exact absurd (e2.symm.trans z) (nI_m1 (by omega))
  · rcases hb with ⟨_, e⟩ | ⟨ks, e, e2, e3, e4⟩
    · exact absurd e z
    have hl : js.length = ks.length := by
      have h1 := (leI e2 (y := nI js.length) rfl (by omega) (by omega)).mp w
      have h2 := hle ks e
      omega
    have hsk := hs2 ks e
    subst e
    have hq : btr (some ks) js ↔ LXx (fun k => js.getD k 0) (fun k => ks.getD k 0) js.length := ⟨fun y => y.elim (fun y => by omega) (fun y => y.2), fun y => Or.inr ⟨hl, y⟩⟩
    have lp : ∀ t i, i + t = js.length → (∀ k, k < i → js.getD k 0 = ks.getD k 0) → wl_LassoSearch_keepBetter_35 (nI js.length) Post (t + 2) (nI js.length) 0 1 (nI i) I J B D := by
      intro t
      induction t with
      | zero =>
        intro i hi hsame
        refine ⟨fun _ => ⟨fun _ => keep (fun y => ?_), fun y => absurd rfl y⟩, fun y => absurd ((leI (x := nI js.length) rfl (y := nI i) rfl (by omega) (by omega)).mpr (by omega)) y⟩
        obtain ⟨k, k1, k2, k3⟩ := hq.mp y
        have k3' : js.getD k 0 < ks.getD k 0 := k3
        have := hsame k (by omega)
        omega
      | succ t ih =>
        intro i hi hsame
        refine ⟨fun y => ?_, fun _ => ⟨fun y => absurd y (by decide), fun _ => ?_⟩⟩
        · have := (leI (x := nI js.length) rfl (y := nI i) rfl (by omega) (by omega)).mp y; omega
        have vi : vp_in (nI i) 3072 := vin2 rfl (by omega) (by omega)
        have r1 : B 60 (nI i).toNatClampNeg = nI (js.getD i 0) := by rw [clI rfl (by omega)]; exact hr i (by omega)
        have r2 : B 59 (nI i).toNatClampNeg = nI (ks.getD i 0) := by rw [clI rfl (by omega)]; exact e4 i (by omega)
        have b1 := hs i (by omega)
        have b2 := hsk i (by omega)
        refine ⟨vi, fun z8 e8 => ⟨vi, fun z9 e9 => ?_⟩⟩
        rw [r1] at e8
        rw [r2] at e9
        have q89 : z8 = z9 ↔ js.getD i 0 = ks.getD i 0 := eqI e8 e9 (by omega) (by omega)
        refine ⟨fun y => ⟨vi, fun y3 f3 => ⟨vi, fun y4 f4 => ?_⟩⟩, fun y => ⟨vi, fun y3 f3 => ⟨vi, fun y4 f4 => ?_⟩⟩⟩
        · rw [r1] at f3
          rw [r2] at f4
          have hne : ¬ js.getD i 0 = ks.getD i 0 := fun w => y (q89.mpr w)
          have q43 : y4 ≤ y3 ↔ ks.getD i 0 ≤ js.getD i 0 := leI f4 f3 (by omega) (by omega)
          have ef : t + 1 + 1 = (t + 1) + 1 := rfl
          refine ⟨fun u y2 f2 => ?_, fun u y2 f2 => ?_⟩
          · have hno : ¬ btr (some ks) js := fun y => by
              obtain ⟨k, k1, k2, k3⟩ := hq.mp y
              have k3' : js.getD k 0 < ks.getD k 0 := k3
              have hge := q43.mp u
              rcases Nat.lt_trichotomy k i with g | g | g
              · have := hsame k g; omega
              · subst g; omega
              · exact hne (k2 i g)
            exact ⟨fun _ => ⟨fun _ => keep hno, fun y => absurd rfl y⟩, fun _ => ⟨fun _ => ⟨fun _ => keep hno, fun y => absurd rfl y⟩, fun y => absurd rfl y⟩⟩
          · have hyes : btr (some ks) js := hq.mpr ⟨i, by omega, hsame, by
              have : ¬ ks.getD i 0 ≤ js.getD i 0 := fun w => u (q43.mpr w)
              show js.getD i 0 < ks.getD i 0
              omega⟩
            exact ⟨fun _ => ⟨fun y => absurd y (by decide), fun _ => take hyes⟩, fun _ => ⟨fun _ => ⟨fun y => absurd y (by decide), fun _ => take hyes⟩, fun y => absurd rfl y⟩⟩
        · rw [r1] at f3
          rw [r2] at f4
          have he := q89.mp y
          have q43 : y4 ≤ y3 ↔ ks.getD i 0 ≤ js.getD i 0 := leI f4 f3 (by omega) (by omega)
          refine ⟨fun u y2 f2 => ?_, fun u => absurd (q43.mpr (by omega)) u⟩
          rw [inI rfl f2]
          refine ih (i + 1) (by omega) (fun k hk => ?_)
          by_cases e : k = i
          · subst e; exact he
          · exact hsame k (by omega)
    exact ⟨fun y => absurd rfl y, fun _ => ⟨js.length + 2, lp js.length 0 (by omega) (fun k hk => by omega)⟩⟩
  · rcases hb with ⟨_, e⟩ | ⟨ks, e, e2, e3, e4⟩
    · exact absurd e z
    refine fast ?_
    rw [e]
    refine Or.inl ?_
    have : ¬ ks.length ≤ js.length := fun y => w ((leI e2 (y := nI js.length) rfl (by omega) (by omega)).mpr y)
    omega
end ZR6
