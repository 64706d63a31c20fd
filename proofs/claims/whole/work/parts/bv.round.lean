/-! Rounds: the first steps each time, apart from both; the class's sets. -/
section ZR5
variable {I : Nat → Int32} {J : Nat → Int64} {B : Nat → Nat → Int32} {D : Nat → Nat → Int64}
def nxC (d : zD) (X : zG) (out : List zIt) (v n j : Nat) (Z : Nat → Nat → Prop) (g m' : Nat) : Prop := g < 2 ^ ntm out ∧ ∃ met, Z (bfx d X out (gS X j) g) met ∧ m' = met ||| Sx d X out (8 * gS X j + bfx d X out (gS X j) g) ∧ ∃ r, r < 2 ^ ntm out ∧ fw d X out v n (8 * (8 * gT X j + g) + r) ∧ m' ||| r = 2 ^ ntm out - 1
def CGx (d : zD) (X : zG) (out : List zIt) (v : Nat) : List Nat → Nat → (Nat → Nat → Prop) → Prop
  | [], _, _ => True
  | j :: js, s, Z => j < gM X ∧ gS X j = s ∧ (∃ g m, nxC d X out v js.length j Z g m) ∧ (∀ j', j' < j → gS X j' = s → ∀ g m, ¬ nxC d X out v js.length j' Z g m) ∧ CGx d X out v js (gT X j) (nxC d X out v js.length j Z)
theorem nxC_cg {d : zD} {X : zG} {out : List zIt} {v n j : Nat} {Z Y : Nat → Nat → Prop} (h : ∀ g m, Z g m ↔ Y g m) (g m : Nat) : nxC d X out v n j Z g m ↔ nxC d X out v n j Y g m := by
  unfold nxC
  have : ∀ g, Z g = Y g := fun g => funext (fun m => propext (h g m))
  rw [this]
theorem CGx_det {d : zD} {X : zG} {out : List zIt} {v : Nat} : ∀ (js ks : List Nat) (s : Nat) (Z Y : Nat → Nat → Prop), js.length = ks.length → (∀ g m, Z g m ↔ Y g m) → CGx d X out v js s Z → CGx d X out v ks s Y → js = ks := by
  intro js
  induction js with
  | nil =>
    intro ks s Z Y hl hZ h1 h2
    match ks, hl with
    | [], _ => rfl
  | cons j js ih =>
    intro ks s Z Y hl hZ h1 h2
    match ks, hl, h2 with
    | k :: ks, hl, h2 =>
      obtain ⟨a1, a2, ⟨ga, ma, a3⟩, a4, a5⟩ := h1
      obtain ⟨b1, b2, ⟨gb, mb, b3⟩, b4, b5⟩ := h2
      have hl' : js.length = ks.length := by simpa using hl
      rw [← hl'] at b3 b4 b5
      have e : j = k := by
        rcases Nat.lt_trichotomy j k with g | g | g
        · exact absurd ((nxC_cg hZ ga ma).mp a3) (b4 j g a2 ga ma)
        · exact g
        · exact absurd ((nxC_cg hZ gb mb).mpr b3) (a4 k g b2 gb mb)
      subst e
      rw [ih ks (gT X j) _ _ hl' (nxC_cg hZ) a5 b5]
/-- a spot's round: the shortest, the first steps each time -/
def CYx (d : zD) (X : zG) (out : List zIt) (v : Nat) (js : List Nat) : Prop := CLx d X out v js.length ∧ CGx d X out v js (v / 8) (fun g m => g = v % 8 ∧ m = 0)
theorem CYx_det {d : zD} {X : zG} {out : List zIt} {v : Nat} {js ks : List Nat} (h : CYx d X out v js) (g : CYx d X out v ks) : js = ks := CGx_det js ks _ _ _ (CLx_det h.1 g.1) (fun _ _ => Iff.rfl) h.2 g.2
theorem Rc_m {d : zD} {X : zG} {out : List zIt} (h3 : ntm out ≤ 3) {p p' r : Nat} (hr : r < 8) (h : Rc d X out p p') : Rc d X out (8 * (p / 8) + (r ||| p % 8)) (8 * (p' / 8) + (r ||| p' % 8)) := by
  have he := e2_Rc h3 h
  have e1 : p' % 8 = p % 8 ||| Sx d X out (p' / 8) := he.2
  have := or8 hr (show p % 8 < 8 by omega)
  refine ⟨p' / 8, ?_, ?_⟩
  · rw [show (8 * (p / 8) + (r ||| p % 8)) / 8 = p / 8 by omega]; exact he.1
  · rw [show (8 * (p / 8) + (r ||| p % 8)) % 8 = r ||| p % 8 by omega, e1, Nat.or_assoc]
theorem pn_m {d : zD} {X : zG} {out : List zIt} (h3 : ntm out ≤ 3) {p r : Nat} (hr : r < 8) : ∀ {n p' : Nat}, pn (Rc d X out) n p p' → pn (Rc d X out) n (8 * (p / 8) + (r ||| p % 8)) (8 * (p' / 8) + (r ||| p' % 8)) := by
  intro n
  induction n with
  | zero => intro p' h; rw [show p = p' from h]; rfl
  | succ n ih => rintro p' ⟨z, h1, h2⟩; exact ⟨_, ih h1, Rc_m h3 hr h2⟩
/-- a way there and a way back -/
theorem fw_join {d : zD} {X : zG} {out : List zIt} (h3 : ntm out ≤ 3) {v w i k m r : Nat} (hm : m < 8) (hr : r < 8) (h1 : fw d X out w i (8 * v + m)) (h2 : fw d X out v k (8 * w + r)) : fw d X out v (k + i) (8 * v + (m ||| r)) := by
  have := pn_m h3 hr h1
  rw [show 8 * w / 8 = w by omega, show 8 * w % 8 = 0 by omega, Nat.or_zero, show (8 * v + m) / 8 = v by omega, show (8 * v + m) % 8 = m by omega, Nat.or_comm r m] at this
  exact pn_app h2 this
theorem fw_lt {d : zD} {Q : zQ} {X : zG} {out : List zIt} (hX : XI d Q X) (h3 : ntm out ≤ 3) {v n p : Nat} (hv : v < 8 * gN X) (h : fw d X out v n p) : p < 64 * gN X ∧ p % 8 < 2 ^ ntm out := by
  have p8 := p2_3 h3
  induction n generalizing p with
  | zero =>
    rw [← show 8 * v = p from h]
    have := Nat.two_pow_pos (ntm out)
    omega
  | succ n ih =>
    obtain ⟨z, h1, h2⟩ := h
    have hz := ih h1
    have he : p % 8 = z % 8 ||| Sx d X out (p / 8) := (e2_Rc h3 h2).2
    refine ⟨Rc_lt hX h3 h2, ?_⟩
    rw [he]; exact Nat.or_lt_two_pow hz.2 (Sx_lt h3 _).1
/-- a step more at the front -/
theorem fw_st {d : zD} {Q : zQ} {X : zG} {out : List zIt} (hX : XI d Q X) (h3 : ntm out ≤ 3) {v i j g m : Nat} (hj : j < gM X) (hg : g < 8) (hm : m < 8) (h : fw d X out (8 * gS X j + bfx d X out (gS X j) g) i (8 * v + m)) : fw d X out (8 * gT X j + g) (i + 1) (8 * v + (m ||| Sx d X out (8 * gS X j + bfx d X out (gS X j) g))) := by
  have hs := (Sx_lt (d := d) (X := X) h3 (8 * gS X j + bfx d X out (gS X j) g)).2
  have st : pn (Rc d X out) 1 (8 * (8 * gT X j + g)) (8 * (8 * gS X j + bfx d X out (gS X j) g) + Sx d X out (8 * gS X j + bfx d X out (gS X j) g)) := by
    refine ⟨8 * (8 * gT X j + g), rfl, 8 * gS X j + bfx d X out (gS X j) g, ?_, ?_⟩
    · rw [show 8 * (8 * gT X j + g) / 8 = 8 * gT X j + g by omega]; exact Er_st hX hj hg
    · rw [show 8 * (8 * gT X j + g) % 8 = 0 by omega, Nat.zero_or]
  have h' := pn_m h3 hs h
  generalize 8 * gS X j + bfx d X out (gS X j) g = e at st h' hs
  rw [show 8 * e / 8 = e by omega, show 8 * e % 8 = 0 by omega, Nat.or_zero, show (8 * v + m) / 8 = v by omega, show (8 * v + m) % 8 = m by omega, Nat.or_comm] at h'
  have := pn_app st h'
  rw [Nat.add_comm] at this
  exact this
/-- the last step back -/
theorem fw_in {d : zD} {Q : zQ} {X : zG} {out : List zIt} (hX : XI d Q X) (h3 : ntm out ≤ 3) {v n s g r : Nat} (hv : v < 8 * gN X) (hvg : v % 8 < 2 ^ ntm out) (hg : g < 8) (hr : r < 8) (h : fw d X out v (n + 1) (8 * (8 * s + g) + r)) : ∃ j g' r', j < gM X ∧ gS X j = s ∧ g' < 2 ^ ntm out ∧ bfx d X out (gS X j) g' = g ∧ r' < 2 ^ ntm out ∧ fw d X out v n (8 * (8 * gT X j + g') + r') ∧ r = r' ||| Sx d X out (8 * s + g) := by
  obtain ⟨z, h1, w, h2, h4⟩ := h
  have hz := fw_lt hX h3 hv h1
  have p8 := p2_3 h3
  have hs := (Sx_lt (d := d) (X := X) h3 w).2
  have ho := or8 (show z % 8 < 8 by omega) hs
  have ew : w = 8 * s + g := by omega
  have er : r = z % 8 ||| Sx d X out w := by omega
  obtain ⟨j, j1, j2, j3⟩ := Er_in h2
  have hb := bfx_lt (d := d) (X := X) (q := gS X j) (g := z / 8 % 8) h3
  have hzg : z / 8 % 8 < 2 ^ ntm out := by
    match n, h1 with
    | 0, h1 => rw [← show 8 * v = z from h1, show 8 * v / 8 = v by omega]; exact hvg
    | n + 1, ⟨y, _, u, hu, he⟩ =>
      have := or8 (show y % 8 < 8 by omega) (Sx_lt (d := d) (X := X) h3 u).2
      rw [he, show (8 * u + (y % 8 ||| Sx d X out u)) / 8 = u by omega]
      exact (Er_lt hX h3 hu).2
  refine ⟨j, z / 8 % 8, z % 8, j1, by omega, hzg, by omega, hz.2, ?_, by rw [er, ew]⟩
  rw [j2, show 8 * (8 * (z / 8 / 8) + z / 8 % 8) + z % 8 = z by omega]; exact h1
theorem q_canEnd {Post : Int32 → (Nat → Int32) → (Nat → Int64) → (Nat → Nat → Int32) → (Nat → Nat → Int64) → Prop} {d : zD} {Q : zQ} {X : zG} {out : List zIt} {ds : Nat → Nat} {P m f : Nat} (hR : SR d Q X out I B) (hP : P + 8 ≤ 6144) (hm : m < 8) (hf : f ≤ 6144) (hd : ∀ p, p < 6144 → B 56 p = nI (ds p) - 1) (hds : ∀ p, ds p ≤ 6144)
    (h1 : (∃ r, r < 2 ^ ntm out ∧ m ||| r = 2 ^ ntm out - 1 ∧ ds (P + r) = f + 1) → Post 1 I J B D) (h0 : (¬ ∃ r, r < 2 ^ ntm out ∧ m ||| r = 2 ^ ntm out - 1 ∧ ds (P + r) = f + 1) → Post 0 I J B D) : wp_LassoSearch_canEnd I J B D (nI P) (nI m) (nI f) Post := by
  have h3 := hR.2.1
  have p8 := p2_3 h3
  have p1 : 0 < 2 ^ ntm out := Nat.two_pow_pos _
  have i30 := hR.2.2.2.1
  have lp : ∀ t r, r + t = 2 ^ ntm out → (∀ r', r' < r → ¬ (m ||| r' = 2 ^ ntm out - 1 ∧ ds (P + r') = f + 1)) → wl_LassoSearch_canEnd_3 (nI P) (nI m) (nI f) Post (t + 1) (nI P) (nI m) (nI f) (nI r) I J B D := by
    intro t
    induction t with
    | zero =>
      intro r hr hno
      refine ⟨fun _ => h0 (fun ⟨r', a1, a2⟩ => hno r' (by omega) a2), fun z => absurd ((leI i30 (y := nI r) rfl (by omega) (by omega)).mpr (by omega)) z⟩
    | succ t ih =>
      intro r hr hno
      refine ⟨fun z => ?_, fun _ z3 e3 z4 e4 => ?_⟩
      · have := (leI i30 (y := nI r) rfl (by omega) (by omega)).mp z; omega
      rw [nI_or] at e3
      have n4 : z4 = nI (2 ^ ntm out - 1) := deI (by rw [i30]; congr 1; omega) e4
      have ho := or8 hm (show r < 8 by omega)
      have q : z3 = z4 ↔ m ||| r = 2 ^ ntm out - 1 := eqI e3 n4 (by omega) (by omega)
      have skip : ¬ (m ||| r = 2 ^ ntm out - 1 ∧ ds (P + r) = f + 1) → wc_LassoSearch_canEnd_46 (nI P) (nI m) (nI f) (wl_LassoSearch_canEnd_3 (nI P) (nI m) (nI f) Post (t + 1)) Post (nI P) (nI m) (nI f) (nI r) I J B D := by
        intro hn z1 e1
        rw [inI rfl e1]
        refine ih (r + 1) (by omega) (fun r' hr' => ?_)
        by_cases e : r' = r
        · subst e; exact hn
        · exact hno r' (by omega)
      refine ⟨fun z => skip (fun w => z (q.mpr w.1)), fun z z6 e6 => ?_⟩
      rw [nI_add] at e6
      refine ⟨vin2 e6 (by omega) (by omega), fun z7 e7 => ?_⟩
      rw [clI e6 (by omega), hd _ (by omega)] at e7
      have dN := hds (P + r)
      have q7 : z7 = nI f ↔ ds (P + r) = f + 1 := by
        rw [e7, show nI f = nI (f + 1) - 1 from (nI_pred f).symm]
        exact (nI_md (by omega) (by omega)).1
      exact ⟨fun w => skip (fun y => w (q7.mpr y.2)), fun w => h1 ⟨r, by omega, q.mp z, q7.mp w⟩⟩
  exact ⟨2 ^ ntm out + 1, lp (2 ^ ntm out) 0 (by omega) (fun r' hr' => by omega)⟩
/-- what the class lets come next -/
def ARx (d : zD) (X : zG) (out : List zIt) (ds : Nat → Nat) (f j : Nat) (x : Int64) (g m' : Nat) : Prop := g < 2 ^ ntm out ∧ ∃ met, met < 2 ^ ntm out ∧ bt x (8 * bfx d X out (gS X j) g + met) = true ∧ m' = met ||| Sx d X out (8 * gS X j + bfx d X out (gS X j) g) ∧ ∃ r, r < 2 ^ ntm out ∧ m' ||| r = 2 ^ ntm out - 1 ∧ ds (8 * (8 * gT X j + g) + r) = f + 1
theorem q_allowedRound {Post : Int64 → (Nat → Int32) → (Nat → Int64) → (Nat → Nat → Int32) → (Nat → Nat → Int64) → Prop} {d : zD} {Q : zQ} {X : zG} {out : List zIt} {ds : Nat → Nat} {f j : Nat} {x : Int64} {y z0 : Int32} (hR : SR d Q X out I B) (hy : y = nI j) (hz0 : z0 = nI f) (hj : j < gM X) (hf : f ≤ 6144) (hd : ∀ p, p < 6144 → B 56 p = nI (ds p) - 1) (hds : ∀ p, ds p ≤ 6144)
    (h : ∀ x', (∀ g m', g < 8 → m' < 8 → (bt x' (8 * g + m') = true ↔ ARx d X out ds f j x g m')) → Post x' I J B D) : wp_LassoSearch_allowedRound I J B D x y z0 Post := by
  subst hy; subst hz0
  have x1 := hR.1.1
  have x2 := hR.1.2.1
  have h3 := hR.2.1
  have p8 := p2_3 h3
  have i30 := hR.2.2.2.1
  obtain ⟨hs, ht⟩ := hR.1.2.2.2.2 j hj
  obtain ⟨e33, e34⟩ := hR.2.2.2.2.2.2.2 j hj
  have inner : ∀ (K6 : Int64 → Int32 → Int32 → Int64 → Int32 → (Nat → Int32) → (Nat → Int64) → (Nat → Nat → Int32) → (Nat → Nat → Int64) → Prop) (g : Nat), g < 2 ^ ntm out → (∀ x', (∀ g' m', g' < 8 → m' < 8 → (bt x' (8 * g' + m') = true ↔ g' < g + 1 ∧ ARx d X out ds f j x g' m')) → K6 x (nI j) (nI f) x' (nI (g + 1)) I J B D) →
      ∀ t met x5, met + t = 2 ^ ntm out → (∀ g' m', g' < 8 → m' < 8 → (bt x5 (8 * g' + m') = true ↔ (g' < g ∧ ARx d X out ds f j x g' m') ∨ (g' = g ∧ ∃ met', met' < met ∧ bt x (8 * bfx d X out (gS X j) g + met') = true ∧ m' = met' ||| Sx d X out (8 * gS X j + bfx d X out (gS X j) g) ∧ ∃ r, r < 2 ^ ntm out ∧ m' ||| r = 2 ^ ntm out - 1 ∧ ds (8 * (8 * gT X j + g) + r) = f + 1))) → wl_LassoSearch_allowedRound_58 x (nI j) (nI f) K6 Post (t + 1) x (nI j) (nI f) x5 (nI g) (nI (8 * gS X j + bfx d X out (gS X j) g)) (nI (8 * (8 * gT X j + g))) (nI met) I J B D := by
    intro K6 g hg hK t
    have hb := bfx_lt (d := d) (X := X) (q := gS X j) (g := g) h3
    have hsx := (Sx_lt (d := d) (X := X) h3 (8 * gS X j + bfx d X out (gS X j) g)).2
    induction t with
    | zero =>
      intro met x5 hm hx5
      refine ⟨fun _ z3 e3 => ?_, fun z => absurd ((leI i30 (y := nI met) rfl (by omega) (by omega)).mpr (by omega)) z⟩
      rw [inI rfl e3]
      refine hK x5 (fun g' m' hg' hm' => ?_)
      rw [hx5 g' m' hg' hm']
      constructor
      · rintro (⟨a1, a2⟩ | ⟨a1, met', b1, b2, b3, b4⟩)
        · exact ⟨by omega, a2⟩
        · subst a1; exact ⟨by omega, hg, met', by omega, b2, b3, b4⟩
      · rintro ⟨a1, a2⟩
        by_cases e : g' = g
        · subst e
          obtain ⟨_, met', b1, b2, b3, b4⟩ := a2
          exact Or.inr ⟨rfl, met', by omega, b2, b3, b4⟩
        · exact Or.inl ⟨by omega, a2⟩
    | succ t ih =>
      intro met x5 hm hx5
      refine ⟨fun z => ?_, fun _ => ⟨vin2 rfl (by omega) (by omega), fun z4 e4 z5 e5 z6 e6 z7 e7 z8 e8 z9 e9 z10 e10 z11 e11 => ?_⟩⟩
      · have := (leI i30 (y := nI met) rfl (by omega) (by omega)).mp z; omega
      rw [clI rfl (by omega), B48 hR (by omega)] at e4
      rw [e4, nI_or] at e5
      rw [modI (by omega), show (8 * gS X j + bfx d X out (gS X j) g) % 8 = bfx d X out (gS X j) g by omega] at e6
      have n8 : z8 = nI (8 * bfx d X out (gS X j) g + met) := by rw [e8, e7, e6, show (8 : Int32) = nI 8 from rfl, nI_mul, nI_add, Nat.mul_comm]
      have q11 : z11 = 0 ↔ bt x (8 * bfx d X out (gS X j) g + met) = false := by
        rw [e11, e10, e9, n8]; exact tstC x (by omega)
      have ho := or8 (show met < 8 by omega) hsx
      have skip : ¬ (bt x (8 * bfx d X out (gS X j) g + met) = true ∧ ∃ r, r < 2 ^ ntm out ∧ (met ||| Sx d X out (8 * gS X j + bfx d X out (gS X j) g)) ||| r = 2 ^ ntm out - 1 ∧ ds (8 * (8 * gT X j + g) + r) = f + 1) → wc_LassoSearch_allowedRound_133 x (nI j) (nI f) K6 (wl_LassoSearch_allowedRound_58 x (nI j) (nI f) K6 Post (t + 1)) Post x (nI j) (nI f) x5 (nI g) (nI (8 * gS X j + bfx d X out (gS X j) g)) (nI (8 * (8 * gT X j + g))) (nI met) I J B D := by
        intro hn z1 e1
        rw [inI rfl e1]
        refine ih (met + 1) x5 (by omega) (fun g' m' hg' hm' => ?_)
        rw [hx5 g' m' hg' hm']
        refine or_congr Iff.rfl (and_congr_right (fun _ => ⟨fun ⟨met', b1, b2⟩ => ⟨met', by omega, b2⟩, fun ⟨met', b1, b2, b3, b4⟩ => ?_⟩))
        by_cases e : met' = met
        · subst e; rw [b3] at b4; exact absurd ⟨b2, b4⟩ hn
        · exact ⟨met', by omega, b2, b3, b4⟩
      refine ⟨fun z => skip (fun w => by rw [q11.mp z] at w; exact absurd w.1 (by decide)), fun z => ?_⟩
      have hbt : bt x (8 * bfx d X out (gS X j) g + met) = true := by
        cases hb : bt x (8 * bfx d X out (gS X j) g + met)
        · exact absurd (q11.mpr hb) z
        · rfl
      rw [e5]
      refine q_canEnd hR (by omega) ho hf hd hds (fun hr => ?_) (fun hr => ?_)
      · refine ⟨fun w => absurd w (by decide), fun _ z15 e15 z16 e16 z17 e17 z18 e18 z1 e1 => ?_⟩
        have n16 : z16 = nI (8 * g + (met ||| Sx d X out (8 * gS X j + bfx d X out (gS X j) g))) := by rw [e16, e15, show (8 : Int32) = nI 8 from rfl, nI_mul, nI_add, Nat.mul_comm]
        have n17 : z17 = bitL (8 * g + (met ||| Sx d X out (8 * gS X j + bfx d X out (gS X j) g))) := by rw [e17, n16]; rfl
        rw [inI rfl e1]
        refine ih (met + 1) z18 (by omega) (fun g' m' hg' hm' => ?_)
        rw [e18, bt_or, n17, bt_bit (by omega), Bool.or_eq_true, hx5 g' m' hg' hm', decide_eq_true_eq]
        constructor
        · rintro ((a | ⟨a1, met', b1, b2⟩) | a)
          · exact Or.inl a
          · exact Or.inr ⟨a1, met', by omega, b2⟩
          · refine Or.inr ⟨by omega, met, by omega, hbt, by omega, ?_⟩
            rw [show m' = met ||| Sx d X out (8 * gS X j + bfx d X out (gS X j) g) by omega]; exact hr
        · rintro (a | ⟨a1, met', b1, b2, b3, b4⟩)
          · exact Or.inl (Or.inl a)
          · by_cases e : met' = met
            · subst e; exact Or.inr (by omega)
            · exact Or.inl (Or.inr ⟨a1, met', by omega, b2, b3, b4⟩)
      · exact ⟨fun _ => skip (fun w => hr w.2), fun w => absurd rfl w⟩
  have outer : ∀ t g x5, g + t = 2 ^ ntm out → (∀ g' m', g' < 8 → m' < 8 → (bt x5 (8 * g' + m') = true ↔ g' < g ∧ ARx d X out ds f j x g' m')) → wl_LassoSearch_allowedRound_6 x (nI j) (nI f) Post (t + 1) x (nI j) (nI f) x5 (nI g) I J B D := by
    intro t
    induction t with
    | zero =>
      intro g x5 hg hx5
      refine ⟨fun _ => h x5 (fun g' m' a b => ?_), fun z => absurd ((leI i30 (y := nI g) rfl (by omega) (by omega)).mpr (by omega)) z⟩
      rw [hx5 g' m' a b]
      exact ⟨fun w => w.2, fun w => ⟨by have := w.1; omega, w⟩⟩
    | succ t ih =>
      intro g x5 hg hx5
      refine ⟨fun z => ?_, fun _ => ⟨vin2 rfl (by omega) (by omega), fun z20 e20 => ?_⟩⟩
      · have := (leI i30 (y := nI g) rfl (by omega) (by omega)).mp z; omega
      rw [clI rfl (by omega), e33] at e20
      refine q_spotBefore e20 rfl hR hs (by omega) ⟨vin2 rfl (by omega) (by omega), fun z22 e22 z23 e23 z24 e24 z25 e25 => ⟨2 ^ ntm out + 1, ?_⟩⟩
      rw [clI rfl (by omega), e34] at e22
      have n25 : z25 = nI (8 * (8 * gT X j + g)) := by rw [e25, e24, e23, e22, show (8 : Int32) = nI 8 from rfl, nI_mul, nI_add, nI_mul, Nat.mul_comm, Nat.mul_comm (gT X j)]
      rw [n25]
      refine inner _ g (by omega) (fun x' hx' => ih (g + 1) x' (by omega) hx') (2 ^ ntm out) 0 x5 (by omega) (fun g' m' a b => ?_)
      rw [hx5 g' m' a b]
      exact ⟨fun w => Or.inl w, fun w => w.elim id (fun ⟨_, met', b1, _⟩ => by omega)⟩
  exact ⟨2 ^ ntm out + 1, outer (2 ^ ntm out) 0 0 (by omega) (fun g' m' _ _ => by rw [bt_0]; exact ⟨fun w => absurd w (by decide), fun w => by have := w.1; omega⟩)⟩
end ZR5
