/-! Stems: the first steps each time, apart from both; the class takes them. -/
section ZR2
variable {I : Nat → Int32} {J : Nat → Int64} {B : Nat → Nat → Int32} {D : Nat → Nat → Int64}
def bfx (d : zD) (X : zG) (out : List zIt) (q g : Nat) : Nat := bef (atv d (gK X q)) out g
/-- so far from a round -/
def Pnx (d : zD) (X : zG) (out : List zIt) (n w : Nat) : Prop := pt (Er d X out) (gd d X out) n w
def nxS (d : zD) (X : zG) (out : List zIt) (n j : Nat) (Z : Nat → Prop) (g : Nat) : Prop := g < 2 ^ ntm out ∧ Z (bfx d X out (gS X j) g) ∧ Pnx d X out n (8 * gT X j + g)
def SGx (d : zD) (X : zG) (out : List zIt) : List Nat → Nat → (Nat → Prop) → Nat → (Nat → Prop) → Prop
  | [], s, Z, s', Z' => s' = s ∧ ∀ g, Z' g ↔ Z g
  | j :: js, s, Z, s', Z' => j < gM X ∧ gS X j = s ∧ (∃ g, nxS d X out js.length j Z g) ∧ (∀ j', j' < j → gS X j' = s → ∀ g, ¬ nxS d X out js.length j' Z g) ∧ SGx d X out js (gT X j) (nxS d X out js.length j Z) s' Z'
theorem nxS_cg {d : zD} {X : zG} {out : List zIt} {n j : Nat} {Z Y : Nat → Prop} (h : ∀ g, Z g ↔ Y g) (g : Nat) : nxS d X out n j Z g ↔ nxS d X out n j Y g := by
  unfold nxS; rw [h]
theorem SGx_det {d : zD} {X : zG} {out : List zIt} : ∀ (js ks : List Nat) (s s1 s2 : Nat) (Z Y Z1 Y1 : Nat → Prop), js.length = ks.length → (∀ g, Z g ↔ Y g) → SGx d X out js s Z s1 Z1 → SGx d X out ks s Y s2 Y1 → js = ks ∧ s1 = s2 ∧ ∀ g, Z1 g ↔ Y1 g := by
  intro js
  induction js with
  | nil =>
    intro ks s s1 s2 Z Y Z1 Y1 hl hZ h1 h2
    match ks, hl, h2 with
    | [], _, h2 => exact ⟨rfl, h1.1.trans h2.1.symm, fun g => (h1.2 g).trans ((hZ g).trans (h2.2 g).symm)⟩
  | cons j js ih =>
    intro ks s s1 s2 Z Y Z1 Y1 hl hZ h1 h2
    match ks, hl, h2 with
    | k :: ks, hl, h2 =>
      obtain ⟨a1, a2, ⟨ga, a3⟩, a4, a5⟩ := h1
      obtain ⟨b1, b2, ⟨gb, b3⟩, b4, b5⟩ := h2
      have hl' : js.length = ks.length := by simpa using hl
      rw [← hl'] at b3 b4 b5
      have e : j = k := by
        rcases Nat.lt_trichotomy j k with g | g | g
        · exact absurd ((nxS_cg hZ ga).mp a3) (b4 j g a2 ga)
        · exact g
        · exact absurd ((nxS_cg hZ gb).mpr b3) (a4 k g b2 gb)
      subst e
      obtain ⟨c1, c2, c3⟩ := ih ks (gT X j) s1 s2 _ _ Z1 Y1 hl' (nxS_cg hZ) a5 b5
      exact ⟨by rw [c1], c2, c3⟩
theorem Er_st {d : zD} {Q : zQ} {X : zG} {out : List zIt} (hX : XI d Q X) {j g : Nat} (hj : j < gM X) (hg : g < 8) : Er d X out (8 * gT X j + g) (8 * gS X j + bfx d X out (gS X j) g) := by
  have hp : ps (gT X) (gM X) j = cl (gT X) (gT X j) (gM X) + ce (gT X) (gT X j) j := cl_ce hj rfl
  have hlt := (ps_lt (f := gT X) hj).1
  rw [hp] at hlt
  have hd : (8 * gT X j + g) / 8 = gT X j := by omega
  have hm : (8 * gT X j + g) % 8 = g := by omega
  refine ⟨ce (gT X) (gT X j) j, dg_k.mpr (by rw [hd]; exact hlt), ?_⟩
  have hj' : jx X (cq X (8 * gT X j + g) + ce (gT X) (gT X j) j) = j := by
    unfold cq; rw [hd]
    exact lk_eq (x := ps (gT X) (gM X)) (gM X) hj hp (fun a b ha hb e => ps_inj ha hb e)
  unfold nbX
  rw [hj', hm]; rfl
theorem Er_in {d : zD} {X : zG} {out : List zIt} {w v : Nat} (h : Er d X out w v) : ∃ j, j < gM X ∧ gT X j = w / 8 ∧ v = 8 * gS X j + bfx d X out (gS X j) (w % 8) := by
  obtain ⟨k, hk, e⟩ := h
  obtain ⟨j1, j2, j3⟩ := jx_at (dg_k.mp hk)
  exact ⟨_, j1, j2, e.symm⟩
theorem Er_lt {d : zD} {Q : zQ} {X : zG} {out : List zIt} (hX : XI d Q X) (h3 : ntm out ≤ 3) {w v : Nat} (h : Er d X out w v) : v < 8 * gN X ∧ v % 8 < 2 ^ ntm out := by
  obtain ⟨k, hk, e⟩ := h
  have := nb_lt (d := d) (out := out) hX h3 hk
  rw [e] at this; exact ⟨this.1, this.2.2⟩
theorem Pnx_lt {d : zD} {Q : zQ} {X : zG} {out : List zIt} (hX : XI d Q X) (h3 : ntm out ≤ 3) {n w : Nat} (h : Pnx d X out n w) : w < 8 * gN X ∧ w % 8 < 2 ^ ntm out := by
  obtain ⟨s, hs, hp⟩ := h
  match n, hp with
  | 0, hp => rw [← show s = w from hp]; exact good_lt hX h3 hs
  | n + 1, ⟨z, _, hz⟩ => exact Er_lt hX h3 hz
theorem bfx_lt {d : zD} {X : zG} {out : List zIt} {q g : Nat} (h3 : ntm out ≤ 3) : bfx d X out q g < 2 ^ ntm out ∧ bfx d X out q g < 8 := bef_8 h3
/-- a step more -/
theorem Pnx_s {d : zD} {X : zG} {out : List zIt} {n w v : Nat} (h : Pnx d X out n w) (g : Er d X out w v) : Pnx d X out (n + 1) v := by
  obtain ⟨s, hs, hp⟩ := h
  exact ⟨s, hs, w, hp, g⟩
theorem bN_pos {F : Nat → Bool} {n : Nat} : ¬ bN F n = 0 ↔ ∃ g, g < n ∧ F g = true := by
  constructor
  · intro h
    refine Classical.byContradiction (fun z => h ?_)
    apply Nat.eq_of_testBit_eq
    intro i
    rw [bN_bit, Nat.zero_testBit]
    by_cases e : i < n
    · cases hF : F i
      · simp
      · exact absurd ⟨i, e, hF⟩ z
    · simp [e]
  · rintro ⟨g, h1, h2⟩ e
    have := bN_bit F n g
    rw [e, Nat.zero_testBit, h2] at this
    simp [h1] at this
theorem q_allowedBehind {Post : Int32 → (Nat → Int32) → (Nat → Int64) → (Nat → Nat → Int32) → (Nat → Nat → Int64) → Prop} {d : zD} {Q : zQ} {X : zG} {out : List zIt} {ds : Nat → Nat} {al j f : Nat} {x y : Int32} (hR : SR d Q X out I B) (hD : DS d X out ds B) (hal : al < 256) (hj : j < gM X) (hf : f ≤ 800) (hx : x = nI j) (hy : y = nI f)
    (h : Post (nI (bN (fun g => al.testBit (bfx d X out (gS X j) g) && (ds (8 * gT X j + g) == f + 1)) (2 ^ ntm out))) I J B D) : wp_LassoSearch_allowedBehind I J B D (nI al) x y Post := by
  subst hx; subst hy
  have x1 := hR.1.1
  have x2 := hR.1.2.1
  have h3 := hR.2.1
  have p8 := p2_3 h3
  have i30 := hR.2.2.2.1
  obtain ⟨hs, ht⟩ := hR.1.2.2.2.2 j hj
  obtain ⟨e33, e34⟩ := hR.2.2.2.2.2.2.2 j hj
  have lp : ∀ t g, g + t = 2 ^ ntm out → wl_LassoSearch_allowedBehind_6 (nI al) (nI j) (nI f) Post (t + 1) (nI al) (nI j) (nI f) (nI (bN (fun g => al.testBit (bfx d X out (gS X j) g) && (ds (8 * gT X j + g) == f + 1)) g)) (nI g) I J B D := by
    intro t
    induction t with
    | zero =>
      intro g hg
      refine ⟨fun _ => ?_, fun z => absurd ((leI i30 (y := nI g) rfl (by omega) (by omega)).mpr (by omega)) z⟩
      rw [show g = 2 ^ ntm out by omega]; exact h
    | succ t ih =>
      intro g hg
      refine ⟨fun z => ?_, fun _ => ⟨vin2 rfl (by omega) (by omega), fun z3 e3 => ?_⟩⟩
      · have := (leI i30 (y := nI g) rfl (by omega) (by omega)).mp z; omega
      rw [clI rfl (by omega), e33] at e3
      have hb := bfx_lt (d := d) (X := X) (q := gS X j) (g := g) h3
      refine q_spotBefore e3 rfl hR hs (by omega) (fun z5 e5 z6 e6 z7 e7 => ?_)
      rw [show bef (atv d (gK X (gS X j))) out g = bfx d X out (gS X j) g from rfl] at e5
      rw [mod8 _ (by omega), show (8 * gS X j + bfx d X out (gS X j) g) % 8 = bfx d X out (gS X j) g by omega] at e5
      have n7 : z7 = nI (b2n (al.testBit (bfx d X out (gS X j) g))) := by
        rw [e7, e6, e5]; exact nI_bit (by omega) (by omega)
      have nxt : ∀ b, (al.testBit (bfx d X out (gS X j) g) && (ds (8 * gT X j + g) == f + 1)) = b → nI (bN (fun g => al.testBit (bfx d X out (gS X j) g) && (ds (8 * gT X j + g) == f + 1)) (g + 1)) = nI (bN (fun g => al.testBit (bfx d X out (gS X j) g) && (ds (8 * gT X j + g) == f + 1)) g ||| b2n b * 2 ^ g) := fun b hb => by rw [bN_or, hb]
      have skip : (al.testBit (bfx d X out (gS X j) g) && (ds (8 * gT X j + g) == f + 1)) = false → wc_LassoSearch_allowedBehind_80 (nI al) (nI j) (nI f) (wl_LassoSearch_allowedBehind_6 (nI al) (nI j) (nI f) Post (t + 1)) Post (nI al) (nI j) (nI f) (nI (bN (fun g => al.testBit (bfx d X out (gS X j) g) && (ds (8 * gT X j + g) == f + 1)) g)) (nI g) I J B D := by
        intro hF z1 e1
        have := ih (g + 1) (by omega)
        rw [nxt false hF, show b2n false * 2 ^ g = 0 by simp [b2n], Nat.or_zero] at this
        rw [inI rfl e1]; exact this
      refine ⟨fun z => skip ?_, fun z => ⟨vin2 rfl (by omega) (by omega), fun z9 e9 z10 e10 z11 e11 => ?_⟩⟩
      · cases hb : al.testBit (bfx d X out (gS X j) g)
        · rfl
        · rw [n7, hb] at z; exact absurd z (by decide)
      have hbt : al.testBit (bfx d X out (gS X j) g) = true := by
        cases hb : al.testBit (bfx d X out (gS X j) g)
        · rw [n7, hb] at z; exact absurd rfl z
        · rfl
      rw [clI rfl (by omega), e34] at e9
      have n11 : z11 = nI (8 * gT X j + g) := by rw [e11, e10, e9, show (8 : Int32) = nI 8 from rfl, nI_mul, nI_add, Nat.mul_comm]
      refine ⟨vin2 n11 (by omega) (by omega), fun z12 e12 => ?_⟩
      rw [clI n11 (by omega), hD.2.1 _ (by omega)] at e12
      have dN := hD.2.2 (8 * gT X j + g)
      have q : z12 = nI f ↔ ds (8 * gT X j + g) = f + 1 := by
        rw [e12, show nI f = nI (f + 1) - 1 from (nI_pred f).symm]
        exact (nI_md (by omega) (by omega)).1
      refine ⟨fun w => skip ?_, fun w z14 e14 z15 e15 z1 e1 => ?_⟩
      · rw [hbt, Bool.true_and]
        exact beq_eq_false_iff_ne.mpr (fun y => w (q.mpr y))
      · have := ih (g + 1) (by omega)
        have hT : (al.testBit (bfx d X out (gS X j) g) && (ds (8 * gT X j + g) == f + 1)) = true := by
          rw [hbt, Bool.true_and]; exact beq_iff_eq.mpr (q.mp w)
        have n15 : z15 = nI (bN (fun g => al.testBit (bfx d X out (gS X j) g) && (ds (8 * gT X j + g) == f + 1)) (g + 1)) := by
          rw [nxt true hT, e15, e14, show (1 : Int32) = nI 1 from rfl, nI_shl (by omega), nI_or]; rfl
        rw [inI rfl e1, n15]; exact this
  exact ⟨2 ^ ntm out + 1, lp (2 ^ ntm out) 0 (by omega)⟩
theorem bN_256 {F : Nat → Bool} {k : Nat} (h : k ≤ 3) : bN F (2 ^ k) < 256 := by
  have h1 := bN_lt F (2 ^ k)
  have h2 := p2_3 h
  have h4 : 2 ^ (2 ^ k) ≤ 2 ^ 8 := Nat.pow_le_pow_right (by omega) h2
  omega
theorem gF_all {X : zG} {j q : Nat} (h : XF X (gN X)) (hj : j < gM X) (hq : q < gN X) (e : gS X j = q) : gF X q ≤ j ∧ j < gF X (q + 1) := (gF_q h hj hq).mpr e
theorem gF_le {X : zG} {q : Nat} (h : XF X (gN X)) (hq : q < gN X) : gF X (q + 1) ≤ gM X := by
  have := gF_mono h (q + 1) (gN X) (by omega) (Nat.le_refl _)
  rw [h.2.2.1 (by omega)] at this; exact this
end ZR2
