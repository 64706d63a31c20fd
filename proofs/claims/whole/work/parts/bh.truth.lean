/-! Formulas: the reference's truths. -/
section ZP7
variable {I9 : Nat → Int32} {J9 : Nat → Int64} {B9 : Nat → Nat → Int32} {D9 : Nat → Nat → Int64}
def LK (d : zD) (X : zG) (m : Nat) (out : List zIt) (B9 : Nat → Nat → Int32) : Prop := ∀ q, q < m → ∀ g, g < 8 → B9 48 (8 * q + g) = nI (lkN (atv d (gK X q)) out g)
theorem lk_bit {av : zIt → Bool} {out : List zIt} {g : Nat} (j : Nat) : (lkN av out g).testBit j = ((decide (j < 2 * ntm out) && F2 av out g j) || (sat av out g && decide (j = 6))) := by
  unfold lkN
  rw [or_bit, bN_bit]
theorem lk_lt {av : zIt → Bool} {out : List zIt} {g : Nat} (h : ntm out ≤ 3) : lkN av out g < 2 ^ 7 := by
  unfold lkN
  refine or_lt (k := 7) (Nat.lt_of_lt_of_le (bN_lt _ _) (Nat.pow_le_pow_right (by omega) (by omega))) ?_
  have := b2n_le (sat av out g)
  omega
theorem RK.cg {mc : Nat} {out : List zIt} {I' : Nat → Int32} {B' : Nat → Nat → Int32} (h : RK mc out I9 B9) (hI : ∀ k, k ∈ [19, 20, 23] → I' k = I9 k) (hB : ∀ k, k ∈ [24, 41, 43, 44, 45, 46, 47] → B' k = B9 k) : RK mc out I' B' := by
  obtain ⟨k1, k2, k3, k4, k5⟩ := h
  refine ⟨by rw [hI 19 (by decide)]; exact k1, by rw [hI 20 (by decide)]; exact k2, by rw [hI 23 (by decide)]; exact k3, k4.cg (fun j _ => by rw [hB 41 (by decide)]) (fun r hr j _ => by rw [hB r (by simp at hr ⊢; omega)]) (fun j _ => by rw [hB 24 (by decide)]), by rw [hB 43 (by decide)]; exact k5⟩
/-- the reference's look at all states -/
theorem r_looks {Post : Int32 → (Nat → Int32) → (Nat → Int64) → (Nat → Nat → Int32) → (Nat → Nat → Int64) → Prop} {d : zD} {Q : zQ} {X : zG} {mc : Nat} {out : List zIt} (hW : QW d Q) (hP : PR d Q I9 B9 D9) (hX : XI d Q X) (hG : RG9 d Q X I9 B9 D9) (hO : FOK d.2.2.2.1 (qP Q) out) (hA : OKA out) (hR : RK mc out I9 B9) (hmc : mc + lnR out ≤ 480)
    (h : ∀ I' B', LK d X (gN X) out B' → (∀ k, k ≠ 17 → I' k = I9 k) → (∀ k, k ∉ [36, 37, 38, 39, 40, 48] → B' k = B9 k) → Post (I' 20) (upd I' 18 1) J9 B' D9) : ∃ m, wl_LassoFinderModel_formula_91 Post m 0 I9 J9 B9 D9 := by
  obtain ⟨o1, o2, o3, o4, o5, o6⟩ := id hO
  obtain ⟨g14, g15, gk, gs⟩ := id hG
  have x1 := hX.1
  have fe : ∀ (I1 : Nat → Int32) (B1 : Nat → Nat → Int32), (∀ k, k ≠ 17 → I1 k = I9 k) → (∀ k, k ∉ [36, 37, 38, 39, 40, 48] → B1 k = B9 k) → PR d Q I1 B1 D9 ∧ RK mc out I1 B1 := by
    intro I1 B1 hI hB
    have eI : ∀ k, k ∈ [6, 7, 9, 10, 19, 20, 23] → I1 k = I9 k := fun k hk => hI k (by simp at hk; omega)
    refine ⟨?_, hR.cg (fun k hk => hI k (by simp at hk; omega)) (fun k hk => hB k (by simp at hk ⊢; omega))⟩
    obtain ⟨⟨n1, n2, n3, n4, n5⟩, p2, p3, p4, p5, p6, p7⟩ := hP
    refine ⟨⟨by rw [hI 6 (by decide)]; exact n1, by rw [hI 7 (by decide)]; exact n2, n3, n4, ?_⟩, by rw [hI 10 (by decide)]; exact p2, by rw [hI 9 (by decide)]; exact p3, fun b hb => ?_, fun b b' => by rw [hB 18 (by decide)]; exact p5 b b', by rw [hB 20 (by decide)]; exact p6, p7⟩
    · unfold NR; rw [hB 1 (by decide), hB 2 (by decide), hB 3 (by decide), hB 4 (by decide)]; exact n5
    · obtain ⟨m, hm⟩ := p4 b hb
      refine ⟨m, ?_⟩
      unfold R1
      rw [hB 18 (by decide), hB 5 (by decide), hB 6 (by decide), hB 17 (by decide), hB 12 (by decide), hB 13 (by decide), hB 14 (by decide), hB 15 (by decide), hB 24 (by decide), hB 10 (by decide), hB 20 (by decide), hB 23 (by decide)]
      exact hm
  -- one state's eight looks
  have l3 : ∀ (K91 : Int32 → (Nat → Int32) → (Nat → Int64) → (Nat → Nat → Int32) → (Nat → Nat → Int64) → Prop) (q : Nat) (I1 : Nat → Int32), q < gN X → (∀ k, k ≠ 17 → I1 k = I9 k) → (∀ B2, LK d X (q + 1) out B2 → (∀ k, k ∉ [36, 37, 38, 39, 40, 48] → B2 k = B9 k) → K91 (nI (q + 1)) I1 J9 B2 D9) → ∀ (m g : Nat) (B1 : Nat → Nat → Int32), g + m = 8 → LK d X q out B1 → (∀ g', g' < g → B1 48 (8 * q + g') = nI (lkN (atv d (gK X q)) out g')) → (∀ k, k ∉ [36, 37, 38, 39, 40, 48] → B1 k = B9 k) → wl_LassoFinderModel_formula_152 K91 Post (m + 1) (nI q) (nI (bN (avat (atv d (gK X q)) out) (natm out))) (nI g) I1 J9 B1 D9 := by
    intro K91 q I1 hq hI hK m
    induction m with
    | zero =>
      intro g B1 hg a1 a2 a3
      have e : g = 8 := by omega
      subst e
      refine ⟨fun _ z2 e2 => ?_, fun z => absurd ((leI (x := 8) (a := 8) rfl (y := nI 8) rfl (by omega) (by omega)).mpr (by omega)) z⟩
      rw [inI rfl e2]
      refine hK B1 (fun q' hq' g hg => ?_) a3
      by_cases e : q' = q
      · subst e; exact a2 g hg
      · exact a1 q' (by omega) g hg
    | succ m ih =>
      intro g B1 hg a1 a2 a3
      refine ⟨fun z => ?_, fun _ z3 e3 z4 e4 => ?_⟩
      · have := (leI (x := 8) (a := 8) rfl (y := nI g) rfl (by omega) (by omega)).mp z; omega
      have n4 : z4 = nI (8 * q + g) := by rw [e4, e3, show (8 : Int32) = nI 8 from rfl, nI_mul, nI_add]
      refine r_looked (av := atv d (gK X q)) (by omega) (fe I1 B1 hI a3).2 hA o6 o1 o2 o4 (fun x hx => (o5 x hx).1) (fun B2 hB2 => ⟨vin2 n4 (by omega) (by omega), fun z6 e6 => ?_⟩)
      rw [inI rfl e6, clI n4 (by omega)]
      refine ih (g + 1) _ (by omega) (fun q' hq' g' hg' => ?_) (fun g' hg' => ?_) (fun k hk => ?_)
      · have : ¬ 8 * q' + g' = 8 * q + g := by omega
        simp [va_up, upd, this]; rw [hB2 48 (by decide)]; exact a1 q' hq' g' hg'
      · by_cases e : g' = g
        · subst e; simp [va_up, upd]
        · have : ¬ 8 * q + g' = 8 * q + g := by omega
          simp [va_up, upd, e]; rw [hB2 48 (by decide)]; exact a2 g' (by omega)
      · rw [← a3 k hk, ← hB2 k (by simp at hk; omega)]; simp at hk; simp [va_up, hk]
  -- the atoms
  have l2 : ∀ (K91 : Int32 → (Nat → Int32) → (Nat → Int64) → (Nat → Nat → Int32) → (Nat → Nat → Int64) → Prop) (q : Nat) (I1 : Nat → Int32), q < gN X → (∀ k, k ≠ 17 → I1 k = I9 k) → (∀ B2, LK d X (q + 1) out B2 → (∀ k, k ∉ [36, 37, 38, 39, 40, 48] → B2 k = B9 k) → K91 (nI (q + 1)) I1 J9 B2 D9) → ∀ (m j : Nat) (B1 : Nat → Nat → Int32), j + m = natm out → LK d X q out B1 → RS d (qP Q) (gK X q) I1 B1 → (∀ k, k ∉ [36, 37, 38, 39, 40, 48] → B1 k = B9 k) → wl_LassoFinderModel_formula_114 K91 Post (m + 1) (nI q) (nI (bN (avat (atv d (gK X q)) out) j)) (nI j) I1 J9 B1 D9 := by
    intro K91 q I1 hq hI hK m
    induction m with
    | zero =>
      intro j B1 hj a1 hS a3
      have e : j = natm out := by omega
      subst e
      have i23 := (fe I1 B1 hI a3).2.2.2.1
      exact ⟨fun _ => ⟨9, l3 K91 q I1 hq hI hK 8 0 B1 (by omega) a1 (fun g' hg' => by omega) a3⟩, fun z => absurd ((leI i23 (y := nI (natm out)) rfl (by omega) (by omega)).mpr (Nat.le_refl _)) z⟩
    | succ m ih =>
      intro j B1 hj a1 hS a3
      obtain ⟨hP1, hR1⟩ := fe I1 B1 hI a3
      have i23 := hR1.2.2.1
      refine ⟨fun z => ?_, fun _ => ?_⟩
      · have := (leI i23 (y := nI j) rfl (by omega) (by omega)).mp z; omega
      refine r_holdsAt (out := out) hW hP1 hS (hX.2.2.1 q hq) hO hR1.2.2.2.1 hmc (by omega) (fun B2 hB2 => ?_)
      have nx : ∀ y0 : Int32, y0 = nI (b2n (avat (atv d (gK X q)) out j) * 2 ^ j) → wc_LassoFinderModel_formula_141 K91 (wl_LassoFinderModel_formula_114 K91 Post (m + 1)) Post (nI q) (nI j) y0 (nI (bN (avat (atv d (gK X q)) out) j)) I1 J9 B2 D9 := by
        intro y0 hy z7 e7 z8 e8
        have n7 : z7 = nI (bN (avat (atv d (gK X q)) out) (j + 1)) := by rw [e7, hy, nI_or, bN_or]
        rw [n7, inI rfl e8]
        refine ih (j + 1) B2 (by omega) (fun q' hq' g hg => by rw [hB2 48 (by decide)]; exact a1 q' hq' g hg) (hS.k40 hB2) (fun k hk => by rw [hB2 k (by simp at hk; omega)]; exact a3 k hk)
      refine ⟨fun z => nx 0 ?_, fun z z12 e12 => nx z12 ?_⟩
      · cases e : avat (atv d (gK X q)) out j
        · simp [b2n]; rfl
        · rw [e] at z; exact absurd z (by decide)
      · cases e : avat (atv d (gK X q)) out j
        · rw [e] at z; exact absurd rfl z
        · rw [e12]; exact nI_shl (a := 1) (by omega)
  have l1 : ∀ (m q : Nat) (I1 : Nat → Int32) (B1 : Nat → Nat → Int32), q + m = gN X → LK d X q out B1 → (∀ k, k ≠ 17 → I1 k = I9 k) → (∀ k, k ∉ [36, 37, 38, 39, 40, 48] → B1 k = B9 k) → wl_LassoFinderModel_formula_91 Post (m + 1) (nI q) I1 J9 B1 D9 := by
    intro m
    induction m with
    | zero =>
      intro q I1 B1 hq a1 hI a3
      have e : q = gN X := by omega
      subst e
      have i14 : I1 14 = nI (gN X) := by rw [hI 14 (by decide)]; exact g14
      exact ⟨fun _ => h I1 B1 a1 hI a3, fun z => absurd ((leI i14 (y := nI (gN X)) rfl (by omega) (by omega)).mpr (Nat.le_refl _)) z⟩
    | succ m ih =>
      intro q I1 B1 hq a1 hI a3
      have i14 : I1 14 = nI (gN X) := by rw [hI 14 (by decide)]; exact g14
      refine ⟨fun z => ?_, fun _ => ⟨vin2 rfl (by omega) (by omega), fun z14 e14 => ?_⟩⟩
      · have := (leI i14 (y := nI q) rfl (by omega) (by omega)).mp z; omega
      rw [clI rfl (by omega), gk q (by omega)] at e14
      rw [e14]
      refine r_unpack ((fe I1 B1 hI a3).1.kr hW) (hX.2.2.1 q (by omega)).1 (fun I2 B2 s2 _ f2 => ⟨natm out + 1, ?_⟩)
      exact l2 _ q I2 (by omega) (fun k hk => (f2.1 k hk).trans (hI k hk)) (fun B3 b1 b2 => ih (q + 1) I2 B3 (by omega) b1 (fun k hk => (f2.1 k hk).trans (hI k hk)) b2) (natm out) 0 B2 (by omega) (fun q' hq' g hg => by rw [f2.2 48 (by decide)]; exact a1 q' hq' g hg) s2 (fun k hk => by rw [f2.2 k (by simp at hk ⊢; omega)]; exact a3 k hk)
  exact ⟨gN X + 1, l1 (gN X) 0 I9 B9 (by omega) (fun q hq => by omega) (fun _ _ => rfl) (fun _ _ => rfl)⟩
section
variable {d : zD} {X : zG} {mc q g : Nat} {out : List zIt}
/-- the kind of the t-th U, R, G or F, as the reference keeps it -/
theorem tk_r (hR : RK mc out I9 B9) (h240 : out.length ≤ 240) {t : Nat} (ht : t < ntm out) : ∃ j, j < 240 ∧ B9 43 t = nI j ∧ B9 41 j = nI (rc (tk out t)) ∧ isT (tk out t) := by
  obtain ⟨pre, x, l, ho, hx, hn, hr⟩ := tm_at out hR.2.2.2.2 t ht
  have hll : l.length < out.length := by rw [ho]; simp; omega
  have hnx : ntm (x :: l) = ntm l + 1 := by
    show ntm l + (if isT x.1 then 1 else 0) = _
    rw [if_pos hx]
  have etk : tk out t = x.1 := by
    rw [ho, tk_suf pre (x :: l) t (by omega)]
    show (if isT x.1 ∧ ntm l = t then _ else _) = _
    rw [if_pos ⟨hx, hn⟩]
  have hGx : GO mc B9 (x :: l) := by
    have : ∀ (pre l : List zIt), GO mc B9 (pre ++ l) → GO mc B9 l := by
      intro pre
      induction pre with
      | nil => intro l h; exact h
      | cons y pre ih2 => intro l h; exact ih2 l h.1
    exact this pre _ (by rw [← ho]; exact hR.2.2.2.1)
  exact ⟨l.length, by omega, hr, by rw [etk]; exact hGx.2.1 (by omega), by rw [etk]; exact hx⟩
theorem r_before {Post : Int32 → (Nat → Int32) → (Nat → Int64) → (Nat → Nat → Int32) → (Nat → Nat → Int64) → Prop} {t : Nat} {a b nx : Bool} (hR : RK mc out I9 B9) (h240 : out.length ≤ 240) (h3 : ntm out ≤ 3) (ht : t < ntm out) (h : Post (nI (b2n (car (tk out t) a b nx))) I9 J9 B9 D9) : wp_LassoFinderModel_before I9 J9 B9 D9 (nI t) (nI (b2n a)) (nI (b2n b)) (nI (b2n nx)) Post := by
  obtain ⟨j, hj, e43, e41, hk⟩ := tk_r hR h240 ht
  have r := rc_9 (k := tk out t) (by omega)
  refine ⟨vin2 rfl (by omega) (by omega), fun z1 e1 => ?_⟩
  rw [clI rfl (by omega), e43] at e1
  refine ⟨vin2 e1 hj (by omega), fun z2 e2 => ?_⟩
  rw [clI e1 (by omega), e41] at e2
  have q : ∀ (m : Nat) (y : Int32), y = nI m → m ≤ 100 → (z2 = y ↔ rc (tk out t) = m) := fun m y hy hm => eqI e2 hy (by omega) (by omega)
  unfold car at h
  refine ⟨fun n14 => ⟨fun n15 => ⟨fun n12 z6 e6 z7 e7 => ?_, fun e12 z8 e8 z9 e9 => ?_⟩, fun e15 z10 e10 => ?_⟩, fun e14 z11 e11 => ?_⟩
  · have a14 : ¬ rc (tk out t) = 14 := fun e => n14 ((q 14 14 rfl (by omega)).mpr e)
    have a15 : ¬ rc (tk out t) = 15 := fun e => n15 ((q 15 15 rfl (by omega)).mpr e)
    have a12 : ¬ rc (tk out t) = 12 := fun e => n12 ((q 12 12 rfl (by omega)).mpr e)
    rw [if_neg (by omega), if_neg (by omega), if_neg (by omega)] at h
    rw [e7, e6, nI_or, b2_or, nI_and, b2_and]; exact h
  · have := (q 12 12 rfl (by omega)).mp e12
    rw [if_neg (by omega), if_neg (by omega), if_pos (by omega)] at h
    rw [e9, e8, nI_and, b2_and, nI_or, b2_or]; exact h
  · have := (q 15 15 rfl (by omega)).mp e15
    rw [if_neg (by omega), if_pos (by omega)] at h
    rw [e10, nI_or, b2_or]; exact h
  · have := (q 14 14 rfl (by omega)).mp e14
    rw [if_pos (by omega)] at h
    rw [e11, nI_and, b2_and]; exact h
theorem r_truthAt {Post : Int32 → (Nat → Int32) → (Nat → Int64) → (Nat → Nat → Int32) → (Nat → Nat → Int64) → Prop} {n : Nat} {x y : Int32} (hx : x = nI q) (hy : y = nI g) (hR : RK mc out I9 B9) (hL : LK d X n out B9) (h240 : out.length ≤ 240) (h3 : ntm out ≤ 3) (hq : q < n) (hn : n ≤ 96) (hg : g < 8) (h : Post (nI (bef (atv d (gK X q)) out g)) I9 J9 B9 D9) : wp_LassoFinderModel_truthAt I9 J9 B9 D9 x y Post := by
  subst hx; subst hy
  have lp : ∀ (m t : Nat), t + m = ntm out → wl_LassoFinderModel_truthAt_5 (nI q) (nI g) Post (m + 1) (nI q) (nI g) (nI (bN (cT (atv d (gK X q)) (fun t => g.testBit t) out) t)) (nI t) I9 J9 B9 D9 := by
    intro m
    induction m with
    | zero =>
      intro t ht
      have e : t = ntm out := by omega
      subst e
      exact ⟨fun _ => h, fun z => absurd ((leI hR.2.1 (y := nI (ntm out)) rfl (by omega) (by omega)).mpr (Nat.le_refl _)) z⟩
    | succ m ih =>
      intro t ht
      have hb := bN_lt (cT (atv d (gK X q)) (fun t => g.testBit t) out) t
      have hp2 : 2 ^ t ≤ 8 := p2_3 (by omega)
      refine ⟨fun z => ?_, fun _ z2 e2 z3 e3 => ?_⟩
      · have := (leI hR.2.1 (y := nI t) rfl (by omega) (by omega)).mp z; omega
      have n3 : z3 = nI (8 * q + bN (cT (atv d (gK X q)) (fun t => g.testBit t) out) t) := by rw [e3, e2, show (8 : Int32) = nI 8 from rfl, nI_mul, nI_add]
      refine ⟨vin2 n3 (by omega) (by omega), fun z4 e4 z5 e5 z6 e6 z7 e7 z8 e8 z9 e9 z10 e10 z11 e11 z12 e12 z13 e13 => ?_⟩
      rw [clI n3 (by omega), hL q hq _ (by omega)] at e4
      have ll := lk_lt (av := atv d (gK X q)) (g := bN (cT (atv d (gK X q)) (fun t => g.testBit t) out) t) h3
      have n5 : z5 = nI (2 * t) := by rw [e5, show (2 : Int32) = nI 2 from rfl, nI_mul]
      have n8 : z8 = nI (2 * t) := by rw [e8, show (2 : Int32) = nI 2 from rfl, nI_mul]
      have n9 : z9 = nI (2 * t + 1) := by rw [e9, n8, nI_1]
      have agE : ag (atv d (gK X q)) (fun i => (bN (cT (atv d (gK X q)) (fun t => g.testBit t) out) t).testBit i) out t = ag (atv d (gK X q)) (cT (atv d (gK X q)) (fun t => g.testBit t) out) out t := ag_cg _ out t (fun i hi => by rw [bN_bit]; simp [hi])
      have n7 : z7 = nI (b2n (ag (atv d (gK X q)) (cT (atv d (gK X q)) (fun t => g.testBit t) out) out t).1) := by
        rw [e7, e6, e4, n5, nI_bit (by omega) (by omega), lk_bit]
        congr 2
        have a : 2 * t < 2 * ntm out := by omega
        have b : ¬ 2 * t = 6 := by omega
        rw [decide_eq_true a, decide_eq_false b]
        unfold F2
        rw [if_pos (by omega), show 2 * t / 2 = t by omega, agE]; simp
      have n11 : z11 = nI (b2n (ag (atv d (gK X q)) (cT (atv d (gK X q)) (fun t => g.testBit t) out) out t).2) := by
        rw [e11, e10, e4, n9, nI_bit (by omega) (by omega), lk_bit]
        congr 2
        have a : 2 * t + 1 < 2 * ntm out := by omega
        have b : ¬ 2 * t + 1 = 6 := by omega
        rw [decide_eq_true a, decide_eq_false b]
        unfold F2
        rw [if_neg (by omega), show (2 * t + 1) / 2 = t by omega, agE]; simp
      have n13 : z13 = nI (b2n (g.testBit t)) := by rw [e13, e12]; exact nI_bit (by omega) (by omega)
      rw [n7, n11, n13]
      refine r_before hR h240 h3 (by omega) (fun z15 e15 z16 e16 z17 e17 => ?_)
      have ec := cT_ag (atv d (gK X q)) (fun t => g.testBit t) out t (by omega) (cT (atv d (gK X q)) (fun t => g.testBit t) out) (fun i _ => rfl)
      rw [← ec] at e15
      have n15 : z15 = nI (b2n (cT (atv d (gK X q)) (fun t => g.testBit t) out t) * 2 ^ t) := by rw [e15]; exact nI_shl (by omega)
      have n16 : z16 = nI (bN (cT (atv d (gK X q)) (fun t => g.testBit t) out) (t + 1)) := by rw [e16, n15, nI_or, bN_or]
      rw [n16, inI rfl e17]
      exact ih (t + 1) (by omega)
  exact ⟨ntm out + 1, lp (ntm out) 0 (by omega)⟩
theorem r_settled9 {Post : Int32 → (Nat → Int32) → (Nat → Int64) → (Nat → Nat → Int32) → (Nat → Nat → Int64) → Prop} {n : Nat} {x y : Int32} (hx : x = nI q) (hy : y = nI g) (hR : RK mc out I9 B9) (hL : LK d X n out B9) (h240 : out.length ≤ 240) (h3 : ntm out ≤ 3) (hq : q < n) (hn : n ≤ 96) (hg : g < 8) (h : Post (nI (stN (atv d (gK X q)) out g)) I9 J9 B9 D9) : wp_LassoFinderModel_settled I9 J9 B9 D9 x y Post := by
  subst hx; subst hy
  have lp : ∀ (m t : Nat), t + m = ntm out → wl_LassoFinderModel_settled_5 (nI q) (nI g) Post (m + 1) (nI q) (nI g) (nI (bN (fun t => stb (tk out t) (ag (atv d (gK X q)) (fun t => g.testBit t) out t).1 (ag (atv d (gK X q)) (fun t => g.testBit t) out t).2 (g.testBit t)) t)) (nI t) I9 J9 B9 D9 := by
    intro m
    induction m with
    | zero =>
      intro t ht
      have e : t = ntm out := by omega
      subst e
      exact ⟨fun _ => h, fun z => absurd ((leI hR.2.1 (y := nI (ntm out)) rfl (by omega) (by omega)).mpr (Nat.le_refl _)) z⟩
    | succ m ih =>
      intro t ht
      obtain ⟨j, hj, e43, e41, hk⟩ := tk_r hR h240 (t := t) (by omega)
      have r := rc_9 (k := tk out t) (by omega)
      have vt : vp_in (nI t) 3 := vin2 rfl (by omega) (by omega)
      have ct : (nI t).toNatClampNeg = t := clI rfl (by omega)
      have ll := lk_lt (av := atv d (gK X q)) (g := g) h3
      -- the kind's code, as often as it is asked
      have kc : ∀ z1 : Int32, z1 = B9 43 (nI t).toNatClampNeg → vp_in z1 240 ∧ B9 41 z1.toNatClampNeg = nI (rc (tk out t)) := fun z1 e1 => by
        rw [ct, e43] at e1
        exact ⟨vin2 e1 hj (by omega), by rw [clI e1 (by omega)]; exact e41⟩
      have kq : ∀ (z : Int32) (m : Nat) (y : Int32), z = nI (rc (tk out t)) → y = nI m → m ≤ 100 → (z = y ↔ rc (tk out t) = m) := fun z m y hz hy hm => eqI hz hy (by omega) (by omega)
      refine ⟨fun z => ?_, fun _ z22 e22 z23 e23 => ?_⟩
      · have := (leI hR.2.1 (y := nI t) rfl (by omega) (by omega)).mp z; omega
      have n23 : z23 = nI (8 * q + g) := by rw [e23, e22, show (8 : Int32) = nI 8 from rfl, nI_mul, nI_add]
      refine ⟨vin2 n23 (by omega) (by omega), fun z24 e24 => ⟨vt, fun z25 e25 => ⟨(kc z25 e25).1, fun z26 e26 => ?_⟩⟩⟩
      rw [clI n23 (by omega), hL q hq g hg] at e24
      rw [(kc z25 e25).2] at e26
      -- on
      have w172 : ∀ x3 : Int32, x3 = nI (bN (fun t => stb (tk out t) (ag (atv d (gK X q)) (fun t => g.testBit t) out t).1 (ag (atv d (gK X q)) (fun t => g.testBit t) out t).2 (g.testBit t)) (t + 1)) → wc_LassoFinderModel_settled_172 (nI q) (nI g) (wl_LassoFinderModel_settled_5 (nI q) (nI g) Post (m + 1)) Post (nI q) (nI g) x3 (nI t) I9 J9 B9 D9 := by
        intro x3 hx3 z1 e1
        rw [hx3, inI rfl e1]
        exact ih (t + 1) (by omega)
      have w84 : ∀ (y0 : Int32) (sd : Bool), y0 = nI (b2n sd) → (if tk out t = 4 then (g.testBit t || !sd) else if tk out t = 5 then (!g.testBit t || sd) else if tk out t = 6 then (!g.testBit t || sd) else (g.testBit t || !sd)) = stb (tk out t) (ag (atv d (gK X q)) (fun t => g.testBit t) out t).1 (ag (atv d (gK X q)) (fun t => g.testBit t) out t).2 (g.testBit t) → wc_LassoFinderModel_settled_84 (nI q) (nI g) (wl_LassoFinderModel_settled_5 (nI q) (nI g) Post (m + 1)) Post (nI q) (nI g) (nI (bN (fun t => stb (tk out t) (ag (atv d (gK X q)) (fun t => g.testBit t) out t).1 (ag (atv d (gK X q)) (fun t => g.testBit t) out t).2 (g.testBit t)) t)) (nI t) y0 I9 J9 B9 D9 := by
        intro y0 sd hy0 hsd z9 e9 z10 e10
        have n10 : z10 = nI (b2n (g.testBit t)) := by rw [e10, e9]; exact nI_bit (by omega) (by omega)
        rw [hy0, n10]
        have yes : stb (tk out t) (ag (atv d (gK X q)) (fun t => g.testBit t) out t).1 (ag (atv d (gK X q)) (fun t => g.testBit t) out t).2 (g.testBit t) = true → wc_LassoFinderModel_settled_165 (nI q) (nI g) (wl_LassoFinderModel_settled_5 (nI q) (nI g) Post (m + 1)) Post (nI q) (nI g) (nI (bN (fun t => stb (tk out t) (ag (atv d (gK X q)) (fun t => g.testBit t) out t).1 (ag (atv d (gK X q)) (fun t => g.testBit t) out t).2 (g.testBit t)) t)) (nI t) I9 J9 B9 D9 := by
          intro hs z2 e2 z3 e3
          have n2 : z2 = nI (1 * 2 ^ t) := by rw [e2]; exact nI_shl (a := 1) (by omega)
          refine w172 z3 ?_
          rw [e3, n2, nI_or, bN_or, hs]; rfl
        have no : stb (tk out t) (ag (atv d (gK X q)) (fun t => g.testBit t) out t).1 (ag (atv d (gK X q)) (fun t => g.testBit t) out t).2 (g.testBit t) = false → wc_LassoFinderModel_settled_172 (nI q) (nI g) (wl_LassoFinderModel_settled_5 (nI q) (nI g) Post (m + 1)) Post (nI q) (nI g) (nI (bN (fun t => stb (tk out t) (ag (atv d (gK X q)) (fun t => g.testBit t) out t).1 (ag (atv d (gK X q)) (fun t => g.testBit t) out t).2 (g.testBit t)) t)) (nI t) I9 J9 B9 D9 := by
          intro hs
          refine w172 _ ?_
          rw [bN_or, hs]; simp [b2n]
        rw [← hsd] at yes no
        have w133 : ∀ y : Int32, ((tk out t = 5 ∨ tk out t = 6) ∧ y = 1) ∨ ((tk out t = 4 ∨ tk out t = 7) ∧ y = 0) → wc_LassoFinderModel_settled_133 (nI q) (nI g) (wl_LassoFinderModel_settled_5 (nI q) (nI g) Post (m + 1)) Post (nI q) (nI g) (nI (bN (fun t => stb (tk out t) (ag (atv d (gK X q)) (fun t => g.testBit t) out t).1 (ag (atv d (gK X q)) (fun t => g.testBit t) out t).2 (g.testBit t)) t)) (nI t) (nI (b2n sd)) (nI (b2n (g.testBit t))) y I9 J9 B9 D9 := by
          intro y hy
          rcases hy with ⟨hk5, rfl⟩ | ⟨hk4, rfl⟩
          · have e5 : (if tk out t = 4 then (g.testBit t || !sd) else if tk out t = 5 then (!g.testBit t || sd) else if tk out t = 6 then (!g.testBit t || sd) else (g.testBit t || !sd)) = (!g.testBit t || sd) := by
              rcases hk5 with w | w
              · rw [if_neg (by omega), if_pos w]
              · rw [if_neg (by omega), if_neg (by omega), if_pos w]
            rw [e5] at yes no
            refine ⟨fun z => absurd z (by decide), fun _ => ⟨fun z => yes ?_, fun z => ⟨fun z2 => no ?_, fun z2 => yes ?_⟩⟩⟩
            · cases e : g.testBit t
              · rfl
              · rw [e] at z; exact absurd z (by decide)
            · cases e : g.testBit t
              · rw [e] at z; exact absurd rfl z
              · cases e2 : sd
                · rfl
                · rw [e2] at z2; exact absurd rfl z2
            · cases e2 : sd
              · rw [e2] at z2; exact absurd z2 (by decide)
              · simp
          · have e4 : (if tk out t = 4 then (g.testBit t || !sd) else if tk out t = 5 then (!g.testBit t || sd) else if tk out t = 6 then (!g.testBit t || sd) else (g.testBit t || !sd)) = (g.testBit t || !sd) := by
              rcases hk4 with w | w
              · rw [if_pos w]
              · rw [if_neg (by omega), if_neg (by omega), if_neg (by omega)]
            rw [e4] at yes no
            refine ⟨fun _ => ⟨fun z => yes ?_, fun z => ⟨fun z2 => no ?_, fun z2 => yes ?_⟩⟩, fun z => absurd rfl z⟩
            · cases e : g.testBit t
              · rw [e] at z; exact absurd z (by decide)
              · rfl
            · cases e : g.testBit t
              · cases e2 : sd
                · rw [e2] at z2; exact absurd rfl z2
                · rfl
              · rw [e] at z; exact absurd rfl z
            · cases e2 : sd
              · simp
              · rw [e2] at z2; exact absurd z2 (by decide)
        refine ⟨vt, fun z11 e11 => ⟨(kc z11 e11).1, fun z12 e12 => ?_⟩⟩
        rw [(kc z11 e11).2] at e12
        refine ⟨fun g12 => w133 1 (Or.inl ⟨?_, rfl⟩), fun g12 => ⟨vt, fun z14 e14 => ⟨(kc z14 e14).1, fun z15 e15 => ?_⟩⟩⟩
        · have := (kq z12 12 12 e12 rfl (by omega)).mp g12; omega
        rw [(kc z14 e14).2] at e15
        have n12 : ¬ rc (tk out t) = 12 := fun e => g12 ((kq z12 12 12 e12 rfl (by omega)).mpr e)
        refine ⟨fun g15 => w133 0 (Or.inr ⟨?_, rfl⟩), fun g15 => w133 1 (Or.inl ⟨?_, rfl⟩)⟩
        · have : ¬ rc (tk out t) = 15 := fun e => g15 ((kq z15 15 15 e15 rfl (by omega)).mpr e)
          omega
        · have := (kq z15 15 15 e15 rfl (by omega)).mp g15; omega
      -- the side
      have w61 : (tk out t = 6 ∨ tk out t = 7) → wc_LassoFinderModel_settled_61 (nI q) (nI g) (wl_LassoFinderModel_settled_5 (nI q) (nI g) Post (m + 1)) Post (nI q) (nI g) (nI (bN (fun t => stb (tk out t) (ag (atv d (gK X q)) (fun t => g.testBit t) out t).1 (ag (atv d (gK X q)) (fun t => g.testBit t) out t).2 (g.testBit t)) t)) (nI t) z24 I9 J9 B9 D9 := by
        intro hk67 z17 e17 z18 e18 z19 e19 z20 e20
        have n18 : z18 = nI (2 * t + 1) := by rw [e18, e17, show (2 : Int32) = nI 2 from rfl, nI_mul, nI_1]
        refine w84 z20 (ag (atv d (gK X q)) (fun t => g.testBit t) out t).2 ?_ ?_
        · rw [e20, e19, e24, n18, nI_bit (by omega) (by omega), lk_bit]
          congr 2
          have a : 2 * t + 1 < 2 * ntm out := by omega
          have b : ¬ 2 * t + 1 = 6 := by omega
          rw [decide_eq_true a, decide_eq_false b]
          unfold F2
          rw [if_neg (by omega), show (2 * t + 1) / 2 = t by omega]; simp
        · unfold stb
          rcases hk67 with w | w
          · simp [w]
          · simp [w]
      refine ⟨fun g12 => w61 ?_, fun g12 => ⟨vt, fun z28 e28 => ⟨(kc z28 e28).1, fun z29 e29 => ?_⟩⟩⟩
      · have := (kq z26 12 12 e26 rfl (by omega)).mp g12; omega
      rw [(kc z28 e28).2] at e29
      have n12 : ¬ rc (tk out t) = 12 := fun e => g12 ((kq z26 12 12 e26 rfl (by omega)).mpr e)
      refine ⟨fun g13 z31 e31 z32 e32 z33 e33 => ?_, fun g13 => w61 ?_⟩
      · have n13 : ¬ rc (tk out t) = 13 := fun e => g13 ((kq z29 13 13 e29 rfl (by omega)).mpr e)
        have n31 : z31 = nI (2 * t) := by rw [e31, show (2 : Int32) = nI 2 from rfl, nI_mul]
        refine w84 z33 (ag (atv d (gK X q)) (fun t => g.testBit t) out t).1 ?_ ?_
        · rw [e33, e32, e24, n31, nI_bit (by omega) (by omega), lk_bit]
          congr 2
          have a : 2 * t < 2 * ntm out := by omega
          have b : ¬ 2 * t = 6 := by omega
          rw [decide_eq_true a, decide_eq_false b]
          unfold F2
          rw [if_pos (by omega), show 2 * t / 2 = t by omega]; simp
        · unfold stb
          have : tk out t = 4 ∨ tk out t = 5 := by omega
          rcases this with w | w
          · simp [w]
          · simp [w]
      · have := (kq z29 13 13 e29 rfl (by omega)).mp g13; omega
  exact ⟨ntm out + 1, lp (ntm out) 0 (by omega)⟩
theorem r_isTrue {Post : Int32 → (Nat → Int32) → (Nat → Int64) → (Nat → Nat → Int32) → (Nat → Nat → Int64) → Prop} {n : Nat} {x y : Int32} (hx : x = nI q) (hy : y = nI g) (hL : LK d X n out B9) (h3 : ntm out ≤ 3) (hq : q < n) (hn : n ≤ 96) (hg : g < 8) (h : Post (nI (b2n (sat (atv d (gK X q)) out g))) I9 J9 B9 D9) : wp_LassoFinderModel_isTrue I9 J9 B9 D9 x y Post := by
  subst hx; subst hy
  intro z1 e1 z2 e2
  have n2 : z2 = nI (8 * q + g) := by rw [e2, e1, show (8 : Int32) = nI 8 from rfl, nI_mul, nI_add]
  refine ⟨vin2 n2 (by omega) (by omega), fun z3 e3 z4 e4 z5 e5 => ?_⟩
  rw [clI n2 (by omega), hL q hq g hg] at e3
  have ll := lk_lt (av := atv d (gK X q)) (out := out) (g := g) h3
  have n5 : z5 = nI (b2n (sat (atv d (gK X q)) out g)) := by
    rw [e5, e4, e3, show (6 : Int32) = nI 6 from rfl, nI_bit (by omega) (by omega), lk_bit]
    congr 2
    have a : ¬ 6 < 2 * ntm out := by omega
    rw [decide_eq_false a]; simp
  refine ⟨fun z => ⟨Or.inl rfl, ?_⟩, fun z => ⟨Or.inr rfl, ?_⟩⟩
  · cases e : sat (atv d (gK X q)) out g
    · rw [e] at h; exact h
    · rw [n5, e] at z; exact absurd rfl z
  · cases e : sat (atv d (gK X q)) out g
    · rw [n5, e] at z; exact absurd z (by decide)
    · rw [e] at h; exact h
end
end ZP7
