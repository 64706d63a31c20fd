/-! The reference: what begins a step; a step's work. -/
section ZL2
variable {I9 : Nat → Int32} {J9 : Nat → Int64} {B9 : Nat → Nat → Int32} {D9 : Nat → Nat → Int64}
theorem cn_5 {d : zD} {Q : zQ} {c : zCf} {b : Nat} (h : qK Q b = 5) : cn d Q c b = false := by simp [cn, h]
theorem r_doable {Post : Int64 → (Nat → Int32) → (Nat → Int64) → (Nat → Nat → Int32) → (Nat → Nat → Int64) → Prop} {d : zD} {Q : zQ} {c : zCf} (hW : QW d Q) (hP : PR d Q I9 B9 D9) (hS : RS d (qP Q) c I9 B9) (hC : WC d Q c) (h : ∀ w B', (∀ i, bt w i = dob d Q c i) → (∀ k, k ≠ 40 → B' k = B9 k) → Post w I9 J9 B' D9) : wp_LassoFinderModel_doable I9 J9 B9 D9 Post := by
  have hN48 := hW.2.1
  have hP4 := hW.1
  have p10 := hP.2.1
  have p9 := hP.2.2.1
  have sp : ∀ i b : Nat, ¬ i = b → (decide (i < b + 1) = decide (i < b)) := fun i b hi => by
    by_cases g : i < b
    · simp [g]; omega
    · simp [g]; omega
  -- a process
  have l2 : ∀ (K4 : Int64 → Int32 → (Nat → Int32) → (Nat → Int64) → (Nat → Nat → Int32) → (Nat → Nat → Int64) → Prop) (x1 : Int64) (p : Nat), p < qP Q → (∀ z B1, (∀ i, bt z i = (bt x1 i || pab d Q c p i)) → (∀ k, k ≠ 40 → B1 k = B9 k) → K4 z (nI (p + 1)) I9 J9 B1 D9) → ∀ (m b : Nat) (x4 x6 : Int64) (B1 : Nat → Nat → Int32), b + m = qN Q → (∀ i, bt x4 i = (decide (i < b) && hB Q c p i && cn d Q c i)) → (∀ i, bt x6 i = (decide (i < b) && hB Q c p i && decide (qK Q i = 5))) → (∀ k, k ≠ 40 → B1 k = B9 k) → wl_LassoFinderModel_doable_21 K4 Post (m + 1) x1 (nI p) x4 x6 (nI b) I9 J9 B1 D9 := by
    intro K4 x1 p hp hK m
    induction m with
    | zero =>
      intro b x4 x6 B1 hb h4 h6 hB1
      have e : b = qN Q := by omega
      subst e
      have hany : ¬ x4 = 0 ↔ anyB (fun b' => hB Q c p b' && cn d Q c b') (qN Q) = true := by
        rw [anyB_iff]
        constructor
        · intro g
          obtain ⟨i, hi⟩ := bt_ne g
          rw [h4 i] at hi
          simp only [Bool.and_eq_true, decide_eq_true_eq] at hi
          exact ⟨i, hi.1.1, by simp [hi.1.2, hi.2]⟩
        · rintro ⟨i, hi, e⟩
          refine bt_t (i := i) ?_
          simp only [Bool.and_eq_true] at e
          rw [h4 i]; simp [hi, e.1, e.2]
      refine ⟨fun _ z5 e5 => ⟨fun g z1 e1 z2 e2 => ?_, fun g z1 e1 z2 e2 => ?_⟩, fun z => absurd ((leI p9 (y := nI (qN Q)) rfl (by omega) (by omega)).mpr (Nat.le_refl _)) z⟩
      · rw [inI rfl e2]
        refine hK z1 B1 (fun i => ?_) hB1
        have : ¬ x4 = 0 := fun e => g (by rw [e5]; exact (cmp0 _ _).mpr e)
        rw [e1, bt_or, h4 i, pab, if_pos (hany.mp this)]
        cases e : hB Q c p i
        · simp
        · simp [(hB_n hW e).1]
      · rw [inI rfl e2]
        refine hK z1 B1 (fun i => ?_) hB1
        have : x4 = 0 := (cmp0 _ _).mp (by rw [← e5]; exact g)
        rw [e1, bt_or, h6 i, pab, if_neg (fun q => (hany.mpr q) this)]
        cases e : hB Q c p i
        · simp
        · simp [(hB_n hW e).1]
    | succ m ih =>
      intro b x4 x6 B1 hb h4 h6 hB1
      refine ⟨fun z => ?_, fun _ => ?_⟩
      · have := (leI p9 (y := nI b) rfl (by omega) (by omega)).mp z; omega
      refine r_maskOf rfl hW (hP.k40 hB1) (hS.k40 hB1) hC hp (fun w hw z8 e8 z9 e9 z10 e10 => ?_)
      rw [e9, e8] at e10
      have t := tstR w (b := b) (by omega)
      rw [← e10, hw b] at t
      have nx : ∀ (y4 y6 : Int64) (B2 : Nat → Nat → Int32), (∀ i, bt y4 i = (decide (i < b + 1) && hB Q c p i && cn d Q c i)) → (∀ i, bt y6 i = (decide (i < b + 1) && hB Q c p i && decide (qK Q i = 5))) → (∀ k, k ≠ 40 → B2 k = B9 k) → wc_LassoFinderModel_doable_98 K4 (wl_LassoFinderModel_doable_21 K4 Post (m + 1)) Post x1 (nI p) y4 y6 (nI b) I9 J9 B2 D9 := by
        intro y4 y6 B2 g4 g6 g3 z3 e3
        rw [inI rfl e3]
        exact ih (b + 1) y4 y6 B2 (by omega) g4 g6 g3
      obtain ⟨m', hm'⟩ := (hP.k40 hB1).2.2.2.1 b (by omega)
      obtain ⟨m1, m2, m3, _⟩ := id hm'
      refine ⟨fun g => ⟨vin2 rfl (by omega) (by omega), fun z12 e12 => ?_⟩, fun g => nx x4 x6 B1 (fun i => ?_) (fun i => ?_) hB1⟩
      · rw [clI rfl (by omega), m2] at e12
        have hh : hB Q c p b = true := by
          cases e : hB Q c p b
          · exact absurd (t.mpr e) g
          · rfl
        refine ⟨vin2 e12 m1 (by omega), fun z13 e13 => ?_⟩
        rw [clI e12 (by omega), m3] at e13
        have w1 := (hW.2.2.1 b (by omega)).1
        have q5 : z13 = 5 ↔ qK Q b = 5 := eqI e13 (y := 5) (b := 5) rfl (by omega) (by omega)
        refine ⟨fun g5 => ?_, fun g5 z19 e19 z20 e20 => nx x4 z20 B1 (fun i => ?_) (fun i => ?_) hB1⟩
        · have k5 : ¬ qK Q b = 5 := fun e => g5 (q5.mpr e)
          rw [e12]
          refine r_can hW (hP.k40 hB1) (hS.k40 hB1) hC (by omega) hm' (fun B2 hB2 => ?_)
          have hB3 : ∀ k, k ≠ 40 → B2 k = B9 k := fun k hk => (hB2 k hk).trans (hB1 k hk)
          have s6 : ∀ i, bt x6 i = (decide (i < b + 1) && hB Q c p i && decide (qK Q i = 5)) := fun i => by
            rw [h6 i]
            by_cases e : i = b
            · subst e; simp [k5]
            · rw [sp i b e]
          refine ⟨fun q => nx x4 x6 B2 (fun i => ?_) s6 hB3, fun q z17 e17 z18 e18 => nx z18 x6 B2 (fun i => ?_) s6 hB3⟩
          · have hc : cn d Q c b = false := by
              cases e : cn d Q c b
              · rfl
              · rw [if_pos e] at q; exact absurd q (by decide)
            rw [h4 i]
            by_cases e : i = b
            · subst e; simp [hc]
            · rw [sp i b e]
          · have hc : cn d Q c b = true := by
              cases e : cn d Q c b
              · rw [if_neg (by rw [e]; decide)] at q; exact absurd rfl q
              · rfl
            have n17 : z17 = bitL b := e17
            rw [e18, n17, bt_or, bt_bit (by omega), h4 i]
            by_cases e : i = b
            · subst e; simp [hc, hh]
            · rw [sp i b e]; simp [e]
        · have k5 := q5.mp g5
          rw [h4 i]
          by_cases e : i = b
          · subst e; simp [cn_5 k5]
          · rw [sp i b e]
        · have k5 := q5.mp g5
          have n19 : z19 = bitL b := e19
          rw [e20, n19, bt_or, bt_bit (by omega), h6 i]
          by_cases e : i = b
          · subst e; simp [k5, hh]
          · rw [sp i b e]; simp [e]
      · have hh := t.mp g
        rw [h4 i]
        by_cases e : i = b
        · subst e; simp [hh]
        · rw [sp i b e]
      · have hh := t.mp g
        rw [h6 i]
        by_cases e : i = b
        · subst e; simp [hh]
        · rw [sp i b e]
  have l1 : ∀ (m p : Nat) (x1 : Int64) (B1 : Nat → Nat → Int32), p + m = qP Q → (∀ i, bt x1 i = anyB (fun q => pab d Q c q i) p) → (∀ k, k ≠ 40 → B1 k = B9 k) → wl_LassoFinderModel_doable_4 Post (m + 1) x1 (nI p) I9 J9 B1 D9 := by
    intro m
    induction m with
    | zero =>
      intro p x1 B1 hp ha hB1
      have e : p = qP Q := by omega
      subst e
      have ha' : ∀ i, bt x1 i = alb d Q c i := ha
      have hH := hS.2.2.2.2
      have hle := hC.1.2.2.2.2.2.2.2.2.2
      refine ⟨fun _ => ⟨fun g => h x1 B1 (fun i => ?_) hB1, fun g => ?_⟩, fun z => absurd ((leI p10 (y := nI (qP Q)) rfl (by omega) (by omega)).mpr (Nat.le_refl _)) z⟩
      · have e0 : c.2.2.2.2 = 0 := by
          rcases Nat.eq_zero_or_pos c.2.2.2.2 with e | e
          · exact e
          · obtain ⟨y, hy⟩ : ∃ y, c.2.2.2.2 = y + 1 := ⟨c.2.2.2.2 - 1, by omega⟩
            have e17 : I9 17 = nI y := by rw [hy, ← nI_1] at hH; grind
            have := (ltI e17 (y := 0) (b := 0) rfl (by omega) (by omega)).mp g
            omega
        rw [ha' i, dob, e0]; simp
      · obtain ⟨y, hy⟩ : ∃ y, c.2.2.2.2 = y + 1 := by
          refine ⟨c.2.2.2.2 - 1, ?_⟩
          rcases Nat.eq_zero_or_pos c.2.2.2.2 with e | e
          · rw [e] at hH
            have : I9 17 = -1 := by
              have e2 : nI 0 = 0 := rfl
              rw [e2] at hH; grind
            rw [this] at g; exact absurd (by decide) g
          · omega
        have e17 : I9 17 = nI y := by rw [hy, ← nI_1] at hH; grind
        refine r_maskOf e17 hW (hP.k40 hB1) (hS.k40 hB1) hC (by omega) (fun w hw z24 e24 z25 e25 => ?_)
        have b7 : ∀ i, bt z24 i = (alb d Q c i && hB Q c y i) := fun i => by rw [e24, bt_and, ha' i, hw i]
        have hy1 : c.2.2.2.2 - 1 = y := by omega
        have hy0 : ¬ c.2.2.2.2 = 0 := by omega
        have hany : ¬ z24 = 0 ↔ anyB (fun b' => alb d Q c b' && hB Q c y b') (qN Q) = true := by
          rw [anyB_iff]
          constructor
          · intro q
            obtain ⟨i, hi⟩ := bt_ne q
            rw [b7 i] at hi
            refine ⟨i, ?_, hi⟩
            simp only [Bool.and_eq_true] at hi
            exact (alb_n hW hi.1).1
          · rintro ⟨i, _, e⟩
            exact bt_t (i := i) (by rw [b7 i]; exact e)
        refine ⟨fun q => h x1 B1 (fun i => ?_) hB1, fun q => ?_⟩
        · have : z24 = 0 := (cmp0 _ _).mp (by rw [← e25]; exact q)
          have hf : anyB (fun b' => alb d Q c b' && hB Q c y b') (qN Q) = false := by
            cases e : anyB (fun b' => alb d Q c b' && hB Q c y b') (qN Q)
            · rfl
            · exact absurd this (hany.mpr e)
          rw [ha' i, dob, hy1, hf]; simp
        · have : ¬ z24 = 0 := fun e => q (by rw [e25]; exact (cmp0 _ _).mpr e)
          refine r_maskOf e17 hW (hP.k40 hB1) (hS.k40 hB1) hC (by omega) (fun w2 hw2 z28 e28 => h z28 B1 (fun i => ?_) hB1)
          rw [e28, bt_and, ha' i, hw2 i, dob, hy1, hany.mp this]; simp [hy0]
    | succ m ih =>
      intro p x1 B1 hp ha hB1
      refine ⟨fun z => ?_, fun _ => ⟨qN Q + 1, ?_⟩⟩
      · have := (leI p10 (y := nI p) rfl (by omega) (by omega)).mp z; omega
      refine l2 _ x1 p (by omega) (fun z B2 hz hB2 => ih (p + 1) z B2 (by omega) (fun i => ?_) hB2) (qN Q) 0 0 0 B1 (by omega) (fun i => by rw [bt_0]; simp) (fun i => by rw [bt_0]; simp) hB1
      rw [hz i, ha i]; rfl
  exact ⟨qP Q + 1, l1 (qP Q) 0 0 B9 (by omega) (fun i => bt_0 i) (fun _ _ => rfl)⟩
theorem RS_sV {d : zD} {np : Nat} {c : zCf} {v x : Nat} {y : Int32} (hS : RS d np c I9 B9) (hy : y = nI x) : RS d np (sV c v x) I9 (va_up B9 36 (upd (B9 36) v y)) := by
  obtain ⟨s1, s2, s3, s4, s5⟩ := hS
  refine ⟨fun j hj => ?_, fun k hk => by simpa [va_up, sV] using s2 k hk, fun k hk i hi => by simpa [va_up, sV] using s3 k hk i hi, fun p hp => by simpa [va_up, sV] using s4 p hp, s5⟩
  by_cases e : j = v
  · subst e; simp [va_up, upd, sV, upn, hy]
  · simp [va_up, upd, sV, upn, e]; exact s1 j hj
theorem RS_sS {d : zD} {np : Nat} {c : zCf} {p x : Nat} {y : Int32} (hS : RS d np c I9 B9) (hy : y = nI x) : RS d np (sS c p x) I9 (va_up B9 39 (upd (B9 39) p y)) := by
  obtain ⟨s1, s2, s3, s4, s5⟩ := hS
  refine ⟨fun j hj => by simpa [va_up, sS] using s1 j hj, fun k hk => by simpa [va_up, sS] using s2 k hk, fun k hk i hi => by simpa [va_up, sS] using s3 k hk i hi, fun q hq => ?_, s5⟩
  by_cases e : q = p
  · subst e; simp [va_up, upd, sS, upn, hy]
  · simp [va_up, upd, sS, upn, e]; exact s4 q hq
theorem RS_sH {d : zD} {np : Nat} {c : zCf} {x : Nat} {y : Int32} (hS : RS d np c I9 B9) (hy : y + 1 = nI x) : RS d np (sH c x) (upd I9 17 y) B9 := by
  obtain ⟨s1, s2, s3, s4, s5⟩ := hS
  exact ⟨s1, s2, s3, s4, by simpa [upd, sH] using hy⟩
theorem RS_put {d : zD} {np : Nat} {c : zCf} {k x : Nat} {y z : Int32} (hS : RS d np c I9 B9) (hm : c.2.1 k < 3) (hy : y = nI x) (hz : z = nI (c.2.1 k + 1)) (h3 : ∀ j, c.2.1 j ≤ 3) : RS d np (sM (sG c (3 * k + c.2.1 k) x) k (c.2.1 k + 1)) I9 (va_up (va_up B9 38 (upd (B9 38) (3 * k + c.2.1 k) y)) 37 (upd (B9 37) k z)) := by
  obtain ⟨s1, s2, s3, s4, s5⟩ := hS
  refine ⟨fun j hj => by simpa [va_up, sM, sG] using s1 j hj, fun j hj => ?_, fun j hj i hi => ?_, fun p hp => by simpa [va_up, sM, sG] using s4 p hp, s5⟩
  · by_cases e : j = k
    · subst e; simp [va_up, upd, sM, sG, upn, hz]
    · simp [va_up, upd, sM, sG, upn, e]; exact s2 j hj
  · have hi' : i < upn c.2.1 k (c.2.1 k + 1) j := hi
    show va_up (va_up B9 38 (upd (B9 38) (3 * k + c.2.1 k) y)) 37 (upd (B9 37) k z) 38 (3 * j + i) = nI (upn c.2.2.1 (3 * k + c.2.1 k) x (3 * j + i))
    have h3j := h3 j
    by_cases e : j = k
    · subst e
      rw [upn_at] at hi'
      by_cases e2 : i = c.2.1 j
      · rw [e2]; simp [va_up, upd, upn, hy]
      · have : ¬ 3 * j + i = 3 * j + c.2.1 j := by omega
        rw [upn_ne this]; simp [va_up, upd, e2]; exact s3 j hj i (by omega)
    · rw [upn_ne e] at hi'
      have : ¬ 3 * j + i = 3 * k + c.2.1 k := by omega
      rw [upn_ne this]; simp [va_up, upd, this]; exact s3 j hj i hi'
theorem RS_shf {d : zD} {np : Nat} {c : zCf} {k : Nat} {z : Int32} {B1 : Nat → Nat → Int32} (hS : RS d np c I9 B9) (hk : k < d.2.2.1) (hm : 0 < c.2.1 k) (h3 : ∀ j, c.2.1 j ≤ 3) (hz : z = nI (c.2.1 k - 1)) (b0 : B1 38 (3 * k) = B9 38 (3 * k + 1)) (b1 : B1 38 (3 * k + 1) = B9 38 (3 * k + 2)) (b2 : ∀ j, ¬ j = 3 * k → ¬ j = 3 * k + 1 → B1 38 j = B9 38 j) (b3 : ∀ j, j ≠ 38 → B1 j = B9 j) : RS d np (shf c k) I9 (va_up B1 37 (upd (B1 37) k z)) := by
  obtain ⟨s1, s2, s3, s4, s5⟩ := hS
  refine ⟨fun j hj => ?_, fun j hj => ?_, fun j hj i hi => ?_, fun p hp => ?_, s5⟩
  · simp [va_up]; rw [b3 36 (by decide)]; exact s1 j hj
  · by_cases e : j = k
    · subst e; simp [va_up, upd, shf, sM, sG, upn, hz]
    · simp [va_up, upd, shf, sM, sG, upn, e]; rw [b3 37 (by decide)]; exact s2 j hj
  · have hi' : i < upn c.2.1 k (c.2.1 k - 1) j := hi
    have e38 : va_up B1 37 (upd (B1 37) k z) 38 = B1 38 := by simp [va_up]
    rw [e38, shf_G]
    have h3j := h3 j
    by_cases e : j = k
    · subst e
      rw [upn_at] at hi'
      rw [if_neg (by omega)]
      by_cases e2 : i = 1
      · subst e2; rw [if_pos rfl, b1]; exact s3 j hj 2 (by omega)
      · have e0 : i = 0 := by omega
        subst e0
        rw [if_neg (by omega), if_pos (by omega), Nat.add_zero, b0]; exact s3 j hj 1 (by omega)
    · rw [upn_ne e] at hi'
      rw [if_neg (by omega), if_neg (by omega), if_neg (by omega), b2 _ (by omega) (by omega)]; exact s3 j hj i hi'
  · simp [va_up]; rw [b3 39 (by decide)]; exact s4 p hp
theorem r_goesOn {Post : Int32 → (Nat → Int32) → (Nat → Int64) → (Nat → Nat → Int32) → (Nat → Nat → Int64) → Prop} {d : zD} {Q : zQ} {b m : Nat} {x y : Int32} (hx : x = nI (qA Q b)) (hy : y = nI m) (hW : QW d Q) (hb : b < qN Q) (hm : R1 Q B9 b m) (h : Post (if qH Q b = true then 1 else 0) I9 J9 (va_up B9 39 (upd (B9 39) (qA Q b) (nI (qF Q b)))) D9) : wp_LassoFinderModel_goesOn I9 J9 B9 D9 x y Post := by
  subst hx; subst hy
  have hP4 := hW.1
  obtain ⟨u1, u2, u3, _⟩ := hW.2.2.1 b hb
  obtain ⟨b1, b2, b3, b4, b5, b6, b7, b8, b9, b10, b11, b12⟩ := hm
  have cm : (nI m).toNatClampNeg = m := clI rfl (by omega)
  have vm : vp_in (nI m) 140 := vin2 rfl b1 (by omega)
  have ca : (nI (qA Q b)).toNatClampNeg = qA Q b := clI rfl (by omega)
  have va : vp_in (nI (qA Q b)) 4 := vin2 rfl (by omega) (by omega)
  refine ⟨vm, fun z1 e1 => ⟨va, vm, fun z2 e2 => ?_⟩⟩
  rw [cm, b5] at e1
  rw [cm] at e2
  rw [ca, e1]
  refine ⟨fun g => ⟨Or.inl rfl, ?_⟩, fun g => ⟨va, fun z4 e4 => ⟨vin2 rfl (by omega) (by omega), fun z5 e5 => ?_⟩⟩⟩
  · rw [e2] at g
    rw [b11 g] at h; exact h
  · rw [e2] at g
    obtain ⟨pt, q1, q2, q3, q4⟩ := b12 g
    have n4 : z4 = nI (qF Q b) := by rw [e4]; simp [upd]
    rw [q2] at e5
    have le : z5 ≤ z4 ↔ pt ≤ qF Q b := leI e5 n4 (by omega) (by omega)
    refine ⟨fun w => ⟨Or.inl rfl, ?_⟩, fun w z7 e7 => ⟨va, fun z8 e8 z9 e9 => ?_⟩⟩
    · rw [q3 (le.mp w)] at h; exact h
    · have hlt : qF Q b < pt := by
        have : ¬ pt ≤ qF Q b := fun e => w (le.mpr e)
        omega
      obtain ⟨k, k1, k2, k3⟩ := q4 hlt
      have n8 : z8 = nI (qF Q b) := by rw [e8]; simp [upd]
      have n9 : z9 = nI (31 * qA Q b + qF Q b) := by rw [e9, e7, n8, show (31 : Int32) = nI 31 from rfl, nI_mul, nI_add]
      refine ⟨vin2 n9 (by omega) (by omega), fun z10 e10 => ?_⟩
      rw [clI n9 (by omega), k2] at e10
      refine ⟨vin2 e10 k1 (by omega), fun z11 e11 => ⟨vm, fun z12 e12 => ?_⟩⟩
      rw [clI e10 (by omega)] at e11
      rw [cm] at e12
      rw [e11, e12]
      refine ⟨fun q => ⟨Or.inl rfl, ?_⟩, fun q => ⟨Or.inr rfl, ?_⟩⟩
      · rw [if_neg (fun e => q (k3.mpr e))] at h; exact h
      · rw [if_pos (k3.mp q)] at h; exact h
end ZL2
