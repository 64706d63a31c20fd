/-! The reference verifies. -/
section ZS7
variable {I9 : Nat → Int32} {J9 : Nat → Int64} {B9 : Nat → Nat → Int32} {D9 : Nat → Nat → Int64}
/-- the best round so far, as the reference keeps it -/
def BS9 (L : Nat) (b : Option (List Nat)) (I9 : Nat → Int32) (B9 : Nat → Nat → Int32) : Prop := (b = none ∧ I9 25 = 0) ∨ (∃ ks, b = some ks ∧ I9 25 = nI ks.length ∧ 1 ≤ ks.length ∧ ks.length ≤ 3072 ∧ (∀ k, k < ks.length → stq (B9 52) (L + k) = nI (ks.getD k 0)))
theorem r_sooner {Post : Int32 → (Nat → Int32) → (Nat → Int64) → (Nat → Nat → Int32) → (Nat → Nat → Int64) → Prop} {L : Nat} {b : Option (List Nat)} {js : List Nat} (hL : L < 768) (h24 : I9 24 = nI L) (hb : BS9 L b I9 B9) (hn : 1 ≤ js.length) (hn2 : js.length ≤ 3072) (hr : ∀ k, k < js.length → stq (B9 53) k = nI (js.getD k 0)) (hs : ∀ k, k < js.length → js.getD k 0 ≤ 400) (hs2 : ∀ ks, b = some ks → ∀ k, k < ks.length → ks.getD k 0 ≤ 400)
    (h1 : btr b js → Post 1 I9 J9 B9 D9) (h0 : ¬ btr b js → Post 0 I9 J9 B9 D9) : wp_LassoFinderModel_sooner I9 J9 B9 D9 (nI js.length) Post := by
  refine ⟨fun z => ?_, fun z => ⟨fun w => ?_, fun w => ?_⟩⟩
  · refine ⟨fun _ => ⟨Or.inr rfl, h1 ?_⟩, fun y => absurd z y⟩
    rcases hb with ⟨e, _⟩ | ⟨ks, e, e2, e3, e4, _⟩
    · rw [e]; trivial
    · exact absurd (e2.symm.trans z) (nI_nz (by omega) (by omega))
  · rcases hb with ⟨_, e⟩ | ⟨ks, e, e2, e3, e4, e5⟩
    · exact absurd e z
    have hl : js.length = ks.length := (eqI (x := nI js.length) rfl e2 (by omega) (by omega)).mp w
    have hsk := hs2 ks e
    subst e
    have hq : btr (some ks) js ↔ LXx (fun k => js.getD k 0) (fun k => ks.getD k 0) js.length := ⟨fun y => y.elim (fun y => by omega) (fun y => y.2), fun y => Or.inr ⟨hl, y⟩⟩
    have lp : ∀ t i, i + t = js.length → (∀ k, k < i → js.getD k 0 = ks.getD k 0) → wl_LassoFinderModel_sooner_38 (nI js.length) Post (t + 1) (nI js.length) (nI i) I9 J9 B9 D9 := by
      intro t
      induction t with
      | zero =>
        intro i hi hsame
        have hno : ¬ btr (some ks) js := fun y => by
          obtain ⟨k, k1, k2, k3⟩ := hq.mp y
          have k3' : js.getD k 0 < ks.getD k 0 := k3
          have := hsame k (by omega)
          omega
        have hle : nI js.length ≤ nI i := (leI (x := nI js.length) rfl (y := nI i) rfl (by omega) (by omega)).mpr (by omega)
        exact ⟨fun _ => ⟨fun _ => ⟨Or.inl rfl, h0 hno⟩, fun y => absurd hle y⟩, fun y => absurd hle y⟩
      | succ t ih =>
        intro i hi hsame
        have hnle : ¬ nI js.length ≤ nI i := fun y => by
          have := (leI (x := nI js.length) rfl (y := nI i) rfl (by omega) (by omega)).mp y; omega
        refine ⟨fun y => absurd y hnle, fun _ => ?_⟩
        have b1 := hs i (by omega)
        have b2 := hsk i (by omega)
        refine r_stepOf56 rfl (by omega) (fun z10 e10 => ?_)
        rw [h24, nI_add] at e10
        refine r_stepOf55 e10 (by omega) ?_
        rw [hr i (by omega), e5 i (by omega)]
        have qe : nI (js.getD i 0) = nI (ks.getD i 0) ↔ js.getD i 0 = ks.getD i 0 := eqI rfl rfl (by omega) (by omega)
        refine ⟨fun y => ⟨fun g => absurd g hnle, fun _ => ?_⟩, fun y z13 e13 => ?_⟩
        · have hne : ¬ js.getD i 0 = ks.getD i 0 := fun w => y (qe.mpr w)
          refine r_stepOf56 rfl (by omega) (fun z5 f5 => ?_)
          rw [h24, nI_add] at f5
          refine r_stepOf55 f5 (by omega) ?_
          rw [hr i (by omega), e5 i (by omega)]
          have ql : nI (ks.getD i 0) ≤ nI (js.getD i 0) ↔ ks.getD i 0 ≤ js.getD i 0 := leI rfl rfl (by omega) (by omega)
          refine ⟨fun u => ⟨Or.inl rfl, h0 (fun y => ?_)⟩, fun u => ⟨Or.inr rfl, h1 (hq.mpr ⟨i, by omega, hsame, ?_⟩)⟩⟩
          · obtain ⟨k, k1, k2, k3⟩ := hq.mp y
            have k3' : js.getD k 0 < ks.getD k 0 := k3
            have hge := ql.mp u
            rcases Nat.lt_trichotomy k i with g | g | g
            · have := hsame k g; omega
            · subst g; omega
            · exact hne (k2 i g)
          · have : ¬ ks.getD i 0 ≤ js.getD i 0 := fun w => u (ql.mpr w)
            show js.getD i 0 < ks.getD i 0
            omega
        · rw [inI rfl e13]
          refine ih (i + 1) (by omega) (fun k hk => ?_)
          by_cases e : k = i
          · subst e; exact qe.mp y
          · exact hsame k (by omega)
    exact ⟨js.length + 1, lp js.length 0 (by omega) (fun k hk => by omega)⟩
  · rcases hb with ⟨_, e⟩ | ⟨ks, e, e2, e3, e4, e5⟩
    · exact absurd e z
    have hne : ¬ js.length = ks.length := fun y => w (by rw [y, e2])
    refine ⟨fun y => absurd y z, fun _ => ⟨fun y => ⟨Or.inl rfl, h0 ?_⟩, fun y => ⟨Or.inr rfl, h1 ?_⟩⟩⟩
    · have := (leI e2 (y := nI js.length) rfl (by omega) (by omega)).mp y
      rw [e]
      rintro (g | ⟨g, _⟩) <;> omega
    · have : ¬ ks.length ≤ js.length := fun g => y ((leI e2 (y := nI js.length) rfl (by omega) (by omega)).mpr g)
      rw [e]
      exact Or.inl (by omega)
/-- the lasso as the reference keeps it -/
def LR9 (js cs : List Nat) (I9 : Nat → Int32) (B9 : Nat → Nat → Int32) : Prop := I9 24 = nI js.length ∧ I9 25 = nI cs.length ∧ (∀ k, k < js.length → stq (B9 52) k = nI (js.getD k 0)) ∧ (∀ k, k < cs.length → stq (B9 52) (js.length + k) = nI (cs.getD k 0))
def FV (I9 : Nat → Int32) (B9 : Nat → Nat → Int32) (I' : Nat → Int32) (B' : Nat → Nat → Int32) : Prop := (∀ k, k ∉ [0, 24, 25] → I' k = I9 k) ∧ (∀ k, k ∉ [49, 50, 51, 52, 53] → B' k = B9 k)
theorem SV.fv {mc : Nat} {d : zD} {Q : zQ} {X : zG} {out : List zIt} {I' : Nat → Int32} {B' : Nat → Nat → Int32} (h : SV mc d Q X out I9 B9) (g : FV I9 B9 I' B') : SV mc d Q X out I' B' := h.cg (fun k hk => g.1 k (by simp at hk ⊢; omega)) (fun k hk => g.2 k (by simp; omega))
theorem r_verify {Post : Int32 → (Nat → Int32) → (Nat → Int64) → (Nat → Nat → Int32) → (Nat → Nat → Int64) → Prop} {mc : Nat} {d : zD} {Q : zQ} {X : zG} {out : List zIt} (hS : SV mc d Q X out I9 B9) (hF : XF X (gN X)) (h0 : 0 < gN X) (h18 : I9 18 = 1)
    (hn : ∀ I' B', NLx d X out → I' 0 = 0 → I' 24 = -1 → FV I9 B9 I' B' → Post 1 I' J9 B' D9) (hy : ∀ js cs I' B', YLx d X out js cs → I' 0 = 0 → LR9 js cs I' B' → FV I9 B9 I' B' → Post 0 I' J9 B' D9) : wp_LassoFinderModel_verify I9 J9 B9 D9 Post := by
  have x1 := hS.1.1
  have x2 := hS.1.2.1
  have h3 := hS.2.1
  have p8 := p2_3 h3
  have z18 : ¬ I9 18 = 0 := by rw [h18]; decide
  refine ⟨fun z => absurd z z18, fun _ => ⟨fun _ => ?_, fun z => absurd z z18⟩⟩
  have fv0 : FV I9 B9 (upd (upd I9 0 0) 25 0) B9 := ⟨fun k hk => by simp at hk; simp [upd, hk], fun _ _ => rfl⟩
  refine r_shortest (hS.fv fv0) hF h0 (fun B1 hNL hB1 => ?_) (fun L dp B1 hD hB1 => ?_)
  · refine ⟨fun z => absurd z (by decide), fun _ => hn _ _ hNL (by simp [upd]) (by simp [upd]) ⟨fun k hk => by simp at hk; simp [upd, hk], fun k hk => hB1 k (by simp at hk ⊢; omega)⟩⟩
  · have hL768 := hD.2.2.2.2.2
    refine ⟨fun _ => ?_, fun z => absurd (nI_nn (by omega)) z⟩
    have e24 : upd (upd (upd I9 0 0) 25 0) 24 (nI L) 24 = nI L := by simp [upd]
    have e25 : upd (upd (upd I9 0 0) 25 0) 24 (nI L) 25 = 0 := by simp [upd]
    have e0 : upd (upd (upd I9 0 0) 25 0) 24 (nI L) 0 = 0 := by simp [upd]
    have fv1 : FV I9 B9 (upd (upd (upd I9 0 0) 25 0) 24 (nI L)) B1 := ⟨fun k hk => by simp at hk; simp [upd, hk], fun k hk => hB1 k (by simp at hk ⊢; omega)⟩
    generalize upd (upd (upd I9 0 0) 25 0) 24 (nI L) = I1 at e24 e25 e0 fv1
    have hS1 := hS.fv fv1
    refine r_stemOf hS1 hF h0 hD e24 (fun js s' Z' al B2 c1 c2 c3 c4 c5 c6 c7 c8 c9 c10 => ?_)
    subst c1
    have fv2 : FV I9 B9 I1 B2 := ⟨fv1.1, fun k hk => (c6 k (by simp at hk; omega)).trans (fv1.2 k hk)⟩
    have hS2 := hS.fv fv2
    -- the rounds of all guesses
    have lp : ∀ t i b I3 B3, i + t = 2 ^ ntm out → FCx d X out s' Z' i b → BS9 js.length b I3 B3 → FV I9 B9 I3 B3 → I3 0 = 0 → I3 24 = nI js.length → (∀ k, k < js.length → stq (B3 52) k = nI (js.getD k 0)) → wl_LassoFinderModel_verify_84 Post (t + 1) (nI al) (nI s') (nI i) I3 J9 B3 D9 := by
      intro t
      induction t with
      | zero =>
        intro i b I3 B3 hi hfc hbs hfv g0 g24 gst z7 e7
        have hS3 := hS.fv hfv
        rw [tw hS3] at e7
        refine ⟨fun _ => ?_, fun z => absurd ((leI e7 (y := nI i) rfl (by omega) (by omega)).mpr (by omega)) z⟩
        have hi' : i = 2 ^ ntm out := by omega
        subst hi'
        rcases hbs with ⟨e, _⟩ | ⟨cs, e, f1, f2, f3, f4⟩
        · -- there is a best one
          exfalso
          obtain ⟨g, hg⟩ := c9
          obtain ⟨hg1, hg2⟩ := c8 g hg
          have : ∀ i b, g < i → FCx d X out s' Z' i b → ¬ b = none := by
            intro i
            induction i with
            | zero => intro b hgi; omega
            | succ i ih2 =>
              rintro b hgi ⟨b0, k1, k2⟩
              by_cases e : g = i
              · subst e
                rcases k2 with ⟨k2, _⟩ | ⟨_, ks, _, k5⟩
                · exact absurd hg k2
                · rcases k5 with ⟨_, k5⟩ | ⟨k5, k6⟩
                  · rw [k5]; simp
                  · match b0, k5, k6 with
                    | none, k5, _ => exact absurd trivial k5
                    | some cs, _, k6 => rw [k6]; simp
              · have hb0 := ih2 b0 (by omega) k1
                rcases k2 with ⟨_, k4⟩ | ⟨_, ks, _, k5⟩
                · rw [k4]; exact hb0
                · rcases k5 with ⟨_, k5⟩ | ⟨_, k5⟩
                  · rw [k5]; simp
                  · rw [k5]; exact hb0
          exact this _ b hg1 hfc e
        · subst e
          refine hy js cs I3 B3 ⟨?_, fun g m hg hs hm hp => ?_, s', Z', c2, hfc⟩ g0 ⟨g24, f1, gst, f4⟩ hfv
          · obtain ⟨u, u1, u2⟩ := hD.2.2.2.2.1
            obtain ⟨g, g1, g2⟩ := pf_Pnx js.length 0 u u1 (Pnx_0.mpr u2)
            rw [Nat.zero_add] at g2
            exact ⟨g, g1.1, g1.2, g2⟩
          · obtain ⟨u, u1, u2⟩ := Pnx_pf hS.1 h3 m 0 g hp ⟨g, ⟨hg, hs⟩, rfl⟩
            have := hD.2.2.2.1 _ u u2 u1
            omega
      | succ t ih =>
        intro i b I3 B3 hi hfc hbs hfv g0 g24 gst z7 e7
        have hS3 := hS.fv hfv
        rw [tw hS3] at e7
        refine ⟨fun z => ?_, fun _ z9 e9 z10 e10 => ?_⟩
        · have := (leI e7 (y := nI i) rfl (by omega) (by omega)).mp z; omega
        have n10 : z10 = nI (b2n (al.testBit i)) := by rw [e10, e9]; exact nI_bit (by omega) (by omega)
        refine ⟨fun z => ?_, fun z z1 e1 => ?_⟩
        · have hzi : Z' i := (c4 i).mp (by
            cases hb : al.testBit i
            · rw [n10, hb] at z; exact absurd rfl z
            · rfl)
          obtain ⟨a1, a2⟩ := c8 i hzi
          have hv : 8 * s' + i < 8 * gN X := by omega
          have ed : (8 * s' + i) / 8 = s' := by omega
          have em : (8 * s' + i) % 8 = i := by omega
          refine r_round hS3 hF (by rw [ed]) (by rw [em]) hv (by rw [em]; exact a1) a2 (fun ks B4 hCY hr hB4 => ?_)
          have hkl := CGx_lt ks _ _ hCY.2
          have hk1 := hCY.1.1
          have hk2 := hCY.1.2.2.2
          have fv4 : FV I9 B9 I3 B4 := ⟨hfv.1, fun k hk => (hB4 k (by simp at hk ⊢; omega)).trans (hfv.2 k hk)⟩
          have h52 : B4 52 = B3 52 := hB4 52 (by decide)
          have hbs4 : BS9 js.length b I3 B4 := by
            rcases hbs with ⟨e, f⟩ | ⟨cs, e, f1, f2, f3, f4⟩
            · exact Or.inl ⟨e, f⟩
            · exact Or.inr ⟨cs, e, f1, f2, f3, by rw [h52]; exact f4⟩
          have hcl : ∀ cs, b = some cs → ∀ k, k < cs.length → cs.getD k 0 ≤ 400 := fun cs e k hk => by
            have := (FCx_lt i b hfc cs e).2.2 k hk
            omega
          refine r_sooner hL768 g24 hbs4 hk1 hk2 hr (fun k hk => by have := hkl k hk; omega) hcl (fun hbt => ?_) (fun hbt => ?_)
          · refine ⟨fun _ => ⟨ks.length + 1, ?_⟩, fun w => absurd w (by decide)⟩
            have cp : ∀ u k B5, k + u = ks.length → (∀ x, x ≠ 52 → B5 x = B4 x) → (∀ p, p < js.length → stq (B5 52) p = nI (js.getD p 0)) → (∀ p, p < k → stq (B5 52) (js.length + p) = nI (ks.getD p 0)) → wl_LassoFinderModel_verify_128 (wl_LassoFinderModel_verify_84 Post (t + 1)) Post (u + 1) (nI al) (nI s') (nI i) (nI ks.length) (nI k) I3 J9 B5 D9 := by
              intro u
              induction u with
              | zero =>
                intro k B5 hk hB5 hp1 hp2
                refine ⟨fun _ y1 f1 => ?_, fun w => absurd ((leI (x := nI ks.length) rfl (y := nI k) rfl (by omega) (by omega)).mpr (by omega)) w⟩
                rw [inI rfl f1]
                refine ih (i + 1) (some ks) _ B5 (by omega) ⟨b, hfc, Or.inr ⟨hzi, ks, hCY, Or.inl ⟨hbt, rfl⟩⟩⟩ (Or.inr ⟨ks, rfl, by simp [upd], hk1, hk2, fun p hp => hp2 p (by omega)⟩) ⟨fun x hx => ?_, fun x hx => (hB5 x (by simp at hx; omega)).trans (fv4.2 x hx)⟩ (by simp [upd]; exact g0) (by simp [upd]; exact g24) hp1
                have : ¬ x = 25 := by simp at hx; omega
                simp [upd, this]; exact hfv.1 x hx
              | succ u ihu =>
                intro k B5 hk hB5 hp1 hp2
                refine ⟨fun w => ?_, fun _ y3 f3 => ?_⟩
                · have := (leI (x := nI ks.length) rfl (y := nI k) rfl (by omega) (by omega)).mp w; omega
                rw [g24, nI_add] at f3
                refine r_stepOf56 rfl (by omega) (r_keep55 f3 (by omega) (fun y6 f6 => ?_))
                rw [inI rfl f6, hB5 53 (by decide), hr k (by omega)]
                have hkk := hkl k (by omega)
                refine ihu (k + 1) _ (by omega) (fun x hx => by simp [va_up, hx]; exact hB5 x hx) (fun p hp => ?_) (fun p hp => ?_)
                · have e52 : va_up B5 52 (kpq (B5 52) (js.length + k) (nI (ks.getD k 0))) 52 = kpq (B5 52) (js.length + k) (nI (ks.getD k 0)) := by simp [va_up]
                  rw [e52, kpq_ne _ (by omega) (by omega)]; exact hp1 p hp
                · have e52 : va_up B5 52 (kpq (B5 52) (js.length + k) (nI (ks.getD k 0))) 52 = kpq (B5 52) (js.length + k) (nI (ks.getD k 0)) := by simp [va_up]
                  rw [e52]
                  by_cases e : p = k
                  · subst e; exact kpq_at _ _ (by omega)
                  · rw [kpq_ne _ (by omega) (by omega)]; exact hp2 p (by omega)
            exact cp ks.length 0 B4 (by omega) (fun _ _ => rfl) (by rw [h52]; exact gst) (fun p hp => by omega)
          · refine ⟨fun w => absurd rfl w, fun _ y1 f1 => ?_⟩
            rw [inI rfl f1]
            exact ih (i + 1) b I3 B4 (by omega) ⟨b, hfc, Or.inr ⟨hzi, ks, hCY, Or.inr ⟨hbt, rfl⟩⟩⟩ hbs4 fv4 g0 g24 (by rw [h52]; exact gst)
        · rw [inI rfl e1]
          refine ih (i + 1) b I3 B3 (by omega) ⟨b, hfc, Or.inl ⟨fun w => ?_, rfl⟩⟩ hbs hfv g0 g24 gst
          rw [n10, (c4 i).mpr w] at z
          exact absurd z (by decide)
    have go : wc_LassoFinderModel_verify_81 Post (nI al) (nI s') I1 J9 B2 D9 := ⟨2 ^ ntm out + 1, lp (2 ^ ntm out) 0 none I1 B2 (by omega) rfl (Or.inl ⟨rfl, e25⟩) fv2 e0 e24 c5⟩
    have q24 : I1 24 ≤ 0 ↔ js.length ≤ 0 := leI e24 (y := 0) (b := 0) rfl (by omega) (by omega)
    refine ⟨fun z => ?_, fun z z20 e20 => ?_⟩
    · rcases c10 with ⟨_, e⟩ | ⟨e, _⟩
      · subst e; exact go
      · have := q24.mp z; omega
    · rcases c10 with ⟨e, _⟩ | ⟨e, j, j1, j2, j3⟩
      · exact absurd (q24.mpr (by omega)) z
      · have n20 : z20 = nI (js.length - 1) := deI (by rw [e24]; congr 1; omega) e20
        refine r_stepOf55 n20 (by omega) ?_
        rw [j2]
        refine ⟨vin2 rfl (by omega) (by omega), fun z22 e22 => ?_⟩
        rw [clI rfl (by omega), (hS2.2.2.2.2.2.2.2.2 j j1).2, j3] at e22
        rw [e22]; exact go
end ZS7
