/-! Statements: the reference's blocks, breaks and jumps. -/
section ZF3
variable {I : Nat → Int32} {J : Nat → Int64} {B : Nat → Nat → Int32} {D : Nat → Nat → Int64} {I9 : Nat → Int32} {J9 : Nat → Int64} {B9 : Nat → Nat → Int32} {D9 : Nat → Nat → Int64}
def arf (bk : Nat → Int32) (c : Int32) : Nat → Prop
  | 0 => False
  | d + 1 => bk (d + 1) = c ∨ arf bk c d
theorem q_around {Post : Int32 → (Nat → Int32) → (Nat → Int64) → (Nat → Nat → Int32) → (Nat → Nat → Int64) → Prop} {c : Int32} {d : Nat} (h12 : I9 12 = nI d) (hd : d ≤ 6) (h1 : arf (B9 25) c d → Post 1 I9 J9 B9 D9) (h0 : ¬ arf (B9 25) c d → Post 0 I9 J9 B9 D9) : wp_LassoFinderModel_around I9 J9 B9 D9 c Post := by
  have loop : ∀ (r i : Nat) (x : Int32), i + r = d → ((x = 1 ∧ arf (B9 25) c i) ∨ (x = 0 ∧ ¬ arf (B9 25) c i)) → wl_LassoFinderModel_around_4 c Post (r + 1) c x (nI (i + 1)) I9 J9 B9 D9 := by
    intro r
    induction r with
    | zero =>
      intro i x hi hx
      have hid : i = d := by omega
      subst hid
      refine ⟨fun _ => ?_, fun g => absurd ((ltI h12 rfl (by omega) (by omega)).mpr (by omega)) g⟩
      rcases hx with ⟨rfl, w⟩ | ⟨rfl, w⟩
      · exact ⟨Or.inr rfl, h1 w⟩
      · exact ⟨Or.inl rfl, h0 w⟩
    | succ r ih =>
      intro i x hi hx
      refine ⟨fun g => ?_, fun _ => ⟨fun g => ?_, fun g => ⟨vin2 rfl (by omega) (by omega), fun z4 e4 => ?_⟩⟩⟩
      · have := (ltI h12 rfl (by omega) (by omega)).mp g; omega
      · intro z1 e1
        have n1 : z1 = nI (i + 1 + 1) := inI rfl e1
        rw [n1]
        refine ih (i + 1) 1 (by omega) (Or.inl ⟨rfl, Or.inr ?_⟩)
        rcases hx with w | w
        · exact w.2
        · exact absurd w.1 g
      · rw [clI rfl (by omega)] at e4
        have hn : ¬ arf (B9 25) c i := by
          rcases hx with w | w
          · rw [w.1] at g; exact absurd g (by decide)
          · exact w.2
        refine ⟨fun g2 z1 e1 => ?_, fun g2 z1 e1 => ?_⟩
        · have n1 : z1 = nI (i + 1 + 1) := inI rfl e1
          rw [n1]
          exact ih (i + 1) 0 (by omega) (Or.inr ⟨rfl, fun w => w.elim (fun w => g2 (e4.trans w)) hn⟩)
        · have n1 : z1 = nI (i + 1 + 1) := inI rfl e1
          rw [n1]
          exact ih (i + 1) 1 (by omega) (Or.inl ⟨rfl, Or.inl (e4.symm.trans g2)⟩)
  exact ⟨d + 1, loop d 0 0 (by omega) (Or.inr ⟨rfl, fun w => w⟩)⟩
theorem arf_f {B : Nat → Nat → Int32} {sz : Nat} {bk9 : Nat → Int32} (hz : sz ≤ 240) : ∀ {F : zF}, okF B sz F → rep bk9 0 (F.map (fun x => nI x.1)) → (arf bk9 2 (F.length - 1) ↔ ¬ lpf F = -1) ∧ (arf bk9 3 (F.length - 1) ↔ ¬ atf F = -1) := by
  intro F
  induction F with
  | nil => intro h; exact h.elim
  | cons x r ih =>
    intro h h1
    rcases h.2 with ⟨w1, w2, w3⟩ | ⟨w1, w2, w3, j, hj, e1, e2, _⟩
    · subst w1
      simp [lpf, atf, w2, arf]
    · have hr := ih w1 h1.2
      cases r with
      | nil => exact w1.elim
      | cons y r' =>
        have a1 := h1.1
        simp only [List.length_map, List.length_cons, Nat.zero_add] at a1
        have hl : (x :: y :: r').length - 1 = r'.length + 1 := by simp
        have hl2 : (y :: r').length - 1 = r'.length := by simp
        rw [hl2] at hr
        rw [hl]
        simp only [arf]
        rw [a1]
        have c2 : nI x.1 = 2 ↔ x.1 = 2 := nI_lit (k := x.1) (by omega) (c := 2) (by omega)
        have c3 : nI x.1 = 3 ↔ x.1 = 3 := nI_lit (k := x.1) (by omega) (c := 3) (by omega)
        have hne : ¬ x.2.1 = -1 := by rw [e1]; exact nI_m1 (by omega)
        rw [c2, c3, hr.1, hr.2]
        constructor
        · by_cases g : x.1 = 2
          · simp [lpf, g, hne]
          · simp [lpf, g]
        · by_cases g : x.1 = 3
          · simp [atf, g, hne]
          · simp [atf, g]
theorem okF.bk0 {B : Nat → Nat → Int32} {sz bk : Nat} {nd lt : Int32} {fr : zF} (h : okF B sz ((bk, nd, lt) :: fr)) (hz : sz ≤ 240) : (bk = 0 ↔ nd = -1) ∧ bk ≤ 3 ∧ (fr = [] ↔ nd = -1) := by
  rcases h.2 with ⟨w1, w2, w3⟩ | ⟨w1, w2, w3, j, hj, e1, e2, _⟩
  · exact ⟨⟨fun _ => w3, fun _ => w2⟩, by have := w2; dsimp only at this; omega, ⟨fun _ => w3, fun _ => w1⟩⟩
  · have hne : ¬ nd = -1 := by have : nd = nI j := e1; rw [this]; exact nI_m1 (by omega)
    refine ⟨⟨fun z => by have := w2; dsimp only at this; omega, fun z => absurd z hne⟩, w3, ⟨fun z => ?_, fun z => absurd z hne⟩⟩
    rw [z] at w1; exact w1.elim
/-- which branch a statement takes -/
theorem r_head {Post : Int32 → (Nat → Int32) → (Nat → Int64) → (Nat → Nat → Int32) → (Nat → Nat → Int64) → Prop} {f : Nat → Int32} {n : Nat} {kd : Nat → Int32} {base p a sz pt bs ln cl bk : Nat} {nd lt : Int32} {fr : zF} (h : RG f n kd base p a sz pt bs ln cl 0 ((bk, nd, lt) :: fr) I B I9 B9)
    (k : ∀ y : Int32, (y = 1 ∧ ¬ nd = -1 ∧ lt = -1) ∨ (y = 0 ∧ ¬ (¬ nd = -1 ∧ lt = -1)) → wc_LassoFinderModel_statement_34 Post (tkn f n a) y I9 J9 B9 D9) : wp_LassoFinderModel_statement I9 J9 B9 D9 Post := by
  obtain ⟨⟨q1, q2, q3, q4, q5, q6, q7, q8, q9⟩, ⟨hTy, g8, g9, g10, gp, g11, gc, g12, g20⟩, ⟨c1, c2, c3, c4, c5⟩, ⟨f1, f2, f3⟩, hTR, hKR, hBR, hlab, hkn, hok, hTc⟩ := h
  simp only [List.length_cons] at c1 c2
  have t25 : B9 25 fr.length = nI bk := by have := rep_top f1; simpa using this
  have t27 : B9 27 fr.length = off base lt := by have := rep_top f3; simpa using this
  have g12' : I9 12 = nI fr.length := by simpa using g12
  have hb0 := hok.bk0 (by omega)
  have hv : vp_in (I9 12) 8 := vin2 g12' (by omega) (by omega)
  have hlt : okI lt sz := hok.1
  have hneg := (off_neg (base := base) hlt (by omega) (by omega)).1
  refine q_here hTy.tx ?_
  rw [hTy.tk]
  refine ⟨hv, fun z42 e42 => ?_⟩
  rw [clI g12' (by omega), t25] at e42
  have hle : z42 ≤ 0 ↔ bk = 0 := by rw [leI e42 (y := 0) (b := 0) rfl (by omega) (by omega)]; omega
  refine ⟨fun w => k 0 (Or.inr ⟨rfl, fun z => z.1 (hb0.1.mp (hle.mp w))⟩), fun w => ⟨hv, fun z44 e44 => ?_⟩⟩
  rw [clI g12' (by omega), t27] at e44
  have hnd : ¬ nd = -1 := fun z => w (hle.mpr (hb0.1.mpr z))
  refine ⟨fun w2 => k 0 (Or.inr ⟨rfl, fun z => ?_⟩), fun w2 => k 1 (Or.inl ⟨rfl, hnd, ?_⟩)⟩
  · rw [e44] at w2; exact absurd (hneg.mpr z.2) (Int32.not_lt.mpr w2)
  · rw [e44] at w2; exact hneg.mp (Int32.not_le.mp w2)
theorem okI_ge {base sz : Nat} {lt : Int32} (h : okI lt sz) (hs : sz ≤ 240) (hb : base ≤ 1000) : ∀ j, off base lt = nI j → j < base + sz → base ≤ j := by
  intro j e hj
  rcases h with rfl | ⟨i, hi, rfl⟩
  · rw [off_m] at e; exact absurd e.symm (nI_m1 (by omega))
  · rw [off_n (by omega)] at e
    have := nI_inj (by omega) (by omega) e; omega
theorem r_block_ok {Post : Int32 → (Nat → Int32) → (Nat → Int64) → (Nat → Nat → Int32) → (Nat → Nat → Int64) → Prop} {f : Nat → Int32} {n : Nat} {kd : Nat → Int32} {base p a sz pt bs ln cl bk kk : Nat} {nd lt : Int32} {fr : zF} {I1 I' : Nat → Int32} {B' : Nat → Nat → Int32} (h : RG f n kd base p a sz pt bs ln cl 0 ((bk, nd, lt) :: fr) I B I9 B9) (hl6 : ¬ fr.length = 6) (hkk : (kk = 1 ∧ tkn f n a = 91 ∧ ¬ I 17 = 30 ∧ adv (a + 1) I I1) ∨ (kk = 2 ∧ tkn f n a = 42 ∧ tkn f n (a + 1) = 91 ∧ ¬ I 17 = 30 ∧ adv (a + 2) I I1) ∨ (kk = 3 ∧ tkn f n a = 60 ∧ ati B nd = -1 ∧ adv (a + 1) I I1)) (hT : TA (nI kk) nd lt sz I1 B I' B')
    (k : ∀ I9' B9', RB f n kd base p (0, (kk, nI sz, -1) :: (bk, nd, nI sz) :: fr, I', J, B', D) I9' B9' → FB base p bs B9 B9' → FI I9 I9' → I9' 12 = I9 12 + 1 → Post 1 I9' J9 B9' D9) : wp_LassoFinderModel_statement I9 J9 B9 D9 Post := by
  have hG := h
  obtain ⟨⟨q1, q2, q3, q4, q5, q6, q7, q8, q9⟩, ⟨hTy, g8, g9, g10, gp, g11, gc, g12, g20⟩, ⟨c1, c2, c3, c4, c5⟩, ⟨f1, f2, f3⟩, hTR, hKR, hBR, hlab, hkn, hok, hTc⟩ := h
  simp only [List.length_cons] at c1 c2
  have g12' : I9 12 = nI fr.length := by simpa using g12
  have hk3 : 1 ≤ kk ∧ kk ≤ 3 := by rcases hkk with z | z | z <;> omega
  have hnd : okI nd sz := hok.hd
  have hlt : okI lt sz := hok.1
  have t27 : B9 27 fr.length = off base lt := by have := rep_top f3; simpa using this
  have hv10 : vp_in (I9 10) 5 := vin2 g10 (by omega) (by omega)
  have ck2 : (2 : Int32) < nI kk ↔ 2 < kk := ltI (x := 2) (a := 2) rfl rfl (by omega) (by omega)
  have ck7 : (7 : Int32) < nI (kk + 5) ↔ 2 < kk := by rw [ltI (x := 7) (a := 7) rfl rfl (by omega) (by omega)]; omega
  have ck5 : (5 : Int32) < nI (kk + 5) := (ltI (x := 5) (a := 5) rfl rfl (by omega) (by omega)).mpr (by omega)
  -- behind the sign that opens it: where it stands, with the class's place
  obtain ⟨a2, ha2, han, hadv, hp⟩ : ∃ a2, a + 1 ≤ a2 ∧ a2 ≤ n ∧ adv a2 I I1 ∧ (kk ≤ 2 → pt < 30) := by
    rcases hkk with ⟨z1, z2, z3, z4⟩ | ⟨z1, z2, z3, z4, z5⟩ | ⟨z1, z2, z3, z4⟩
    · exact ⟨a + 1, by omega, tkn_le z2 (by decide), z4, fun _ => n30 q3 q6 z3⟩
    · exact ⟨a + 2, by omega, tkn_le z3 (by decide), z5, fun _ => n30 q3 q6 z4⟩
    · exact ⟨a + 1, by omega, tkn_le z2 (by decide), z4, fun _ => by omega⟩
  have hn240 := hTy.2.2.2.1
  have inner : ∀ (In : Nat → Int32), (∀ j, j ≠ 2 → In j = I9 j) → In 2 = nI (a2 - 1) → ∀ Q : Int32 → (Nat → Int32) → (Nat → Int64) → (Nat → Nat → Int32) → (Nat → Nat → Int64) → Prop, (∀ I3 B3, wp_LassoFinderModel_enter I3 J9 B3 D9 (nI kk) (nI (base + sz)) (fun I J B D => Post 1 I J B D) → Q (nI (base + sz)) I3 J9 B3 D9) → wp_LassoFinderModel_node In J9 B9 D9 (nI (kk + 5)) Q := by
    intro In hIn h2 Q hQ
    refine r_node hG hT (hadv.2 17 (by decide)) hIn (by rw [ck2, ck7]) (fun _ => ck5) (fun z => hp (by have : ¬ 2 < kk := fun w => z (ck7.mpr w); omega)) (fun z => absurd ck5 z) ?_
    intro I3 B3 hN hTR' hrep27
    refine hQ I3 B3 ?_
    obtain ⟨n1, n2, n3, n5, n6, n7, n8, n9, n10, n11, n27, n20, n23, n19, n18, nk⟩ := id hN
    obtain ⟨t1, t2, t3, t18, t19, t20, t21, t22, t23, t24, t25, tk⟩ := id hT
    have i12 : I3 12 = nI fr.length := (n3 12 (by decide)).trans ((hIn 12 (by decide)).trans g12')
    have i2 : I3 2 = nI (a2 - 1) := (n3 2 (by decide)).trans h2
    intro z1 e1
    have m1 := inI i12 e1
    have hv1 : vp_in z1 8 := vin2 m1 (by omega) (by omega)
    refine ⟨hv1, hv1, hv1, fun z2 e2 => ?_⟩
    have m2 : z2 = nI a2 := by
      have := inI i2 e2
      rw [this]; congr 1; omega
    rw [clI m1 (by omega)]
    have hfb : FB base p bs B9 B3 := hN.fb (fun z => by have := hp (by have : ¬ 2 < kk := fun w => z (ck7.mpr w); omega); omega) (by rw [t27]; exact (off_neg hlt (by omega) (by omega)).2) (by rw [t27]; exact okI_ge hlt (by omega) (by omega)) (by omega)
    refine k _ _ (RG.rb (a := a2) (sz := sz + 1) (pt := if kk ≤ 2 then pt + 1 else pt) (bs := bs) (ln := ln) (cl := cl) ?_ ?_ ?_ ?_ ?_ ?_ ?_ ?_ ?_) (hfb.tr ⟨fun j hj => ?_, fun q hq => by simp [va_up], fun j hj => by simp [va_up], fun j hj => by simp [va_up], fun j hj => ?_, same.of (by simp [va_up])⟩) (fun j hj => ?_) ?_
    · refine ⟨(t3 5 (by decide)).trans hadv.1, t1, ?_, (t3 9 (by decide)).trans ((hadv.2 9 (by decide)).trans q4), (t3 11 (by decide)).trans ((hadv.2 11 (by decide)).trans q5), ?_, q7, q8, (t3 10 (by decide)).trans ((hadv.2 10 (by decide)).trans q9)⟩
      · rw [t2, hadv.2 17 (by decide)]
        by_cases g : kk ≤ 2
        · rw [if_neg (fun z => by have := ck2.mp z; omega), if_pos g]; exact inI q3 rfl
        · rw [if_pos (ck2.mpr (by omega)), if_neg g]; exact q3
      · by_cases g : kk ≤ 2
        · rw [if_pos g]; have := hp g; omega
        · rw [if_neg g]; omega
    · refine ⟨?_, ?_, ?_, ?_, gp, ?_, by omega, ?_, ?_⟩
      · have e : TY (B9 0) f z2 (I9 1) a2 n := hTy.up m2 han
        have e0 : (va_up (va_up (va_up B3 25 (upd (B3 25) (fr.length + 1) (nI kk))) 26 (upd (B3 26) (fr.length + 1) (nI (base + sz)))) 27 (upd (B3 27) (fr.length + 1) (-1))) 0 = B9 0 := by simp [va_up, nk 0 (by decide)]
        have e1' : (upd (upd I3 12 z1) 2 z2) 1 = I9 1 := by simp [upd, n3 1 (by decide), hIn 1 (by decide)]
        have e2' : (upd (upd I3 12 z1) 2 z2) 2 = z2 := by simp [upd]
        rw [e0, e1', e2']; exact e
      · simpa [upd, Nat.add_assoc] using n1
      · have : I3 9 = nI bs := by rw [n2, if_pos ck5, hIn 9 (by decide)]; exact g9
        simpa [upd] using this
      · have : I3 10 = nI p := (n3 10 (by decide)).trans ((hIn 10 (by decide)).trans g10)
        simpa [upd] using this
      · have : I3 11 = nI cl := (n3 11 (by decide)).trans ((hIn 11 (by decide)).trans g11)
        simpa [upd] using this
      · simp [upd, m1]
      · have : B3 20 p = nI (if kk ≤ 2 then pt + 1 else pt) := by
          rw [n20]
          by_cases g : kk ≤ 2
          · rw [if_neg (fun z => by have := ck7.mp z; omega), if_pos g]; simp only [upd, if_true]; exact inI g20 rfl
          · rw [if_pos (ck7.mpr (by omega)), if_neg g]; exact g20
        simpa [va_up] using this
    · simp only [List.length_cons]; omega
    · refine ⟨?_, ?_, ?_⟩
      · simp only [va_up, List.map_cons]
        simp only [show ¬ (25 : Nat) = 27 by decide, show ¬ (25 : Nat) = 26 by decide, if_false, if_true]
        rw [nk 25 (by decide)]
        exact rep_push f1 _ (by simp)
      · simp only [va_up, List.map_cons]
        simp only [show ¬ (26 : Nat) = 27 by decide, show ¬ (26 : Nat) = 25 by decide, if_false, if_true]
        rw [nk 26 (by decide), off_n (by omega)]
        exact rep_push f2 _ (by simp)
      · simp only [va_up, List.map_cons]
        simp only [if_true, off_m]
        exact rep_push hrep27 _ (by simp)
    · refine hTR'.same same.rf same.rf same.rf same.rf same.rf ?_ ?_ ?_ ?_ ?_ ?_
      all_goals simp [va_up]
    · intro j hj
      by_cases e : j = sz
      · subst e
        have b18 : B' 18 j = nI kk := by rw [t18]; simp [upd]
        have c0 : ¬ nI kk = 0 := nI_ne0 (by omega) (by omega)
        have c5' : ¬ nI kk = 5 := fun z => by have := (nI_lit (k := kk) (by omega) (c := 5) (by omega)).mp z; omega
        refine ⟨?_, fun z => ?_, fun z => ?_, fun z => ?_, fun z => ?_, fun z => ?_⟩
        · rw [b18]
          have : kk = 1 ∨ kk = 2 ∨ kk = 3 := by omega
          rcases this with rfl | rfl | rfl
          · exact Or.inr (Or.inl rfl)
          · exact Or.inr (Or.inr (Or.inl rfl))
          · exact Or.inr (Or.inr (Or.inr (Or.inl rfl)))
        · rw [b18] at z; exact absurd z c0
        · rw [b18]
          have : B3 5 (base + j) = nI (kk + 5) := by rw [n5]; simp [upd]
          simp only [va_up]
          simp only [show ¬ (5 : Nat) = 27 by decide, show ¬ (5 : Nat) = 26 by decide, show ¬ (5 : Nat) = 25 by decide, if_false]
          rw [this, ← nI_add]; rfl
        · rw [b18] at z; exact absurd z c5'
        · rw [b18] at z
          have hk2 : kk ≤ 2 := by
            have : ¬ 2 < kk := fun w => z (ck2.mpr w)
            omega
          refine ⟨pt, by rw [if_pos hk2]; omega, ?_, ?_⟩
          · rw [t25, if_neg z, hadv.2 17 (by decide)]; simp [upd, q3]
          · have : B3 23 (31 * p + pt) = nI (base + j) := by
              rw [n23, if_neg (fun w => by have := ck7.mp w; omega)]; simp [upd]
            simpa [va_up] using this
        · rw [b18] at z
          rw [t25, if_pos z]; simp [upd]
      · have := KR_old hKR hT hN (pt' := if kk ≤ 2 then pt + 1 else pt) (bs' := bs) (by split <;> omega) (Nat.le_refl _) hlt j (by omega)
        refine this.up (Nat.le_refl _) (Nat.le_refl _) rfl rfl rfl rfl same.rf ?_ ?_ ?_ ?_ (fun q hq => ?_)
        all_goals first | (simp [va_up]; done) | exact same.of (by simp [va_up])
    · intro b hb
      refine (BR_old hBR hT hN b hb).up (Nat.le_refl _) (Nat.le_refl _) (by omega) rfl rfl rfl rfl rfl same.rf ?_ ?_ ?_ ?_ ?_ ?_ ?_ ?_ ?_ ?_
      all_goals first | (simp [va_up]; done) | exact same.of (by simp [va_up])
    · intro l hl
      obtain ⟨w1, w2⟩ := hlab l hl
      rw [tk 28 (by decide)]
      refine ⟨by simp [va_up, nk 22 (by decide), w1], w2.imp id (fun ⟨j, hj, e⟩ => ⟨j, by omega, e⟩)⟩
    · intro j hj; simpa [va_up, nk 1 (by decide), nk 2 (by decide)] using hkn j hj
    · simp at hj
      exact same.of (by rcases hj with rfl | rfl | rfl | rfl | rfl | rfl | rfl | rfl | rfl <;> simp [va_up])
    · simp at hj; simp [va_up, hj]
    · have hj' := hj
      simp at hj
      simp only [upd, hj, if_false]
      rw [n3 j (by simp [hj]), hIn j (by simp [hj])]
    · simp only [upd]
      simp only [show ¬ (12 : Nat) = 2 by decide, if_false, if_true]
      rw [m1, g12', nI_1]
  refine r_head hG (fun y hy => ?_)
  rcases hkk with ⟨rfl, z2, z3, z4⟩ | ⟨rfl, z2, z3, z4, z5⟩ | ⟨rfl, z2, z3, z4⟩
  · -- "["
    have ea : a2 = a + 1 := by
      have := hadv.1.symm.trans z4.1
      exact nI_inj (by omega) (by omega) this
    refine ⟨fun _ => ⟨hv10, fun z10 e10 => ?_⟩, fun w => absurd z2 w⟩
    rw [clI g10 (by omega), g20, ← q3] at e10
    refine ⟨fun _ => ⟨fun _ z5 e5 => ?_, fun w => by rw [z2] at w; exact absurd w (by decide)⟩, fun w => absurd (e10.symm.trans w) z3⟩
    have m5 : z5 = nI a := by rw [e5, hTy.1]; grind
    have hT0 : TY (B9 0) f (upd I9 2 z5 2) (upd I9 2 z5 1) a n := hTy.up m5 hTy.2.2.1
    refine q_here hT0.tx ?_
    rw [hT0.tk]
    refine ⟨fun w => absurd z2 w, fun _ => ⟨fun _ => ⟨fun _ => ?_, fun w => by rw [z2] at w; exact absurd w (by decide)⟩, fun w => ?_⟩⟩
    · exact inner (upd I9 2 z5) (fun j hj => by simp [upd, hj]) (by simp [upd, m5, ea]) _ (fun I3 B3 w => ⟨fun _ => w, fun w2 => by rw [z2] at w2; exact absurd w2 (by decide)⟩)
    · exact absurd ((nI_lit (k := fr.length) (by omega) (c := 6) (by omega)).mp (by have : (upd I9 2 z5) 12 = nI fr.length := g12'; rw [← this]; exact w)) hl6
  · -- "*["
    have ea : a2 = a + 2 := by
      have := hadv.1.symm.trans z5.1
      exact nI_inj (by omega) (by omega) this
    have ha1 := tkn_le z2 (by decide)
    refine ⟨fun w => by rw [z2] at w; exact absurd w (by decide), fun _ => ⟨fun w => absurd z2 w, fun _ => ⟨hv10, fun z10 e10 => ?_⟩⟩⟩
    rw [clI g10 (by omega), g20, ← q3] at e10
    refine ⟨fun _ => ⟨fun w => absurd z2 w, fun _ z6 e6 => ?_⟩, fun w => absurd (e10.symm.trans w) z4⟩
    have m5 : z6 = nI (a + 1) := inI hTy.1 e6
    have hT0 : TY (B9 0) f (upd I9 2 z6 2) (upd I9 2 z6 1) (a + 1) n := hTy.up m5 ha1
    refine q_here hT0.tx ?_
    rw [hT0.tk]
    refine ⟨fun w => absurd z3 w, fun _ => ⟨fun _ => ⟨fun w => absurd z2 w, fun _ => ?_⟩, fun w => ?_⟩⟩
    · exact inner (upd I9 2 z6) (fun j hj => by simp [upd, hj]) (by simp [upd, m5, ea]) _ (fun I3 B3 w => ⟨fun w2 => absurd z2 w2, fun _ => w⟩)
    · exact absurd ((nI_lit (k := fr.length) (by omega) (c := 6) (by omega)).mp (by have : (upd I9 2 z6) 12 = nI fr.length := g12'; rw [← this]; exact w)) hl6
  · -- "<"
    have ea : a2 = a + 1 := by
      have := hadv.1.symm.trans z4.1
      exact nI_inj (by omega) (by omega) this
    have hin := hok.inside (by omega)
    have har := arf_f (by omega) hok f1
    simp only [List.length_cons, Nat.add_sub_cancel] at har
    have hna : ¬ arf (B9 25) 3 fr.length := fun w => (har.2.mp w) (by rw [← hin.2]; exact z3)
    refine ⟨fun w => by rw [z2] at w; exact absurd w (by decide), fun _ => ⟨fun _ => ⟨fun w => absurd z2 w, fun _ => ?_⟩, fun w => by rw [z2] at w; exact absurd w (by decide)⟩⟩
    refine q_around g12' (by omega) (fun w => absurd w hna) (fun _ => ⟨fun w => absurd rfl w, fun _ => ⟨fun _ => ?_, fun w => ?_⟩⟩)
    · exact inner I9 (fun _ _ => rfl) (by rw [ea]; exact hTy.1) _ (fun I3 B3 w => w)
    · exact absurd ((nI_lit (k := fr.length) (by omega) (c := 6) (by omega)).mp (by rw [← g12']; exact w)) hl6
end ZF3
