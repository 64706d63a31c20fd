/-! Statements: what holds all along the reading of a process. -/
section ZE4
variable {I : Nat → Int32} {J : Nat → Int64} {B : Nat → Nat → Int32} {D : Nat → Nat → Int64}
def hdn : zF → Int32
  | [] => -1
  | x :: _ => x.2.1
def okF (B : Nat → Nat → Int32) (sz : Nat) : zF → Prop
  | [] => False
  | x :: r => okI x.2.2 sz ∧ ((r = [] ∧ x.1 = 0 ∧ x.2.1 = -1) ∨ (okF B sz r ∧ 1 ≤ x.1 ∧ x.1 ≤ 3 ∧ ∃ j, j < sz ∧ x.2.1 = nI j ∧ B 18 j = nI x.1 ∧ B 20 j = lpi B (hdn r) ∧ B 21 j = ati B (hdn r) ∧ B 19 j = hdn r))
theorem okF.hd {B : Nat → Nat → Int32} {sz : Nat} {F : zF} (h : okF B sz F) : okI (hdn F) sz := by
  cases F with
  | nil => exact h.elim
  | cons x r =>
    rcases h.2 with h | h
    · exact Or.inl h.2.2
    · obtain ⟨j, hj, e, _⟩ := h.2.2.2
      exact Or.inr ⟨j, hj, e⟩
theorem lpi_eq {B B' : Nat → Nat → Int32} {sz : Nat} {o : Int32} (ho : okI o sz) (hz : sz ≤ 240) (h18 : ∀ k, k < sz → B' 18 k = B 18 k) (h20 : ∀ k, k < sz → B' 20 k = B 20 k) (h21 : ∀ k, k < sz → B' 21 k = B 21 k) : lpi B' o = lpi B o ∧ ati B' o = ati B o := by
  unfold lpi ati
  by_cases g : o = -1
  · simp only [if_pos g]; exact ⟨trivial, trivial⟩
  · obtain ⟨j, hj, e⟩ := ho.at g
    simp only [if_neg g]
    rw [clI e (by omega), h18 j hj, h20 j hj, h21 j hj]; exact ⟨rfl, rfl⟩
theorem okF.up {B B' : Nat → Nat → Int32} {sz sz' : Nat} {F : zF} (h : okF B sz F) (hz : sz ≤ 240) (hs : sz ≤ sz') (h18 : ∀ k, k < sz → B' 18 k = B 18 k) (h19 : ∀ k, k < sz → B' 19 k = B 19 k) (h20 : ∀ k, k < sz → B' 20 k = B 20 k) (h21 : ∀ k, k < sz → B' 21 k = B 21 k) : okF B' sz' F := by
  induction F with
  | nil => exact h
  | cons x r ih =>
    refine ⟨h.1.mono hs, ?_⟩
    rcases h.2 with w | ⟨w1, w2, w3, j, hj, e1, e2, e3, e4, e5⟩
    · exact Or.inl w
    · have hh := lpi_eq w1.hd hz h18 h20 h21
      exact Or.inr ⟨ih w1, w2, w3, j, by omega, e1, by rw [h18 j hj]; exact e2, by rw [h20 j hj, hh.1]; exact e3, by rw [h21 j hj, hh.2]; exact e4, by rw [h19 j hj]; exact e5⟩
/-- the innermost repetition and the innermost atomic -/
def lpf : zF → Int32
  | [] => -1
  | x :: r => if x.1 = 2 then x.2.1 else lpf r
def atf : zF → Int32
  | [] => -1
  | x :: r => if x.1 = 3 then x.2.1 else atf r
theorem nI_lit {k : Nat} (hk : k ≤ 1000) {c : Nat} (hc : c ≤ 1000) : nI k = nI c ↔ k = c := nI_eq (by omega) (by omega)
theorem okF.inside {B : Nat → Nat → Int32} {sz : Nat} {F : zF} (h : okF B sz F) (hz : sz ≤ 240) : lpi B (hdn F) = lpf F ∧ ati B (hdn F) = atf F := by
  induction F with
  | nil => exact h.elim
  | cons x r ih =>
    rcases h.2 with ⟨w1, w2, w3⟩ | ⟨w1, w2, w3, j, hj, e1, e2, e3, e4, e5⟩
    · subst w1
      simp only [hdn, lpf, atf, lpi, ati, w3, w2]
      simp
    · have hi := ih w1
      have hne : ¬ x.2.1 = -1 := by rw [e1]; exact nI_m1 (by omega)
      have hc : x.2.1.toNatClampNeg = j := clI e1 (by omega)
      simp only [hdn, lpf, atf, lpi, ati, if_neg hne, hc, e2, e3, e4]
      have c2 : nI x.1 = 2 ↔ x.1 = 2 := nI_lit (k := x.1) (by omega) (c := 2) (by omega)
      have c3 : nI x.1 = 3 ↔ x.1 = 3 := nI_lit (k := x.1) (by omega) (c := 3) (by omega)
      constructor
      · by_cases g : x.1 = 2
        · rw [if_pos (c2.mpr g), if_pos g]
        · rw [if_neg (fun z => g (c2.mp z)), if_neg g]; exact hi.1
      · by_cases g : x.1 = 3
        · rw [if_pos (c3.mpr g), if_pos g]
        · rw [if_neg (fun z => g (c3.mp z)), if_neg g]; exact hi.2
def BI (f : Nat → Int32) (n : Nat) (kd : Nat → Int32) (s : zBo) : Prop := ∃ (a sz pt bs pr ln : Nat), TY (s.2.2.2.2.1 1) f (s.2.2.1 5) (s.2.2.1 4) a n ∧ s.2.2.1 16 = nI sz ∧ s.2.2.1 17 = nI pt ∧ s.2.2.1 9 = nI bs ∧ s.2.2.1 10 = nI pr ∧ s.2.2.1 11 = nI ln ∧ pt ≤ 30 ∧ bs ≤ 48 ∧ pr ≤ 3 ∧ ln ≤ 2 * a ∧ 2 * sz + 1 ≤ a + s.2.1.length + s.1 ∧ s.2.1.length ≤ 7 ∧ s.1 ≤ 1 ∧ (∀ j, j < 8 → s.2.2.2.2.1 2 j = kd j) ∧ okF s.2.2.2.2.1 sz s.2.1
theorem nI_inj {a b : Nat} (ha : a ≤ 100000) (hb : b ≤ 100000) (h : nI a = nI b) : a = b := (nI_eq (by omega) (by omega)).mp h
theorem BAS.place {f : Nat → Int32} {n : Nat} {kd : Nat → Int32} {bk : Nat} {nd lt : Int32} {a : Nat} {pk ch vr : Int32} {ex : Nat} {out : List Int32} {a' : Nat} (ha : a ≤ n) (h : BAS f n kd bk nd lt a pk ch vr ex out a') : a < a' ∧ a' ≤ n ∧ ex ≤ 1 ∧ (ex = 1 → out.length + a + 1 ≤ a' ∧ okR out ∧ ht out = 1 ∧ nod out ≤ 12 ∧ KN kd out) ∧ (pk = 3 → vp_in ch 8) := by
  rcases h with ⟨h1, h2, h3, h4, h5, h6, h7⟩ | ⟨h1, h2, h3, h4, h5, h6, h7, h8, h9, h10⟩ | ⟨h1, h2, h3, h4, h5, a1, h6, h7, h8⟩ | ⟨h1, h2, h3, h4, h5, h6, h7, h8⟩ | ⟨h1, h2, h3, h4, h5, h6, h7, h8, h9⟩ | ⟨h1, h2, h3, h4, h5, h6, h7, h8, h9, h10, h11, h12⟩
  · have := tkn_le h1 (by decide)
    exact ⟨by omega, by omega, by omega, fun z => by omega, fun z => by rw [h2] at z; exact absurd z (by decide)⟩
  · have := tkn_le h1 (by decide)
    exact ⟨by omega, by omega, by omega, fun z => by omega, fun z => by rw [h5] at z; exact absurd z (by decide)⟩
  · have h9 := tkn_le h1 (by decide)
    have h10 := tkn_le h7 (by decide)
    obtain ⟨g1, g2, g3, g4, g5, g6, g7⟩ := EXP.facts (by omega) h9 h6
    exact ⟨by omega, by omega, by omega, fun _ => ⟨by omega, g1, g2, g3, g4⟩, fun z => by rw [h2] at z; exact absurd z (by decide)⟩
  · have h10 := tkn_le h3 (by decide)
    obtain ⟨g1, g2, g3, g4, g5, g6, g7⟩ := EXP.facts (by omega) h10 h8
    exact ⟨by omega, by omega, by omega, fun _ => ⟨by omega, g1, g2, g3, g4⟩, fun z => by rw [h4] at z; exact absurd z (by decide)⟩
  · have h10 := tkn_le h4 (by decide)
    obtain ⟨g1, g2, g3, g4, g5, g6, g7⟩ := EXP.facts (by omega) h10 h9
    exact ⟨by omega, by omega, by omega, fun _ => ⟨by omega, g1, g2, g3, g4⟩, fun z => by rw [h5] at z; exact absurd z (by decide)⟩
  · have := one_tk (Or.inr (Or.inr rfl)) h5
    exact ⟨by omega, by omega, by omega, fun z => by omega, fun _ => by rw [h8]; exact (one_lt h1).2⟩
theorem TA.okF {kind outer prev : Int32} {sz : Nat} {I' : Nat → Int32} {B' : Nat → Nat → Int32} {F : zF} (h : TA kind outer prev sz I B I' B') (hz : sz ≤ 240) (hF : okF B sz F) : okF B' (sz + 1) F := by
  obtain ⟨_, _, _, t18, t19, t20, t21, _⟩ := h
  refine hF.up hz (by omega) ?_ ?_ ?_ ?_
  all_goals (intro k hk; have : ¬ k = sz := by omega)
  · rw [t18]; simp [upd, this]
  · rw [t19]; simp [upd, this]
  · rw [t20]; simp [upd, this]
  · rw [t21]; simp [upd, this]
theorem okF.lt {B : Nat → Nat → Int32} {sz bk : Nat} {nd lt lt' : Int32} {fr : zF} (h : okF B sz ((bk, nd, lt) :: fr)) (hl : okI lt' sz) : okF B sz ((bk, nd, lt') :: fr) := ⟨hl, h.2⟩
theorem BI_get {f : Nat → Int32} {n : Nat} {kd : Nat → Int32} {m : Nat} {F : zF} (hB : BI f n kd (m, F, I, J, B, D)) {a sz bs ln : Nat} (h : I 5 = nI a ∧ I 16 = nI sz ∧ I 9 = nI bs ∧ I 11 = nI ln ∧ a ≤ 1000 ∧ sz ≤ 1000 ∧ bs ≤ 1000 ∧ ln ≤ 1000) : ∃ pt pr, TY (B 1) f (I 5) (I 4) a n ∧ I 17 = nI pt ∧ I 10 = nI pr ∧ pt ≤ 30 ∧ bs ≤ 48 ∧ pr ≤ 3 ∧ ln ≤ 2 * a ∧ 2 * sz + 1 ≤ a + F.length + m ∧ F.length ≤ 7 ∧ m ≤ 1 ∧ (∀ j, j < 8 → B 2 j = kd j) ∧ okF B sz F ∧ sz ≤ 140 := by
  obtain ⟨a2, sz2, pt, bs2, pr, ln2, hT, h16, h17, h9, h10, h11, l1, l2, l3, l4, l5, l6, l7, l8, l9⟩ := hB
  obtain ⟨e1, e2, e3, e4, b1, b2, b3, b4⟩ := h
  dsimp only at hT h16 h17 h9 h10 h11 l5 l6 l7 l8 l9
  have hn := hT.2.2.1
  have hn2 := hT.2.2.2.1
  have q1 : a2 = a := nI_inj (by omega) (by omega) (hT.1.symm.trans e1)
  have q2 : sz2 = sz := nI_inj (by omega) (by omega) (h16.symm.trans e2)
  have q3 : bs2 = bs := nI_inj (by omega) (by omega) (h9.symm.trans e3)
  have q4 : ln2 = ln := nI_inj (by omega) (by omega) (h11.symm.trans e4)
  subst q1; subst q2; subst q3; subst q4
  exact ⟨pt, pr, hT, h17, h10, l1, l2, l3, l4, l5, l6, l7, l8, l9, by omega⟩
theorem n30 {pt : Nat} {x : Int32} (h : x = nI pt) (hp : pt ≤ 30) (hx : ¬ x = 30) : pt < 30 := by
  have : ¬ pt = 30 := fun z => hx (by rw [h, z]; rfl)
  omega
theorem BI_step {f : Nat → Int32} {n : Nat} {kd : Nat → Int32} {s t : zBo} (hB : BI f n kd s) (h : bst f n kd s t) : BI f n kd t := by
  obtain ⟨a, sz, bs, ln, bk, nd, lt, fr, I, I', J, J', B, B', D, D', hh, h⟩ := h
  rcases h with ⟨rfl, rfl, h0, hx, hy, h1, h2, h3⟩ | ⟨kk, I1, rfl, rfl, hl6, h1, h2⟩ | ⟨I1, rfl, rfl, h0, hx, hy, h1, h2⟩ | ⟨I1, B1, rfl, rfl, h0, hx, hy, h1, h2, h3, h4, h5⟩ | ⟨pk, ch, vr, ex, out, a', rfl, rfl, hp30, hb48, hbas, h⟩ | ⟨rfl, rfl, h0, h1⟩ | ⟨rfl, rfl, h0, h1⟩ | ⟨rfl, rfl, h0, hx, h1⟩
  all_goals obtain ⟨pt, pr, hT, h17, h10, l1, l2, l3, l4, l5, l6, l7, l8, l9, l10⟩ := BI_get hB hh
  all_goals obtain ⟨e1, e2, e3, e4, b1, b2, b3, b4⟩ := hh
  all_goals simp only [List.length_cons] at l5 l6
  · -- a label
    have := one_tk (Or.inr (Or.inl rfl)) hx
    refine ⟨a + 2, sz, pt, bs, pr, ln, ?_, ?_, ?_, ?_, ?_, ?_, l1, l2, l3, by omega, ?_, l6, l7, ?_, ?_⟩
    · have e : TY (B 1) f (I' 5) (I 4) (a + 2) n := hT.up h1.1 (by omega)
      dsimp only; rw [h3 1 (by decide), h1.2 4 (by decide)]; exact e
    · exact (h1.2 16 (by decide)).trans e2
    · exact (h1.2 17 (by decide)).trans h17
    · exact (h1.2 9 (by decide)).trans e3
    · exact (h1.2 10 (by decide)).trans h10
    · exact (h1.2 11 (by decide)).trans e4
    · simp only [List.length_cons]; omega
    · dsimp only; rw [h3 2 (by decide)]; exact l8
    · refine l9.up (by omega) (Nat.le_refl _) ?_ ?_ ?_ ?_
      · exact fun k _ => congrFun (h3 18 (by decide)) k
      · exact fun k _ => congrFun (h3 19 (by decide)) k
      · exact fun k _ => congrFun (h3 20 (by decide)) k
      · exact fun k _ => congrFun (h3 21 (by decide)) k
  · -- a block
    obtain ⟨t1, t2, t3, t18, t19, t20, t21, t22, t23, t24, t25, tk⟩ := id h2
    have hk : 1 ≤ kk ∧ kk ≤ 3 := by rcases h1 with z | z | z <;> omega
    have hfl : fr.length < 6 := by omega
    have c2 : (2 : Int32) < nI kk ↔ 2 < kk := ltI (x := 2) (a := 2) rfl rfl (by omega) (by omega)
    obtain ⟨a2, ha2, han, hadv, hp⟩ : ∃ a2, a + 1 ≤ a2 ∧ a2 ≤ n ∧ adv a2 I I1 ∧ (kk ≤ 2 → pt < 30) := by
      rcases h1 with ⟨z1, z2, z3, z4⟩ | ⟨z1, z2, z3, z4, z5⟩ | ⟨z1, z2, z3, z4⟩
      · exact ⟨a + 1, by omega, tkn_le z2 (by decide), z4, fun _ => n30 h17 l1 z3⟩
      · exact ⟨a + 2, by omega, tkn_le z3 (by decide), z5, fun _ => n30 h17 l1 z4⟩
      · exact ⟨a + 1, by omega, tkn_le z2 (by decide), z4, fun _ => by omega⟩
    refine ⟨a2, sz + 1, if kk ≤ 2 then pt + 1 else pt, bs, pr, ln, ?_, t1, ?_, ?_, ?_, ?_, ?_, l2, l3, by omega, ?_, ?_, by omega, ?_, ?_⟩
    · have e : TY (B 1) f (I' 5) (I 4) a2 n := hT.up ((t3 5 (by decide)).trans hadv.1) han
      dsimp only; rw [tk 1 (by decide), t3 4 (by decide), hadv.2 4 (by decide)]; exact e
    · dsimp only
      rw [t2, hadv.2 17 (by decide)]
      by_cases g : kk ≤ 2
      · rw [if_neg (fun z => by have := c2.mp z; omega), if_pos g]; exact inI h17 rfl
      · rw [if_pos (c2.mpr (by omega)), if_neg g]; exact h17
    · exact ((t3 9 (by decide)).trans (hadv.2 9 (by decide))).trans e3
    · exact ((t3 10 (by decide)).trans (hadv.2 10 (by decide))).trans h10
    · exact ((t3 11 (by decide)).trans (hadv.2 11 (by decide))).trans e4
    · by_cases g : kk ≤ 2
      · rw [if_pos g]; have := hp g; omega
      · rw [if_neg g]; omega
    · simp only [List.length_cons]; omega
    · simp only [List.length_cons]; omega
    · dsimp only; rw [tk 2 (by decide)]; exact l8
    · have hr : okF B' (sz + 1) ((bk, nd, nI sz) :: fr) := (h2.okF (by omega) l9).lt (Or.inr ⟨sz, by omega, rfl⟩)
      have hnd : okI nd sz := l9.hd
      have hle : lpi B' nd = lpi B nd ∧ ati B' nd = ati B nd := by
        refine lpi_eq hnd (by omega) ?_ ?_ ?_
        all_goals (intro k hk; have : ¬ k = sz := by omega)
        · rw [t18]; simp [upd, this]
        · rw [t20]; simp [upd, this]
        · rw [t21]; simp [upd, this]
      refine ⟨Or.inl rfl, Or.inr ⟨hr, hk.1, hk.2, sz, by omega, rfl, ?_, ?_, ?_, ?_⟩⟩
      · show B' 18 sz = _
        rw [t18]; simp [upd]
      · show B' 20 sz = lpi B' nd
        rw [hle.1, t20]; simp [upd]
      · show B' 21 sz = ati B' nd
        rw [hle.2, t21]; simp [upd]
      · show B' 19 sz = nd
        rw [t19]; simp [upd]
  · -- a break
    obtain ⟨t1, t2, t3, t18, t19, t20, t21, t22, t23, t24, t25, tk⟩ := id h2
    have han := tkn_le h0 (by decide)
    refine ⟨a + 1, sz + 1, pt, bs, pr, ln, ?_, t1, ?_, ?_, ?_, ?_, l1, l2, l3, by omega, ?_, l6, by omega, ?_, ?_⟩
    · have e : TY (B 1) f (I' 5) (I 4) (a + 1) n := hT.up ((t3 5 (by decide)).trans h1.1) han
      dsimp only; rw [tk 1 (by decide), t3 4 (by decide), h1.2 4 (by decide)]; exact e
    · dsimp only; rw [t2, if_pos (by decide), h1.2 17 (by decide)]; exact h17
    · exact ((t3 9 (by decide)).trans (h1.2 9 (by decide))).trans e3
    · exact ((t3 10 (by decide)).trans (h1.2 10 (by decide))).trans h10
    · exact ((t3 11 (by decide)).trans (h1.2 11 (by decide))).trans e4
    · simp only [List.length_cons]; omega
    · dsimp only; rw [tk 2 (by decide)]; exact l8
    · exact (h2.okF (by omega) l9).lt (Or.inr ⟨sz, by omega, rfl⟩)
  · -- a jump
    obtain ⟨t1, t2, t3, t18, t19, t20, t21, t22, t23, t24, t25, tk⟩ := id h2
    have han := one_tk (Or.inr (Or.inl rfl)) hy
    refine ⟨a + 2, sz + 1, pt, bs, pr, ln, ?_, t1, ?_, ?_, ?_, ?_, l1, l2, l3, by omega, ?_, l6, by omega, ?_, ?_⟩
    · have e : TY (B 1) f (I' 5) (I 4) (a + 2) n := hT.up ((t3 5 (by decide)).trans h1.1) han
      dsimp only; rw [h5 1 (by decide), tk 1 (by decide), t3 4 (by decide), h1.2 4 (by decide)]; exact e
    · dsimp only; rw [t2, if_pos (by decide), h1.2 17 (by decide)]; exact h17
    · exact ((t3 9 (by decide)).trans (h1.2 9 (by decide))).trans e3
    · exact ((t3 10 (by decide)).trans (h1.2 10 (by decide))).trans h10
    · exact ((t3 11 (by decide)).trans (h1.2 11 (by decide))).trans e4
    · simp only [List.length_cons]; omega
    · dsimp only; rw [h5 2 (by decide), tk 2 (by decide)]; exact l8
    · have hr := (h2.okF (by omega) l9).lt (lt' := nI sz) (Or.inr ⟨sz, by omega, rfl⟩)
      refine hr.up (by omega) (Nat.le_refl _) ?_ ?_ ?_ ?_
      · exact fun k _ => congrFun (h5 18 (by decide)) k
      · exact fun k _ => congrFun (h5 19 (by decide)) k
      · exact fun k _ => congrFun (h5 20 (by decide)) k
      · exact fun k _ => congrFun (h5 21 (by decide)) k
  · -- a basic statement
    obtain ⟨c1, c2, c3, c4, c5, c6, ⟨I1, B1, c7, c8⟩, c9, c10, c11, c12, c13, c14, c15, c16, c17, c18, c19, c20, c21⟩ := h
    obtain ⟨g1, g2, g3, g4, g5⟩ := hbas.place hT.2.2.1
    have hp := n30 h17 l1 hp30
    have hbb : bs < 48 := by
      have : ¬ bs = 48 := fun z => hb48 (by rw [e3, z]; rfl)
      omega
    have hex : (if ex = 1 then ln + out.length + 1 else ln) ≤ 2 * a' := by
      by_cases g : ex = 1
      · rw [if_pos g]; have := g4 g; omega
      · rw [if_neg g]; omega
    refine ⟨a', sz + 1, pt + 1, bs + 1, pr, _, ?_, c3, ?_, c2, ?_, c5, by omega, by omega, l3, hex, ?_, l6, by omega, ?_, ?_⟩
    · have e : TY (B 1) f (I' 5) (I 4) a' n := hT.up c1 g2
      dsimp only; rw [c17 1 (by decide), c6 4 (by decide)]; exact e
    · dsimp only; rw [c4]; exact inI h17 rfl
    · exact (c6 10 (by decide)).trans h10
    · simp only [List.length_cons]; omega
    · dsimp only; rw [c17 2 (by decide)]; exact l8
    · have hr := (c7.okF (by omega) l9).lt (lt' := nI sz) (Or.inr ⟨sz, by omega, rfl⟩)
      refine hr.up (by omega) (Nat.le_refl _) ?_ ?_ ?_ ?_
      · exact fun k _ => congrFun (c8 18 (by decide)) k
      · exact fun k _ => congrFun (c8 19 (by decide)) k
      · exact fun k _ => congrFun (c8 20 (by decide)) k
      · exact fun k _ => congrFun (c8 21 (by decide)) k
  · -- a block's end
    have han : a + 1 ≤ n := by rcases h0 with z | z <;> exact tkn_le z.1 (by decide)
    have hfr : okF B sz fr := by
      rcases l9.2 with w | w
      · rcases h0 with z | z <;> (have := w.2.1; dsimp only at this; omega)
      · exact w.1
    refine ⟨a + 1, sz, pt, bs, pr, ln, ?_, ?_, ?_, ?_, ?_, ?_, l1, l2, l3, by omega, ?_, by dsimp only; omega, by omega, l8, hfr⟩
    · have e : TY (B 1) f (I' 5) (I 4) (a + 1) n := hT.up h1.1 han
      dsimp only; rw [h1.2 4 (by decide)]; exact e
    · exact (h1.2 16 (by decide)).trans e2
    · exact (h1.2 17 (by decide)).trans h17
    · exact (h1.2 9 (by decide)).trans e3
    · exact (h1.2 10 (by decide)).trans h10
    · exact (h1.2 11 (by decide)).trans e4
    · dsimp only; omega
  · have han := tkn_le h0 (by decide)
    refine ⟨a + 1, sz, pt, bs, pr, ln, ?_, ?_, ?_, ?_, ?_, ?_, l1, l2, l3, by omega, ?_, l6, by omega, l8, l9⟩
    · have e : TY (B 1) f (I' 5) (I 4) (a + 1) n := hT.up h1.1 han
      dsimp only; rw [h1.2 4 (by decide)]; exact e
    · exact (h1.2 16 (by decide)).trans e2
    · exact (h1.2 17 (by decide)).trans h17
    · exact (h1.2 9 (by decide)).trans e3
    · exact (h1.2 10 (by decide)).trans h10
    · exact (h1.2 11 (by decide)).trans e4
    · simp only [List.length_cons]; omega
  · have han := tkn_le h0 (by decide)
    refine ⟨a + 1, sz, pt, bs, pr, ln, ?_, ?_, ?_, ?_, ?_, ?_, l1, l2, l3, by omega, ?_, l6, by omega, l8, l9.lt (Or.inl rfl)⟩
    · have e : TY (B 1) f (I' 5) (I 4) (a + 1) n := hT.up h1.1 han
      dsimp only; rw [h1.2 4 (by decide)]; exact e
    · exact (h1.2 16 (by decide)).trans e2
    · exact (h1.2 17 (by decide)).trans h17
    · exact (h1.2 9 (by decide)).trans e3
    · exact (h1.2 10 (by decide)).trans h10
    · exact (h1.2 11 (by decide)).trans e4
    · simp only [List.length_cons]; omega
theorem BI_star {f : Nat → Int32} {n : Nat} {kd : Nat → Int32} {s t : zBo} (hB : BI f n kd s) (h : star (bst f n kd) s t) : BI f n kd t := h (BI f n kd) hB (fun _ _ c g => BI_step c g)
end ZE4
