/-! What the class's rows say of basic statements, apart from the reference. -/
section ZL7
variable {I : Nat → Int32} {J : Nat → Int64} {B : Nat → Nat → Int32} {D : Nat → Nat → Int64}
theorem tk_lt {f : Nat → Int32} {n a : Nat} {x : Int32} (h : tkn f n a = x) (hx : ¬ x = 0) : a < n := by
  unfold tkn at h
  by_cases g : a < n
  · exact g
  · rw [if_neg g] at h; exact absurd h.symm hx
def B1c (kd : Nat → Int32) (ln b : Nat) (B : Nat → Nat → Int32) : Prop :=
  (B 6 b = 0 ∨ B 6 b = 1 ∨ B 6 b = 2 ∨ B 6 b = 3 ∨ B 6 b = 4 ∨ B 6 b = 5) ∧ (B 6 b = 0 → ∃ j, j < 8 ∧ B 8 b = nI j ∧ kd j = 1) ∧ ((B 6 b = 2 ∨ B 6 b = 3) → ∃ j, j < 8 ∧ B 7 b = nI j ∧ kd j = 2) ∧ (B 6 b = 3 → ∃ j, j < 8 ∧ B 8 b = nI j ∧ kd j = 1) ∧
  ((B 9 b = -1 ∧ ¬ (B 6 b = 0 ∨ B 6 b = 1 ∨ B 6 b = 2)) ∨ (∃ lb out, B 9 b = nI lb ∧ rep (B 15) lb (22 :: out) ∧ lb + out.length < ln ∧ okR out ∧ ht out = 1 ∧ nod out ≤ 12 ∧ KN kd out ∧ (B 6 b = 0 ∨ B 6 b = 1 ∨ B 6 b = 2)))
theorem B1c.up {kd : Nat → Int32} {ln ln' b : Nat} {B' : Nat → Nat → Int32} (h : B1c kd ln b B) (hl : ln ≤ ln') (h6 : B' 6 b = B 6 b) (h7 : B' 7 b = B 7 b) (h8 : B' 8 b = B 8 b) (h9 : B' 9 b = B 9 b) (h15 : ∀ k, k < ln → B' 15 k = B 15 k) : B1c kd ln' b B' := by
  unfold B1c
  rw [h6, h7, h8, h9]
  obtain ⟨e1, e2, e3, e4, e5⟩ := h
  refine ⟨e1, e2, e3, e4, ?_⟩
  rcases e5 with w | ⟨lb, out, w1, w2, w3, w4⟩
  · exact Or.inl w
  · exact Or.inr ⟨lb, out, w1, rep_eq w2 (fun k hk => h15 k (by simp at hk; omega)), by omega, w4⟩
theorem BAS_c {f : Nat → Int32} {n : Nat} {kd : Nat → Int32} {bk : Nat} {nd lt : Int32} {a : Nat} {pk ch vr : Int32} {ex : Nat} {out : List Int32} {a' : Nat} (h : BAS f n kd bk nd lt a pk ch vr ex out a') (h012 : ∀ j, j < 8 → kd j = 0 ∨ kd j = 1 ∨ kd j = 2) :
    (pk = 0 ∨ pk = 1 ∨ pk = 2 ∨ pk = 3 ∨ pk = 4 ∨ pk = 5) ∧ (pk = 0 → ∃ j, j < 8 ∧ vr = nI j ∧ kd j = 1) ∧ ((pk = 2 ∨ pk = 3) → ∃ j, j < 8 ∧ ch = nI j ∧ kd j = 2) ∧ (pk = 3 → ∃ j, j < 8 ∧ vr = nI j ∧ kd j = 1) ∧ ((ex = 0 ∧ ¬ (pk = 0 ∨ pk = 1 ∨ pk = 2)) ∨ (ex = 1 ∧ okR out ∧ ht out = 1 ∧ nod out ≤ 12 ∧ KN kd out ∧ (pk = 0 ∨ pk = 1 ∨ pk = 2))) := by
  have nm : ∀ x : Nat, ¬ one (tkn f n x) 97 8 = -1 → (one (tkn f n x) 97 8).toNatClampNeg < 8 ∧ one (tkn f n x) 97 8 = nI (one (tkn f n x) 97 8).toNatClampNeg := fun x hx => ⟨(one_lt hx).1, nI_clamp_one hx⟩
  have k2 : ∀ x : Nat, ¬ one (tkn f n x) 97 8 = -1 → ¬ kd (one (tkn f n x) 97 8).toNatClampNeg = 0 → ¬ kd (one (tkn f n x) 97 8).toNatClampNeg = 1 → kd (one (tkn f n x) 97 8).toNatClampNeg = 2 := fun x hx h0 h1 => by
    rcases h012 _ (nm x hx).1 with w | w | w
    · exact absurd w h0
    · exact absurd w h1
    · exact w
  rcases h with ⟨t, rfl, rfl, rfl, rfl, rfl, e⟩ | ⟨t, _, _, _, rfl, rfl, rfl, rfl, rfl, e⟩ | ⟨t, rfl, rfl, rfl, rfl, a1, hE, t2, e⟩ | ⟨t1, t2, t3, rfl, rfl, rfl, rfl, hE⟩ | ⟨t1, t2, t3, t4, rfl, rfl, rfl, rfl, hE⟩ | ⟨t1, t2, t3, t4, t5, t6, rfl, rfl, rfl, rfl, rfl, e⟩
  · exact ⟨by decide, fun z => absurd z (by decide), fun z => absurd z (by decide), fun z => absurd z (by decide), Or.inl ⟨rfl, by decide⟩⟩
  · exact ⟨by decide, fun z => absurd z (by decide), fun z => absurd z (by decide), fun z => absurd z (by decide), Or.inl ⟨rfl, by decide⟩⟩
  · have := tk_lt t (by decide)
    obtain ⟨f1, f2, f3, f4, _⟩ := EXP.facts (by omega) (by omega) hE
    exact ⟨by decide, fun z => absurd z (by decide), fun z => absurd z (by decide), fun z => absurd z (by decide), Or.inr ⟨rfl, f1, f2, f3, f4, by decide⟩⟩
  · have := tk_lt t3 (by decide)
    obtain ⟨f1, f2, f3, f4, _⟩ := EXP.facts (by omega) (by omega) hE
    exact ⟨by decide, fun _ => ⟨_, (nm a t1).1, (nm a t1).2, t2⟩, fun z => absurd z (by decide), fun z => absurd z (by decide), Or.inr ⟨rfl, f1, f2, f3, f4, by decide⟩⟩
  · have := tk_lt t4 (by decide)
    obtain ⟨f1, f2, f3, f4, _⟩ := EXP.facts (by omega) (by omega) hE
    exact ⟨by decide, fun z => absurd z (by decide), fun _ => ⟨_, (nm a t1).1, (nm a t1).2, k2 a t1 t2 t3⟩, fun z => absurd z (by decide), Or.inr ⟨rfl, f1, f2, f3, f4, by decide⟩⟩
  · exact ⟨by decide, fun z => absurd z (by decide), fun _ => ⟨_, (nm a t1).1, (nm a t1).2, k2 a t1 t2 t3⟩, fun _ => ⟨_, (nm (a + 2) t5).1, (nm (a + 2) t5).2, t6⟩, Or.inl ⟨rfl, by decide⟩⟩
def P25 (pt sz : Nat) (B : Nat → Nat → Int32) : Prop := ∀ k, k < sz → ¬ 2 < B 18 k → ∃ q, q < pt ∧ B 25 k = nI q
theorem P25_add {kind outer prev : Int32} {sz pt : Nat} {I' : Nat → Int32} {B1 B' : Nat → Nat → Int32} (h : TA kind outer prev sz I B I' B1) (e18 : B' 18 = B1 18) (e25 : B' 25 = B1 25) (h17 : I 17 = nI pt) (hp : P25 pt sz B) : P25 (if 2 < kind then pt else pt + 1) (sz + 1) B' := by
  intro k hk
  rw [e18, e25, h.2.2.2.1, h.2.2.2.2.2.2.2.2.2.2.1]
  by_cases e : k = sz
  · subst e
    simp only [upd, if_true]
    intro g
    rw [if_neg g, if_neg g]
    exact ⟨pt, by omega, h17⟩
  · simp only [upd, if_neg e]
    intro g
    obtain ⟨q, h1, h2⟩ := hp k (by omega) g
    refine ⟨q, ?_, h2⟩
    split <;> omega
def EW (kd : Nat → Int32) (bs0 p : Nat) (u : zBo) : Prop := ∃ bs ln pt sz, u.2.2.1 9 = nI bs ∧ u.2.2.1 11 = nI ln ∧ u.2.2.1 17 = nI pt ∧ u.2.2.1 16 = nI sz ∧ u.2.2.1 10 = nI p ∧ bs ≤ 1000 ∧ ln ≤ 1000 ∧ pt ≤ 1000 ∧ sz ≤ 1000 ∧ bs0 ≤ bs ∧ (∀ b, b < bs → B1c kd ln b u.2.2.2.2.1) ∧ (∀ b, b < bs0 → ∃ q, q < p ∧ u.2.2.2.2.1 10 b = nI q) ∧ (∀ b, bs0 ≤ b → b < bs → u.2.2.2.2.1 10 b = nI p) ∧ P25 pt sz u.2.2.2.2.1
theorem EW_step {f : Nat → Int32} {n : Nat} {kd : Nat → Int32} {bs0 p : Nat} (h012 : ∀ j, j < 8 → kd j = 0 ∨ kd j = 1 ∨ kd j = 2) {u v : zBo} (hB : BI f n kd u) (h : bst f n kd u v) (hE : EW kd bs0 p u) : EW kd bs0 p v := by
  obtain ⟨bs1, ln1, pt, sz1, e9, e11, e17, e16, e10, l1, l2, l3, l4, hb0, hb1, hb2, hb3, hp25⟩ := hE
  obtain ⟨a, sz, bs, ln, bk, nd, lt, fr, I, I', J, J', B, B', D, D', hh, h⟩ := h
  rcases h with ⟨rfl, rfl, h0, hx, hy, h1, h2, h3⟩ | ⟨kk, I1, rfl, rfl, hl6, h1, h2⟩ | ⟨I1, rfl, rfl, h0, hx, hy, h1, h2⟩ | ⟨I1, B1, rfl, rfl, h0, hx, hy, h1, h2, h3, h4, h5⟩ | ⟨pk, ch, vr, ex, out, a', rfl, rfl, hp30, hb48, hbas, h⟩ | ⟨rfl, rfl, h0, h1⟩ | ⟨rfl, rfl, h0, h1⟩ | ⟨rfl, rfl, h0, hx, h1⟩
  all_goals dsimp only at e9 e11 e17 e16 e10 hb1 hb2 hb3 hp25
  all_goals have esz : sz1 = sz := nI_inj (by omega) (by omega) (e16.symm.trans hh.2.1)
  all_goals subst esz
  all_goals have eb : bs1 = bs := nI_inj (by omega) (by omega) (e9.symm.trans hh.2.2.1)
  all_goals subst eb
  all_goals have el : ln1 = ln := nI_inj (by omega) (by omega) (e11.symm.trans hh.2.2.2.1)
  all_goals subst el
  all_goals obtain ⟨pt', pr, hTy, h17, h10, m1, m2, m3, m4, m5, m6, m7, m8⟩ := BI_get hB hh
  all_goals have ept : pt = pt' := nI_inj (by omega) (by omega) (e17.symm.trans h17)
  all_goals subst ept
  all_goals have ha240 := hTy.2.2.2.1
  all_goals have han := hTy.2.2.1
  · refine ⟨bs1, ln1, pt, sz1, (h1.2 9 (by decide)).trans e9, (h1.2 11 (by decide)).trans e11, (h1.2 17 (by decide)).trans e17, (h1.2 16 (by decide)).trans e16, (h1.2 10 (by decide)).trans e10, l1, l2, l3, l4, hb0, fun b hb => (hb1 b hb).up (Nat.le_refl _) ?_ ?_ ?_ ?_ (fun k _ => ?_), ?_, ?_, ?_⟩
    all_goals try dsimp only
    · rw [h3 6 (by decide)]
    · rw [h3 7 (by decide)]
    · rw [h3 8 (by decide)]
    · rw [h3 9 (by decide)]
    · rw [h3 15 (by decide)]
    · rw [h3 10 (by decide)]; exact hb2
    · rw [h3 10 (by decide)]; exact hb3
    · unfold P25; rw [h3 18 (by decide), h3 25 (by decide)]; exact hp25
  · have hI : ∀ k, k ∈ [9, 10, 11, 17] → I1 k = I k := by
      intro k hk
      rcases h1 with ⟨_, _, _, w⟩ | ⟨_, _, _, _, w⟩ | ⟨_, _, _, w⟩ <;> exact w.2 k (by simp at hk; omega)
    have hf := h2.2.2.2.2.2.2.2.2.2.2.2
    have hp2 := P25_add h2 rfl rfl ((hI 17 (by decide)).trans e17) hp25
    refine ⟨bs1, ln1, _, sz1 + 1, (h2.2.2.1 9 (by decide)).trans ((hI 9 (by decide)).trans e9), (h2.2.2.1 11 (by decide)).trans ((hI 11 (by decide)).trans e11), ?_, h2.1, (h2.2.2.1 10 (by decide)).trans ((hI 10 (by decide)).trans e10), l1, l2, ?_, by omega, hb0, fun b hb => (hb1 b hb).up (Nat.le_refl _) ?_ ?_ ?_ ?_ (fun k _ => ?_), ?_, ?_, hp2⟩
    all_goals try dsimp only
    · rw [h2.2.1, hI 17 (by decide), e17]
      by_cases g : 2 < nI kk
      · rw [if_pos g, if_pos g]
      · rw [if_neg g, if_neg g, nI_1]
    · split <;> omega
    · rw [hf 6 (by decide)]
    · rw [hf 7 (by decide)]
    · rw [hf 8 (by decide)]
    · rw [hf 9 (by decide)]
    · rw [hf 15 (by decide)]
    · rw [hf 10 (by decide)]; exact hb2
    · rw [hf 10 (by decide)]; exact hb3
  · have hf := h2.2.2.2.2.2.2.2.2.2.2.2
    have hp2 := P25_add h2 rfl rfl ((h1.2 17 (by decide)).trans e17) hp25
    rw [if_pos (by decide)] at hp2
    refine ⟨bs1, ln1, pt, sz1 + 1, (h2.2.2.1 9 (by decide)).trans ((h1.2 9 (by decide)).trans e9), (h2.2.2.1 11 (by decide)).trans ((h1.2 11 (by decide)).trans e11), ?_, h2.1, (h2.2.2.1 10 (by decide)).trans ((h1.2 10 (by decide)).trans e10), l1, l2, l3, by omega, hb0, fun b hb => (hb1 b hb).up (Nat.le_refl _) ?_ ?_ ?_ ?_ (fun k _ => ?_), ?_, ?_, hp2⟩
    all_goals try dsimp only
    · rw [h2.2.1, if_pos (by decide)]; exact (h1.2 17 (by decide)).trans e17
    · rw [hf 6 (by decide)]
    · rw [hf 7 (by decide)]
    · rw [hf 8 (by decide)]
    · rw [hf 9 (by decide)]
    · rw [hf 15 (by decide)]
    · rw [hf 10 (by decide)]; exact hb2
    · rw [hf 10 (by decide)]; exact hb3
  · have hf : ∀ k, k ∉ [18, 19, 20, 21, 22, 23, 24, 25, 26, 27] → B' k = B k := fun k hk => (h5 k (by simp at hk ⊢; omega)).trans (h2.2.2.2.2.2.2.2.2.2.2.2 k (by simp at hk ⊢; omega))
    have hp2 := P25_add h2 (h5 18 (by decide)) (h5 25 (by decide)) ((h1.2 17 (by decide)).trans e17) hp25
    rw [if_pos (by decide)] at hp2
    refine ⟨bs1, ln1, pt, sz1 + 1, (h2.2.2.1 9 (by decide)).trans ((h1.2 9 (by decide)).trans e9), (h2.2.2.1 11 (by decide)).trans ((h1.2 11 (by decide)).trans e11), ?_, h2.1, (h2.2.2.1 10 (by decide)).trans ((h1.2 10 (by decide)).trans e10), l1, l2, l3, by omega, hb0, fun b hb => (hb1 b hb).up (Nat.le_refl _) ?_ ?_ ?_ ?_ (fun k _ => ?_), ?_, ?_, hp2⟩
    all_goals try dsimp only
    · rw [h2.2.1, if_pos (by decide)]; exact (h1.2 17 (by decide)).trans e17
    · rw [hf 6 (by decide)]
    · rw [hf 7 (by decide)]
    · rw [hf 8 (by decide)]
    · rw [hf 9 (by decide)]
    · rw [hf 15 (by decide)]
    · rw [hf 10 (by decide)]; exact hb2
    · rw [hf 10 (by decide)]; exact hb3
  · obtain ⟨d1, d2, d3, d4, d5, d6, ⟨It, Bt, hTA, d8⟩, d9, d10, d11, d12, d13, d14, d15, d16, d17, _⟩ := h
    obtain ⟨c1, c2, c3, c4, c5⟩ := BAS_c hbas h012
    have hp2 := P25_add hTA (d8 18 (by decide)) (d8 25 (by decide)) e17 hp25
    rw [if_neg (by decide)] at hp2
    have hlen : ex = 1 → out.length ≤ 240 := by
      intro hex
      rcases hbas with w | w | w | w | w | w
      · rw [w.2.2.2.2.1] at hex; exact absurd hex (by omega)
      · rw [w.2.2.2.2.2.2.2.1] at hex; exact absurd hex (by omega)
      · obtain ⟨t, _, _, _, _, a1, hE, _⟩ := w
        have := tk_lt t (by decide)
        obtain ⟨_, _, _, _, f5, _, f7⟩ := EXP.facts (by omega) (by omega) hE
        omega
      · obtain ⟨_, _, t, _, _, _, _, hE⟩ := w
        have := tk_lt t (by decide)
        obtain ⟨_, _, _, _, f5, _, f7⟩ := EXP.facts (by omega) (by omega) hE
        omega
      · obtain ⟨_, _, _, t, _, _, _, _, hE⟩ := w
        have := tk_lt t (by decide)
        obtain ⟨_, _, _, _, f5, _, f7⟩ := EXP.facts (by omega) (by omega) hE
        omega
      · rw [w.2.2.2.2.2.2.2.2.2.1] at hex; exact absurd hex (by omega)
    have o : ∀ (r : Nat) (x : Int32) (b : Nat), B' r = upd (B r) bs1 x → b < bs1 → B' r b = B r b := fun r x b he hb => by
      have : ¬ b = bs1 := by omega
      rw [he]; simp [upd, this]
    refine ⟨bs1 + 1, _, pt + 1, sz1 + 1, d2, d5, by dsimp only; rw [d4, e17, nI_1], d3, (d6 10 (by decide)).trans e10, by omega, ?_, by omega, by omega, by omega, fun b hb => ?_, fun b hb => ?_, fun b h1 h2 => ?_, hp2⟩
    all_goals try dsimp only
    · split
      · rename_i hex; have := hlen hex; omega
      · exact l2
    · by_cases e : b = bs1
      · subst e
        have n6 : B' 6 b = pk := by rw [d10]; simp [upd]
        have n7 : B' 7 b = ch := by rw [d11]; simp [upd]
        have n8 : B' 8 b = vr := by rw [d12]; simp [upd]
        have n9 : B' 9 b = (if ex = 1 then nI ln1 else -1) := by rw [d13]; simp [upd]
        unfold B1c
        rw [n6, n7, n8, n9]
        refine ⟨c1, c2, c3, c4, ?_⟩
        rcases c5 with ⟨w1, w2⟩ | ⟨w1, w2⟩
        · rw [if_neg (by omega)]; exact Or.inl ⟨rfl, w2⟩
        · rw [if_pos w1, if_pos w1]; exact Or.inr ⟨ln1, out, rfl, d16 w1, by omega, w2⟩
      · refine (hb1 b (by omega)).up ?_ (o 6 _ b d10 (by omega)) (o 7 _ b d11 (by omega)) (o 8 _ b d12 (by omega)) (o 9 _ b d13 (by omega)) d15
        split <;> omega
    · obtain ⟨q, q1, q2⟩ := hb2 b hb
      exact ⟨q, q1, by rw [o 10 _ b d14 (by omega)]; exact q2⟩
    · by_cases e : b = bs1
      · subst e; rw [d14]; simp [upd]; exact e10
      · rw [o 10 _ b d14 (by omega)]; exact hb3 b h1 (by omega)
  · exact ⟨bs1, ln1, pt, sz1, (h1.2 9 (by decide)).trans e9, (h1.2 11 (by decide)).trans e11, (h1.2 17 (by decide)).trans e17, (h1.2 16 (by decide)).trans e16, (h1.2 10 (by decide)).trans e10, l1, l2, l3, l4, hb0, hb1, hb2, hb3, hp25⟩
  · exact ⟨bs1, ln1, pt, sz1, (h1.2 9 (by decide)).trans e9, (h1.2 11 (by decide)).trans e11, (h1.2 17 (by decide)).trans e17, (h1.2 16 (by decide)).trans e16, (h1.2 10 (by decide)).trans e10, l1, l2, l3, l4, hb0, hb1, hb2, hb3, hp25⟩
  · exact ⟨bs1, ln1, pt, sz1, (h1.2 9 (by decide)).trans e9, (h1.2 11 (by decide)).trans e11, (h1.2 17 (by decide)).trans e17, (h1.2 16 (by decide)).trans e16, (h1.2 10 (by decide)).trans e10, l1, l2, l3, l4, hb0, hb1, hb2, hb3, hp25⟩
theorem EW_star {f : Nat → Int32} {n : Nat} {kd : Nat → Int32} {bs0 p : Nat} (h012 : ∀ j, j < 8 → kd j = 0 ∨ kd j = 1 ∨ kd j = 2) {u v : zBo} (hB : BI f n kd u) (h : star (bst f n kd) u v) (hE : EW kd bs0 p u) : EW kd bs0 p v ∧ BI f n kd v :=
  h (fun v => EW kd bs0 p v ∧ BI f n kd v) ⟨hE, hB⟩ (fun _ _ c g => ⟨EW_step h012 c.2 g c.1, BI_step c.2 g⟩)
end ZL7
