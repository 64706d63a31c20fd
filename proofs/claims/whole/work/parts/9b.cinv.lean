/-! The tree of a process: numbers, points and labels, all along. -/
section ZH7
variable {I : Nat → Int32} {J : Nat → Int64} {B : Nat → Nat → Int32} {D : Nat → Nat → Int64}
/-- so many basic statements before -/
def cnt (B : Nat → Nat → Int32) : Nat → Nat
  | 0 => 0
  | k + 1 => cnt B k + (if B 18 k = 0 then 1 else 0)
theorem cnt_cg {B' : Nat → Nat → Int32} : ∀ (m : Nat), (∀ k, k < m → B' 18 k = B 18 k) → cnt B' m = cnt B m := by
  intro m
  induction m with
  | zero => intro _; rfl
  | succ m ih => intro h; simp only [cnt]; rw [ih (fun k hk => h k (by omega)), h m (by omega)]
theorem cnt_mono {a b : Nat} (h : a ≤ b) : cnt B a ≤ cnt B b := by
  obtain ⟨d, rfl⟩ : ∃ d, b = a + d := ⟨b - a, by omega⟩
  induction d with
  | zero => exact Nat.le_refl _
  | succ d ih =>
    have := ih (by omega)
    have e : cnt B (a + (d + 1)) = cnt B (a + d) + (if B 18 (a + d) = 0 then 1 else 0) := rfl
    omega
theorem cnt_lt {a b : Nat} (h : a < b) (h0 : B 18 a = 0) : cnt B a < cnt B b := by
  have := cnt_mono (B := B) (show a + 1 ≤ b from h)
  simp only [cnt, if_pos h0] at this; omega
theorem cnt_inj {a b : Nat} (ha : B 18 a = 0) (hb : B 18 b = 0) (h : cnt B a = cnt B b) : a = b := by
  rcases Nat.lt_trichotomy a b with w | w | w
  · have := cnt_lt w ha; omega
  · exact w
  · have := cnt_lt w hb; omega
theorem cnt_at : ∀ (sz b : Nat), b < cnt B sz → ∃ k, k < sz ∧ B 18 k = 0 ∧ cnt B k = b := by
  intro sz
  induction sz with
  | zero => intro b h; simp [cnt] at h
  | succ sz ih =>
    intro b h
    by_cases g : b < cnt B sz
    · obtain ⟨k, h1, h2, h3⟩ := ih b g
      exact ⟨k, by omega, h2, h3⟩
    · simp only [cnt] at h
      by_cases g2 : B 18 sz = 0
      · rw [if_pos g2] at h; exact ⟨sz, by omega, g2, by omega⟩
      · rw [if_neg g2] at h; omega
def C1 (B : Nat → Nat → Int32) (pt bs0 k : Nat) : Prop := (B 18 k = 0 ∨ B 18 k = 1 ∨ B 18 k = 2 ∨ B 18 k = 3 ∨ B 18 k = 4 ∨ B 18 k = 5) ∧ (B 18 k = 5 → ∃ l, l < 8 ∧ B 26 k = nI l) ∧ (B 25 k = -1 ∨ ∃ q, q < pt ∧ B 25 k = nI q) ∧ (B 18 k = 0 → B 26 k = nI (bs0 + cnt B k))
def CI (bs0 : Nat) (u : zBo) : Prop := ∃ sz pt bs, u.2.2.1 16 = nI sz ∧ u.2.2.1 17 = nI pt ∧ u.2.2.1 9 = nI bs ∧ sz ≤ 1000 ∧ pt ≤ 1000 ∧ bs ≤ 1000 ∧ bs = bs0 + cnt u.2.2.2.2.1 sz ∧ (∀ k, k < sz → C1 u.2.2.2.2.1 pt bs0 k) ∧ (∀ l, l < 8 → u.2.2.2.2.1 28 l = -3 ∨ ∃ k, k + u.1 ≤ sz ∧ u.2.2.2.2.1 28 l = nI k)
theorem C_add {sz pt bs0 : Nat} {nd lt kind : Int32} {I1 I' : Nat → Int32} {Bt B' : Nat → Nat → Int32} (hT : TA kind nd lt sz I1 B I' Bt) (h18 : B' 18 = Bt 18) (h25 : B' 25 = Bt 25) (h26 : ∀ k, k < sz → B' 26 k = B 26 k) (hC : ∀ k, k < sz → C1 B pt bs0 k) (h17 : I1 17 = nI pt) (hkd : kind = 0 ∨ kind = 1 ∨ kind = 2 ∨ kind = 3 ∨ kind = 4 ∨ kind = 5) (h5 : kind = 5 → ∃ l, l < 8 ∧ B' 26 sz = nI l) (h0 : kind = 0 → B' 26 sz = nI (bs0 + cnt B sz)) : (∀ k, k < sz + 1 → C1 B' (if 2 < kind then pt else pt + 1) bs0 k) ∧ cnt B' (sz + 1) = cnt B sz + (if kind = 0 then 1 else 0) ∧ I' 17 = nI (if 2 < kind then pt else pt + 1) := by
  obtain ⟨t1, t2, t3, t18, t19, t20, t21, t22, t23, t24, t25, tk⟩ := hT
  have o18 : ∀ k, k < sz → B' 18 k = B 18 k := by
    intro k hk; rw [h18, t18]; have : ¬ k = sz := by omega
    simp [upd, this]
  have o25 : ∀ k, k < sz → B' 25 k = B 25 k := by
    intro k hk; rw [h25, t25]; have : ¬ k = sz := by omega
    simp [upd, this]
  have n18 : B' 18 sz = kind := by rw [h18, t18]; simp [upd]
  have n25 : B' 25 sz = (if 2 < kind then -1 else I1 17) := by rw [h25, t25]; simp [upd]
  refine ⟨fun k hk => ?_, ?_, ?_⟩
  · by_cases e : k = sz
    · subst e
      refine ⟨by rw [n18]; exact hkd, fun z => h5 (by rw [← n18]; exact z), ?_, fun z => ?_⟩
      · rw [n25]
        by_cases g : 2 < kind
        · rw [if_pos g]; exact Or.inl rfl
        · rw [if_neg g, if_neg g]; exact Or.inr ⟨pt, by omega, h17⟩
      · rw [cnt_cg k o18]; exact h0 (by rw [← n18]; exact z)
    · have hks : k < sz := by omega
      obtain ⟨c1, c2, c3, c4⟩ := hC k hks
      refine ⟨by rw [o18 k hks]; exact c1, fun z => ?_, ?_, fun z => ?_⟩
      · rw [o18 k hks] at z; rw [h26 k hks]; exact c2 z
      · rw [o25 k hks]
        rcases c3 with w | ⟨q, hq, w⟩
        · exact Or.inl w
        · exact Or.inr ⟨q, by split <;> omega, w⟩
      · rw [o18 k hks] at z
        rw [h26 k hks, cnt_cg k (fun j hj => o18 j (by omega))]; exact c4 z
  · simp only [cnt]; rw [cnt_cg sz o18, n18]
  · rw [t2, h17]
    by_cases g : 2 < kind
    · rw [if_pos g, if_pos g]
    · rw [if_neg g, if_neg g, nI_1]
theorem CI_step {f : Nat → Int32} {n bs0 : Nat} {kd : Nat → Int32} {u v : zBo} (hB : BI f n kd u) (h : bst f n kd u v) (hC : CI bs0 u) : CI bs0 v := by
  obtain ⟨sz0, pt, bs1, e16, e17, e9, z16, z17, z9, ebs, hk, hl⟩ := hC
  obtain ⟨a, sz, bs, ln, bk, nd, lt, fr, I, I', J, J', B, B', D, D', hh, h⟩ := h
  rcases h with ⟨rfl, rfl, h0, hx, hy, h1, h2, h3⟩ | ⟨kk, I1, rfl, rfl, hl6, h1, h2⟩ | ⟨I1, rfl, rfl, h0, hx, hy, h1, h2⟩ | ⟨I1, B1, rfl, rfl, h0, hx, hy, h1, h2, h3, h4, h5⟩ | ⟨pk, ch, vr, ex, out, a', rfl, rfl, hp30, hb48, hbas, h⟩ | ⟨rfl, rfl, h0, h1⟩ | ⟨rfl, rfl, h0, h1⟩ | ⟨rfl, rfl, h0, hx, h1⟩
  all_goals dsimp only at e16 e17 e9 hk hl ebs
  all_goals have esz : sz0 = sz := nI_inj (by omega) (by omega) (e16.symm.trans hh.2.1)
  all_goals subst esz
  all_goals have eb : bs1 = bs := nI_inj (by omega) (by omega) (e9.symm.trans hh.2.2.1)
  all_goals subst eb
  all_goals obtain ⟨pt', pr, hTy, h17, h10, l1, l2, l3, l4, l5, l6, l7, l8, l9, l10⟩ := BI_get hB hh
  all_goals have ept : pt = pt' := nI_inj (by omega) (by omega) (e17.symm.trans h17)
  all_goals subst ept
  · have hone := one_in hx
    refine ⟨sz0, pt, bs1, (h1.2 16 (by decide)).trans e16, (h1.2 17 (by decide)).trans e17, (h1.2 9 (by decide)).trans e9, z16, z17, z9, ?_, fun k hk' => ?_, fun l hl8 => ?_⟩
    · have : cnt B' sz0 = cnt B sz0 := cnt_cg sz0 (fun k _ => by rw [h3 18 (by decide)])
      dsimp only; omega
    · obtain ⟨c1, c2, c3, c4⟩ := hk k hk'
      refine ⟨?_, ?_, ?_, ?_⟩
      · dsimp only; rw [h3 18 (by decide)]; exact c1
      · dsimp only; rw [h3 18 (by decide), h3 26 (by decide)]; exact c2
      · dsimp only; rw [h3 25 (by decide)]; exact c3
      · dsimp only; rw [h3 18 (by decide), h3 26 (by decide), cnt_cg k (fun k _ => by rw [h3 18 (by decide)])]; exact c4
    · dsimp only
      rw [h2]
      by_cases e : l = (one (tkn f n (a + 1)) 65 8).toNatClampNeg
      · right; exact ⟨sz0, by omega, by simp [upd, e]⟩
      · simp only [upd, e, if_false]
        exact hl l hl8
  · have hk3 : 1 ≤ kk ∧ kk ≤ 3 := by rcases h1 with z | z | z <;> omega
    have hI17 : I1 17 = nI pt := by
      rcases h1 with ⟨_, _, _, w⟩ | ⟨_, _, _, _, w⟩ | ⟨_, _, _, w⟩ <;> exact (w.2 17 (by decide)).trans e17
    have hI9 : I1 9 = nI bs1 := by
      rcases h1 with ⟨_, _, _, w⟩ | ⟨_, _, _, _, w⟩ | ⟨_, _, _, w⟩ <;> exact (w.2 9 (by decide)).trans e9
    have hkk : nI kk = 0 ∨ nI kk = 1 ∨ nI kk = 2 ∨ nI kk = 3 ∨ nI kk = 4 ∨ nI kk = 5 := by
      have : kk = 1 ∨ kk = 2 ∨ kk = 3 := by omega
      rcases this with rfl | rfl | rfl
      · exact Or.inr (Or.inl rfl)
      · exact Or.inr (Or.inr (Or.inl rfl))
      · exact Or.inr (Or.inr (Or.inr (Or.inl rfl)))
    have n0 : ¬ nI kk = 0 := fun z => by have := (nI_lit (k := kk) (by omega) (c := 0) (by omega)).mp z; omega
    have n5 : ¬ nI kk = 5 := fun z => by have := (nI_lit (k := kk) (by omega) (c := 5) (by omega)).mp z; omega
    have hadd := C_add (B' := B') h2 rfl rfl (fun k _ => by rw [h2.2.2.2.2.2.2.2.2.2.2.2 26 (by decide)]) hk hI17 hkk (fun z => absurd z n5) (fun z => absurd z n0)
    refine ⟨sz0 + 1, _, bs1, h2.1, hadd.2.2, (h2.2.2.1 9 (by decide)).trans hI9, by omega, by split <;> omega, z9, ?_, hadd.1, fun l hl8 => ?_⟩
    · have := hadd.2.1; rw [if_neg n0] at this; dsimp only; omega
    · dsimp only
      rw [h2.2.2.2.2.2.2.2.2.2.2.2 28 (by decide)]
      exact (hl l hl8).imp id (fun ⟨k, h1, h2⟩ => ⟨k, by omega, h2⟩)
  · have hadd := C_add (B' := B') h2 rfl rfl (fun k _ => by rw [h2.2.2.2.2.2.2.2.2.2.2.2 26 (by decide)]) hk ((h1.2 17 (by decide)).trans e17) (by simp) (fun z => absurd z (by decide)) (fun z => absurd z (by decide))
    refine ⟨sz0 + 1, _, bs1, h2.1, hadd.2.2, (h2.2.2.1 9 (by decide)).trans ((h1.2 9 (by decide)).trans e9), by omega, by split <;> omega, z9, ?_, hadd.1, fun l hl8 => ?_⟩
    · have := hadd.2.1; rw [if_neg (by decide)] at this; dsimp only; omega
    · dsimp only
      rw [h2.2.2.2.2.2.2.2.2.2.2.2 28 (by decide)]
      exact (hl l hl8).imp id (fun ⟨k, h1, h2⟩ => ⟨k, by omega, h2⟩)
  · have o26 : ∀ k, k < sz0 → B' 26 k = B 26 k := by
      intro k hk'
      have : ¬ k = sz0 := by omega
      rw [h3]; simp [upd, this]
    have hone := one_in hy
    have hnew : ∃ l, l < 8 ∧ B' 26 sz0 = nI l := by
      refine ⟨(one (tkn f n (a + 1)) 65 8).toNatClampNeg, ?_, ?_⟩
      · exact (one_lt hy).1
      · rw [h3]; simp [upd]; exact nI_clamp_one hy
    have hadd := C_add (B' := B') h2 (h5 18 (by decide)) (h5 25 (by decide)) o26 hk ((h1.2 17 (by decide)).trans e17) (by simp) (fun _ => hnew) (fun z => absurd z (by decide))
    refine ⟨sz0 + 1, _, bs1, h2.1, hadd.2.2, (h2.2.2.1 9 (by decide)).trans ((h1.2 9 (by decide)).trans e9), by omega, by split <;> omega, z9, ?_, hadd.1, fun l hl8 => ?_⟩
    · have := hadd.2.1; rw [if_neg (by decide)] at this; dsimp only; omega
    · dsimp only
      rw [h5 28 (by decide), h2.2.2.2.2.2.2.2.2.2.2.2 28 (by decide)]
      exact (hl l hl8).imp id (fun ⟨k, h1, h2⟩ => ⟨k, by omega, h2⟩)
  · obtain ⟨d1, d2, d3, d4, d5, d6, ⟨It, Bt, hTA, d8⟩, d9, d10, d11, d12, d13, d14, d15, d16, d17, _⟩ := h
    have o26 : ∀ k, k < sz0 → B' 26 k = B 26 k := by
      intro k hk'
      have : ¬ k = sz0 := by omega
      rw [d9]; simp [upd, this]
    have hadd := C_add (B' := B') hTA (d8 18 (by decide)) (d8 25 (by decide)) o26 hk e17 (by simp) (fun z => absurd z (by decide)) (fun _ => by rw [d9, ← ebs]; simp [upd])
    refine ⟨sz0 + 1, pt + 1, bs1 + 1, d3, ?_, d2, by omega, by omega, by omega, ?_, hadd.1, fun l hl8 => ?_⟩
    · dsimp only; rw [d4, e17, nI_1]
    · have := hadd.2.1; rw [if_pos rfl] at this; dsimp only; omega
    · dsimp only
      rw [d17 28 (by decide)]
      exact (hl l hl8).imp id (fun ⟨k, h1, h2⟩ => ⟨k, by omega, h2⟩)
  · exact ⟨sz0, pt, bs1, (h1.2 16 (by decide)).trans e16, (h1.2 17 (by decide)).trans e17, (h1.2 9 (by decide)).trans e9, z16, z17, z9, ebs, hk, hl⟩
  · exact ⟨sz0, pt, bs1, (h1.2 16 (by decide)).trans e16, (h1.2 17 (by decide)).trans e17, (h1.2 9 (by decide)).trans e9, z16, z17, z9, ebs, hk, fun l hl8 => (hl l hl8).imp id (fun ⟨k, h1, h2⟩ => ⟨k, by dsimp only; omega, h2⟩)⟩
  · exact ⟨sz0, pt, bs1, (h1.2 16 (by decide)).trans e16, (h1.2 17 (by decide)).trans e17, (h1.2 9 (by decide)).trans e9, z16, z17, z9, ebs, hk, fun l hl8 => (hl l hl8).imp id (fun ⟨k, h1, h2⟩ => ⟨k, by dsimp only; omega, h2⟩)⟩
theorem CI_star {f : Nat → Int32} {n bs0 : Nat} {kd : Nat → Int32} {u v : zBo} (hB : BI f n kd u) (h : star (bst f n kd) u v) (hC : CI bs0 u) : CI bs0 v := (h (fun v => BI f n kd v ∧ CI bs0 v) ⟨hB, hC⟩ (fun _ _ c g => ⟨BI_step c.1 g, CI_step c.1 g c.2⟩)).2
end ZH7
