/-! What the class's rows say when all is read. -/
section ZL8
variable {I : Nat → Int32} {J : Nat → Int64} {B : Nat → Nat → Int32} {D : Nat → Nat → Int64}
theorem pnt_c {sz pt : Nat} (hT : TT sz B) (hp : P25 pt sz B) {x : Int32} (hx : okX x sz) : ∃ y, y ≤ pt ∧ pnt B (nI pt) (stl B sz x) = nI y := by
  unfold pnt
  have hz := hT.1
  rcases stl_ok hT hx with w | w | w | ⟨k, hk, w, hk3⟩
  · rw [w, if_pos (by decide)]; exact ⟨pt, Nat.le_refl _, rfl⟩
  · rw [w, if_pos (by decide)]; exact ⟨pt, Nat.le_refl _, rfl⟩
  · rw [w, if_pos (by decide)]; exact ⟨pt, Nat.le_refl _, rfl⟩
  · rw [w, if_neg (nI_pos (by omega)), clI rfl (by omega)]
    obtain ⟨q, q1, q2⟩ := hp k hk (by rcases hk3 with g | g | g <;> rw [g] <;> decide)
    exact ⟨q, by omega, q2⟩
theorem cuv_bt {sz pt p : Nat} {bit : Int64} (hT : TT sz B) (hpt : pt ≤ 30) (hC : ∀ k, k < sz → B 25 k = -1 ∨ ∃ q, q < pt ∧ B 25 k = nI q) {i : Nat} : ∀ (m : Nat) (x : Int32) (j : Nat) (v : Int64), okI x sz → bt (cuv B p bit m x j v) i = true → bt v i = true ∨ (bt bit i = true ∧ ∃ q, q < pt ∧ j = 31 * p + q) := by
  have hz := hT.1
  obtain ⟨_, dp, hTk, _⟩ := hT
  intro m
  induction m with
  | zero => intro x j v _ h; exact Or.inl h
  | succ m ih =>
    intro x j v hx h
    unfold cuv at h
    rcases hx with rfl | ⟨k, hk, rfl⟩
    · rw [if_pos rfl] at h; exact Or.inl h
    · rw [if_neg (nI_m1 (by omega)), clI rfl (by omega)] at h
      have hnx : okI (if B 22 k = 0 then -1 else B 19 k) sz := by
        split
        · exact Or.inl rfl
        · exact (hTk k hk).1.okI19 hk
      rcases ih _ j _ hnx h with w | w
      · split at w
        · rename_i g
          rw [bt_or, Bool.or_eq_true] at w
          rcases w with w | w
          · exact Or.inl w
          · refine Or.inr ⟨w, ?_⟩
            rcases hC k hk with e | ⟨q, q1, q2⟩
            · exact absurd e g.1
            · refine ⟨q, q1, ?_⟩
              rw [g.2, q2, clI rfl (by omega)]
        · exact Or.inl w
      · exact Or.inr w
theorem fdk_bt {sz pt p bs0 : Nat} (hT : TT sz B) (hpt : pt ≤ 30) (hC : ∀ k, k < sz → C1 B pt bs0 k) (hbs : bs0 + cnt B sz ≤ 48) {i : Nat} : ∀ (m : Nat) (j : Nat) (v : Int64), m ≤ sz → bt (fdk B p bs0 m j v) i = true → bt v i = true ∨ (∃ k, k < sz ∧ B 18 k = 0 ∧ i = bs0 + cnt B k ∧ ∃ q, q < pt ∧ j = 31 * p + q) := by
  intro m
  induction m with
  | zero => intro j v _ h; exact Or.inl h
  | succ m ih =>
    intro j v hm h
    unfold fdk at h
    split at h
    · rename_i g
      rcases cuv_bt hT hpt (fun k hk => (hC k hk).2.2.1) _ _ _ _ (Or.inr ⟨m, by omega, rfl⟩) h with w | ⟨w, q, q1, q2⟩
      · exact ih j v (by omega) w
      · have := cnt_lt (B := B) (a := m) (b := sz) (by omega) g
        rw [bt_bit (by omega)] at w
        exact Or.inr ⟨m, by omega, g, by simpa using w, q, q1, q2⟩
    · exact ih j v (by omega) h
theorem bstar_10 {f : Nat → Int32} {n : Nat} {kd : Nat → Int32} {a bs : Nat} {s : zS} {v : zBo} (h : star (bst f n kd) (p0 a s) v) (h9 : s.1 9 = nI bs) (hbs : bs ≤ 48) {b : Nat} (hb : b < bs) : v.2.2.2.2.1 10 b = s.2.2.1 10 b := by
  have := h (fun w => (∃ m, bs ≤ m ∧ m ≤ 48 ∧ w.2.2.1 9 = nI m) ∧ w.2.2.2.2.1 10 b = s.2.2.1 10 b) ⟨⟨bs, Nat.le_refl _, by omega, by simp [p0, upd]; exact h9⟩, by simp [p0, va_up]⟩ (fun x y c g => ?_)
  · exact this.2
  · obtain ⟨⟨m, m1, m2, m3⟩, c2⟩ := c
    obtain ⟨a, sz, bs', ln, bk, nd, lt, fr, I, I', J, J', B, B', D, D', hh, g⟩ := g
    rcases g with ⟨rfl, rfl, h0, hx, hy, h1, h2, h3⟩ | ⟨kk, I1, rfl, rfl, hl6, h1, h2⟩ | ⟨I1, rfl, rfl, h0, hx, hy, h1, h2⟩ | ⟨I1, B1, rfl, rfl, h0, hx, hy, h1, h2, h3, h4, h5⟩ | ⟨pk, ch, vr, ex, out, a', rfl, rfl, hp30, hb48, hbas, h⟩ | ⟨rfl, rfl, h0, h1⟩ | ⟨rfl, rfl, h0, h1⟩ | ⟨rfl, rfl, h0, hx, h1⟩
    all_goals dsimp only at m3 c2 ⊢
    · exact ⟨⟨m, m1, m2, (h1.2 9 (by decide)).trans m3⟩, by rw [h3 10 (by decide)]; exact c2⟩
    · have hI : I1 9 = I 9 := by
        rcases h1 with ⟨_, _, _, w⟩ | ⟨_, _, _, _, w⟩ | ⟨_, _, _, w⟩ <;> exact w.2 9 (by decide)
      exact ⟨⟨m, m1, m2, (h2.2.2.1 9 (by decide)).trans (hI.trans m3)⟩, by rw [h2.2.2.2.2.2.2.2.2.2.2.2 10 (by decide)]; exact c2⟩
    · exact ⟨⟨m, m1, m2, (h2.2.2.1 9 (by decide)).trans ((h1.2 9 (by decide)).trans m3)⟩, by rw [h2.2.2.2.2.2.2.2.2.2.2.2 10 (by decide)]; exact c2⟩
    · exact ⟨⟨m, m1, m2, (h2.2.2.1 9 (by decide)).trans ((h1.2 9 (by decide)).trans m3)⟩, by rw [h5 10 (by decide), h2.2.2.2.2.2.2.2.2.2.2.2 10 (by decide)]; exact c2⟩
    · obtain ⟨d1, d2, d3, d4, d5, d6, d7, d9, d10, d11, d12, d13, d14, _⟩ := h
      have eb : m = bs' := nI_inj (by omega) (by omega) (m3.symm.trans hh.2.2.1)
      have n48 : ¬ m = 48 := fun e => hb48 (by rw [m3, e]; rfl)
      subst eb
      have : ¬ b = m := by omega
      exact ⟨⟨m + 1, by omega, by omega, d2⟩, by rw [d14]; simp [upd, this]; exact c2⟩
    · exact ⟨⟨m, m1, m2, (h1.2 9 (by decide)).trans m3⟩, c2⟩
    · exact ⟨⟨m, m1, m2, (h1.2 9 (by decide)).trans m3⟩, c2⟩
    · exact ⟨⟨m, m1, m2, (h1.2 9 (by decide)).trans m3⟩, c2⟩
def EN (kd : Nat → Int32) (s : zS) : Prop := ∃ bs ln p, s.1 9 = nI bs ∧ s.1 11 = nI ln ∧ s.1 10 = nI p ∧ bs ≤ 48 ∧ ln ≤ 1000 ∧ p ≤ 4 ∧ (∀ b, b < bs → B1c kd ln b s.2.2.1 ∧ (∃ q, q < p ∧ s.2.2.1 10 b = nI q) ∧ (∃ y, y ≤ 30 ∧ s.2.2.1 11 b = nI y) ∧ (s.2.2.1 12 b = 0 ∨ s.2.2.1 12 b = 1)) ∧ (∀ j b, bt (s.2.2.2 1 j) b = true → j < 124 → b < bs ∧ ∃ q x, s.2.2.1 10 b = nI q ∧ x ≤ 30 ∧ j = 31 * q + x) ∧ (∀ q, q < p → ∃ y, y ≤ 30 ∧ s.2.2.1 13 q = nI y)
theorem EN_step {f : Nat → Int32} {n : Nat} {kd : Nat → Int32} (h012 : ∀ j, j < 8 → kd j = 0 ∨ kd j = 1 ∨ kd j = 2) {s t : zS} (hM : CM f n kd s) (h : pst f n kd s t) (hE : EN kd s) : EN kd t := by
  obtain ⟨bs, ln, p1, e9, e11, e10, b48, l1, p4, hB, hD, h13⟩ := hE
  obtain ⟨a, p, bs0, a1, sz, pt, v, I1, J1, B1, D1, B2, D2, k1, k2, k3, ⟨kT, kz, kC⟩, k5, k6, rfl⟩ := h
  have ep : p1 = p := nI_inj (by omega) (by omega) (e10.symm.trans k1.2.1)
  subst ep
  have eb : bs = bs0 := nI_inj (by omega) (by omega) (e9.symm.trans k1.2.2.1)
  subst eb
  have hBI := BI_0 hM k1.1 k1.2.2.2.1 k1.2.1 k1.2.2.2.2.1 k1.2.2.2.2.2.2
  have hW : EW kd bs p1 (p0 a s) := by
    refine ⟨bs, ln, 0, 0, by simp [p0, upd]; exact e9, by simp [p0, upd]; exact e11, by simp [p0, upd]; rfl, by simp [p0, upd]; rfl, by simp [p0, upd]; exact e10, by omega, l1, by omega, by omega, Nat.le_refl _, fun b hb => (hB b hb).1.up (Nat.le_refl _) ?_ ?_ ?_ ?_ (fun k _ => ?_), fun b hb => ?_, fun b h1 h2 => by omega, fun k hk => by omega⟩
    · simp [p0, va_up]
    · simp [p0, va_up]
    · simp [p0, va_up]
    · simp [p0, va_up]
    · simp [p0, va_up]
    · have : (p0 a s).2.2.2.2.1 10 = s.2.2.1 10 := by simp [p0, va_up]
      rw [this]; exact (hB b hb).2.1
  obtain ⟨⟨bs', ln', pt', sz', w9, w11, w17, w16, w10, v1, v2, v3, v4, v5, wb, w0, w1, wp⟩, hBI2⟩ := EW_star h012 hBI k2 hW
  have hCI := CI_star hBI k2 (CI_0 (a := a) e9 b48)
  dsimp only at w9 w11 w17 w16 w10 wb w0 w1 wp
  obtain ⟨sz2, pt2, bs2, c16, c17, c9, _, _, _, cb, _⟩ := hCI
  dsimp only at c16 c17 c9 cb
  have es : sz' = sz := nI_inj (by omega) (by have := kT.1; omega) (w16.symm.trans k3.2.2.2.1)
  subst es
  have es2 : sz2 = sz' := nI_inj (by omega) (by omega) (c16.symm.trans w16)
  subst es2
  have ept : pt' = pt := nI_inj (by omega) (by omega) (w17.symm.trans k3.2.2.2.2.1)
  subst ept
  have eb2 : bs2 = bs' := nI_inj (by omega) (by omega) (c9.symm.trans w9)
  subst eb2
  have hpt := k3.2.2.2.2.2
  have b48' : bs2 ≤ 48 := by
    obtain ⟨a9, s9, q9, b9, r9, n9, _, _, _, x9, _, _, _, y9, _⟩ := hBI2
    dsimp only at x9
    have : b9 = bs2 := nI_inj (by omega) (by omega) (x9.symm.trans w9)
    omega
  obtain ⟨fB, fD⟩ := bstar_fr k2
  dsimp only at fB fD
  obtain ⟨t1, t2, t3, t4, t5, t6, t7, t8⟩ := k6
  have s0 : ∀ k, k ∈ [11, 12, 13] → B1 k = s.2.2.1 k := fun k hk => by
    rw [fB k (by simp at hk ⊢; omega)]; simp at hk
    rcases hk with rfl | rfl | rfl <;> simp [p0, va_up]
  have row : ∀ b, bs ≤ b → b < bs2 → ∃ k, k < sz2 ∧ B1 18 k = 0 ∧ b = bs + cnt B1 k := by
    intro b h1 h2
    obtain ⟨k, q1, q2, q3⟩ := cnt_at (B := B1) sz2 (b - bs) (by omega)
    exact ⟨k, q1, q2, by omega⟩
  refine ⟨bs2, ln', p1 + 1, by simp [upd]; exact w9, by simp [upd]; exact w11, by simp [upd], b48', v2, by omega, fun b hb => ⟨(wb b hb).up (Nat.le_refl _) ?_ ?_ ?_ ?_ (fun k _ => ?_), ?_, ?_, ?_⟩, fun j b hbt hj => ?_, fun q hq => ?_⟩
  all_goals dsimp only
  · rw [t7 6 (by decide)]
  · rw [t7 7 (by decide)]
  · rw [t7 8 (by decide)]
  · rw [t7 9 (by decide)]
  · rw [t7 15 (by decide)]
  · rw [t7 10 (by decide)]
    by_cases e : b < bs
    · obtain ⟨q, q1, q2⟩ := w0 b e; exact ⟨q, by omega, q2⟩
    · exact ⟨p1, by omega, w1 b (by omega) hb⟩
  · by_cases e : b < bs
    · rw [(t2 b e).1, s0 11 (by decide)]; exact (hB b e).2.2.1
    · obtain ⟨k, q1, q2, q3⟩ := row b (by omega) hb
      rw [q3, (t1 k q1 q2).1]
      obtain ⟨y, y1, y2⟩ := pnt_c kT wp (beh_okX kT q1)
      exact ⟨y, by omega, y2⟩
  · by_cases e : b < bs
    · rw [(t2 b e).2, s0 12 (by decide)]; exact (hB b e).2.2.2
    · obtain ⟨k, q1, q2, q3⟩ := row b (by omega) hb
      rw [q3, (t1 k q1 q2).2]
      unfold kpv
      split
      · exact Or.inr rfl
      · exact Or.inl rfl
  · dsimp only at hbt
    rw [t3 j, fD] at hbt
    have pD : (p0 a s).2.2.2.2.2 1 = s.2.2.2 1 := rfl
    rw [pD] at hbt
    rw [t7 10 (by decide)]
    rcases fdk_bt kT hpt kC (by omega) sz2 j _ (Nat.le_refl _) hbt with w | ⟨k, q1, q2, q3, q, q4, q5⟩
    · obtain ⟨g1, q, x, g2, g3, g4⟩ := hD j b w hj
      obtain ⟨q', q1, q2⟩ := w0 b g1
      obtain ⟨q'', r1, r2⟩ := (hB b g1).2.1
      have eq1 : q = q'' := by
        have : j < 124 := hj
        exact nI_inj (by omega) (by omega) (g2.symm.trans r2)
      have e10 : B1 10 b = s.2.2.1 10 b := bstar_10 k2 e9 b48 g1
      exact ⟨by omega, q, x, by rw [e10]; exact g2, g3, g4⟩
    · have := cnt_lt (B := B1) q1 q2
      exact ⟨by omega, p1, q, w1 b (by omega) (by omega), by omega, q5⟩
  · rw [t6]
    by_cases e : q = p1
    · subst e; simp only [upd, if_true]
      obtain ⟨y, y1, y2⟩ := pnt_c kT wp (x := nI 0) (Or.inr (Or.inr ⟨0, kz, rfl⟩))
      exact ⟨y, by omega, y2⟩
    · simp only [upd, if_neg e]
      rw [s0 13 (by decide)]; exact h13 q (by omega)
end ZL8
