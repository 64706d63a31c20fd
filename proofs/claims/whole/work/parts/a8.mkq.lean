/-! The program, out of the class's rows. -/
section ZL9
variable {I : Nat → Int32} {J : Nat → Int64} {B : Nat → Nat → Int32} {D : Nat → Nat → Int64} {I9 : Nat → Int32} {J9 : Nat → Int64} {B9 : Nat → Nat → Int32} {D9 : Nat → Nat → Int64}
theorem dst_NR {f : Nat → Int32} {n : Nat} {s : zS} {d : zD} (h : star (dst f n) (d00 s) d) : d.2.1 ≤ 6 ∧ d.2.2.1 ≤ 2 ∧ ∃ B9 : Nat → Nat → Int32, NR B9 d.2.1 d.2.2.1 d.2.2.2.1 d.2.2.2.2.1 d.2.2.2.2.2.1 d.2.2.2.2.2.2 := by
  refine h (fun d => d.2.1 ≤ 6 ∧ d.2.2.1 ≤ 2 ∧ ∃ B9 : Nat → Nat → Int32, NR B9 d.2.1 d.2.2.1 d.2.2.2.1 d.2.2.2.2.1 d.2.2.2.2.2.1 d.2.2.2.2.2.2) ⟨Nat.zero_le _, Nat.zero_le _, fun _ _ => -1, ?_⟩ (fun u v c g => ?_)
  · have k0 : ∀ j, j < 8 → (d00 s).2.2.2.1 j = 0 := fun j hj => by simp [d00, s00, va_up, zFill, hj]
    refine ⟨fun j hj => ⟨Or.inl (k0 j hj), fun z => ?_, fun z => ?_⟩, fun v hv => absurd hv (Nat.not_lt_zero v), fun j hj z => ?_, fun _ _ _ => rfl, fun v hv => absurd hv (Nat.not_lt_zero v), fun j hj z => ?_, fun _ _ _ => rfl⟩
    all_goals rw [k0 j hj] at z; exact absurd z (by decide)
  · obtain ⟨c1, c2, Bg, hNR⟩ := c
    obtain ⟨g1, g2, g⟩ := g
    have hj := (one_lt g1).1
    have ej := nI_clamp_one g1
    rcases g with ⟨t1, t2, t3, t4, t5, rfl⟩ | ⟨t1, t2, t3, t4, t5, rfl⟩ | ⟨t1, t2, t3, rfl⟩
    · refine ⟨c1, by dsimp only; omega, fun k => if k = 2 then upd (Bg 2) (one (tkn f n (dpl f n u.1)) 97 8).toNatClampNeg (nI u.2.2.1) else if k = 4 then upd (Bg 4) u.2.2.1 (one (tkn f n (dpl f n u.1 + 1)) 48 8) else Bg k, ?_⟩
      have := hNR.chan hj g2 (d := one (tkn f n (dpl f n u.1 + 1)) 48 8) ⟨(one_in t3).1, t4⟩ (B' := fun k => if k = 2 then upd (Bg 2) (one (tkn f n (dpl f n u.1)) 97 8).toNatClampNeg (nI u.2.2.1) else if k = 4 then upd (Bg 4) u.2.2.1 (one (tkn f n (dpl f n u.1 + 1)) 48 8) else Bg k) rfl rfl rfl rfl
      rw [← ej] at this; exact this
    · refine ⟨by dsimp only; omega, c2, fun k => if k = 1 then upd (Bg 1) (one (tkn f n (dpl f n u.1)) 97 8).toNatClampNeg (nI u.2.1) else if k = 3 then upd (Bg 3) u.2.1 (one (tkn f n (dpl f n u.1 + 2)) 48 8) else Bg k, ?_⟩
      have := hNR.var hj g2 (d := one (tkn f n (dpl f n u.1 + 2)) 48 8) (one_in t4) (B' := fun k => if k = 1 then upd (Bg 1) (one (tkn f n (dpl f n u.1)) 97 8).toNatClampNeg (nI u.2.1) else if k = 3 then upd (Bg 3) u.2.1 (one (tkn f n (dpl f n u.1 + 2)) 48 8) else Bg k) rfl rfl rfl rfl
      rw [← ej] at this; exact this
    · refine ⟨by dsimp only; omega, c2, fun k => if k = 1 then upd (Bg 1) (one (tkn f n (dpl f n u.1)) 97 8).toNatClampNeg (nI u.2.1) else if k = 3 then upd (Bg 3) u.2.1 0 else Bg k, ?_⟩
      have := hNR.var hj g2 (d := 0) (by decide) (B' := fun k => if k = 1 then upd (Bg 1) (one (tkn f n (dpl f n u.1)) 97 8).toNatClampNeg (nI u.2.1) else if k = 3 then upd (Bg 3) u.2.1 0 else Bg k) rfl rfl rfl rfl
      rw [← ej] at this; exact this
theorem MAT_N {f : Nat → Int32} {n : Nat} {s t : zS} {d : zD} {s1 : zS} (h : MAT f n s t d s1) : NC d ∧ (∀ j, j < 8 → d.2.2.2.1 j = 0 ∨ d.2.2.2.1 j = 1 ∨ d.2.2.2.1 j = 2) ∧ EN d.2.2.2.1 t := by
  obtain ⟨h6, h2, Bg, hNR⟩ := dst_NR h.1
  have hN : NC d := NM.nc (I9 := fun k => if k = 6 then nI d.2.1 else nI d.2.2.1) (B9 := Bg) ⟨rfl, rfl, h6, h2, hNR⟩
  have h012 : ∀ j, j < 8 → d.2.2.2.1 j = 0 ∨ d.2.2.2.1 j = 1 ∨ d.2.2.2.1 j = 2 := fun j hj => (hNR.1 j hj).1
  refine ⟨hN, h012, ?_⟩
  obtain ⟨m1, m2, m3, m4, m5, m6, m7⟩ := h
  have hE : EN d.2.2.2.1 s1 := by
    refine ⟨0, 0, 0, ?_, ?_, ?_, by omega, by omega, by omega, fun b hb => by omega, fun j b hbt hj => ?_, fun q hq => by omega⟩
    · rw [m4.1 9 (by decide)]; simp [s00, upd]; rfl
    · rw [m4.1 11 (by decide)]; simp [s00, upd]; rfl
    · rw [m4.1 10 (by decide)]; simp [s00, upd]; rfl
    · rw [m6] at hbt
      have : (s00 s).2.2.2 1 j = 0 := by simp [s00, va_up, zFill, hj]
      rw [this, bt_0] at hbt; exact absurd hbt (by decide)
  exact (m7 (fun w => CM f n d.2.2.2.1 w ∧ EN d.2.2.2.1 w) ⟨CM_1 m3 m4, hE⟩ (fun x y c g => ⟨CM_step c.1 g, EN_step h012 c.1 g c.2⟩)).2
theorem kind_n {x : Int32} (h : x = 0 ∨ x = 1 ∨ x = 2 ∨ x = 3 ∨ x = 4 ∨ x = 5) : nI x.toNatClampNeg = x ∧ x.toNatClampNeg ≤ 5 := by
  rcases h with rfl | rfl | rfl | rfl | rfl | rfl <;> decide
/-- the program of a model -/
theorem mkQ {f : Nat → Int32} {n : Nat} {s t : zS} {d : zD} {s1 : zS} (h : MAT f n s t d s1) (hM : CM f n d.2.2.2.1 t) : NC d ∧ ∃ Q, QW d Q ∧ PC d Q t.1 t.2.1 t.2.2.1 t.2.2.2 := by
  obtain ⟨hN, h012, bs, ln, p, e9, e11, e10, b48, l1, p4, hB, hD, h13⟩ := MAT_N h
  obtain ⟨⟨bs', p', e9', _, e10', _, ⟨eJ, eD⟩, e13⟩, k7, k8, k2, k3, k4, k5⟩ := MAT_E h
  have eb : bs' = bs := nI_inj (by omega) (by omega) (e9'.symm.trans e9)
  subst eb
  have ep : p' = p := nI_inj (by omega) (by omega) (e10'.symm.trans e10)
  subst ep
  have ln480 : ln ≤ 480 := by
    obtain ⟨a9, b9, p9, n9, hT, _, _, x11, _, _, x, _⟩ := hM
    have := hT.2.2.1
    have := hT.2.2.2.1
    have : n9 = ln := nI_inj (by omega) (by omega) (x11.symm.trans e11)
    omega
  refine ⟨hN, ?_⟩
  obtain ⟨y, hy⟩ : ∃ y : Nat → Nat × Nat × List Int32, ∀ b, b < bs' → ((t.2.2.1 6 b = 2 ∨ t.2.2.1 6 b = 3) → (y b).1 < d.2.2.1 ∧ t.2.2.1 7 b = nI (xc d (y b).1)) ∧ ((t.2.2.1 6 b = 0 ∨ t.2.2.1 6 b = 3) → (y b).2.1 < d.2.1 ∧ t.2.2.1 8 b = nI (xv d (y b).2.1)) ∧ ((t.2.2.1 6 b = 0 ∨ t.2.2.1 6 b = 1 ∨ t.2.2.1 6 b = 2) → ∃ lb, t.2.2.1 9 b = nI lb ∧ rep (t.2.2.1 15) lb (22 :: (y b).2.2) ∧ lb + (y b).2.2.length < ln ∧ okR (y b).2.2 ∧ ht (y b).2.2 = 1 ∧ nod (y b).2.2 ≤ 12 ∧ KN d.2.2.2.1 (y b).2.2) := by
    apply Classical.axiomOfChoice (r := fun b (y : Nat × Nat × List Int32) => b < bs' → ((t.2.2.1 6 b = 2 ∨ t.2.2.1 6 b = 3) → y.1 < d.2.2.1 ∧ t.2.2.1 7 b = nI (xc d y.1)) ∧ ((t.2.2.1 6 b = 0 ∨ t.2.2.1 6 b = 3) → y.2.1 < d.2.1 ∧ t.2.2.1 8 b = nI (xv d y.2.1)) ∧ ((t.2.2.1 6 b = 0 ∨ t.2.2.1 6 b = 1 ∨ t.2.2.1 6 b = 2) → ∃ lb, t.2.2.1 9 b = nI lb ∧ rep (t.2.2.1 15) lb (22 :: y.2.2) ∧ lb + y.2.2.length < ln ∧ okR y.2.2 ∧ ht y.2.2 = 1 ∧ nod y.2.2 ≤ 12 ∧ KN d.2.2.2.1 y.2.2))
    intro b
    by_cases hb : b < bs'
    · obtain ⟨⟨c1, c2, c3, c4, c5⟩, _⟩ := hB b hb
      have hk : ∃ k, (t.2.2.1 6 b = 2 ∨ t.2.2.1 6 b = 3) → k < d.2.2.1 ∧ t.2.2.1 7 b = nI (xc d k) := by
        by_cases g : t.2.2.1 6 b = 2 ∨ t.2.2.1 6 b = 3
        · obtain ⟨j, j8, ej, kj⟩ := c3 g
          obtain ⟨k, hk, ek⟩ := hN.2.2.2.2.2.2.2.1 j j8 kj
          exact ⟨k, fun _ => ⟨hk, by rw [ej]; unfold xc; rw [ek, clI rfl (by omega)]⟩⟩
        · exact ⟨0, fun z => absurd z g⟩
      have hv : ∃ v, (t.2.2.1 6 b = 0 ∨ t.2.2.1 6 b = 3) → v < d.2.1 ∧ t.2.2.1 8 b = nI (xv d v) := by
        by_cases g : t.2.2.1 6 b = 0 ∨ t.2.2.1 6 b = 3
        · have : ∃ j, j < 8 ∧ t.2.2.1 8 b = nI j ∧ d.2.2.2.1 j = 1 := g.elim c2 c4
          obtain ⟨j, j8, ej, kj⟩ := this
          obtain ⟨k, hk, ek⟩ := hN.2.2.2.2.2.2.1 j j8 kj
          exact ⟨k, fun _ => ⟨hk, by rw [ej]; unfold xv; rw [ek, clI rfl (by omega)]⟩⟩
        · exact ⟨0, fun z => absurd z g⟩
      obtain ⟨k, hk⟩ := hk
      obtain ⟨v, hv⟩ := hv
      rcases c5 with ⟨w1, w2⟩ | ⟨lb, out, w1, w2, w3, w4, w5, w6, w7, _⟩
      · exact ⟨(k, v, []), fun _ => ⟨hk, hv, fun z => absurd z w2⟩⟩
      · exact ⟨(k, v, out), fun _ => ⟨hk, hv, fun _ => ⟨lb, w1, w2, w3, w4, w5, w6, w7⟩⟩⟩
    · exact ⟨(0, 0, []), fun z => absurd z hb⟩
  have K : ∀ b, b < bs' → nI (t.2.2.1 6 b).toNatClampNeg = t.2.2.1 6 b ∧ (t.2.2.1 6 b).toNatClampNeg ≤ 5 := fun b hb => kind_n (hB b hb).1.1
  have Kq : ∀ b, b < bs' → ∀ (m : Nat) (x : Int32), x = nI m → m ≤ 5 → ((t.2.2.1 6 b).toNatClampNeg = m ↔ t.2.2.1 6 b = x) := fun b hb m x hx hm => by
    have := K b hb
    exact ⟨fun e => by rw [hx, ← e]; exact this.1.symm, fun e => clI (e.trans hx) (by omega)⟩
  let Q : zQ := (p', bs', fun b => (t.2.2.1 6 b).toNatClampNeg, fun b => (t.2.2.1 10 b).toNatClampNeg, fun b => (y b).1, fun b => (y b).2.1, fun b => (y b).2.2, fun b => (t.2.2.1 11 b).toNatClampNeg, fun b => decide (t.2.2.1 12 b = 1), fun p s b => decide (p < 4) && decide (s < 31) && bt (t.2.2.2 1 (31 * p + s)) b, fun p => if p < 4 then (t.2.2.1 13 p).toNatClampNeg else 0)
  have qk : ∀ b, qK Q b = (t.2.2.1 6 b).toNatClampNeg := fun _ => rfl
  have k23 : ∀ b, b < bs' → (qK Q b = 2 ∨ qK Q b = 3) → (t.2.2.1 6 b = 2 ∨ t.2.2.1 6 b = 3) := fun b hb z => z.imp (Kq b hb 2 2 rfl (by omega)).mp (Kq b hb 3 3 rfl (by omega)).mp
  have k03 : ∀ b, b < bs' → (qK Q b = 0 ∨ qK Q b = 3) → (t.2.2.1 6 b = 0 ∨ t.2.2.1 6 b = 3) := fun b hb z => z.imp (Kq b hb 0 0 rfl (by omega)).mp (Kq b hb 3 3 rfl (by omega)).mp
  have k012 : ∀ b, b < bs' → qK Q b ≤ 2 → (t.2.2.1 6 b = 0 ∨ t.2.2.1 6 b = 1 ∨ t.2.2.1 6 b = 2) := fun b hb z => by
    have : qK Q b = 0 ∨ qK Q b = 1 ∨ qK Q b = 2 := by omega
    rcases this with w | w | w
    · exact Or.inl ((Kq b hb 0 0 rfl (by omega)).mp w)
    · exact Or.inr (Or.inl ((Kq b hb 1 1 rfl (by omega)).mp w))
    · exact Or.inr (Or.inr ((Kq b hb 2 2 rfl (by omega)).mp w))
  have s13 : ∀ q, q < 4 → ∃ x, x ≤ 30 ∧ t.2.2.1 13 q = nI x := fun q hq => by
    by_cases e : q < p'
    · exact h13 q e
    · exact ⟨0, by omega, e13 q (by omega) hq⟩
  refine ⟨Q, ⟨p4, b48, fun b hb => ?_, fun p s b hm => ?_, fun p => ?_, fun p hp => ?_, h012⟩, ⟨k7, k8, k4, k5⟩, k3, e10, e9, ⟨ln, e11, ln480, fun b hb => ?_⟩, fun b => ?_, fun k hk b => ?_, fun p s hp hs b => ?_, fun p hp => ?_⟩
  · obtain ⟨q, q1, q2⟩ := (hB b hb).2.1
    obtain ⟨z, z1, z2⟩ := (hB b hb).2.2.1
    obtain ⟨y1, y2, y3⟩ := hy b hb
    refine ⟨(K b hb).2, ?_, ?_, fun g => (y1 (k23 b hb g)).1, fun g => (y2 (k03 b hb g)).1, fun g => ?_⟩
    · show (t.2.2.1 10 b).toNatClampNeg < p'
      rw [clI q2 (by omega)]; exact q1
    · show (t.2.2.1 11 b).toNatClampNeg ≤ 30
      rw [clI z2 (by omega)]; exact z1
    · obtain ⟨lb, w1, w2, w3, w4, w5, w6, w7⟩ := y3 (k012 b hb g)
      exact ⟨w4, w5, w6, w7⟩
  · have hm' : (decide (p < 4) && decide (s < 31) && bt (t.2.2.2 1 (31 * p + s)) b) = true := hm
    simp only [Bool.and_eq_true, decide_eq_true_eq] at hm'
    obtain ⟨⟨m1, m2⟩, m3⟩ := hm'
    obtain ⟨g1, q, x, g2, g3, g4⟩ := hD _ b m3 (by omega)
    refine ⟨g1, ?_⟩
    show (t.2.2.1 10 b).toNatClampNeg = p
    have : q = p := by omega
    rw [clI g2 (by omega)]; exact this
  · show (if p < 4 then (t.2.2.1 13 p).toNatClampNeg else 0) ≤ 30
    split
    · rename_i g
      obtain ⟨x, x1, x2⟩ := s13 p g
      rw [clI x2 (by omega)]; exact x1
    · omega
  · show (if p < 4 then (t.2.2.1 13 p).toNatClampNeg else 0) = 0
    split
    · rename_i g
      rw [e13 p hp g]; rfl
    · rfl
  · obtain ⟨q, q1, q2⟩ := (hB b hb).2.1
    obtain ⟨z, z1, z2⟩ := (hB b hb).2.2.1
    obtain ⟨y1, y2, y3⟩ := hy b hb
    refine ⟨(K b hb).1.symm, ?_, ?_, ?_, fun g => (y1 (k23 b hb g)).2, fun g => (y2 (k03 b hb g)).2, fun g => ?_, fun g => ?_⟩
    · show t.2.2.1 10 b = nI (t.2.2.1 10 b).toNatClampNeg
      rw [q2, clI rfl (by omega)]
    · show t.2.2.1 11 b = nI (t.2.2.1 11 b).toNatClampNeg
      rw [z2, clI rfl (by omega)]
    · show t.2.2.1 12 b = if decide (t.2.2.1 12 b = 1) = true then 1 else 0
      rcases (hB b hb).2.2.2 with w | w
      · rw [w]; decide
      · rw [w]; decide
    · obtain ⟨lb, w1, w2, w3, w4, w5, w6, w7⟩ := y3 (k012 b hb g)
      exact ⟨lb, w1, by omega, w2, w3⟩
    · rcases (hB b hb).1.2.2.2.2 with ⟨w1, w2⟩ | ⟨lb, out, _, _, _, _, _, _, _, w⟩
      · exact w1
      · exfalso
        rcases w with w | w | w
        · have := (Kq b hb 0 0 rfl (by omega)).mpr w; rw [qk] at g; omega
        · have := (Kq b hb 1 1 rfl (by omega)).mpr w; rw [qk] at g; omega
        · have := (Kq b hb 2 2 rfl (by omega)).mpr w; rw [qk] at g; omega
  · rw [eJ b]
    show (decide (b < bs') && decide (t.2.2.1 6 b = 5)) = (decide (b < bs') && decide ((t.2.2.1 6 b).toNatClampNeg = 5))
    by_cases hb : b < bs'
    · simp only [hb, decide_true, Bool.true_and]
      exact decide_eq_decide.mpr (Kq b hb 5 5 rfl (by omega)).symm
    · simp [hb]
  · obtain ⟨xe, x8, x2⟩ := hN.c hk
    rw [eD _ x8 b]
    show (decide (b < bs') && decide (t.2.2.1 6 b = 3) && decide (t.2.2.1 7 b = nI (xc d k))) = (decide (b < bs') && decide ((t.2.2.1 6 b).toNatClampNeg = 3) && decide ((y b).1 = k))
    by_cases hb : b < bs'
    · have e3 := Kq b hb 3 3 rfl (by omega)
      by_cases g : t.2.2.1 6 b = 3
      · have y1 := (hy b hb).1 (Or.inr g)
        have g' := e3.mpr g
        have : t.2.2.1 7 b = nI (xc d k) ↔ (y b).1 = k := by
          rw [y1.2]
          constructor
          · intro e
            have := (hN.c y1.1).2.1
            exact hN.ci y1.1 hk (nI_inj (by omega) (by omega) e)
          · intro e; rw [e]
        simp only [hb, g, g', decide_true, Bool.true_and]
        exact decide_eq_decide.mpr this
      · have g' : ¬ (t.2.2.1 6 b).toNatClampNeg = 3 := fun e => g (e3.mp e)
        simp [hb, g, g']
    · simp [hb]
  · show bt (t.2.2.2 1 (31 * p + s)) b = (decide (p < 4) && decide (s < 31) && bt (t.2.2.2 1 (31 * p + s)) b)
    simp [hp, hs]
  · show t.2.2.1 13 p = nI (if p < 4 then (t.2.2.1 13 p).toNatClampNeg else 0)
    obtain ⟨x, x1, x2⟩ := s13 p hp
    rw [if_pos hp, x2, clI rfl (by omega)]
end ZL9
