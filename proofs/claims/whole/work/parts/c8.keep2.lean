/-! What stays of a model and of a formula. -/
section ZT1
variable {I : Nat → Int32} {J : Nat → Int64} {B : Nat → Nat → Int32} {D : Nat → Nat → Int64} {I9 : Nat → Int32} {J9 : Nat → Int64} {B9 : Nat → Nat → Int32} {D9 : Nat → Nat → Int64}
/-- where labels lead, whatever the other numbers are -/
def HLx (np : Nat) (LP : Nat → Int32) (I9 : Nat → Int32) (B9 : Nat → Nat → Int32) : Prop := ∀ J D, HLB np LP I9 J B9 D
theorem HLx.cg {np : Nat} {LP : Nat → Int32} {I' : Nat → Int32} {B' : Nat → Nat → Int32} (h : HLx np LP I9 B9) (h8 : I' 8 = I9 8) (hB : ∀ k, k ∈ [5, 6, 7, 8, 9, 10, 11, 12, 16, 20, 22, 23] → B' k = B9 k) : HLx np LP I' B' := fun J D p l hp hl I1 B1 g1 g2 => h J D p l hp hl I1 B1 (g1.trans h8) (fun k hk => (g2 k hk).trans (hB k hk))
theorem RM_l {f : Nat → Int32} {n : Nat} {kd : Nat → Int32} {t : zS} (h : RM f n kd t I9 B9) {np : Nat} (hnp : t.1 10 = nI np) (hn4 : np ≤ 4) : HLx np (t.2.2.1 14) I9 B9 ∧ okLP (t.2.2.1 14) := by
  obtain ⟨a, p, base, bs, ln, cl, cv, ⟨r5, r10, r9, r11, rb, rp, rl⟩, ⟨rT, r8, r9', r10', r11', rcl, rba⟩, hBR, hrest, hkn, hPB, hPP, hD1, hinj⟩ := h
  have hn := rT.2.2.2.1
  have han := rT.2.2.1
  have ep : np = p := nI_inj (by omega) (by omega) (hnp.symm.trans r10)
  subst ep
  have key : ∀ q l, q < np → l < 8 → ∀ (I1 : Nat → Int32) (B1 : Nat → Nat → Int32), I1 8 = I9 8 → (∀ k, k ∈ [5, 6, 7, 8, 9, 10, 11, 12, 16, 20, 22, 23] → B1 k = B9 k) → ∀ (J : Nat → Int64) (D : Nat → Nat → Int64), ((B1 22 (8 * q + l) < 0 ∧ t.2.2.1 14 (8 * q + l) = -1) ∨ (¬ B1 22 (8 * q + l) < 0 ∧ ∃ pt, pt ≤ 30 ∧ t.2.2.1 14 (8 * q + l) = nI pt ∧ ∀ (P : Int32 → (Nat → Int32) → (Nat → Int64) → (Nat → Nat → Int32) → (Nat → Nat → Int64) → Prop), P (nI pt) I1 J B1 D → wp_LassoFinderModel_instead I1 J B1 D (B1 22 (8 * q + l)) (fun r I J B D => wp_LassoFinderModel_pointOf I J B D (nI q) r P))) := by
    intro q l hq hl I1 B1 h8 hB J D
    obtain ⟨base', pt, sz, Bq, u2, u0, u3, u4, u5, u6, u7⟩ := hPP q hq
    have hb' := u3.2.2.2.2.1
    have hpt := u3.2.2.2.2.2.2
    have hR1 : RT base' q pt sz Bq B1 := RT_cg u3 hB
    have e22 := hR1.2.2.1 l hl
    have e14 := u7 l hl
    rcases u2.2 with ⟨dp, _, hlab⟩
    rcases hlab l hl with e | ⟨k, hk, e⟩
    · rw [e] at e22 e14
      rw [e22, e14, if_pos rfl]
      exact Or.inl ⟨by rw [show off base' (-3) = -1 from rfl]; decide, rfl⟩
    · have hne : ¬ Bq 28 l = -3 := by
        rw [e]
        intro z
        have := congrArg Int32.toInt z
        rw [nI_toInt (by omega)] at this
        have h3 : (-3 : Int32).toInt = -3 := rfl
        omega
      rw [if_neg hne] at e14
      have hx : okX (Bq 28 l) sz := Or.inr (Or.inr ⟨k, hk, e⟩)
      obtain ⟨y, y1, y2⟩ := pnt_c u2 (fun j hj hj2 => by
        obtain ⟨q', q1, q2, _⟩ := (u3.2.1 j hj).2.2.2.1 hj2
        exact ⟨q', q1, q2⟩) hx
      rw [e22, e14]
      refine Or.inr ⟨?_, y, by omega, y2, fun P hP => ?_⟩
      · rw [e, off_n (by omega)]; exact nI_pos (by omega)
      · refine q_instead hR1 u2 (by rw [h8]; exact r8) (by omega) (by omega) hx hne (q_pointOf hR1 u2 hx ?_)
        rw [y2]; exact hP
  refine ⟨fun J D q l hq hl I1 B1 h8 hB => key q l hq hl I1 B1 h8 hB J D, fun j hj => ?_⟩
  by_cases hjp : j < 8 * np
  · rcases key (j / 8) (j % 8) (by omega) (by omega) I9 B9 rfl (fun _ _ => rfl) (fun _ => 0) (fun _ _ => 0) with ⟨_, e⟩ | ⟨_, pt, e1, e2, _⟩
    · rw [show 8 * (j / 8) + j % 8 = j by omega] at e; exact Or.inl e
    · rw [show 8 * (j / 8) + j % 8 = j by omega] at e2; exact Or.inr ⟨pt, e1, e2⟩
  · exact Or.inl (hrest j (by omega) hj).2
/-- the model's codes end below mc -/
def COD (mc : Nat) (Q : zQ) (B9 : Nat → Nat → Int32) : Prop := ∀ b, b < qN Q → qK Q b ≤ 2 → ∀ m, m < 140 → B9 18 b = nI m → ∃ e, e ≤ mc ∧ B9 15 m = nI e
theorem RM_c {f : Nat → Int32} {n : Nat} {kd : Nat → Int32} {d : zD} {Q : zQ} {t : zS} (h : RM f n kd t I9 B9) (hC : PC d Q t.1 t.2.1 t.2.2.1 t.2.2.2) (hW : QW d Q) : ∃ mc, mc ≤ 240 ∧ I9 11 = nI mc ∧ COD mc Q B9 ∧ kn9 B9 kd := by
  obtain ⟨a, p, base, bs, ln, cl, cv, ⟨r5, r10, r9, r11, rb, rp, rl⟩, ⟨rT, r8, r9', r10', r11', rcl, rba⟩, hBR, hrest, hkn, hPB, hPP, hD1, hinj⟩ := h
  have hn := rT.2.2.2.1
  have han := rT.2.2.1
  obtain ⟨cX, c3, c10, c9, ⟨L, cL, cL8, cq⟩, cJ, cD0, cD1, c13⟩ := hC
  have hN48 := hW.2.1
  have eN : qN Q = bs := nI_inj (by omega) (by omega) (c9.symm.trans r9)
  refine ⟨cl, by omega, r11', fun b hb hk m hm e18 => ?_, fun j hj => ?_⟩
  · obtain ⟨b6, b10, b11, b12, b7, b8, b9, b9'⟩ := cq b hb
    obtain ⟨m', m1, m2, m3, m4, m5, m6, m7, m8, m9⟩ := hBR b (by omega)
    have em : m' = m := nI_inj (by omega) (by omega) (m2.symm.trans e18)
    subst em
    obtain ⟨lb, z1, z2, z3, z4⟩ := b9 hk
    rcases m9 with ⟨e, _⟩ | ⟨lb', cb, out, y1, y2, y3, y4, y5, y6, y7, _⟩
    · rw [z1] at e; exact absurd e (nI_m1 (by omega))
    · exact ⟨cb + out.length, y7, y5⟩
  · obtain ⟨k1, k2, k3⟩ := hkn j hj
    rw [k2, k3]
    constructor
    · rintro (e | e) <;> rw [e] <;> decide
    · intro e
      rcases k1 with g | g | g
      · exact absurd g e
      · exact Or.inl g
      · exact Or.inr g
/-- there is a process -/
theorem MAT_1 {f : Nat → Int32} {n : Nat} {s t : zS} {d1 : zD} {s1 : zS} (hM : MAT f n s t d1 s1) (hend : t.1 5 = nI n) (hn : n ≤ 240) {np : Nat} (h10 : t.1 10 = nI np) (hp : np ≤ 4) : 1 ≤ np := by
  obtain ⟨m1, m2, m3, m4, m5, m6, m7⟩ := hM
  have key := m7 (fun u => u = s1 ∨ ∃ p, p < 4 ∧ u.1 10 = nI (p + 1)) (Or.inl rfl) (fun u v _ g => by
    obtain ⟨a, p, bs0, a1, sz, pt, v', I1, J1, B1, D1, B2, D2, ⟨g1, g2, g3, g4, g5, _⟩, _, _, _, _, _, rfl⟩ := g
    exact Or.inr ⟨p, g5, by simp [upd]⟩)
  rcases key with e | ⟨p, p1, p2⟩
  · subst e
    have h5 := m3.1.1
    have hle := m3.1.2.2.1
    have e1 : d1.1 = n := nI_inj (by omega) (by omega) (h5.symm.trans hend)
    have := tk_lt m2 (by decide)
    omega
  · have : np = p + 1 := nI_inj (by omega) (by omega) (h10.symm.trans p2)
    omega
/-- a formula that was read -/
theorem FOK_out {f : Nat → Int32} {n : Nat} {kd : Nat → Int32} {np : Nat} {LP : Nat → Int32} {out : List zIt} (hn : n ≤ 240) (h : star (fst9 f n kd np LP) (1, 0, [], []) (0, n, [], out)) : FOK kd np out := by
  obtain ⟨p1, p2, p3, p4, p5, p6, p7, p8, p9, p10, p11, p12⟩ := PI_star (PI_0 (f := f) (n := n) (kd := kd)) h
  have h9 := h (fun u => PI f n kd u ∧ ∀ x ∈ u.2.2.2, x.1 = 9 → x.2.1 < np ∧ x.2.2.1 ≤ 30) ⟨PI_0, fun x hx => by simp at hx⟩ (fun u v c g => by
    refine ⟨PI_step c.1 g, ?_⟩
    have hk8 := c.1.2.2.2.2.2.2.1
    have c := c.2
    obtain ⟨a, st, out, g⟩ := g
    rcases g with ⟨rfl, _, _, _, rfl⟩ | ⟨rfl, _, _, a1, codes, _, _, rfl⟩ | ⟨rfl, _, _, p, l, pt, _, q1, _, _, _, q2, rfl⟩ | ⟨k, st', _, rfl, q1, rfl⟩ | ⟨rfl, _, rfl⟩ | ⟨k, st', est, rfl, q1, _, rfl⟩ | ⟨rfl, _, _, _, _, rfl⟩ | ⟨st', _, rfl, _, rfl⟩
    · exact c
    · intro x hx e
      rcases List.mem_cons.mp hx with w | w
      · rw [w] at e
        have e' : (8 : Nat) = 9 := e
        omega
      · exact c x w e
    · intro x hx e
      rcases List.mem_cons.mp hx with w | w
      · rw [w]; exact ⟨q1, q2⟩
      · exact c x w e
    · intro x hx e
      rcases List.mem_cons.mp hx with w | w
      · rw [w] at e
        have e' : k = 9 := e
        omega
      · exact c x w e
    · exact c
    · intro x hx e
      rcases List.mem_cons.mp hx with w | w
      · rw [w] at e
        have e' : k = 9 := e
        have := hk8 k (by show k ∈ st; rw [est]; exact List.mem_cons_self ..)
        omega
      · exact c x w e
    · exact c
    · exact c)
  have q2 : out.length + 0 ≤ n := p2
  have q6 : ntm out + 0 ≤ 3 := p6
  have q9 : lnC out ≤ 2 * n := p9
  have q8 : (rts out).length + 0 = 0 + 1 := p8
  exact ⟨by omega, by omega, by omega, p5, fun x hx => ⟨(p12 x hx).1, (p12 x hx).2, h9.2 x hx⟩, by omega⟩
/-- what the model's rows are, in both -/
def KM (d : zD) (Q : zQ) (X : zG) (mc : Nat) (LP : Nat → Int32) (I : Nat → Int32) (J : Nat → Int64) (B : Nat → Nat → Int32) (D : Nat → Nat → Int64) (I9 : Nat → Int32) (B9 : Nat → Nat → Int32) (D9 : Nat → Nat → Int64) : Prop :=
  (NC d ∧ QW d Q ∧ gall d Q = some X ∧ 1 ≤ qP Q ∧ mc ≤ 240 ∧ okLP LP) ∧ (PC d Q I J B D ∧ (∀ j, j < 8 → B 2 j = d.2.2.2.1 j) ∧ CG d X I B D ∧ (∀ j, j ≤ gN X → B 32 j = nI (gF X j)) ∧ CT X B ∧ (∀ j, j < 32 → B 14 j = LP j)) ∧
  (PR d Q I9 B9 D9 ∧ RG9 d Q X I9 B9 D9 ∧ (∀ j, j ≤ gN X → B9 29 j = nI (gF X j)) ∧ RT9 X B9 ∧ kn9 B9 d.2.2.2.1 ∧ I9 22 = nI mc ∧ COD mc Q B9 ∧ HLx (qP Q) LP I9 B9)
theorem PC.cg {d : zD} {Q : zQ} {I' : Nat → Int32} {J' : Nat → Int64} {B' : Nat → Nat → Int32} {D' : Nat → Nat → Int64} (h : PC d Q I J B D) (hI : ∀ k, k ∈ [7, 8, 9, 10, 11] → I' k = I k) (hJ : J' 0 = J 0) (hB : ∀ k, 2 ≤ k → k ≤ 15 → B' k = B k) (hD : ∀ k, k < 2 → D' k = D k) : PC d Q I' J' B' D' := by
  unfold PC KX at *
  rw [hI 7 (by decide), hI 8 (by decide), hI 9 (by decide), hI 10 (by decide), hI 11 (by decide), hJ, hB 3 (by omega) (by omega), hB 4 (by omega) (by omega), hB 5 (by omega) (by omega), hB 6 (by omega) (by omega), hB 7 (by omega) (by omega), hB 8 (by omega) (by omega), hB 9 (by omega) (by omega), hB 10 (by omega) (by omega), hB 11 (by omega) (by omega), hB 12 (by omega) (by omega), hB 13 (by omega) (by omega), hB 15 (by omega) (by omega), hD 0 (by omega), hD 1 (by omega)]
  exact h
theorem PR.cg {d : zD} {Q : zQ} {mc : Nat} {I' : Nat → Int32} {B' : Nat → Nat → Int32} {D' : Nat → Nat → Int64} (h : PR d Q I9 B9 D9) (hc : COD mc Q B9) (hmc : mc ≤ 240) (hI : ∀ k, k ∈ [6, 7, 9, 10] → I' k = I9 k) (hB : ∀ k, 1 ≤ k → k ≤ 23 → B' k = B9 k) (h24 : ∀ k, k < mc → B' 24 k = B9 24 k) (hD : D' 0 = D9 0) : PR d Q I' B' D' := by
  obtain ⟨⟨n1, n2, n3, n4, n5⟩, h2, h3, h4, h5, h6, h7⟩ := h
  refine ⟨⟨by rw [hI 6 (by decide)]; exact n1, by rw [hI 7 (by decide)]; exact n2, n3, n4, ?_⟩, by rw [hI 10 (by decide)]; exact h2, by rw [hI 9 (by decide)]; exact h3, fun b hb => ?_, fun b b' => by rw [hB 18 (by omega) (by omega)]; exact h5 b b', by rw [hB 20 (by omega) (by omega)]; exact h6, by rw [hD]; exact h7⟩
  · unfold NR; rw [hB 1 (by omega) (by omega), hB 2 (by omega) (by omega), hB 3 (by omega) (by omega), hB 4 (by omega) (by omega)]; exact n5
  · obtain ⟨m, a1, a2, a3, a4, a5, a6, a7, a8, a9, a10, a11, a12⟩ := h4 b hb
    refine ⟨m, a1, ?_⟩
    rw [hB 18 (by omega) (by omega), hB 5 (by omega) (by omega), hB 6 (by omega) (by omega), hB 17 (by omega) (by omega), hB 12 (by omega) (by omega), hB 13 (by omega) (by omega), hB 14 (by omega) (by omega), hB 15 (by omega) (by omega), hB 10 (by omega) (by omega), hB 20 (by omega) (by omega), hB 23 (by omega) (by omega)]
    refine ⟨a2, a3, a4, a5, a6, a7, a8, fun g => ?_, a10, a11, a12⟩
    obtain ⟨x, x1, x2, x3, x4, x5⟩ := a9 g
    obtain ⟨e, e1, e2⟩ := hc b hb g m a1 a2
    have ee : x + (qT Q b).length = e := nI_inj (by omega) (by omega) (x2.symm.trans e2)
    exact ⟨x, x1, x2, rep_eq x3 (fun k hk => h24 k (by simp at hk; omega)), x4, x5⟩
theorem KM.cg {d : zD} {Q : zQ} {X : zG} {mc : Nat} {LP : Nat → Int32} {I' : Nat → Int32} {J' : Nat → Int64} {B' : Nat → Nat → Int32} {D' : Nat → Nat → Int64} {I9' : Nat → Int32} {B9' : Nat → Nat → Int32} {D9' : Nat → Nat → Int64} (h : KM d Q X mc LP I J B D I9 B9 D9)
    (hI : ∀ k, k ∈ [7, 8, 9, 10, 11, 19, 20] → I' k = I k) (hJ : J' 0 = J 0) (hB : ∀ k, (2 ≤ k ∧ k ≤ 15) ∨ (32 ≤ k ∧ k ≤ 38) → B' k = B k) (hD : ∀ k, k < 3 → D' k = D k) (h9I : ∀ k, k ∈ [6, 7, 8, 9, 10, 14, 15, 22] → I9' k = I9 k) (h9B : ∀ k, (1 ≤ k ∧ k ≤ 23) ∨ (29 ≤ k ∧ k ≤ 35) → B9' k = B9 k) (h24 : ∀ k, k < mc → B9' 24 k = B9 24 k) (h9D : ∀ k, k < 2 → D9' k = D9 k) : KM d Q X mc LP I' J' B' D' I9' B9' D9' := by
  obtain ⟨⟨a1, a2, a3, a4, a5, a6⟩, ⟨b1, b2, ⟨c1, c2, c3, c4⟩, b4, ⟨c5, c6⟩, b6⟩, ⟨d1, ⟨e1, e2, e3, e4⟩, d3, ⟨e5, e6⟩, d5, d6, d7, d8⟩⟩ := h
  refine ⟨⟨a1, a2, a3, a4, a5, a6⟩, ⟨b1.cg (fun k hk => hI k (by simp at hk ⊢; omega)) hJ (fun k h1 h2 => hB k (by omega)) (fun k hk => hD k (by omega)), by rw [hB 2 (by omega)]; exact b2, ⟨by rw [hI 19 (by decide)]; exact c1, by rw [hI 20 (by decide)]; exact c2, by rw [hD 2 (by omega)]; exact c3, by rw [hB 33 (by omega), hB 34 (by omega), hB 35 (by omega), hB 36 (by omega)]; exact c4⟩, by rw [hB 32 (by omega)]; exact b4, ⟨by rw [hB 37 (by omega)]; exact c5, by rw [hB 38 (by omega)]; exact c6⟩, by rw [hB 14 (by omega)]; exact b6⟩, ⟨d1.cg d7 a5 (fun k hk => h9I k (by simp at hk ⊢; omega)) (fun k h1 h2 => h9B k (by omega)) h24 (h9D 0 (by omega)), ⟨by rw [h9I 14 (by decide)]; exact e1, by rw [h9I 15 (by decide)]; exact e2, by rw [h9D 1 (by omega)]; exact e3, by rw [h9B 31 (by omega), h9B 30 (by omega), h9B 32 (by omega), h9B 33 (by omega)]; exact e4⟩, by rw [h9B 29 (by omega)]; exact d3, ⟨by rw [h9B 34 (by omega)]; exact e5, by rw [h9B 35 (by omega)]; exact e6⟩, ?_, by rw [h9I 22 (by decide)]; exact d6, ?_, d8.cg (h9I 8 (by decide)) (fun k hk => h9B k (by simp at hk; omega))⟩⟩
  · unfold kn9; rw [h9B 1 (by omega), h9B 2 (by omega)]; exact d5
  · unfold COD; rw [h9B 18 (by omega), h9B 15 (by omega)]; exact d7
/-- what the formula's rows are, in both -/
def KFm (d : zD) (X : zG) (mc : Nat) (out : List zIt) (I : Nat → Int32) (B : Nat → Nat → Int32) (I9 : Nat → Int32) (B9 : Nat → Nat → Int32) : Prop := ntm out ≤ 3 ∧ out.length ≤ 240 ∧ TRU d X (gN X) out B ∧ I 30 = nI (2 ^ ntm out) ∧ I 31 = nI (une out) ∧ I 21 = nI (ntm out) ∧ RK mc out I9 B9 ∧ LK d X (gN X) out B9
theorem KFm.cg {d : zD} {X : zG} {mc : Nat} {out : List zIt} {I' : Nat → Int32} {B' : Nat → Nat → Int32} {I9' : Nat → Int32} {B9' : Nat → Nat → Int32} (h : KFm d X mc out I B I9 B9) (hI : ∀ k, k ∈ [21, 30, 31] → I' k = I k) (hB : ∀ k, 47 ≤ k → k ≤ 49 → B' k = B k) (h9I : ∀ k, k ∈ [19, 20, 23] → I9' k = I9 k) (h9B : ∀ k, k = 24 ∨ (41 ≤ k ∧ k ≤ 48) → B9' k = B9 k) : KFm d X mc out I' B' I9' B9' := by
  obtain ⟨a1, a2, a3, a4, a5, a6, ⟨r1, r2, r3, r4, r5⟩, a8⟩ := h
  refine ⟨a1, a2, ?_, by rw [hI 30 (by decide)]; exact a4, by rw [hI 31 (by decide)]; exact a5, by rw [hI 21 (by decide)]; exact a6, ⟨by rw [h9I 19 (by decide)]; exact r1, by rw [h9I 20 (by decide)]; exact r2, by rw [h9I 23 (by decide)]; exact r3, r4.cg (fun k _ => by rw [h9B 41 (by omega)]) (fun r hr k _ => by rw [h9B r (by simp at hr; omega)]) (fun k _ => by rw [h9B 24 (by omega)]), by rw [h9B 43 (by omega)]; exact r5⟩, ?_⟩
  · unfold TRU; rw [hB 47 (by omega) (by omega), hB 48 (by omega) (by omega), hB 49 (by omega) (by omega)]; exact a3
  · unfold LK; rw [h9B 48 (by omega)]; exact a8
end ZT1
