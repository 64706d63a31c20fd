/-! The program, as the reference keeps it. -/
section ZM1
variable {I : Nat → Int32} {J : Nat → Int64} {B : Nat → Nat → Int32} {D : Nat → Nat → Int64} {I9 : Nat → Int32} {J9 : Nat → Int64} {B9 : Nat → Nat → Int32} {D9 : Nat → Nat → Int64}
theorem rep_mem {f : Nat → Int32} {b : Nat} {l : List Int32} (h : rep f b l) : ∀ k, k < l.length → f (b + k) ∈ l := by
  induction l with
  | nil => intro k hk; exact absurd hk (Nat.not_lt_zero k)
  | cons x l ih =>
    intro k hk
    by_cases e : k = l.length
    · rw [e, h.1]; exact List.mem_cons_self ..
    · exact List.mem_cons_of_mem _ (ih h.2 k (by simp at hk; omega))
theorem rep_len {f : Nat → Int32} {b : Nat} : ∀ {l l' : List Int32}, rep f b l → rep f b l' → l.length = l'.length → l = l' := by
  intro l
  induction l with
  | nil => intro l' _ _ h; exact (List.eq_nil_of_length_eq_zero h.symm).symm
  | cons x l ih =>
    intro l' h1 h2 h
    cases l' with
    | nil => simp at h
    | cons y l' =>
      have hl : l.length = l'.length := by simpa using h
      rw [ih h1.2 h2.2 hl]
      have : x = y := by rw [← h1.1, ← h2.1, hl]
      rw [this]
theorem okR_ne {l : List Int32} (h : okR l) : ∀ x ∈ l, ¬ x = 22 := by
  induction l with
  | nil => intro x hx; simp at hx
  | cons y l ih =>
    intro x hx
    rcases List.mem_cons.mp hx with e | e
    · rw [e]; exact code_ne (h.2.imp id (fun w => w.1))
    · exact ih h.1 x e
theorem rep_uniq {f : Nat → Int32} {b : Nat} {l l' : List Int32} (h : rep f b (22 :: l)) (h' : rep f b (22 :: l')) (k : okR l) (k' : okR l') : l = l' := by
  rcases Nat.lt_trichotomy l.length l'.length with e | e | e
  · exact absurd h.1 (okR_ne k' _ (rep_mem h'.2 _ e))
  · exact rep_len h.2 h'.2 e
  · exact absurd h'.1 (okR_ne k _ (rep_mem h.2 _ e))
theorem TT.o21 {sz : Nat} (h : TT sz B) : ∀ k, k < sz → okI (B 21 k) sz := by
  obtain ⟨hz, dp, hT, _⟩ := h
  intro k
  induction k using Nat.strongRecOn with
  | _ k ih =>
    intro hk
    obtain ⟨t1, t2, t3, t4, _⟩ := (hT k hk).1
    rw [t4]
    unfold ati
    rcases t1 with ⟨e, _⟩ | ⟨j, hj, e, _⟩
    · rw [e, if_pos rfl]; exact Or.inl rfl
    · rw [e, if_neg (nI_m1 (by omega)), clI rfl (by omega)]
      split
      · exact Or.inr ⟨j, by omega, rfl⟩
      · exact ih j hj (by omega)
theorem off_inj {base n : Nat} {x y : Int32} (hx : okI x n) (hy : okI y n) (hn : n ≤ 1000) (hb : base ≤ 1000) : off base x = off base y ↔ x = y := by
  rcases hx with rfl | ⟨i, hi, rfl⟩
  · rcases hy with rfl | ⟨j, hj, rfl⟩
    · exact ⟨fun _ => rfl, fun _ => rfl⟩
    · rw [off_m, off_n (by omega)]
      exact ⟨fun e => absurd e.symm (nI_m1 (by omega)), fun e => absurd e.symm (nI_m1 (by omega))⟩
  · rcases hy with rfl | ⟨j, hj, rfl⟩
    · rw [off_m, off_n (by omega)]
      exact ⟨fun e => absurd e (nI_m1 (by omega)), fun e => absurd e (nI_m1 (by omega))⟩
    · rw [off_n (by omega), off_n (by omega)]
      constructor
      · intro e
        have := nI_inj (by omega) (by omega) e
        rw [show i = j by omega]
      · intro e; rw [nI_inj (by omega) (by omega) e]
theorem RT.h25 {base p pt sz : Nat} (h : RT base p pt sz B B9) : ∀ k, k < sz → B 25 k = -1 ∨ ∃ q, q < pt ∧ B 25 k = nI q := by
  intro k hk
  obtain ⟨_, _, _, s4, s5⟩ := h.2.1 k hk
  by_cases g : 2 < B 18 k
  · exact Or.inl (s5 g)
  · obtain ⟨q, q1, q2, _⟩ := s4 g; exact Or.inr ⟨q, q1, q2⟩
theorem fdv_bt {P N bs : Nat} {cv : Nat → Nat → Int64 → Int64} (hPB : ∀ b, b < bs → PB P N B B9 cv b) (hbs : bs ≤ 48) {i : Nat} : ∀ m j, m ≤ bs → bt (fdv cv m j) i = true → ∃ q pt x, q < P ∧ q < 4 ∧ pt ≤ 30 ∧ B9 20 q = nI pt ∧ x < pt ∧ j = 31 * q + x := by
  intro m
  induction m with
  | zero => intro j _ h; rw [show fdv cv 0 j = 0 from rfl, bt_0] at h; exact absurd h (by decide)
  | succ m ih =>
    intro j hm h
    obtain ⟨q, base, pt, sz, Bq, k, u1, u2, u3, u4, u5, u6, u7, u8, u9, u10⟩ := hPB m (by omega)
    have e : fdv cv (m + 1) j = cuv Bq q (bitL m) 7 (nI k) j (fdv cv m j) := by
      show cv m j (fdv cv m j) = _
      rw [u10]
    rw [e] at h
    rcases cuv_bt u2 u3.2.2.2.2.2.2 u3.h25 _ _ _ _ (Or.inr ⟨k, u5, rfl⟩) h with w | ⟨_, x, x1, x2⟩
    · exact ih j (by omega) w
    · exact ⟨q, pt, x, u1, u3.2.2.2.2.2.1, u3.2.2.2.2.2.2, u3.2.2.2.1, x1, x2⟩
/-- where processes begin -/
def HST (Q : zQ) (I9 : Nat → Int32) (J9 : Nat → Int64) (B9 : Nat → Nat → Int32) (D9 : Nat → Nat → Int64) : Prop := ∀ p, p < qP Q → ∀ (B1 : Nat → Nat → Int32) (P : Int32 → (Nat → Int32) → (Nat → Int64) → (Nat → Nat → Int32) → (Nat → Nat → Int64) → Prop), (∀ k, k ∉ [36, 37, 39] → B1 k = B9 k) → P (nI (qS Q p)) I9 J9 B1 D9 → wp_LassoFinderModel_instead I9 J9 B1 D9 (B1 21 p) (fun r16 I16 J16 B16 D16 => wp_LassoFinderModel_pointOf I16 J16 B16 D16 (nI p) r16 P)
theorem r_linkQ {Post : (Nat → Int32) → (Nat → Int64) → (Nat → Nat → Int32) → (Nat → Nat → Int64) → Prop} {f : Nat → Int32} {n : Nat} {d : zD} {Q : zQ} {t : zS} (hW : QW d Q) (hC : PC d Q t.1 t.2.1 t.2.2.1 t.2.2.2) (hR : RM f n d.2.2.2.1 t I9 B9) (hNM : NM d I9 B9)
    (k : ∀ B9' D9', PR d Q I9 B9' D9' → HST Q I9 J9 B9' D9' → (∀ r, r ≠ 17 → B9' r = B9 r) → (∀ r, r ≠ 0 → D9' r = D9 r) → Post I9 J9 B9' D9') : wp_LassoFinderModel_link I9 J9 B9 D9 Post := by
  obtain ⟨a, p, base, bs, ln, cl, cv, ⟨r5, r10, r9, r11, rb, rp, rl⟩, ⟨rT, r8, r9', r10', r11', rcl, rba⟩, hBR, hrest, hkn, hPB, hPP, hD1, hinj⟩ := hR
  have hn := rT.2.2.2.1
  have han := rT.2.2.1
  obtain ⟨cX, c3, c10, c9, ⟨L, cL, cL8, cq⟩, cJ, cD0, cD1, c13⟩ := hC
  have hP4 := hW.1
  have hN48 := hW.2.1
  have eP : qP Q = p := nI_inj (by omega) (by omega) (c10.symm.trans r10)
  have eN : qN Q = bs := nI_inj (by omega) (by omega) (c9.symm.trans r9)
  have hN := hNM.nc
  refine q_link (P := p) (N := base) (B := t.2.2.1) r9' rb r8 (by omega) hPB hinj (fun B9' D9' l1 l2 l3 l4 => k B9' D9' ⟨?_, by rw [eP]; exact r10', by rw [eN]; exact r9', fun b hb => ?_, fun b b' hb hb' => ?_, fun q hq => ?_, fun q s hq hs b => ?_⟩ ?_ l3 l4)
  · obtain ⟨n1, n2, n3, n4, n5⟩ := hNM
    refine ⟨n1, n2, n3, n4, ?_⟩
    unfold NR; rw [l3 1 (by decide), l3 2 (by decide), l3 3 (by decide), l3 4 (by decide)]; exact n5
  · rw [eN] at hb
    obtain ⟨b6, b10, b11, b12, b7, b8, b9, b9'⟩ := cq b (by omega)
    obtain ⟨w1, w2, w3, w4, w5, w6⟩ := hW.2.2.1 b (by omega)
    obtain ⟨m, m1, m2, m3, m4, m5, m6, m7, m8, m9⟩ := hBR b hb
    obtain ⟨q, base', pt, sz, Bq, kk, u1, u2, u3, u4, u5, u6, u7, u8, u9, u10⟩ := hPB b hb
    have em : m = base' + kk := nI_inj (by omega) (by omega) (m2.symm.trans u7)
    have hsz := u2.1
    have hbs140 := u3.2.2.2.2.1
    have hpt := u3.2.2.2.2.2.2
    have hq4 := u3.2.2.2.2.2.1
    obtain ⟨n1, n2, n3, n4, r0, nr1, nr2, nr3, nr4, nr5, nr6⟩ := id hNM
    have K : ∀ (x : Nat) (y : Int32), y = nI x → x ≤ 5 → (qK Q b = x → t.2.2.1 6 b = y) := fun x y hy _ e => by rw [b6, e, hy]
    have vv : ∀ j, j < 8 → t.2.2.1 8 b = nI j → d.2.2.2.1 j = 1 → (qK Q b = 0 ∨ qK Q b = 3) → B9 1 j = nI (qV Q b) := by
      intro j hj ej kj g
      obtain ⟨v, hv, e1, e2⟩ := nr2 j hj kj
      have x8 := (hN.v (w5 g)).2.1
      have ex : xv d (qV Q b) = j := nI_inj (by omega) (by omega) ((b8 g).symm.trans ej)
      have ev' : xv d v = j := by unfold xv; exact clI e1 (by omega)
      rw [e2, hN.vi hv (w5 g) (ev'.trans ex.symm)]
    have hf : kpv Bq sz kk = 0 → qH Q b = false := fun e => by
      have e1 := (b12.symm.trans u9).trans e
      cases e2 : qH Q b
      · rfl
      · rw [e2] at e1; exact absurd e1 (by decide)
    have hf1 : kpv Bq sz kk = 1 ↔ qH Q b = true := by
      rw [← u9, b12]
      cases e2 : qH Q b
      · exact ⟨fun z => absurd z (by decide), fun z => absurd z (by decide)⟩
      · exact ⟨fun _ => rfl, fun _ => rfl⟩
    refine ⟨m, by omega, by rw [l3 18 (by decide)]; exact m2, by rw [l3 5 (by decide), m3]; exact b6, by rw [l3 6 (by decide), m4]; exact b10, by rw [l1 b m hb m2 (by omega)]; exact b11, fun g => ?_, fun g => ?_, fun g => ?_, fun g => ?_, fun g => ?_, fun g => ?_, fun g => ?_⟩
    · obtain ⟨j, j8, ej, kj, e12⟩ := m6 (K 0 0 rfl (by omega) g)
      rw [l3 12 (by decide), e12]; exact vv j j8 ej kj (Or.inl g)
    · have g' : t.2.2.1 6 b = 2 ∨ t.2.2.1 6 b = 3 := g.imp (K 2 2 rfl (by omega)) (K 3 3 rfl (by omega))
      obtain ⟨j, j8, ej, kj, e12⟩ := m7 g'
      obtain ⟨v, hv, e1, e2⟩ := nr5 j j8 kj
      have x8 := (hN.c (w4 g)).2.1
      have ex : xc d (qC Q b) = j := nI_inj (by omega) (by omega) ((b7 g).symm.trans ej)
      have ev' : xc d v = j := by unfold xc; exact clI e1 (by omega)
      rw [l3 12 (by decide), e12, e2, hN.ci hv (w4 g) (ev'.trans ex.symm)]
    · obtain ⟨j, j8, ej, kj, e13⟩ := m8 (K 3 3 rfl (by omega) g)
      rw [l3 13 (by decide), e13]; exact vv j j8 ej kj (Or.inr g)
    · obtain ⟨lb, z1, z2, z3, z4⟩ := b9 g
      rw [l3 14 (by decide), l3 15 (by decide), l3 24 (by decide)]
      rcases m9 with ⟨e, _⟩ | ⟨lb', cb, out, y1, y2, y3, y4, y5, y6, y7, y8, y9, y10, y11, y12, _⟩
      · rw [z1] at e; exact absurd e (nI_m1 (by omega))
      · have elb : lb' = lb := nI_inj (by omega) (by omega) (y1.symm.trans z1)
        subst elb
        have eo : out = qT Q b := rep_uniq y2 z3 y9 (w6 g).1
        subst eo
        exact ⟨cb, y4, y5, y6, by omega, y8⟩
    · rw [l3 14 (by decide), l3 15 (by decide)]
      rcases m9 with ⟨_, ⟨x, x0, x1, x2⟩, _⟩ | ⟨lb', cb, out, y1, _⟩
      · exact ⟨x, x0, x1, x2⟩
      · have := b9' g
        rw [this] at y1; exact absurd y1.symm (nI_m1 (by
          rcases Nat.lt_or_ge lb' 100001 with hh | hh
          · omega
          · omega))
    · rw [l3 10 (by decide), em, (u3.1 kk u5).2.2.2.1] at g
      have h21 := ((off_neg (u2.o21 kk u5) (by omega) (by omega)).1).mp g
      refine hf ?_
      unfold kpv
      rw [if_neg (fun z => z.1 h21)]
    · rw [l3 10 (by decide), em, (u3.1 kk u5).2.2.2.1] at g
      have h21 : ¬ Bq 21 kk = -1 := fun e => g (((off_neg (u2.o21 kk u5) (by omega) (by omega)).1).mpr e)
      have eA : qA Q b = q := by
        have e1 : B9 6 m = nI q := by rw [em]; exact (u3.1 kk u5).2.2.2.2.2
        rw [m4, b10] at e1
        exact nI_inj (by omega) (by omega) e1
      rw [eA, l3 20 (by decide), l3 23 (by decide), l3 10 (by decide)]
      refine ⟨pt, hpt, u3.2.2.2.1, fun hle => ?_, fun hlt => ?_⟩
      · -- it leads to no point, or to none inside
        rw [b11] at u8
        have hnn : stl Bq sz (beh Bq (nI kk)) < 0 := by
          rcases stl_ok u2 (beh_okX u2 u5) with w | w | w | ⟨j, hj, w, hk3⟩
          · rw [w]; decide
          · rw [w]; decide
          · rw [w]; decide
          · exfalso
            obtain ⟨_, _, _, s4, _⟩ := u3.2.1 j hj
            obtain ⟨q', q1, q2, q3⟩ := s4 (by rcases hk3 with g | g | g <;> rw [g] <;> decide)
            unfold pnt at u8
            rw [w, if_neg (nI_pos (by omega)), clI rfl (by omega), q2] at u8
            have := nI_inj (by omega) (by omega) u8
            omega
        refine hf ?_
        unfold kpv
        rw [if_neg (fun z => z.2.1 hnn)]
      · rw [b11] at u8
        unfold pnt at u8
        rcases stl_ok u2 (beh_okX u2 u5) with w | w | w | ⟨j, hj, w, hk3⟩
        · rw [w, if_pos (by decide)] at u8
          have := nI_inj (by omega) (by omega) u8; omega
        · rw [w, if_pos (by decide)] at u8
          have := nI_inj (by omega) (by omega) u8; omega
        · rw [w, if_pos (by decide)] at u8
          have := nI_inj (by omega) (by omega) u8; omega
        · obtain ⟨_, _, _, s4, _⟩ := u3.2.1 j hj
          obtain ⟨q', q1, q2, q3⟩ := s4 (by rcases hk3 with g | g | g <;> rw [g] <;> decide)
          rw [w, if_neg (nI_pos (by omega)), clI rfl (by omega), q2] at u8
          have eF := nI_inj (by omega) (by omega) u8
          refine ⟨base' + j, by omega, by rw [eF]; exact q3, ?_⟩
          rw [em, (u3.1 j hj).2.2.2.1, (u3.1 kk u5).2.2.2.1, off_inj (u2.o21 j hj) (u2.o21 kk u5) (by omega) (by omega)]
          rw [← hf1]
          unfold kpv
          rw [w, clI rfl (by omega)]
          constructor
          · intro e; rw [if_pos ⟨h21, nI_pos (by omega), e⟩]
          · intro e
            by_cases e2 : Bq 21 j = Bq 21 kk
            · exact e2
            · rw [if_neg (fun z => e2 z.2.2)] at e; exact absurd e (by decide)
  · rw [l3 18 (by decide)]
    rw [eN] at hb hb'
    exact hinj b b' hb hb'
  · rw [eP] at hq
    obtain ⟨base', pt, sz, Bq, u2, u0, u3, _⟩ := hPP q hq
    have hpt := u3.2.2.2.2.2.2
    refine ⟨pt, hpt, by rw [l3 20 (by decide)]; exact u3.2.2.2.1, fun b => ?_⟩
    cases e : qM Q q pt b
    · rfl
    · exfalso
      rw [← cD1 q pt (by omega) (by omega) b, hD1 _ (by omega)] at e
      obtain ⟨q', pt', x, x1, x4, x2, x3, x5, x6⟩ := fdv_bt hPB rb bs _ (Nat.le_refl _) e
      have eq' : q' = q := by omega
      subst eq'
      have : pt' = pt := nI_inj (by omega) (by omega) (x3.symm.trans u3.2.2.2.1)
      omega
  · rw [l2 _ (by omega), ← hD1 _ (by omega)]; exact cD1 q s hq hs b
  · intro q hq B1 P hB1 hP
    rw [eP] at hq
    obtain ⟨base', pt, sz, Bq, u2, u0, u3, u4, u5, u6, _⟩ := hPP q hq
    have hb' := u3.2.2.2.2.1
    have e21 : B1 21 q = off base' (nI 0) := by rw [hB1 21 (by decide), l3 21 (by decide), u5, off_n (by omega), Nat.add_zero]
    rw [e21]
    have hR1 : RT base' q pt sz Bq B1 := RT_cg u3 (fun r hr => by
      rw [hB1 r (by simp at hr ⊢; omega), l3 r (by simp at hr; omega)])
    have hx : okX (nI 0) sz := Or.inr (Or.inr ⟨0, u0, rfl⟩)
    refine q_instead hR1 u2 r8 (by omega) (by omega) hx (by decide) ?_
    refine q_pointOf hR1 u2 hx ?_
    rw [← u6, c13 q (by omega)]; exact hP
end ZM1
