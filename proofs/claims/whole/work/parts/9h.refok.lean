/-! The reference reads a process as the class has: what then holds. -/
section ZI4
variable {I : Nat → Int32} {J : Nat → Int64} {B : Nat → Nat → Int32} {D : Nat → Nat → Int64} {I9 : Nat → Int32} {J9 : Nat → Int64} {B9 : Nat → Nat → Int32} {D9 : Nat → Nat → Int64}
theorem r_proc_ok {Post : Int32 → (Nat → Int32) → (Nat → Int64) → (Nat → Nat → Int32) → (Nat → Nat → Int64) → Prop} {f : Nat → Int32} {n : Nat} {kd : Nat → Int32} {s t : zS} {a : Nat} (hR : RM f n kd s I9 B9) (hC : CM f n kd s) (ha : s.1 5 = nI a) (ha1 : a ≤ 240) (hst : pst f n kd s t)
    (k : ∀ I9' B9', (∀ x, x = I9' 10 + 1 → RM f n kd t (upd I9' 10 x) B9') → FMo I9 B9 I9' B9' → (∀ j, j ∈ [1, 2, 3, 4] → B9' j = B9 j) → (∀ j, j ∈ [6, 7] → I9' j = I9 j) → Post 1 I9' J9 B9' D9) : wp_LassoFinderModel_body (upd I9 2 (nI (a + 1))) J9 B9 D9 Post := by
  obtain ⟨a3, p, bs0, a1, sz, pt, v, I1, J1, B1, D1, B2, D2, ⟨h1, h2, h3, h4, h5, h6, h7⟩, hs, ⟨y1, y2, y3, y4, y5, y6⟩, ⟨hTT, hsz, hC1⟩, hnb, hTP, et⟩ := hst
  have e1 : a3 = a := nI_inj (by omega) (by omega) (h1.symm.trans ha)
  subst e1
  have hB0 := BI_0 hC ha ha1 h2 h5 h7
  have hB1 := BI_star hB0 hs
  obtain ⟨a2, p2, base, bs2, ln, cl, cv, ⟨r1, r2, r3, r4, r5, r6, r7⟩, ⟨hTy, g8, g9, g10, g11, gc, gb⟩, hBR, hlab, hkn, hPB, hPP, hD, hJ⟩ := id hR
  have hTy2 := hTy.2.2
  have e1 : a2 = a3 := nI_inj (by omega) (by omega) (r1.symm.trans ha)
  have e2 : p2 = p := nI_inj (by omega) (by omega) (r2.symm.trans h2)
  have e3 : bs2 = bs0 := nI_inj (by omega) (by omega) (r3.symm.trans h3)
  subst e1; subst e2; subst e3
  refine r_proc0 hR hC ha ha1 h2 h5 r3 r5 h7 g8 (by omega) (fun I9' B9' i12 ik b21 b20 bk => ?_)
  refine GB_star (P := CI bs2) (fun x y h1 h2 h3 => CI_step h1 h2 h3) CI_b hB0 (CI_0 r3 r5) hs (GB_ok hB1 y1 (by omega) y3 (fun I9e B9e hRe hFe hIe => ?_))
  obtain ⟨a4, sz4, pt4, bs4, ln4, cl4, hG⟩ := hRe.get hB1
  have hRT := end_RT hG
  obtain ⟨⟨q1, q2, q3, q4, q5, q6, q7, q8, q9⟩, ⟨hTy4, c8, c9, c10, cp, c11, cc, c12, c20⟩, ⟨d1, d2, d3, d4, d5⟩, _, hTR, hKR, hBR4, hlab4, hkn4, hok, hTc⟩ := hG
  have hz140 := hTT.1
  have e4 : sz4 = sz := nI_inj (by omega) (by omega) (q2.symm.trans y4)
  have e5 : pt4 = pt := nI_inj (by omega) (by omega) (q3.symm.trans y5)
  have e6 : a4 = a1 := nI_inj (by omega) (by omega) (q1.symm.trans y1)
  subst e4; subst e5; subst e6
  obtain ⟨sz5, pt5, bs5, f16, f17, f9, z16, z17, z9, ebs, _, _⟩ := CI_star hB0 hs (CI_0 (a := a2) r3 r5)
  dsimp only at f16 f17 f9 ebs
  have e7 : sz5 = sz4 := nI_inj (by omega) (by omega) (f16.symm.trans q2)
  have e8 : bs5 = bs4 := nI_inj (by omega) (by omega) (f9.symm.trans q4)
  subst e7; subst e8
  have hbf := bstar_fr hs
  obtain ⟨tp1, tp2, tp3, tp4, tp5, tp6, tp7, tp8⟩ := hTP
  -- rows of the class between
  have o11 : B1 11 = s.2.2.1 11 := (hbf.1 11 (by decide)).trans (by simp [p0, va_up])
  have o12 : B1 12 = s.2.2.1 12 := (hbf.1 12 (by decide)).trans (by simp [p0, va_up])
  have o13 : B1 13 = s.2.2.1 13 := (hbf.1 13 (by decide)).trans (by simp [p0, va_up])
  have o14 : B1 14 = s.2.2.1 14 := (hbf.1 14 (by decide)).trans (by simp [p0, va_up])
  have oD : D1 1 = s.2.2.2 1 := hbf.2
  -- the reference's frame
  have hF0 : FB4 base p2 B9 B9' := by
    refine ⟨fun k hk => same.of (bk k (by simp at hk ⊢; omega)), fun q hq => ?_, fun j hj => by rw [bk 22 (by decide)], fun j hj => by rw [bk 23 (by decide)]⟩
    rw [b20]; simp [upd, hq]
  have hF4 : FB4 base p2 B9 B9e := hF0.trn hFe.f4
  have e18 : ∀ b, b < bs2 → B9e 18 b = B9 18 b := fun b hb => (hFe.2.2.2.2.2 b hb).trans (by rw [bk 18 (by decide)])
  have e21 : B9e 21 = upd (B9 21) p2 (nI base) := (hFe.2.2.2.2.1 21 (by decide)).trans b21
  refine q_jumps hRT hTT (by simpa [upd] using c8) (by simpa [upd] using c10) (fun k0 hk0 hb0 _ => absurd hb0 (hnb k0 hk0)) (fun _ => ⟨Or.inr rfl, ?_⟩)
  refine k _ _ (fun x hx => ?_) ⟨fun j hj => ?_, fun j hj => ?_⟩ (fun j hj => ?_) (fun j hj => ?_)
  · subst et
    have hx' : x = nI (p2 + 1) := by rw [hx]; simp only [upd]; rw [if_neg (by decide), c10, nI_1]
    have hpq : ∀ q, q < p2 → q ≠ p2 := fun q hq => by omega
    refine ⟨a4 + 1, p2 + 1, base + sz5, bs5, ln4, cl4, cvn cv B1 p2 bs2 sz5, ⟨?_, ?_, ?_, ?_, q7, by omega, q8⟩, ⟨?_, ?_, ?_, ?_, ?_, by omega, ?_⟩, ?_, fun j hj1 hj2 => ⟨?_, ?_⟩, hkn4, fun b hb => ?_, fun q hq => ?_, fun j hj => ?_, fun b b' hb hb' e => ?_⟩
    · simp [upd]
    · simp [upd]
    · simpa [upd] using q4
    · simpa [upd] using q5
    · have := hTy4.up (at2 := nI (a4 + 1)) rfl (tkn_le y3 (by decide))
      simpa [upd] using this
    · simpa [upd] using c8
    · simpa [upd] using c9
    · simp [upd, hx']
    · simpa [upd] using c11
    · simp only [List.length_cons, List.length_nil] at d1; omega
    · intro b hb
      refine (hBR4 b hb).up (Nat.le_refl _) (Nat.le_refl _) (Nat.le_refl _) ?_ ?_ ?_ ?_ ?_ (same.of (tp7 15 (by decide))) rfl same.rf same.rf same.rf same.rf same.rf same.rf same.rf rfl rfl
      all_goals first | exact congrFun (tp7 6 (by decide)) b | exact congrFun (tp7 7 (by decide)) b | exact congrFun (tp7 8 (by decide)) b | exact congrFun (tp7 9 (by decide)) b | exact congrFun (tp7 10 (by decide)) b
    · rw [hF4.2.2.1 j (by omega)]; exact (hlab j (by omega) hj2).1
    · show B2 14 j = -1
      rw [tp5 j (by omega), o14]; exact (hlab j (by omega) hj2).2
    · by_cases g : b < bs2
      · obtain ⟨q, base1, pt1, sz1, Bq, k1, u1, u2, u3, u4, u5, u6, u7, u8, u9, u10⟩ := hPB b g
        refine ⟨q, base1, pt1, sz1, Bq, k1, by omega, u2, RT_fr u3 u4 (hpq q u1) hF4, by omega, u5, u6, by rw [e18 b g]; exact u7, ?_, ?_, by rw [cvn_old g]; exact u10⟩
        · show B2 11 b = _
          rw [(tp2 b g).1, o11]; exact u8
        · show B2 12 b = _
          rw [(tp2 b g).2, o12]; exact u9
      · obtain ⟨k1, hk1, hk0, ek⟩ := cnt_at (B := B1) sz5 (b - bs2) (by omega)
        have eb : b = bs2 + cnt B1 k1 := by omega
        subst eb
        refine ⟨p2, base, pt4, sz5, B1, k1, by omega, hTT, hRT, by omega, hk1, hk0, ?_, (tp1 k1 hk1 hk0).1, (tp1 k1 hk1 hk0).2, cvn_new hk1 hk0⟩
        obtain ⟨b2, w1, w2, w3, _⟩ := (hKR k1 hk1).2.1 hk0
        have : b2 = bs2 + cnt B1 k1 := nI_inj (by omega) (by omega) (w2.symm.trans ((hC1 k1 hk1).2.2.2 hk0))
        rw [← this]; exact w3
    · by_cases g : q < p2
      · obtain ⟨base1, pt1, sz1, Bq, u1, u2, u3, u4, u5, u6, u7⟩ := hPP q g
        refine ⟨base1, pt1, sz1, Bq, u1, u2, RT_fr u3 u4 (hpq q g) hF4, by omega, ?_, ?_, fun l hl => ?_⟩
        · rw [e21]; have := hpq q g; simp [upd, this]; exact u5
        · show B2 13 q = _
          rw [tp6, o13]; have := hpq q g; simp [upd, this]; exact u6
        · show B2 14 (8 * q + l) = _
          rw [tp5 _ (by omega), o14]; exact u7 l hl
      · have eq : q = p2 := by omega
        subst eq
        refine ⟨base, pt4, sz5, B1, hTT, hsz, hRT, by omega, by rw [e21]; simp [upd], ?_, fun l hl => ?_⟩
        · show B2 13 q = _
          rw [tp6]; simp [upd]
        · show B2 14 (8 * q + l) = _
          rw [tp4 l hl, o14, (hlab (8 * q + l) (by omega) (by omega)).2]
    · show D2 1 j = _
      rw [tp3, oD, hD j hj, fdk_fdv (sz := sz5) j sz5 (Nat.le_refl _), ebs]
    · have old : ∀ b, b < bs2 → ∃ m, m < base ∧ B9e 18 b = nI m := fun b hb => by
        obtain ⟨q, base1, pt1, sz1, Bq, k1, u1, u2, u3, u4, u5, u6, u7, _⟩ := hPB b hb
        exact ⟨base1 + k1, by omega, by rw [e18 b hb]; exact u7⟩
      have new : ∀ b, b < bs5 → ¬ b < bs2 → ∃ k1, B1 18 k1 = 0 ∧ k1 < sz5 ∧ b = bs2 + cnt B1 k1 ∧ B9e 18 b = nI (base + k1) := fun b hb hn => by
        obtain ⟨k1, hk1, hk0, ek⟩ := cnt_at (B := B1) sz5 (b - bs2) (by omega)
        obtain ⟨b2, w1, w2, w3, _⟩ := (hKR k1 hk1).2.1 hk0
        have : b2 = bs2 + cnt B1 k1 := nI_inj (by omega) (by omega) (w2.symm.trans ((hC1 k1 hk1).2.2.2 hk0))
        have eb : b2 = b := by omega
        exact ⟨k1, hk0, hk1, by omega, by rw [← eb]; exact w3⟩
      by_cases g : b < bs2
      · by_cases g' : b' < bs2
        · rw [e18 b g, e18 b' g'] at e; exact hJ b b' g g' e
        · obtain ⟨m, hm, em⟩ := old b g
          obtain ⟨k1, _, _, _, ek⟩ := new b' hb' g'
          rw [em, ek] at e
          have := nI_inj (by omega) (by omega) e; omega
      · obtain ⟨k1, h01, hk1, eb, ek⟩ := new b hb g
        by_cases g' : b' < bs2
        · obtain ⟨m, hm, em⟩ := old b' g'
          rw [em, ek] at e
          have := nI_inj (by omega) (by omega) e; omega
        · obtain ⟨k2, h02, hk2, eb2, ek2⟩ := new b' hb' g'
          rw [ek, ek2] at e
          have : k1 = k2 := by have := nI_inj (by omega) (by omega) e; omega
          rw [eb, eb2, this]
  · have w2 : ¬ j = 2 := by simp at hj; omega
    have w12 : ¬ j = 12 := by simp at hj; omega
    simp only [upd, w2, if_false]
    rw [hIe j (by simp at hj ⊢; omega), ik j w12]
    simp [upd, w2]
  · rw [hFe.2.2.2.2.1 j (by simp at hj ⊢; omega), bk j (by simp at hj ⊢; omega)]
  · rw [hFe.2.2.2.2.1 j (by simp at hj ⊢; omega), bk j (by simp at hj ⊢; omega)]
  · have w2 : ¬ j = 2 := by simp at hj; omega
    have w12 : ¬ j = 12 := by simp at hj; omega
    simp only [upd, w2, if_false]
    rw [hIe j (by simp at hj ⊢; omega), ik j w12]
    simp [upd, w2]
end ZI4
