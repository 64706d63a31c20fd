/-! Statements: the reference refuses where the steps end wrongly. -/
section ZF8
variable {I : Nat → Int32} {J : Nat → Int64} {B : Nat → Nat → Int32} {D : Nat → Nat → Int64} {I9 : Nat → Int32} {J9 : Nat → Int64} {B9 : Nat → Nat → Int32} {D9 : Nat → Nat → Int64}
theorem FW.rf3 {x : Int32} : FW I9 B9 (upd I9 3 x) B9 := by
  refine ⟨fun j hj => ?_, fun _ _ => rfl⟩
  simp at hj; simp [upd, hj]
theorem FW.rf23 {x y : Int32} : FW I9 B9 (upd (upd I9 2 y) 3 x) B9 := by
  refine ⟨fun j hj => ?_, fun _ _ => rfl⟩
  simp at hj; simp [upd, hj]
theorem r_basic_bad {Post : Int32 → (Nat → Int32) → (Nat → Int64) → (Nat → Nat → Int32) → (Nat → Nat → Int64) → Prop} {f : Nat → Int32} {n : Nat} {kd : Nat → Int32} {base p a sz pt bs ln cl bk q : Nat} {nd lt : Int32} {fr : zF} {y : Int32} (h : RG f n kd base p a sz pt bs ln cl 0 ((bk, nd, lt) :: fr) I B I9 B9) (hy : (y = 1 ∧ ¬ nd = -1 ∧ lt = -1) ∨ (y = 0 ∧ ¬ (¬ nd = -1 ∧ lt = -1))) (hq : (q = a ∧ (I 17 = 30 ∨ I 9 = 48)) ∨ (¬ I 17 = 30 ∧ ¬ I 9 = 48 ∧ BASF f n kd bk nd lt a q))
    (kf : ∀ I9' B9', FW I9 B9 I9' B9' → I9' 3 = nI q → Post 0 I9' J9 B9' D9) : wp_LassoFinderModel_basic I9 J9 B9 D9 (tkn f n a) y Post := by
  have hG := h
  obtain ⟨w27, w27o, w27g, g12'⟩ := h.top
  obtain ⟨⟨q1, q2, q3, q4, q5, q6, q7, q8, q9⟩, ⟨hTy, g8, g9, g10, gp, g11, gc, g12, g20⟩, ⟨c1, c2, c3, c4, c5⟩, ⟨f1, f2, f3⟩, hTR, hKR, hBR, hlab, hkn, hok, hTc⟩ := h
  simp only [List.length_cons] at c1 c2
  have hn240 := hTy.2.2.2.1
  have e30 : I 17 = 30 ↔ pt = 30 := eqI q3 (y := 30) (b := 30) rfl (by omega) (by omega)
  have e48 : I 9 = 48 ↔ bs = 48 := eqI q4 (y := 48) (b := 48) rfl (by omega) (by omega)
  refine r_pre hG hy ?_ (fun w => ?_)
  · -- there may be one: wrong later
    intro hm hb hp x4 k9 hx4 hk9
    have hF : BASF f n kd bk nd lt a q := by
      rcases hq with z | z
      · rcases z.2 with v | v
        · have := e30.mp v; omega
        · have := e48.mp v; omega
      · exact z.2.2
    have hk5 : ¬ 5 < k9 := by rcases hk9 with w | w | w | w <;> (first | rw [w.2] | rw [w.2.2.2]) <;> decide
    have hk7 : ¬ 7 < k9 := by rcases hk9 with w | w | w | w <;> (first | rw [w.2] | rw [w.2.2.2]) <;> decide
    refine q_node (N := base + sz) (d := fr.length) (p := p) (pt := pt) (bs := bs) g8 (by omega) g12' (by omega) g10 gp g20 (fun _ => hp) q6 g9 (fun _ => hb) q7 w27o (fun z => absurd z hk7) ?_
    intro I3 B3 hN z6 e6
    obtain ⟨n1, n2, n3, n5, n6, n7, n8, n9, n10, n11, n27, n20, n23, n19, n18, nk⟩ := id hN
    have i2 : I3 2 = nI a := (n3 2 (by decide)).trans hTy.1
    have i11 : I3 11 = nI cl := (n3 11 (by decide)).trans g11
    have m6 := inI i2 e6
    have hvN : vp_in (nI (base + sz)) 140 := vin2 rfl (by omega) (by omega)
    have hcN : (nI (base + sz)).toNatClampNeg = base + sz := clI rfl (by omega)
    refine ⟨hvN, hvN, ?_⟩
    rw [hcN, i11]
    have hfb : FB base p bs B9 B3 := hN.fb (fun _ => by omega) w27o w27g (by omega)
    have bad : ∀ (If : Nat → Int32) (Bf : Nat → Nat → Int32), (∀ j, j ∉ [2, 11, 13] → If j = I3 j) → (∀ j, j ∉ [5, 12, 13, 14, 15, 16, 24, 28] → Bf j = B3 j) → If 2 = nI q → Post 0 (upd If 3 (If 2)) J9 Bf D9 := by
      intro If Bf h1 h2 h3
      refine kf _ _ ⟨fun j hj => ?_, fun j hj => ?_⟩ (by simp [upd, h3])
      · simp at hj
        simp only [upd, hj, if_false]
        rw [h1 j (by simp [hj]), n3 j (by simp [hj])]
      · have hj' := hj
        simp at hj
        rw [h2 j (by simp [hj])]; exact hfb.2.2.2.2.1 j hj'
    generalize hB4 : va_up (va_up B3 14 (upd (B3 14) (base + sz) (nI cl))) 15 (upd (B3 15) (base + sz) (nI cl)) = B4
    have b4 : ∀ j, j ∉ [14, 15] → B4 j = B3 j := by intro j hj; simp at hj; rw [← hB4]; simp [va_up, hj]
    have hT1 : ∀ (Bx : Nat → Nat → Int32), Bx 0 = B3 0 → a + 1 ≤ n → TY (Bx 0) f (upd I3 2 z6 2) (upd I3 2 z6 1) (a + 1) n := by
      intro Bx h0 h1
      have e : TY (B9 0) f z6 (I9 1) (a + 1) n := hTy.up m6 h1
      have e1 : (upd I3 2 z6) 1 = I9 1 := by simp [upd, n3 1 (by decide)]
      have e2 : (upd I3 2 z6) 2 = z6 := by simp [upd]
      rw [h0, nk 0 (by decide), e1, e2]; exact e
    have hk9B : ∀ (Bx : Nat → Nat → Int32), Bx 1 = B3 1 → Bx 2 = B3 2 → kn9 Bx kd := by
      intro Bx h1 h2 j hj
      rw [h1, h2, nk 1 (by decide), nk 2 (by decide)]; exact hkn.k9 j hj
    have named : ∀ (Bx : Nat → Nat → Int32) (Ix : Nat → Int32), EXPF f n kd 0 (a + 2) q → (∀ j, j ∉ [5, 12, 13, 14, 15] → Bx j = B3 j) → (∀ j, j ≠ 2 → Ix j = I3 j) → TY (Bx 0) f (Ix 2) (Ix 1) (a + 2) n → wc_LassoFinderModel_basic_376 (tkn f n a) y Post (nI (base + sz)) Ix J9 Bx D9 := by
      intro Bx Ix hE h1 hIx hTx
      refine q_expr_bad (f := f) (n := n) (b := cl) (ob := 0) (a := a + 2) (a' := q) (kd := kd) (by omega) (by omega) hTx ((hIx 11 (by decide)).trans i11) (hk9B Bx (h1 1 (by decide)) (h1 2 (by decide))) hE ?_
      intro I4 B4' hF4 h42
      refine ⟨fun z => absurd rfl z, fun _ => bad I4 B4' (fun j hj => ?_) (fun j hj => ?_) h42⟩
      · have hj' := hj
        simp at hj; rw [hF4.1 j hj', hIx j (by simp [hj])]
      · simp at hj
        rw [hF4.2.1 j (by simp [hj])]; exact h1 j (by simp [hj])
    rcases hF with ⟨w1, w2, w3⟩ | ⟨w1, w2⟩ | ⟨w1, w2, w3, w4⟩
    · -- else: not there
      exfalso
      rcases hm with z | z | z | z
      · exact z.1 (one_sym (Or.inr (Or.inr w1)))
      · rw [w1] at z; exact absurd z (by decide)
      · rw [w1] at z; exact absurd z (by decide)
      · rcases w3 with v | v | v
        · exact z.2.1.1 v
        · exact v z.2.1.2
        · exact z.2.2 v
    · have ha1 := tkn_le w1 (by decide)
      refine ⟨fun z => absurd w1 z, fun _ => ?_⟩
      rcases w2 with hE | ⟨out, hE, h41⟩
      · refine q_expr_bad (f := f) (n := n) (b := cl) (ob := 1) (a := a + 1) (a' := q) (kd := kd) (by omega) (by omega) (hT1 B4 (b4 0 (by decide)) ha1) (by simpa [upd] using i11) (hk9B B4 (b4 1 (by decide)) (b4 2 (by decide))) hE ?_
        intro I4 B4' hF4 h42
        refine ⟨fun z => absurd rfl z, fun _ => bad I4 B4' (fun j hj => ?_) (fun j hj => ?_) h42⟩
        · have hj' := hj
          simp at hj; rw [hF4.1 j hj']; simp [upd, hj]
        · simp at hj
          rw [hF4.2.1 j (by simp [hj])]; exact b4 j (by simp [hj])
      · refine q_expr_ok (f := f) (n := n) (b := cl) (ob := 1) (a := a + 1) (a' := q) (kd := kd) (out := out) (by omega) (by omega) (hT1 B4 (b4 0 (by decide)) ha1) (by simpa [upd] using i11) (hk9B B4 (b4 1 (by decide)) (b4 2 (by decide))) hE ?_ ?_
        · intro hsg I4 B4' hF4 hT4 h411 hrep
          refine ⟨fun _ => ⟨hvN, ?_⟩, fun z => absurd z (by decide)⟩
          have hT5 : TY ((va_up B4' 15 (upd (B4' 15) (nI (base + sz)).toNatClampNeg (I4 11))) 0) f (I4 2) (I4 1) q n := by simpa [va_up] using hT4
          try rw [hcN] at hT5
          refine q_takes hT5 (fun z => absurd z h41) (fun z => ⟨Or.inl rfl, bad _ _ (fun j hj => ?_) (fun j hj => ?_) hT4.1⟩)
          · have hj' := hj
            simp at hj; rw [hF4.1 j hj']; simp [upd, hj]
          · simp at hj
            simp only [va_up, hj, if_false]
            rw [hF4.2.1 j (by simp [hj])]; exact b4 j (by simp [hj])
        · intro hsg I4 B4' hF4 h42
          refine ⟨fun z => absurd rfl z, fun _ => bad I4 B4' (fun j hj => ?_) (fun j hj => ?_) h42⟩
          · have hj' := hj
            simp at hj; rw [hF4.1 j hj']; simp [upd, hj]
          · simp at hj
            rw [hF4.2.1 j (by simp [hj])]; exact b4 j (by simp [hj])
    · -- a name
      rcases w4 with ⟨v1, v2⟩ | ⟨v1, v2, v3⟩
      · exfalso
        rcases hm with z | z | z | z
        · rcases v2 with v | v
          · exact z.1 v
          · exact z.2 v
        · exact w3 z
        · exact w1 z
        · exact w2 z.1
      · obtain ⟨wl, wv⟩ := one_lt v1
        have hx1 : ¬ x4 = 0 := by
          rcases hx4 with z | z
          · rw [z.1]; decide
          · exact absurd ⟨v1, v2⟩ z.2
        have ha1 : a + 1 ≤ n := one_tk (Or.inr (Or.inr rfl)) v1
        have o1 : B3 1 = B9 1 := nk 1 (by decide)
        have o2 : B3 2 = B9 2 := nk 2 (by decide)
        have u2 : ∀ (x : Int32) j, j ∉ [2, 11, 13] → (upd I3 2 x) j = I3 j := by intro x j hj; simp at hj; simp [upd, hj]
        refine ⟨fun _ => ⟨fun _ => ⟨wv, fun z9 e9 => ?_⟩, fun z => absurd z hx1⟩, fun z => absurd z w3⟩
        rcases v3 with ⟨k1, v3⟩ | ⟨k1, v3⟩
        · have hvar := (hkn.cases wl).1 k1
          refine ⟨fun z => by rw [e9, o1] at z; exact absurd z hvar, fun _ => ⟨wv, fun z23 e23 => ⟨hvN, ?_⟩⟩⟩
          have hB5 : ∀ j, j ∉ [12, 14, 15] → (va_up B4 12 (upd (B3 12) (base + sz) z23)) j = B3 j := by
            intro j hj; simp at hj; simp only [va_up, hj, if_false]; exact b4 j (by simp [hj])
          have hTx := hT1 _ (hB5 0 (by decide)) ha1
          refine q_takes hTx (fun z => ⟨fun _ => ?_, fun v => absurd v (by decide)⟩) (fun z => ⟨fun v => absurd rfl v, fun _ => ?_⟩)
          · rcases v3 with v | v
            · exact absurd z v.2
            · have ha2 := tkn_le z (by decide)
              refine named _ _ v.2 (fun j hj => hB5 j (by simp at hj ⊢; omega)) (fun j hj => by simp [upd, hj]) ?_
              have e : TY (B9 0) f (nI (a + 2)) (I9 1) (a + 2) n := hTy.up rfl ha2
              have e1 : (upd (upd I3 2 z6) 2 (nI (a + 1 + 1))) 1 = I9 1 := by simp [upd, n3 1 (by decide)]
              have e2 : (upd (upd I3 2 z6) 2 (nI (a + 1 + 1))) 2 = nI (a + 2) := by simp [upd]
              rw [hB5 0 (by decide), nk 0 (by decide), e1, e2]; exact e
          · rcases v3 with v | v
            · exact bad _ _ (u2 _) (fun j hj => hB5 j (by simp at hj ⊢; omega)) (by simp [upd, m6, v.1])
            · exact absurd v.1 z
        · have hkd2 : kd (one (tkn f n a) 97 8).toNatClampNeg = 2 := by
            rcases (hkn _ wl).1 with z | z | z
            · exact absurd z v2
            · exact absurd z k1
            · exact z
          have hch := (hkn.cases wl).2 hkd2
          refine ⟨fun _ => ⟨wv, fun z11 e11 => ⟨hvN, ?_⟩⟩, fun z => by rw [e9, o1] at z; exact absurd hch.1 z⟩
          have hB5 : ∀ j, j ∉ [12, 14, 15] → (va_up B4 12 (upd (B3 12) (base + sz) z11)) j = B3 j := by
            intro j hj; simp at hj; simp only [va_up, hj, if_false]; exact b4 j (by simp [hj])
          have hTx := hT1 _ (hB5 0 (by decide)) ha1
          refine q_here hTx.tx ?_
          rw [hTx.tk]
          refine ⟨fun h63 => ⟨hvN, ?_⟩, fun h63 => ⟨hvN, fun z16 e16 => ?_⟩⟩
          · have hB6 : ∀ j, j ∉ [5, 12, 14, 15] → (va_up (va_up B4 12 (upd (B3 12) (base + sz) z11)) 5 (upd (va_up B4 12 (upd (B3 12) (base + sz) z11) 5) (base + sz) 2)) j = B3 j := by
              intro j hj; simp at hj; simp only [va_up, hj, if_false]; exact b4 j (by simp [hj])
            refine q_takes (hT1 _ (hB6 0 (by decide)) ha1) (fun z => ⟨fun _ => ?_, fun v => absurd v (by decide)⟩) (fun z => ⟨fun v => absurd rfl v, fun _ => ?_⟩)
            · rcases v3 with v | v | v
              · exact absurd z v.2.1
              · have ha2 := tkn_le z (by decide)
                refine named _ _ v.2 (fun j hj => hB6 j (by simp at hj ⊢; omega)) (fun j hj => by simp [upd, hj]) ?_
                have e : TY (B9 0) f (nI (a + 2)) (I9 1) (a + 2) n := hTy.up rfl ha2
                have e1 : (upd (upd I3 2 z6) 2 (nI (a + 1 + 1))) 1 = I9 1 := by simp [upd, n3 1 (by decide)]
                have e2 : (upd (upd I3 2 z6) 2 (nI (a + 1 + 1))) 2 = nI (a + 2) := by simp [upd]
                rw [hB6 0 (by decide), nk 0 (by decide), e1, e2]; exact e
              · exact absurd v.1 h63
            · rcases v3 with v | v | v
              · exact bad _ _ (u2 _) (fun j hj => hB6 j (by simp at hj ⊢; omega)) (by simp [upd, m6, v.1])
              · exact absurd v.1 z
              · exact absurd v.1 h63
          · have ha2 := tkn_le h63 (by decide)
            have m16 : z16 = nI (a + 2) := inI (k := a + 1) (by simp [upd, m6]) e16
            generalize hB6e : (va_up (va_up B4 12 (upd (B3 12) (base + sz) z11)) 5 (upd (va_up B4 12 (upd (B3 12) (base + sz) z11) 5) (base + sz) 3)) = B6
            have hB6 : ∀ j, j ∉ [5, 12, 14, 15] → B6 j = B3 j := by
              intro j hj; simp at hj; rw [← hB6e]; simp only [va_up, hj, if_false]; exact b4 j (by simp [hj])
            have hTz : TY (B6 0) f (upd (upd I3 2 z6) 2 z16 2) (upd (upd I3 2 z6) 2 z16 1) (a + 2) n := by
              have e : TY (B9 0) f z16 (I9 1) (a + 2) n := hTy.up m16 ha2
              have e1 : (upd (upd I3 2 z6) 2 z16) 1 = I9 1 := by simp [upd, n3 1 (by decide)]
              have e2 : (upd (upd I3 2 z6) 2 z16) 2 = z16 := by simp [upd]
              rw [hB6 0 (by decide), nk 0 (by decide), e1, e2]; exact e
            obtain ⟨hqa, hvb⟩ : q = a + 2 ∧ (one (tkn f n (a + 2)) 97 8 = -1 ∨ ¬ kd (one (tkn f n (a + 2)) 97 8).toNatClampNeg = 1) := by
              rcases v3 with v | v | v
              · exact absurd h63 v.2.2
              · rw [h63] at v; exact absurd v.1 (by decide)
              · exact v.2
            have fin : wc_LassoFinderModel_basic_326 (tkn f n a) y Post (upd (upd I3 2 z6) 2 z16) J9 B6 D9 := ⟨Or.inl rfl, bad _ _ (fun j hj => by simp at hj; simp [upd, hj]) (fun j hj => hB6 j (by simp at hj ⊢; omega)) (by simp [upd, m16, hqa])⟩
            refine q_from (by decide) hTz.tx ?_
            rw [hTz.tk]
            refine ⟨fun _ => fin, fun w => ?_⟩
            have w : ¬ one (tkn f n (a + 2)) 97 8 = -1 := fun z => w (one_neg.mpr z)
            obtain ⟨wl5, wv5⟩ := one_lt w
            have hkv := hvb.resolve_left w
            refine ⟨wv5, fun z19 e19 => ⟨fun z => ?_, fun _ => fin⟩⟩
            rw [e19, hB6 1 (by decide), o1] at z
            exact absurd ((hkn _ wl5).2.1.mp z) hkv
  · -- there may be none
    have hqa : q = a := by
      rcases hq with z | ⟨z1, z2, z3⟩
      · exact z.1
      · rcases w with v | v | v
        · rcases z3 with u | ⟨u1, u2⟩ | ⟨u1, u2, u3, u4⟩
          · exact u.2.1
          · exact absurd (Or.inr (Or.inl u1)) v
          · rcases u4 with u | u
            · exact u.1
            · exact absurd (Or.inl ⟨u.1, u.2.1⟩) v
        · exact absurd (e48.mpr v) z2
        · exact absurd (e30.mpr v) z1
    exact kf _ _ FW.rf3 (by simp [upd, hTy.1, hqa])
end ZF8
