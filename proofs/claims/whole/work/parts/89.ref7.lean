/-! Statements: the reference reads a basic one that is right. -/
section ZF7
variable {I : Nat → Int32} {J : Nat → Int64} {B : Nat → Nat → Int32} {D : Nat → Nat → Int64} {I9 : Nat → Int32} {J9 : Nat → Int64} {B9 : Nat → Nat → Int32} {D9 : Nat → Nat → Int64}
theorem knm.cases {B9 : Nat → Nat → Int32} {kd : Nat → Int32} (h : knm B9 kd) {j : Nat} (hj : j < 8) : (kd j = 1 → ¬ B9 1 j < 0) ∧ (kd j = 2 → B9 1 j < 0 ∧ ¬ B9 2 j < 0) := by
  obtain ⟨h0, h1, h2⟩ := h j hj
  refine ⟨fun z => Int32.not_lt.mpr (h1.mpr z), fun z => ⟨Int32.not_le.mp (fun w => ?_), Int32.not_lt.mpr (h2.mpr z)⟩⟩
  rw [h1.mp w] at z; exact absurd z (by decide)
theorem r_basic_ok {Post : Int32 → (Nat → Int32) → (Nat → Int64) → (Nat → Nat → Int32) → (Nat → Nat → Int64) → Prop} {f : Nat → Int32} {n : Nat} {kd : Nat → Int32} {base p a sz pt bs ln cl bk ex a' : Nat} {nd lt pk ch vr : Int32} {out : List Int32} {fr : zF} {y : Int32} {I' : Nat → Int32} {J' : Nat → Int64} {B' : Nat → Nat → Int32} {D' : Nat → Nat → Int64} (h : RG f n kd base p a sz pt bs ln cl 0 ((bk, nd, lt) :: fr) I B I9 B9) (hy : (y = 1 ∧ ¬ nd = -1 ∧ lt = -1) ∨ (y = 0 ∧ ¬ (¬ nd = -1 ∧ lt = -1))) (h30 : ¬ I 17 = 30) (h48 : ¬ I 9 = 48) (hlna : ln ≤ 2 * a) (hbas : BAS f n kd bk nd lt a pk ch vr ex out a') (hBA : BA nd lt pk ch vr ex out sz bs ln a' I J B D I' J' B' D')
    (k : ((pk = 0 ∨ pk = 2) → sgn (tkn f n a') = -1) → ∀ I9' B9', RB f n kd base p (1, (bk, nd, nI sz) :: fr, I', J', B', D') I9' B9' → FB base p bs B9 B9' → FI I9 I9' → I9' 12 = I9 12 → Post 1 I9' J9 B9' D9)
    (kf : ¬ sgn (tkn f n a') = -1 → ∀ I9' B9', FW I9 B9 I9' B9' → I9' 3 = nI a' → Post 0 I9' J9 B9' D9) : wp_LassoFinderModel_basic I9 J9 B9 D9 (tkn f n a) y Post := by
  have hG := h
  obtain ⟨w27, w27o, w27g, g12'⟩ := h.top
  obtain ⟨⟨q1, q2, q3, q4, q5, q6, q7, q8, q9⟩, ⟨hTy, g8, g9, g10, gp, g11, gc, g12, g20⟩, ⟨c1, c2, c3, c4, c5⟩, ⟨f1, f2, f3⟩, hTR, hKR, hBR, hlab, hkn, hok, hTc⟩ := h
  simp only [List.length_cons] at c1 c2
  have hn240 := hTy.2.2.2.1
  have hpl := hbas.place hTy.2.2.1
  have hp0 := n30 q3 q6 h30
  have hb0 : bs < 48 := by
    have : ¬ bs = 48 := fun z => h48 (by rw [q4, z]; rfl)
    omega
  have hm0 : mayb f n kd bk nd lt a := by
    rcases hbas with w | w | w | w | w | w
    · exact Or.inr (Or.inr (Or.inl w.1))
    · exact Or.inr (Or.inr (Or.inr ⟨w.1, ⟨w.2.1, w.2.2.1⟩, w.2.2.2.1⟩))
    · exact Or.inr (Or.inl w.1)
    · exact Or.inl ⟨w.1, by rw [w.2.1]; decide⟩
    · exact Or.inl ⟨w.1, w.2.1⟩
    · exact Or.inl ⟨w.1, w.2.1⟩
  refine r_pre hG hy ?_ (fun w => w.elim (fun w => absurd hm0 w) (fun w => w.elim (fun w => by omega) (fun w => by omega)))
  intro hm hb hp x4 k9 hx4 hk9
  have hk5 : ¬ 5 < k9 := by rcases hk9 with w | w | w | w <;> (first | rw [w.2] | rw [w.2.2.2]) <;> decide
  have hk7 : ¬ 7 < k9 := by rcases hk9 with w | w | w | w <;> (first | rw [w.2] | rw [w.2.2.2]) <;> decide
  refine q_node (N := base + sz) (d := fr.length) (p := p) (pt := pt) (bs := bs) g8 (by omega) g12' (by omega) g10 gp g20 (fun _ => hp) q6 g9 (fun _ => hb) q7 w27o (fun z => absurd z hk7) ?_
  intro I3 B3 hN z6 e6
  obtain ⟨n1, n2, n3, n5, n6, n7, n8, n9, n10, n11, n27, n20, n23, n19, n18, nk⟩ := id hN
  have i2 : I3 2 = nI a := (n3 2 (by decide)).trans hTy.1
  have i11 : I3 11 = nI cl := (n3 11 (by decide)).trans g11
  have m6 := inI i2 e6
  have hvN : vp_in (nI (base + sz)) 140 := vin2 rfl (by omega) (by omega)
  have hcN : (nI (base + sz)).toNatClampNeg = base + sz := clI rfl (by omega)
  refine ⟨hvN, hvN, ?_⟩
  rw [hcN, i11]
  have hfb : FB base p bs B9 B3 := hN.fb (fun _ => by omega) w27o w27g (by omega)
  have hw0 : ∀ (If : Nat → Int32) (Bf : Nat → Nat → Int32), (∀ j, j ∉ [2, 3, 11, 13] → If j = I3 j) → (∀ j, j ∉ [5, 12, 13, 14, 15, 16, 24, 28] → Bf j = B3 j) → FW I9 B9 If Bf := by
    intro If Bf h1 h2
    refine ⟨fun j hj => ?_, fun j hj => ?_⟩
    · simp at hj; rw [h1 j (by simp [hj]), n3 j (by simp [hj])]
    · have hj' := hj
      simp at hj
      rw [h2 j (by simp [hj])]; exact hfb.2.2.2.2.1 j hj'
  -- the end of all good ways
  have fin : ∀ (cl' : Nat) (If : Nat → Int32) (Bf : Nat → Nat → Int32), ((pk = 0 ∨ pk = 2) → sgn (tkn f n a') = -1) → (∀ j, j ∉ [2, 3, 11, 13] → If j = I3 j) → If 2 = nI a' → If 11 = nI cl' → (cl ≤ cl' ∧ cl' ≤ a') → (∀ j, j ∉ [5, 12, 13, 14, 15, 16, 24, 28] → Bf j = B3 j) → (∀ j, j ∈ [5, 12, 13, 14, 15, 16] → same (base + sz) (B3 j) (Bf j)) → same cl (B3 24) (Bf 24) → Bf 5 (base + sz) = pk → (pk = 0 ∨ pk = 1 ∨ pk = 2 ∨ pk = 3 ∨ pk = 4 ∨ pk = 5) → (pk = 0 → ∃ j, j < 8 ∧ vr = nI j ∧ kd j = 1 ∧ Bf 12 (base + sz) = B9 1 j) → ((pk = 2 ∨ pk = 3) → ∃ j, j < 8 ∧ ch = nI j ∧ kd j = 2 ∧ Bf 12 (base + sz) = B9 2 j) → (pk = 3 → ∃ j, j < 8 ∧ vr = nI j ∧ kd j = 1 ∧ Bf 13 (base + sz) = B9 1 j) → ((ex = 0 ∧ Bf 14 (base + sz) = nI cl ∧ Bf 15 (base + sz) = nI cl ∧ ¬ (pk = 0 ∨ pk = 1 ∨ pk = 2)) ∨ (ex = 1 ∧ Bf 14 (base + sz) = nI cl ∧ Bf 15 (base + sz) = nI (cl + out.length) ∧ rep (Bf 24) cl (out.map om) ∧ cl + out.length ≤ cl' ∧ 1 ≤ out.length ∧ okR out ∧ ht out = 1 ∧ nod out ≤ 12 ∧ KN kd out ∧ (pk = 0 ∨ pk = 1 ∨ pk = 2))) → Post 1 If J9 Bf D9 := by
    intro cl' If Bf hsg hI hI2 hI11 hcl hB hBN hB24 h5 hpk ha0 ha2 ha3 hxp
    obtain ⟨r1, r2⟩ := r_bleaf (cl' := cl') hG hBA hN hk5 hk7 hp hb (fun _ _ => rfl) ⟨hpl.1, hpl.2.1⟩ ⟨hpl.2.2.1, fun z => (hpl.2.2.2.1 z).1⟩ hlna hB hBN hB24 hI2 (fun j hj => hI j (by simp at hj ⊢; omega)) hI11 hcl h5 hpk ha0 ha2 ha3 hxp
    refine k hsg If Bf r1 r2 (fun j hj => ?_) ?_
    · simp at hj; rw [hI j (by simp [hj]), n3 j (by simp [hj])]
    · rw [hI 12 (by decide), n3 12 (by decide)]
  generalize hB4 : va_up (va_up B3 14 (upd (B3 14) (base + sz) (nI cl))) 15 (upd (B3 15) (base + sz) (nI cl)) = B4
  have b4 : ∀ j, j ∉ [14, 15] → B4 j = B3 j := by intro j hj; simp at hj; rw [← hB4]; simp [va_up, hj]
  have b414 : B4 14 = upd (B3 14) (base + sz) (nI cl) := by rw [← hB4]; simp [va_up]
  have b415 : B4 15 = upd (B3 15) (base + sz) (nI cl) := by rw [← hB4]; simp [va_up]
  have hT1 : ∀ (Bx : Nat → Nat → Int32), Bx 0 = B3 0 → a + 1 ≤ n → TY (Bx 0) f (upd I3 2 z6 2) (upd I3 2 z6 1) (a + 1) n := by
    intro Bx h0 h1
    have e : TY (B9 0) f z6 (I9 1) (a + 1) n := hTy.up m6 h1
    have e1 : (upd I3 2 z6) 1 = I9 1 := by simp [upd, n3 1 (by decide)]
    have e2 : (upd I3 2 z6) 2 = z6 := by simp [upd]
    rw [h0, nk 0 (by decide), e1, e2]; exact e
  have hk9B : ∀ (Bx : Nat → Nat → Int32), Bx 1 = B3 1 → Bx 2 = B3 2 → kn9 Bx kd := by
    intro Bx h1 h2 j hj
    rw [h1, h2, nk 1 (by decide), nk 2 (by decide)]; exact hkn.k9 j hj
  -- behind an expression
  have mid : ∀ (Bx : Nat → Nat → Int32) (If : Nat → Int32) (Bf : Nat → Nat → Int32), (∀ j, j ∉ [5, 12, 13, 14, 15] → Bx j = B3 j) → (∀ j, j ∈ [5, 12, 13, 14, 15] → same (base + sz) (B3 j) (Bx j)) → Bx 14 (base + sz) = nI cl → FM cl If Bx If Bf → (∀ j, j ∉ [5, 12, 13, 14, 15, 16, 24, 28] → (va_up Bf 15 (upd (Bf 15) (base + sz) (nI (cl + out.length)))) j = B3 j) ∧ (∀ j, j ∈ [5, 12, 13, 14, 15, 16] → same (base + sz) (B3 j) ((va_up Bf 15 (upd (Bf 15) (base + sz) (nI (cl + out.length)))) j)) ∧ same cl (B3 24) ((va_up Bf 15 (upd (Bf 15) (base + sz) (nI (cl + out.length)))) 24) ∧ (va_up Bf 15 (upd (Bf 15) (base + sz) (nI (cl + out.length)))) 14 (base + sz) = nI cl ∧ (va_up Bf 15 (upd (Bf 15) (base + sz) (nI (cl + out.length)))) 15 (base + sz) = nI (cl + out.length) ∧ (∀ j, j ∈ [5, 12, 13] → (va_up Bf 15 (upd (Bf 15) (base + sz) (nI (cl + out.length)))) j = Bx j) := by
    intro Bx If Bf h1 h2 h3 hF
    refine ⟨fun j hj => ?_, fun j hj => ?_, ?_, ?_, by simp [va_up, upd], fun j hj => ?_⟩
    · simp at hj
      simp only [va_up, hj, if_false]
      rw [hF.2.1 j (by simp [hj])]; exact h1 j (by simp [hj])
    · simp at hj
      rcases hj with rfl | rfl | rfl | rfl | rfl | rfl
      · simp only [va_up]; simp only [show ¬ (5 : Nat) = 15 by decide, if_false]; rw [hF.2.1 5 (by decide)]; exact h2 5 (by decide)
      · simp only [va_up]; simp only [show ¬ (12 : Nat) = 15 by decide, if_false]; rw [hF.2.1 12 (by decide)]; exact h2 12 (by decide)
      · simp only [va_up]; simp only [show ¬ (13 : Nat) = 15 by decide, if_false]; rw [hF.2.1 13 (by decide)]; exact h2 13 (by decide)
      · simp only [va_up]; simp only [show ¬ (14 : Nat) = 15 by decide, if_false]; rw [hF.2.1 14 (by decide)]; exact h2 14 (by decide)
      · simp only [va_up, if_true]; rw [hF.2.1 15 (by decide)]; exact (h2 15 (by decide)).tr (same_upd (Nat.le_refl _))
      · simp only [va_up]; simp only [show ¬ (16 : Nat) = 15 by decide, if_false]; rw [hF.2.1 16 (by decide)]; exact same.of (h1 16 (by decide))
    · simp only [va_up]; simp only [show ¬ (24 : Nat) = 15 by decide, if_false]
      intro j hj; rw [hF.2.2 j hj, h1 24 (by decide)]
    · simp only [va_up]; simp only [show ¬ (14 : Nat) = 15 by decide, if_false]; rw [hF.2.1 14 (by decide)]; exact h3
    · simp at hj
      rcases hj with rfl | rfl | rfl
      · simp only [va_up]; simp only [show ¬ (5 : Nat) = 15 by decide, if_false]; exact hF.2.1 5 (by decide)
      · simp only [va_up]; simp only [show ¬ (12 : Nat) = 15 by decide, if_false]; exact hF.2.1 12 (by decide)
      · simp only [va_up]; simp only [show ¬ (13 : Nat) = 15 by decide, if_false]; exact hF.2.1 13 (by decide)
  have n5N : B3 5 (base + sz) = k9 := by rw [n5]; simp [upd]
  have simple : ∀ (hx0 : ex = 0) (hpk : pk = 4 ∨ pk = 5) (hk : k9 = pk) (ha1 : a' = a + 1), Post 1 (upd I3 2 z6) J9 B4 D9 := by
    intro hx0 hpk hk ha1
    have hpn : ¬ (pk = 0 ∨ pk = 2) ∧ ¬ (pk = 2 ∨ pk = 3) ∧ ¬ pk = 0 ∧ ¬ pk = 3 ∧ ¬ (pk = 0 ∨ pk = 1 ∨ pk = 2) := by
      rcases hpk with rfl | rfl <;> decide
    refine fin cl _ B4 (fun z => absurd z hpn.1) (fun j hj => ?_) ?_ ?_ (by omega) (fun j hj => b4 j (by simp at hj ⊢; omega)) (fun j hj => ?_) (same.of (b4 24 (by decide))) ?_ ?_ (fun z => absurd z hpn.2.2.1) (fun z => absurd z hpn.2.1) (fun z => absurd z hpn.2.2.2.1) (Or.inl ⟨hx0, ?_, ?_, hpn.2.2.2.2⟩)
    · simp at hj; simp [upd, hj]
    · simp [upd, m6, ha1]
    · simpa [upd] using i11
    · simp at hj
      rcases hj with rfl | rfl | rfl | rfl | rfl | rfl
      · exact same.of (b4 5 (by decide))
      · exact same.of (b4 12 (by decide))
      · exact same.of (b4 13 (by decide))
      · rw [b414]; exact same_upd (Nat.le_refl _)
      · rw [b415]; exact same_upd (Nat.le_refl _)
      · exact same.of (b4 16 (by decide))
    · rw [b4 5 (by decide), n5N, hk]
    · rcases hpk with w | w
      · exact Or.inr (Or.inr (Or.inr (Or.inr (Or.inl w))))
      · exact Or.inr (Or.inr (Or.inr (Or.inr (Or.inr w))))
    · rw [b414]; simp [upd]
    · rw [b415]; simp [upd]
  -- an expression behind a name
  have named : ∀ (Bx : Nat → Nat → Int32) (Ix : Nat → Int32), ex = 1 → (pk = 0 ∨ pk = 2) → EXP f n kd 0 (a + 2) a' out → (∀ j, j ∉ [5, 12, 13, 14, 15] → Bx j = B3 j) → (∀ j, j ∈ [5, 12, 13, 14, 15] → same (base + sz) (B3 j) (Bx j)) → Bx 14 (base + sz) = nI cl → Bx 5 (base + sz) = pk → (pk = 0 → ∃ j, j < 8 ∧ vr = nI j ∧ kd j = 1 ∧ Bx 12 (base + sz) = B9 1 j) → (pk = 2 → ∃ j, j < 8 ∧ ch = nI j ∧ kd j = 2 ∧ Bx 12 (base + sz) = B9 2 j) → (∀ j, j ≠ 2 → Ix j = I3 j) → TY (Bx 0) f (Ix 2) (Ix 1) (a + 2) n → wc_LassoFinderModel_basic_376 (tkn f n a) y Post (nI (base + sz)) Ix J9 Bx D9 := by
    intro Bx Ix hx1 hpk hE h1 h2 h3 hb5 ha0 ha2 hIx hTx
    have hfx := EXP.facts (by omega) hTx.2.2.1 hE
    have hne : 1 ≤ out.length := by
      have := hfx.2.1
      cases out with
      | nil => simp [ht] at this
      | cons _ _ => simp
    refine q_expr_ok (f := f) (n := n) (b := cl) (ob := 0) (a := a + 2) (a' := a') (kd := kd) (out := out) (by omega) (by omega) hTx ((hIx 11 (by decide)).trans i11) (hk9B Bx (h1 1 (by decide)) (h1 2 (by decide))) hE ?_ ?_
    · intro hsg I4 B4' hF hT4 h411 hrep
      refine ⟨fun _ => ⟨hvN, ?_⟩, fun z => absurd z (by decide)⟩
      (try rw [hcN]); rw [h411]
      obtain ⟨e1, e2, e3, e4, e5, e6'⟩ := mid Bx Ix B4' h1 h2 h3 ⟨fun _ _ => rfl, hF.2.1, hF.2.2⟩
      refine fin (cl + out.length) I4 _ (fun _ => hsg) (fun j hj => ?_) hT4.1 h411 (by omega) e1 e2 e3 (by rw [e6' 5 (by decide)]; exact hb5) ?_ (fun z => by rw [e6' 12 (by decide)]; exact ha0 z) (fun z => ?_) (fun z => ?_) (Or.inr ⟨hx1, e4, e5, ?_, Nat.le_refl _, hne, hfx.1, hfx.2.1, hfx.2.2.1, hfx.2.2.2.1, ?_⟩)
      · have hj' := hj
        simp at hj; rw [hF.1 j (by simp [hj]), hIx j (by simp [hj])]
      · rcases hpk with w | w
        · exact Or.inl w
        · exact Or.inr (Or.inr (Or.inl w))
      · rw [e6' 12 (by decide)]
        rcases z with z | z
        · exact ha2 z
        · rcases hpk with w | w <;> (rw [w] at z; exact absurd z (by decide))
      · rcases hpk with w | w <;> (rw [w] at z; exact absurd z (by decide))
      · simpa [va_up] using hrep
      · rcases hpk with w | w
        · exact Or.inl w
        · exact Or.inr (Or.inr w)
    · intro hsg I4 B4' hF h42
      refine ⟨fun z => absurd rfl z, fun _ => kf hsg _ _ (hw0 _ _ (fun j hj => ?_) (fun j hj => ?_)) (by simp [upd, h42])⟩
      · simp at hj
        simp only [upd, hj, if_false]
        rw [hF.1 j (by simp [hj]), hIx j (by simp [hj])]
      · have hj' := hj
        simp at hj
        rw [hF.2.1 j (by simp [hj])]; exact h1 j (by simp [hj])
  rcases hbas with ⟨w1, w2, w3, w4, w5, w6, w7⟩ | ⟨w1, w2, w3, w4, w5, w6, w7, w8, w9, w10⟩ | ⟨w1, w2, w3, w4, w5, a1, w6, w7, w8⟩ | ⟨w1, w2, w3, w4, w5, w6, w7, w8⟩ | ⟨w1, w2, w3, w4, w5, w6, w7, w8, w9⟩ | ⟨w1, w2, w3, w4, w5, w6, w7, w8, w9, w10, w11, w12⟩
  · -- nothing
    have hk4 : k9 = 4 := by
      rcases hk9 with z | z | z | z
      · rw [w1] at z; exact absurd z.1 (by decide)
      · exact z.2
      · rw [w1] at z; exact absurd z.1 (by decide)
      · exact absurd w1 z.2.1
    have hx0 : x4 = 0 := by
      rcases hx4 with z | z
      · exact absurd (one_sym (Or.inr (Or.inl w1))) z.2.1
      · exact z.1
    refine ⟨fun _ => ⟨fun z => absurd hx0 z, fun _ => simple w5 (Or.inl w2) (by rw [hk4, w2]) w7⟩, fun z => by rw [w1] at z; exact absurd z (by decide)⟩
  · -- else
    have hk4 : k9 = 5 := by
      rcases hk9 with z | z | z | z
      · rw [w1] at z; exact absurd z.1 (by decide)
      · rw [w1] at z; exact absurd z.1 (by decide)
      · exact z.2
      · exact absurd w1 z.2.2.1
    have hx0 : x4 = 0 := by
      rcases hx4 with z | z
      · exact absurd (one_sym (Or.inr (Or.inr w1))) z.2.1
      · exact z.1
    refine ⟨fun _ => ⟨fun z => absurd hx0 z, fun _ => simple w8 (Or.inr w5) (by rw [hk4, w5]) w10⟩, fun z => by rw [w1] at z; exact absurd z (by decide)⟩
  · -- (expression)
    have hk4 : k9 = 1 := by
      rcases hk9 with z | z | z | z
      · exact z.2
      · rw [w1] at z; exact absurd z.1 (by decide)
      · rw [w1] at z; exact absurd z.1 (by decide)
      · exact absurd w1 z.1
    have ha1 := tkn_le w1 (by decide)
    have hfx := EXP.facts (by omega) ha1 w6
    have hne : 1 ≤ out.length := by
      have := hfx.2.1
      cases out with
      | nil => simp [ht] at this
      | cons _ _ => simp
    refine ⟨fun z => absurd w1 z, fun _ => ?_⟩
    refine q_expr_ok (f := f) (n := n) (b := cl) (ob := 1) (a := a + 1) (a' := a1) (kd := kd) (out := out) (by omega) (by omega) (hT1 B4 (b4 0 (by decide)) ha1) (by simpa [upd] using i11) (hk9B B4 (b4 1 (by decide)) (b4 2 (by decide))) w6 ?_ (fun z => absurd (by rw [w7]; decide) z)
    intro hsg I4 B4' hF hT4 h411 hrep
    refine ⟨fun _ => ⟨hvN, ?_⟩, fun z => absurd z (by decide)⟩
    (try rw [hcN]); rw [h411]
    obtain ⟨e1, e2, e3, e4, e5, e6'⟩ := mid B4 (upd I3 2 z6) B4' (fun j hj => b4 j (by simp at hj ⊢; omega)) (fun j hj => by
      simp at hj
      rcases hj with rfl | rfl | rfl | rfl | rfl
      · exact same.of (b4 5 (by decide))
      · exact same.of (b4 12 (by decide))
      · exact same.of (b4 13 (by decide))
      · rw [b414]; exact same_upd (Nat.le_refl _)
      · rw [b415]; exact same_upd (Nat.le_refl _)) (by rw [b414]; simp [upd]) ⟨fun _ _ => rfl, hF.2.1, hF.2.2⟩
    have hT5 : TY ((va_up B4' 15 (upd (B4' 15) (base + sz) (nI (cl + out.length)))) 0) f (I4 2) (I4 1) a1 n := by simpa [va_up] using hT4
    refine q_takes hT5 (fun z => ⟨Or.inr rfl, ?_⟩) (fun z => absurd w7 z)
    have hp1 : pk = 1 := w2
    refine fin (cl + out.length) _ _ (fun z => by rw [hp1] at z; exact absurd z (by decide)) (fun j hj => ?_) (by simp [upd, w8]) (by simpa [upd] using h411) (by omega) e1 e2 e3 (by rw [e6' 5 (by decide), b4 5 (by decide), n5N, hk4, hp1]) (Or.inr (Or.inl hp1)) (fun z => by rw [hp1] at z; exact absurd z (by decide)) (fun z => by rw [hp1] at z; exact absurd z (by decide)) (fun z => by rw [hp1] at z; exact absurd z (by decide)) (Or.inr ⟨w5, e4, e5, by simpa [va_up] using hrep, Nat.le_refl _, hne, hfx.1, hfx.2.1, hfx.2.2.1, hfx.2.2.2.1, Or.inr (Or.inl hp1)⟩)
    simp at hj
    simp only [upd, hj, if_false]
    rw [hF.1 j (by simp [hj])]; simp [upd, hj]
  · -- a variable is set
    obtain ⟨wl, wv⟩ := one_lt w1
    have hnI := nI_clamp_one w1
    have hx1 : ¬ x4 = 0 := by
      rcases hx4 with z | z
      · rw [z.1]; decide
      · exact absurd ⟨w1, by rw [w2]; decide⟩ z.2
    have hns : ¬ (tkn f n a = 40 ∨ tkn f n a = 45 ∨ tkn f n a = 126) := fun z => w1 (one_sym z)
    have hk4 : k9 = 0 := by
      rcases hk9 with z | z | z | z
      · exact absurd (Or.inl z.1) hns
      · exact absurd (Or.inr (Or.inl z.1)) hns
      · exact absurd (Or.inr (Or.inr z.1)) hns
      · exact z.2.2.2
    have hvar := (hkn.cases wl).1 w2
    have ha1 : a + 1 ≤ n := one_tk (Or.inr (Or.inr rfl)) w1
    have ha2 := tkn_le w3 (by decide)
    have o1 : B3 1 = B9 1 := nk 1 (by decide)
    refine ⟨fun _ => ⟨fun _ => ⟨wv, fun z9 e9 => ⟨fun z => ?_, fun _ => ⟨wv, fun z23 e23 => ⟨hvN, ?_⟩⟩⟩⟩, fun z => absurd z hx1⟩, fun z => absurd (Or.inl z) hns⟩
    · rw [e9, o1] at z; exact absurd z hvar
    · try rw [hcN]
      have hB5 : ∀ j, j ∉ [12, 14, 15] → (va_up B4 12 (upd (B3 12) (base + sz) z23)) j = B3 j := by
        intro j hj; simp at hj; simp only [va_up, hj, if_false]; exact b4 j (by simp [hj])
      refine q_takes (hT1 _ (hB5 0 (by decide)) ha1) (fun z => ⟨fun _ => ?_, fun v => absurd v (by decide)⟩) (fun z => absurd w3 z)
      refine named _ _ w7 (Or.inl w4) w8 (fun j hj => hB5 j (by simp at hj ⊢; omega)) (fun j hj => ?_) ?_ ?_ (fun _ => ⟨_, wl, by rw [w6]; exact hnI, w2, ?_⟩) (fun z => by rw [w4] at z; exact absurd z (by decide)) (fun j hj => by simp [upd, hj]) ?_
      · simp at hj
        rcases hj with rfl | rfl | rfl | rfl | rfl
        · exact same.of (hB5 5 (by decide))
        · simp only [va_up, if_true]; exact same_upd (Nat.le_refl _)
        · exact same.of (hB5 13 (by decide))
        · simp only [va_up]; simp only [show ¬ (14 : Nat) = 12 by decide, if_false]; rw [b414]; exact same_upd (Nat.le_refl _)
        · simp only [va_up]; simp only [show ¬ (15 : Nat) = 12 by decide, if_false]; rw [b415]; exact same_upd (Nat.le_refl _)
      · simp only [va_up]; simp only [show ¬ (14 : Nat) = 12 by decide, if_false]; rw [b414]; simp [upd]
      · rw [hB5 5 (by decide), n5N, hk4, w4]
      · simp only [va_up, if_true]; rw [e23, o1]; simp [upd]
      · have e : TY (B9 0) f (nI (a + 2)) (I9 1) (a + 2) n := hTy.up rfl ha2
        have e1 : (upd (upd I3 2 z6) 2 (nI (a + 1 + 1))) 1 = I9 1 := by simp [upd, n3 1 (by decide)]
        have e2 : (upd (upd I3 2 z6) 2 (nI (a + 1 + 1))) 2 = nI (a + 2) := by simp [upd]
        rw [hB5 0 (by decide), nk 0 (by decide), e1, e2]; exact e
  · -- a message is sent
    obtain ⟨wl, wv⟩ := one_lt w1
    have hnI := nI_clamp_one w1
    have hx1 : ¬ x4 = 0 := by
      rcases hx4 with z | z
      · rw [z.1]; decide
      · exact absurd ⟨w1, w2⟩ z.2
    have hns : ¬ (tkn f n a = 40 ∨ tkn f n a = 45 ∨ tkn f n a = 126) := fun z => w1 (one_sym z)
    have hkd2 : kd (one (tkn f n a) 97 8).toNatClampNeg = 2 := by
      rcases (hkn _ wl).1 with z | z | z
      · exact absurd z w2
      · exact absurd z w3
      · exact z
    have hch := (hkn.cases wl).2 hkd2
    have ha1 : a + 1 ≤ n := one_tk (Or.inr (Or.inr rfl)) w1
    have ha2 := tkn_le w4 (by decide)
    have o1 : B3 1 = B9 1 := nk 1 (by decide)
    have o2 : B3 2 = B9 2 := nk 2 (by decide)
    refine ⟨fun _ => ⟨fun _ => ⟨wv, fun z9 e9 => ⟨fun _ => ⟨wv, fun z11 e11 => ⟨hvN, ?_⟩⟩, fun z => ?_⟩⟩, fun z => absurd z hx1⟩, fun z => absurd (Or.inl z) hns⟩
    · try rw [hcN]
      have hB5 : ∀ j, j ∉ [12, 14, 15] → (va_up B4 12 (upd (B3 12) (base + sz) z11)) j = B3 j := by
        intro j hj; simp at hj; simp only [va_up, hj, if_false]; exact b4 j (by simp [hj])
      have hTx := hT1 _ (hB5 0 (by decide)) ha1
      refine q_here hTx.tx ?_
      rw [hTx.tk]
      refine ⟨fun _ => ⟨hvN, ?_⟩, fun z => by rw [w4] at z; exact absurd z (by decide)⟩
      have hB6 : ∀ j, j ∉ [5, 12, 14, 15] → (va_up (va_up B4 12 (upd (B3 12) (base + sz) z11)) 5 (upd (va_up B4 12 (upd (B3 12) (base + sz) z11) 5) (base + sz) 2)) j = B3 j := by
        intro j hj; simp at hj; simp only [va_up, hj, if_false]; exact b4 j (by simp [hj])
      try rw [hcN]
      refine q_takes (hT1 _ (hB6 0 (by decide)) ha1) (fun z => ⟨fun _ => ?_, fun v => absurd v (by decide)⟩) (fun z => absurd w4 z)
      refine named _ _ w8 (Or.inr w5) w9 (fun j hj => hB6 j (by simp at hj ⊢; omega)) (fun j hj => ?_) ?_ ?_ (fun z => by rw [w5] at z; exact absurd z (by decide)) (fun _ => ⟨_, wl, by rw [w6]; exact hnI, hkd2, ?_⟩) (fun j hj => by simp [upd, hj]) ?_
      · simp at hj
        rcases hj with rfl | rfl | rfl | rfl | rfl
        · simp only [va_up, if_true]; simp only [show ¬ (5 : Nat) = 12 by decide, if_false]; rw [b4 5 (by decide)]; exact same_upd (Nat.le_refl _)
        · simp only [va_up]; simp only [show ¬ (12 : Nat) = 5 by decide, if_false, if_true]; exact same_upd (Nat.le_refl _)
        · exact same.of (hB6 13 (by decide))
        · simp only [va_up]; simp only [show ¬ (14 : Nat) = 5 by decide, show ¬ (14 : Nat) = 12 by decide, if_false]; rw [b414]; exact same_upd (Nat.le_refl _)
        · simp only [va_up]; simp only [show ¬ (15 : Nat) = 5 by decide, show ¬ (15 : Nat) = 12 by decide, if_false]; rw [b415]; exact same_upd (Nat.le_refl _)
      · simp only [va_up]; simp only [show ¬ (14 : Nat) = 5 by decide, show ¬ (14 : Nat) = 12 by decide, if_false]; rw [b414]; simp [upd]
      · simp only [va_up, if_true]; rw [w5]; simp [upd]
      · simp only [va_up]; simp only [show ¬ (12 : Nat) = 5 by decide, if_false, if_true]; rw [e11, o2]; simp [upd]
      · have e : TY (B9 0) f (nI (a + 2)) (I9 1) (a + 2) n := hTy.up rfl ha2
        have e1 : (upd (upd I3 2 z6) 2 (nI (a + 1 + 1))) 1 = I9 1 := by simp [upd, n3 1 (by decide)]
        have e2 : (upd (upd I3 2 z6) 2 (nI (a + 1 + 1))) 2 = nI (a + 2) := by simp [upd]
        rw [hB6 0 (by decide), nk 0 (by decide), e1, e2]; exact e
    · rw [e9, o1] at z; exact absurd hch.1 z
  · -- a message is received
    obtain ⟨wl, wv⟩ := one_lt w1
    have hnI := nI_clamp_one w1
    obtain ⟨wl5, wv5⟩ := one_lt w5
    have hnI5 := nI_clamp_one w5
    have hx1 : ¬ x4 = 0 := by
      rcases hx4 with z | z
      · rw [z.1]; decide
      · exact absurd ⟨w1, w2⟩ z.2
    have hns : ¬ (tkn f n a = 40 ∨ tkn f n a = 45 ∨ tkn f n a = 126) := fun z => w1 (one_sym z)
    have hkd2 : kd (one (tkn f n a) 97 8).toNatClampNeg = 2 := by
      rcases (hkn _ wl).1 with z | z | z
      · exact absurd z w2
      · exact absurd z w3
      · exact z
    have hch := (hkn.cases wl).2 hkd2
    have hvar := (hkn.cases wl5).1 w6
    have ha1 : a + 1 ≤ n := one_tk (Or.inr (Or.inr rfl)) w1
    have ha2 := tkn_le w4 (by decide)
    have o1 : B3 1 = B9 1 := nk 1 (by decide)
    have o2 : B3 2 = B9 2 := nk 2 (by decide)
    refine ⟨fun _ => ⟨fun _ => ⟨wv, fun z9 e9 => ⟨fun _ => ⟨wv, fun z11 e11 => ⟨hvN, ?_⟩⟩, fun z => ?_⟩⟩, fun z => absurd z hx1⟩, fun z => absurd (Or.inl z) hns⟩
    · try rw [hcN]
      have hB5 : ∀ j, j ∉ [12, 14, 15] → (va_up B4 12 (upd (B3 12) (base + sz) z11)) j = B3 j := by
        intro j hj; simp at hj; simp only [va_up, hj, if_false]; exact b4 j (by simp [hj])
      have hTx := hT1 _ (hB5 0 (by decide)) ha1
      refine q_here hTx.tx ?_
      rw [hTx.tk]
      refine ⟨fun z => absurd w4 z, fun _ => ⟨hvN, fun z16 e16 => ?_⟩⟩
      have m16 : z16 = nI (a + 2) := inI (k := a + 1) (by simp [upd, m6]) e16
      try rw [hcN]
      generalize hB6e : (va_up (va_up B4 12 (upd (B3 12) (base + sz) z11)) 5 (upd (va_up B4 12 (upd (B3 12) (base + sz) z11) 5) (base + sz) 3)) = B6
      have hB6 : ∀ j, j ∉ [5, 12, 14, 15] → B6 j = B3 j := by
        intro j hj; simp at hj; rw [← hB6e]; simp only [va_up, hj, if_false]; exact b4 j (by simp [hj])
      have c5 : B6 5 = upd (B3 5) (base + sz) 3 := by rw [← hB6e]; simp only [va_up, if_true]; simp only [show ¬ (5 : Nat) = 12 by decide, if_false]; rw [b4 5 (by decide)]
      have c12 : B6 12 = upd (B3 12) (base + sz) z11 := by rw [← hB6e]; simp only [va_up]; simp only [show ¬ (12 : Nat) = 5 by decide, if_false, if_true]
      have c14 : B6 14 = upd (B3 14) (base + sz) (nI cl) := by rw [← hB6e]; simp only [va_up]; simp only [show ¬ (14 : Nat) = 5 by decide, show ¬ (14 : Nat) = 12 by decide, if_false]; exact b414
      have c15 : B6 15 = upd (B3 15) (base + sz) (nI cl) := by rw [← hB6e]; simp only [va_up]; simp only [show ¬ (15 : Nat) = 5 by decide, show ¬ (15 : Nat) = 12 by decide, if_false]; exact b415
      have hTz : TY (B6 0) f (upd (upd I3 2 z6) 2 z16 2) (upd (upd I3 2 z6) 2 z16 1) (a + 2) n := by
        have e : TY (B9 0) f z16 (I9 1) (a + 2) n := hTy.up m16 ha2
        have e1 : (upd (upd I3 2 z6) 2 z16) 1 = I9 1 := by simp [upd, n3 1 (by decide)]
        have e2 : (upd (upd I3 2 z6) 2 z16) 2 = z16 := by simp [upd]
        rw [hB6 0 (by decide), nk 0 (by decide), e1, e2]; exact e
      refine q_from (by decide) hTz.tx ?_
      rw [hTz.tk]
      refine ⟨fun z => absurd (one_neg.mp z) w5, fun _ => ⟨wv5, fun z19 e19 => ⟨fun _ => ⟨wv5, fun z21 e21 => ⟨hvN, fun z22 e22 => ?_⟩⟩, fun z => ?_⟩⟩⟩
      · have m22 : z22 = nI (a + 3) := inI (k := a + 2) (by simp [upd, m16]) e22
        try rw [hcN]
        have o1' : B6 1 = B9 1 := (hB6 1 (by decide)).trans o1
        have hp3 : pk = 3 := w7
        refine fin cl _ _ (fun z => by rw [hp3] at z; exact absurd z (by decide)) (fun j hj => ?_) (by simp [upd, m22, w12]) (by simpa [upd] using i11) (by omega) (fun j hj => ?_) (fun j hj => ?_) (same.of ?_) ?_ (Or.inr (Or.inr (Or.inr (Or.inl hp3)))) (fun z => by rw [hp3] at z; exact absurd z (by decide)) (fun _ => ⟨_, wl, by rw [w8]; exact hnI, hkd2, ?_⟩) (fun _ => ⟨_, wl5, by rw [w9]; exact hnI5, w6, ?_⟩) (Or.inl ⟨w10, ?_, ?_, by rw [hp3]; decide⟩)
        · simp at hj; simp [upd, hj]
        · simp at hj
          simp only [va_up, hj, if_false]; exact hB6 j (by simp [hj])
        · simp at hj
          rcases hj with rfl | rfl | rfl | rfl | rfl | rfl
          · simp only [va_up]; simp only [show ¬ (5 : Nat) = 13 by decide, if_false]; rw [c5]; exact same_upd (Nat.le_refl _)
          · simp only [va_up]; simp only [show ¬ (12 : Nat) = 13 by decide, if_false]; rw [c12]; exact same_upd (Nat.le_refl _)
          · simp only [va_up, if_true]; rw [hB6 13 (by decide)]; exact same_upd (Nat.le_refl _)
          · simp only [va_up]; simp only [show ¬ (14 : Nat) = 13 by decide, if_false]; rw [c14]; exact same_upd (Nat.le_refl _)
          · simp only [va_up]; simp only [show ¬ (15 : Nat) = 13 by decide, if_false]; rw [c15]; exact same_upd (Nat.le_refl _)
          · simp only [va_up]; simp only [show ¬ (16 : Nat) = 13 by decide, if_false]; exact same.of (hB6 16 (by decide))
        · simp only [va_up]; simp only [show ¬ (24 : Nat) = 13 by decide, if_false]; exact hB6 24 (by decide)
        · simp only [va_up]; simp only [show ¬ (5 : Nat) = 13 by decide, if_false]; rw [c5, hp3]; simp [upd]
        · simp only [va_up]; simp only [show ¬ (12 : Nat) = 13 by decide, if_false]; rw [c12, e11, o2]; simp [upd]
        · simp only [va_up, if_true]; rw [e21, o1']; simp [upd]
        · simp only [va_up]; simp only [show ¬ (14 : Nat) = 13 by decide, if_false]; rw [c14]; simp [upd]
        · simp only [va_up]; simp only [show ¬ (15 : Nat) = 13 by decide, if_false]; rw [c15]; simp [upd]
      · have o1' : B6 1 = B9 1 := (hB6 1 (by decide)).trans o1
        rw [e19, o1'] at z
        exact absurd (Int32.not_lt.mp hvar) z
    · rw [e9, o1] at z; exact absurd hch.1 z
end ZF7
