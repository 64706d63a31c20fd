/-! Statements: the reference refuses (labels, blocks, breaks, jumps). -/
section ZF9
variable {I : Nat → Int32} {J : Nat → Int64} {B : Nat → Nat → Int32} {D : Nat → Nat → Int64} {I9 : Nat → Int32} {J9 : Nat → Int64} {B9 : Nat → Nat → Int32} {D9 : Nat → Nat → Int64}
theorem r_label_bad {Post : Int32 → (Nat → Int32) → (Nat → Int64) → (Nat → Nat → Int32) → (Nat → Nat → Int64) → Prop} {f : Nat → Int32} {n : Nat} {kd : Nat → Int32} {base p a sz pt bs ln cl : Nat} {F : zF} (h : RG f n kd base p a sz pt bs ln cl 0 F I B I9 B9) (h58 : tkn f n a = 58) (hx : one (tkn f n (a + 1)) 65 8 = -1 ∨ ¬ B 28 (one (tkn f n (a + 1)) 65 8).toNatClampNeg = -3)
    (kf : ∀ I9' B9', FW I9 B9 I9' B9' → I9' 3 = nI (a + 1) → Post 0 I9' J9 B9' D9) : wp_LassoFinderModel_label I9 J9 B9 D9 Post := by
  obtain ⟨⟨q1, q2, q3, q4, q5, q6, q7, q8, q9⟩, ⟨hT, g8, g9, g10, gp, g11, gc, g12, g20⟩, ⟨c1, c2, c3, c4, c5⟩, ⟨f1, f2, f3⟩, hTR, hKR, hBR, hlab, hkn, hok, hTc⟩ := h
  have ha1 := tkn_le h58 (by decide)
  intro z2 e2
  have n2 : z2 = nI (a + 1) := inI hT.1 e2
  subst n2
  have hT1 : TY (B9 0) f (upd I9 2 (nI (a + 1)) 2) (upd I9 2 (nI (a + 1)) 1) (a + 1) n := hT.up rfl ha1
  refine q_from (by decide) hT1.tx ?_
  rw [hT1.tk]
  have fin : wc_LassoFinderModel_label_40 Post (upd I9 2 (nI (a + 1))) J9 B9 D9 := ⟨Or.inl rfl, kf _ _ FW.rf23 (by simp [upd])⟩
  refine ⟨fun _ => fin, fun w z5 e5 z6 e6 => ?_⟩
  have w : ¬ one (tkn f n (a + 1)) 65 8 = -1 := fun z => w (one_neg.mpr z)
  obtain ⟨wl, wv⟩ := one_lt w
  have hnI := nI_clamp_one w
  have hx := hx.resolve_left w
  generalize hl : (one (tkn f n (a + 1)) 65 8).toNatClampNeg = l at *
  obtain ⟨lab1, lab2⟩ := hlab l wl
  obtain ⟨k0, hk0, ek⟩ := lab2.resolve_left hx
  have hp8 : ∀ p : Nat, p < 4 → 8 * nI p = nI (8 * p) := by decide +kernel
  have n5 : z5 = nI (8 * p) := by rw [e5]; show 8 * I9 10 = _; rw [g10, hp8 p gp]
  have n6 : z6 = nI (8 * p + l) := by rw [e6, n5, hnI, nI_add]
  refine ⟨vin2 n6 (by omega) (by omega), fun z7 e7 => ⟨fun v => ?_, fun _ => fin⟩⟩
  rw [e7, clI n6 (by omega), lab1, ek, off_n (by omega)] at v
  exact absurd v (nI_pos (by omega))
theorem r_stmt_bad {Post : Int32 → (Nat → Int32) → (Nat → Int64) → (Nat → Nat → Int32) → (Nat → Nat → Int64) → Prop} {f : Nat → Int32} {n : Nat} {kd : Nat → Int32} {base p a sz pt bs ln cl bk q : Nat} {nd lt : Int32} {fr : zF} (h : RG f n kd base p a sz pt bs ln cl 0 ((bk, nd, lt) :: fr) I B I9 B9)
    (hq : (tkn f n a = 91 ∧ q = a ∧ (I 17 = 30 ∨ fr.length = 6)) ∨ (tkn f n a = 42 ∧ ((q = a ∧ I 17 = 30) ∨ (q = a + 1 ∧ ¬ I 17 = 30 ∧ (¬ tkn f n (a + 1) = 91 ∨ fr.length = 6)))) ∨ (tkn f n a = 60 ∧ q = a ∧ (fr.length = 6 ∨ ¬ ati B nd = -1)) ∨ (tkn f n a = 46 ∧ q = a ∧ ((¬ nd = -1 ∧ lt = -1) ∨ lpi B nd = -1)) ∨ (tkn f n a = 94 ∧ ((q = a ∧ ¬ nd = -1 ∧ lt = -1) ∨ (q = a + 1 ∧ ¬ (¬ nd = -1 ∧ lt = -1) ∧ one (tkn f n (a + 1)) 65 8 = -1))) ∨
      (¬ tkn f n a = 58 ∧ ¬ tkn f n a = 91 ∧ ¬ tkn f n a = 42 ∧ ¬ tkn f n a = 60 ∧ ¬ tkn f n a = 46 ∧ ¬ tkn f n a = 94 ∧ ((q = a ∧ (I 17 = 30 ∨ I 9 = 48)) ∨ (¬ I 17 = 30 ∧ ¬ I 9 = 48 ∧ BASF f n kd bk nd lt a q))))
    (kf : ∀ I9' B9', FW I9 B9 I9' B9' → I9' 3 = nI q → Post 0 I9' J9 B9' D9) : wp_LassoFinderModel_statement I9 J9 B9 D9 Post := by
  have hG := h
  obtain ⟨w27, w27o, w27g, g12'⟩ := h.top
  obtain ⟨⟨q1, q2, q3, q4, q5, q6, q7, q8, q9⟩, ⟨hTy, g8, g9, g10, gp, g11, gc, g12, g20⟩, ⟨c1, c2, c3, c4, c5⟩, ⟨f1, f2, f3⟩, hTR, hKR, hBR, hlab, hkn, hok, hTc⟩ := h
  simp only [List.length_cons] at c1 c2
  have hn240 := hTy.2.2.2.1
  have hv10 : vp_in (I9 10) 5 := vin2 g10 (by omega) (by omega)
  have e6 : ∀ x, x = nI fr.length → (x = 6 ↔ fr.length = 6) := fun x hx => eqI hx (y := 6) (b := 6) rfl (by omega) (by omega)
  have hin := hok.inside (by omega)
  have har := arf_f (by omega) hok f1
  simp only [List.length_cons, Nat.add_sub_cancel] at har
  have fail0 : q = a → (wp_LassoFinderModel_fail I9 J9 B9 D9 (fun r I J B D => (r = 0 ∨ r = 1) ∧ Post r I J B D)) := fun hqa => ⟨Or.inl rfl, kf _ _ FW.rf3 (by simp [upd, hTy.1, hqa])⟩
  refine r_head hG (fun y hy => ?_)
  rcases hq with ⟨w1, w2, w3⟩ | ⟨w1, w2⟩ | ⟨w1, w2, w3⟩ | ⟨w1, w2, w3⟩ | ⟨w1, w2⟩ | ⟨w0, w1, w2, w3, w4, w5, w6⟩
  · refine ⟨fun _ => ⟨hv10, fun z10 e10 => ?_⟩, fun w => absurd w1 w⟩
    rw [clI g10 (by omega), g20, ← q3] at e10
    refine ⟨fun h30 => ⟨fun _ z5 e5 => ?_, fun w => by rw [w1] at w; exact absurd w (by decide)⟩, fun _ => fail0 w2⟩
    have m5 : z5 = nI a := by rw [e5, hTy.1]; grind
    have hT0 : TY (B9 0) f (upd I9 2 z5 2) (upd I9 2 z5 1) a n := hTy.up m5 hTy.2.2.1
    refine q_here hT0.tx ?_
    rw [hT0.tk]
    have fl : wc_LassoFinderModel_statement_104 Post (upd I9 2 z5) J9 B9 D9 := ⟨Or.inl rfl, kf _ _ FW.rf23 (by simp [upd, m5, w2])⟩
    refine ⟨fun _ => fl, fun _ => ⟨fun v => ?_, fun _ => fl⟩⟩
    exfalso
    rcases w3 with u | u
    · exact h30 (e10.trans u)
    · exact v ((e6 _ (by simpa [upd] using g12')).mpr u)
  · refine ⟨fun w => by rw [w1] at w; exact absurd w (by decide), fun _ => ⟨fun w => absurd w1 w, fun _ => ⟨hv10, fun z10 e10 => ?_⟩⟩⟩
    rw [clI g10 (by omega), g20, ← q3] at e10
    refine ⟨fun h30 => ⟨fun w => absurd w1 w, fun _ z5 e5 => ?_⟩, fun h30 => ?_⟩
    · have m5 : z5 = nI (a + 1) := inI hTy.1 e5
      have hT0 : TY (B9 0) f (upd I9 2 z5 2) (upd I9 2 z5 1) (a + 1) n := hTy.up m5 (tkn_le w1 (by decide))
      obtain ⟨hqa, hw⟩ : q = a + 1 ∧ (¬ tkn f n (a + 1) = 91 ∨ fr.length = 6) := by
        rcases w2 with u | u
        · exact absurd (e10.trans u.2) h30
        · exact ⟨u.1, u.2.2⟩
      refine q_here hT0.tx ?_
      rw [hT0.tk]
      have fl : wc_LassoFinderModel_statement_104 Post (upd I9 2 z5) J9 B9 D9 := ⟨Or.inl rfl, kf _ _ FW.rf23 (by simp [upd, m5, hqa])⟩
      refine ⟨fun _ => fl, fun u => ⟨fun v => ?_, fun _ => fl⟩⟩
      exfalso
      rcases hw with u2 | u2
      · exact u2 u
      · exact v ((e6 _ (by simpa [upd] using g12')).mpr u2)
    · refine fail0 ?_
      rcases w2 with u | u
      · exact u.1
      · exact absurd (e10.symm.trans h30) u.2.1
  · refine ⟨fun w => by rw [w1] at w; exact absurd w (by decide), fun _ => ⟨fun _ => ⟨fun w => absurd w1 w, fun _ => ?_⟩, fun w => by rw [w1] at w; exact absurd w (by decide)⟩⟩
    have fl : wc_LassoFinderModel_statement_168 Post I9 J9 B9 D9 := fail0 w2
    refine q_around g12' (by omega) (fun _ => ⟨fun _ => fl, fun v => absurd v (by decide)⟩) (fun u => ⟨fun v => absurd rfl v, fun _ => ⟨fun v => ?_, fun _ => fl⟩⟩)
    exfalso
    rcases w3 with u2 | u2
    · exact v ((e6 _ g12').mpr u2)
    · exact u (har.2.mpr (by rw [← hin.2]; exact u2))
  · refine ⟨fun w => by rw [w1] at w; exact absurd w (by decide), fun _ => ⟨fun _ => ⟨fun _ => ⟨fun w => absurd w1 w, fun _ => ?_⟩, fun w => by rw [w1] at w; exact absurd w (by decide)⟩, fun w => by rw [w1] at w; exact absurd w (by decide)⟩⟩
    have fl : wc_LassoFinderModel_statement_206 Post I9 J9 B9 D9 := fail0 w2
    refine q_around g12' (by omega) (fun u => ⟨fun v => absurd v (by decide), fun _ => ⟨fun v => ?_, fun _ => fl⟩⟩) (fun u => ⟨fun _ => fl, fun v => absurd rfl v⟩)
    exfalso
    rcases w3 with u2 | u2
    · rcases hy with z | z
      · rw [z.1] at v; exact absurd v (by decide)
      · exact z.2 u2
    · exact (har.1.mp u) (by rw [← hin.1]; exact u2)
  · refine ⟨fun w => by rw [w1] at w; exact absurd w (by decide), fun _ => ⟨fun _ => ⟨fun _ => ⟨fun _ => ⟨fun w => absurd w1 w, fun _ => ⟨fun v z23 e23 => ?_, fun v => ?_⟩⟩, fun w => by rw [w1] at w; exact absurd w (by decide)⟩, fun w => by rw [w1] at w; exact absurd w (by decide)⟩, fun w => by rw [w1] at w; exact absurd w (by decide)⟩⟩
    · have hld : ¬ (¬ nd = -1 ∧ lt = -1) := by
        rcases hy with z | z
        · rw [z.1] at v; exact absurd v (by decide)
        · exact z.2
      obtain ⟨hqa, hone⟩ : q = a + 1 ∧ one (tkn f n (a + 1)) 65 8 = -1 := by
        rcases w2 with u | u
        · exact absurd u.2 hld
        · exact ⟨u.1, u.2.2⟩
      have m23 := inI hTy.1 e23
      have hT1 : TY (B9 0) f (upd I9 2 z23 2) (upd I9 2 z23 1) (a + 1) n := hTy.up m23 (tkn_le w1 (by decide))
      refine q_from (by decide) hT1.tx ?_
      rw [hT1.tk]
      refine ⟨fun u => by rw [hone] at u; exact absurd u (by decide), fun _ => ⟨Or.inl rfl, kf _ _ FW.rf23 (by simp [upd, m23, hqa])⟩⟩
    · refine fail0 ?_
      have hld : ¬ nd = -1 ∧ lt = -1 := by
        rcases hy with z | z
        · exact z.2
        · exact absurd z.1 v
      rcases w2 with u | u
      · exact u.1
      · exact absurd hld u.2.1
  · refine ⟨fun w => absurd w w1, fun _ => ⟨fun _ => ⟨fun _ => ⟨fun _ => ⟨fun _ => ?_, fun w => absurd w w5⟩, fun w => absurd w w4⟩, fun w => absurd w w3⟩, fun w => absurd w w2⟩⟩
    exact r_basic_bad hG hy w6 (fun I9' B9' u v => ⟨Or.inl rfl, kf I9' B9' u v⟩)
theorem r_stmt_basic {Post : Int32 → (Nat → Int32) → (Nat → Int64) → (Nat → Nat → Int32) → (Nat → Nat → Int64) → Prop} {f : Nat → Int32} {n : Nat} {kd : Nat → Int32} {base p a sz pt bs ln cl bk ex a' : Nat} {nd lt pk ch vr : Int32} {out : List Int32} {fr : zF} {I' : Nat → Int32} {J' : Nat → Int64} {B' : Nat → Nat → Int32} {D' : Nat → Nat → Int64} (h : RG f n kd base p a sz pt bs ln cl 0 ((bk, nd, lt) :: fr) I B I9 B9) (h30 : ¬ I 17 = 30) (h48 : ¬ I 9 = 48) (hlna : ln ≤ 2 * a) (hbas : BAS f n kd bk nd lt a pk ch vr ex out a') (hBA : BA nd lt pk ch vr ex out sz bs ln a' I J B D I' J' B' D')
    (k : ((pk = 0 ∨ pk = 2) → sgn (tkn f n a') = -1) → ∀ I9' B9', RB f n kd base p (1, (bk, nd, nI sz) :: fr, I', J', B', D') I9' B9' → FB base p bs B9 B9' → FI I9 I9' → I9' 12 = I9 12 → Post 1 I9' J9 B9' D9)
    (kf : ¬ sgn (tkn f n a') = -1 → ∀ I9' B9', FW I9 B9 I9' B9' → I9' 3 = nI a' → Post 0 I9' J9 B9' D9) : wp_LassoFinderModel_statement I9 J9 B9 D9 Post := by
  refine r_head h (fun y hy => ?_)
  have hc : ¬ tkn f n a = 91 ∧ ¬ tkn f n a = 42 ∧ ¬ tkn f n a = 60 ∧ ¬ tkn f n a = 46 ∧ ¬ tkn f n a = 94 := by
    have hnm : ¬ one (tkn f n a) 97 8 = -1 → ¬ tkn f n a = 91 ∧ ¬ tkn f n a = 42 ∧ ¬ tkn f n a = 60 ∧ ¬ tkn f n a = 46 ∧ ¬ tkn f n a = 94 := by
      intro w
      refine ⟨fun z => w (by rw [z]; decide), fun z => w (by rw [z]; decide), fun z => w (by rw [z]; decide), fun z => w (by rw [z]; decide), fun z => w (by rw [z]; decide)⟩
    rcases hbas with w | w | w | w | w | w
    · rw [w.1]; decide
    · rw [w.1]; decide
    · rw [w.1]; decide
    · exact hnm w.1
    · exact hnm w.1
    · exact hnm w.1
  refine ⟨fun w => absurd w hc.1, fun _ => ⟨fun _ => ⟨fun _ => ⟨fun _ => ⟨fun _ => ?_, fun w => absurd w hc.2.2.2.2⟩, fun w => absurd w hc.2.2.2.1⟩, fun w => absurd w hc.2.2.1⟩, fun w => absurd w hc.2.1⟩⟩
  exact r_basic_ok h hy h30 h48 hlna hbas hBA (fun z I9' B9' u1 u2 u3 u4 => ⟨Or.inr rfl, k z I9' B9' u1 u2 u3 u4⟩) (fun z I9' B9' u v => ⟨Or.inl rfl, kf z I9' B9' u v⟩)
end ZF9
