/-! Statements: the reference's node beside the class's. -/
section ZF2
variable {I : Nat → Int32} {J : Nat → Int64} {B : Nat → Nat → Int32} {D : Nat → Nat → Int64} {I9 : Nat → Int32} {J9 : Nat → Int64} {B9 : Nat → Nat → Int32} {D9 : Nat → Nat → Int64}
theorem r_node {Post : Int32 → (Nat → Int32) → (Nat → Int64) → (Nat → Nat → Int32) → (Nat → Nat → Int64) → Prop} {f : Nat → Int32} {n : Nat} {kd : Nat → Int32} {base p a sz pt bs ln cl bk : Nat} {nd lt : Int32} {fr : zF} {I1 I' : Nat → Int32} {B' : Nat → Nat → Int32} {In : Nat → Int32} {kind kind9 : Int32} (h : RG f n kd base p a sz pt bs ln cl 0 ((bk, nd, lt) :: fr) I B I9 B9) (hT : TA kind nd lt sz I1 B I' B') (hI1 : I1 17 = I 17) (hIn : ∀ k, k ≠ 2 → In k = I9 k) (hk : 2 < kind ↔ 7 < kind9) (hk5 : 7 < kind9 → 5 < kind9) (hpt : ¬ 7 < kind9 → pt < 30) (hbs : ¬ 5 < kind9 → bs < 48)
    (k : ∀ I9' B9', NA9 kind9 (base + sz) fr.length p pt bs In B9 I9' B9' → TR base p (sz + 1) B' B9' → rep (B9' 27) 0 (((bk, nd, nI sz) :: fr).map (fun x => off base x.2.2)) → Post (nI (base + sz)) I9' J9 B9' D9) : wp_LassoFinderModel_node In J9 B9 D9 kind9 Post := by
  obtain ⟨⟨q1, q2, q3, q4, q5, q6, q7, q8, q9⟩, ⟨hTy, g8, g9, g10, gp, g11, gc, g12, g20⟩, ⟨c1, c2, c3, c4, c5⟩, ⟨f1, f2, f3⟩, hTR, hKR, hBR, hlab, hkn, hok, hTc⟩ := h
  simp only [List.length_cons] at c1 c2
  have hnd : okI nd sz := hok.hd
  have hlt : okI lt sz := hok.1
  have t26 : B9 26 fr.length = off base nd := by have := rep_top f2; simpa using this
  have t27 : B9 27 fr.length = off base lt := by have := rep_top f3; simpa using this
  have hins := (hok.inside (by omega)).2
  have haf : afn (B9 25) (B9 26) fr.length = off base (ati B nd) := by
    have := afn_atf (by omega) (by omega) hok f1 f2
    simp only [List.length_cons, Nat.add_sub_cancel] at this
    rw [this, ← hins]; rfl
  refine q_node (N := base + sz) (d := fr.length) (p := p) (pt := pt) (bs := bs) ((hIn 8 (by decide)).trans g8) (by omega) ((hIn 12 (by decide)).trans (by simpa using g12)) (by omega) ((hIn 10 (by decide)).trans g10) gp g20 hpt q6 ((hIn 9 (by decide)).trans g9) hbs q7 (by rw [t27]; exact (off_neg hlt (by omega) (by omega)).2) hk5 ?_
  intro I9' B9' hN
  refine k I9' B9' hN (TR_add (by omega) (by omega) hTR hT hN hk t26 t27 hlt haf (by rw [g20, hI1, q3])) ?_
  have h27 : B9' 27 = upd (B9 27) fr.length (nI (base + sz)) := hN.2.2.2.2.2.2.2.2.2.2.1
  rw [h27]
  simp only [List.map_cons]
  rw [off_n (by omega)]
  exact rep_set f3 (by simp)
/-- the nodes before stay as they are -/
theorem KR_old {base p pt bs sz d pt' bs' : Nat} {I1 I' In I9' : Nat → Int32} {B' B9' : Nat → Nat → Int32} {kind kind9 nd lt : Int32} (h : KR base p pt bs sz B B9) (hT : TA kind nd lt sz I1 B I' B') (hN : NA9 kind9 (base + sz) d p pt bs In B9 I9' B9') (hp : pt ≤ pt') (hb : bs ≤ bs') (hlt : okI lt sz) : ∀ k, k < sz → K1 base p pt' bs' k B' B9' := by
  obtain ⟨t1, t2, t3, t18, t19, t20, t21, t22, t23, t24, t25, tk⟩ := hT
  obtain ⟨n1, n2, n3, n5, n6, n7, n8, n9, n10, n11, n27, n20, n23, n19, n18, nk⟩ := hN
  intro k hk
  have q0 : ¬ k = sz := by omega
  have q1 : ¬ base + k = base + sz := by omega
  refine (h k hk).up hp hb ?_ ?_ ?_ ?_ ?_ ?_ ?_ ?_ ?_ (fun q hq => ?_)
  · rw [t18]; simp [upd, q0]
  · rw [tk 26 (by decide)]
  · rw [tk 27 (by decide)]
  · rw [t25]; simp [upd, q0]
  · exact same.of (tk 6 (by decide))
  · rw [n5]; simp only [upd, q1, if_false]
  · rw [n18]; split
    · exact same.rf
    · exact same_upd (Nat.le_refl _)
  · rw [nk 12 (by decide)]
  · rw [nk 16 (by decide)]
  · rw [n23]; split
    · rfl
    · have : ¬ 31 * p + q = 31 * p + pt := by omega
      simp only [upd, this, if_false]
theorem BR_old {kd : Nat → Int32} {base p pt bs sz d ln cl : Nat} {I1 I' In I9' : Nat → Int32} {B' B9' : Nat → Nat → Int32} {kind kind9 nd lt : Int32} (h : BRs kd ln cl (base + sz) bs B B9) (hT : TA kind nd lt sz I1 B I' B') (hN : NA9 kind9 (base + sz) d p pt bs In B9 I9' B9') : BRs kd ln cl (base + sz) bs B' B9' := by
  obtain ⟨t1, t2, t3, t18, t19, t20, t21, t22, t23, t24, t25, tk⟩ := hT
  obtain ⟨n1, n2, n3, n5, n6, n7, n8, n9, n10, n11, n27, n20, n23, n19, n18, nk⟩ := hN
  intro b hb
  refine (h b hb).up (Nat.le_refl _) (Nat.le_refl _) (Nat.le_refl _) ?_ ?_ ?_ ?_ ?_ ?_ ?_ ?_ ?_ ?_ ?_ ?_ ?_ ?_ ?_ ?_
  · rw [tk 6 (by decide)]
  · rw [tk 7 (by decide)]
  · rw [tk 8 (by decide)]
  · rw [tk 9 (by decide)]
  · rw [tk 10 (by decide)]
  · exact same.of (tk 15 (by decide))
  · rw [n18]; split
    · rfl
    · have : ¬ b = bs := by omega
      simp [upd, this]
  · rw [n5]; exact same_upd (Nat.le_refl _)
  · rw [n6]; exact same_upd (Nat.le_refl _)
  · exact same.of (nk 12 (by decide))
  · exact same.of (nk 13 (by decide))
  · exact same.of (nk 14 (by decide))
  · exact same.of (nk 15 (by decide))
  · exact same.of (nk 24 (by decide))
  · exact nk 1 (by decide)
  · exact nk 2 (by decide)
theorem NA9.fb {base p pt bs sz d : Nat} {In I9' : Nat → Int32} {B9' : Nat → Nat → Int32} {kind9 : Int32} (hN : NA9 kind9 (base + sz) d p pt bs In B9 I9' B9') (hpt : ¬ 7 < kind9 → pt < 31) (hlt : okI (B9 27 d) (base + sz)) (hge : ∀ j, B9 27 d = nI j → j < base + sz → base ≤ j) (hs : base + sz ≤ 1000) : FB base p bs B9 B9' := by
  obtain ⟨n1, n2, n3, n5, n6, n7, n8, n9, n10, n11, n27, n20, n23, n19, n18, nk⟩ := hN
  refine ⟨fun k hk => ?_, fun q hq => ?_, fun j hj => ?_, fun j hj => ?_, fun k hk => ?_, ?_⟩
  · simp at hk
    rcases hk with rfl | rfl | rfl | rfl | rfl | rfl | rfl | rfl | rfl
    · rw [n5]; exact same_upd (by omega)
    · rw [n6]; exact same_upd (by omega)
    · rw [n7]; exact same_upd (by omega)
    · rw [n8]; split
      · exact same_upd (by omega)
      · rename_i g
        have hne : ¬ B9 27 d = -1 := fun z => g (by rw [z]; decide)
        obtain ⟨j, hj, ej⟩ := hlt.at hne
        have := hge j ej hj
        rw [ej, clI (x := nI j) rfl (by omega)]
        exact (same_upd (f := B9 8) (x := -1) (k := base + sz) (by omega)).tr (same_upd (by omega))
    · rw [n9]; exact same_upd (by omega)
    · rw [n10]; exact same_upd (by omega)
    · rw [n11]; exact same_upd (by omega)
    · exact same.of (nk 12 (by decide))
    · exact same.of (nk 16 (by decide))
  · rw [n20]; split
    · rfl
    · simp [upd, hq]
  · rw [nk 22 (by decide)]
  · rw [n23]; split
    · rfl
    · rename_i g
      have := hpt g
      have : ¬ j = 31 * p + pt := by omega
      simp [upd, this]
  · refine nk k ?_
    simp at hk ⊢; omega
  · rw [n18]; split
    · exact same.rf
    · exact same_upd (Nat.le_refl _)
end ZF2
