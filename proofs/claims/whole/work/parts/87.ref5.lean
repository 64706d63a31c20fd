/-! Statements: the reference's basic ones, put together. -/
section ZF5
variable {I : Nat → Int32} {J : Nat → Int64} {B : Nat → Nat → Int32} {D : Nat → Nat → Int64} {I9 : Nat → Int32} {J9 : Nat → Int64} {B9 : Nat → Nat → Int32} {D9 : Nat → Nat → Int64}
theorem r_TR {f : Nat → Int32} {n : Nat} {kd : Nat → Int32} {base p a sz pt bs ln cl bk : Nat} {nd lt : Int32} {fr : zF} {I1 I' : Nat → Int32} {B' : Nat → Nat → Int32} {In I3 : Nat → Int32} {B3 : Nat → Nat → Int32} {kind kind9 : Int32} (h : RG f n kd base p a sz pt bs ln cl 0 ((bk, nd, lt) :: fr) I B I9 B9) (hT : TA kind nd lt sz I1 B I' B') (hI1 : I1 17 = I 17) (hk : 2 < kind ↔ 7 < kind9) (hN : NA9 kind9 (base + sz) fr.length p pt bs In B9 I3 B3) : TR base p (sz + 1) B' B3 ∧ rep (B3 27) 0 (((bk, nd, nI sz) :: fr).map (fun x => off base x.2.2)) := by
  obtain ⟨⟨q1, q2, q3, q4, q5, q6, q7, q8, q9⟩, ⟨hTy, g8, g9, g10, gp, g11, gc, g12, g20⟩, ⟨c1, c2, c3, c4, c5⟩, ⟨f1, f2, f3⟩, hTR, hKR, hBR, hlab, hkn, hok, hTc⟩ := h
  simp only [List.length_cons] at c1 c2
  have hlt : okI lt sz := hok.1
  have t26 : B9 26 fr.length = off base nd := by have := rep_top f2; simpa using this
  have t27 : B9 27 fr.length = off base lt := by have := rep_top f3; simpa using this
  have hins := (hok.inside (by omega)).2
  have haf : afn (B9 25) (B9 26) fr.length = off base (ati B nd) := by
    have := afn_atf (by omega) (by omega) hok f1 f2
    simp only [List.length_cons, Nat.add_sub_cancel] at this
    rw [this, ← hins]; rfl
  refine ⟨TR_add (by omega) (by omega) hTR hT hN hk t26 t27 hlt haf (by rw [g20, hI1, q3]), ?_⟩
  have h27 : B3 27 = upd (B9 27) fr.length (nI (base + sz)) := hN.2.2.2.2.2.2.2.2.2.2.1
  rw [h27]
  simp only [List.map_cons]
  rw [off_n (by omega)]
  exact rep_set f3 (by simp)
theorem r_bleaf {f : Nat → Int32} {n : Nat} {kd : Nat → Int32} {base p a sz pt bs ln cl bk a' cl' ex : Nat} {nd lt pk ch vr kind9 : Int32} {out : List Int32} {fr : zF} {In I3 I' I9f : Nat → Int32} {B3 B' B9f : Nat → Nat → Int32} {J' : Nat → Int64} {D' : Nat → Nat → Int64} (h : RG f n kd base p a sz pt bs ln cl 0 ((bk, nd, lt) :: fr) I B I9 B9) (hBA : BA nd lt pk ch vr ex out sz bs ln a' I J B D I' J' B' D') (hN : NA9 kind9 (base + sz) fr.length p pt bs In B9 I3 B3) (hk5 : ¬ 5 < kind9) (hk7 : ¬ 7 < kind9) (hpt : pt < 30) (hbs : bs < 48) (hIn : ∀ k, k ≠ 2 → In k = I9 k)
    (ha : a < a' ∧ a' ≤ n) (hex : ex ≤ 1 ∧ (ex = 1 → out.length + a + 1 ≤ a')) (hlna : ln ≤ 2 * a)
    (hrB : ∀ k, k ∉ [5, 12, 13, 14, 15, 16, 24, 28] → B9f k = B3 k) (hrN : ∀ k, k ∈ [5, 12, 13, 14, 15, 16] → same (base + sz) (B3 k) (B9f k)) (hr24 : same cl (B3 24) (B9f 24))
    (hI2 : I9f 2 = nI a') (hIk : ∀ k, k ∈ [1, 8, 9, 10, 12] → I9f k = I3 k) (hI11 : I9f 11 = nI cl') (hcl : cl ≤ cl' ∧ cl' ≤ a') (h5 : B9f 5 (base + sz) = pk) (hpk : pk = 0 ∨ pk = 1 ∨ pk = 2 ∨ pk = 3 ∨ pk = 4 ∨ pk = 5)
    (ha0 : pk = 0 → ∃ j, j < 8 ∧ vr = nI j ∧ kd j = 1 ∧ B9f 12 (base + sz) = B9 1 j) (ha2 : (pk = 2 ∨ pk = 3) → ∃ j, j < 8 ∧ ch = nI j ∧ kd j = 2 ∧ B9f 12 (base + sz) = B9 2 j) (ha3 : pk = 3 → ∃ j, j < 8 ∧ vr = nI j ∧ kd j = 1 ∧ B9f 13 (base + sz) = B9 1 j)
    (hxp : (ex = 0 ∧ B9f 14 (base + sz) = nI cl ∧ B9f 15 (base + sz) = nI cl ∧ ¬ (pk = 0 ∨ pk = 1 ∨ pk = 2)) ∨ (ex = 1 ∧ B9f 14 (base + sz) = nI cl ∧ B9f 15 (base + sz) = nI (cl + out.length) ∧ rep (B9f 24) cl (out.map om) ∧ cl + out.length ≤ cl' ∧ 1 ≤ out.length ∧ okR out ∧ ht out = 1 ∧ nod out ≤ 12 ∧ KN kd out ∧ (pk = 0 ∨ pk = 1 ∨ pk = 2))) : RB f n kd base p (1, (bk, nd, nI sz) :: fr, I', J', B', D') I9f B9f ∧ FB base p bs B9 B9f := by
  have hG := h
  obtain ⟨w27, w27o, w27g, g12'⟩ := h.top
  obtain ⟨⟨q1, q2, q3, q4, q5, q6, q7, q8, q9⟩, ⟨hTy, g8, g9, g10, gp, g11, gc, g12, g20⟩, ⟨c1, c2, c3, c4, c5⟩, ⟨f1, f2, f3⟩, hTR, hKR, hBR, hlab, hkn, hok, hTc⟩ := h
  simp only [List.length_cons] at c1 c2
  obtain ⟨d1, d2, d3, d4, d5, d6, ⟨It, Bt, hT, d8⟩, d9, d10, d11, d12, d13, d14, d15, d16, d17, d18, d19, d20, d21⟩ := hBA
  obtain ⟨n1, n2, n3, n5, n6, n7, n8, n9, n10, n11, n27, n20, n23, n19, n18, nk⟩ := id hN
  obtain ⟨t1, t2, t3, t18, t19, t20, t21, t22, t23, t24, t25, tk⟩ := id hT
  obtain ⟨hTR', hrep27⟩ := r_TR hG hT rfl ⟨fun z => absurd z (by decide), fun z => absurd z hk7⟩ hN
  have hfb : FB base p bs B9 B3 := hN.fb (fun _ => by omega) w27o w27g (by omega)
  have hln' : (if ex = 1 then ln + out.length + 1 else ln) ≤ 480 ∧ ln ≤ (if ex = 1 then ln + out.length + 1 else ln) := by
    have hn240 := hTy.2.2.2.1
    by_cases g : ex = 1
    · rw [if_pos g]; have := hex.2 g; omega
    · rw [if_neg g]; omega
  refine ⟨r_leaf (a' := a') (pt' := pt + 1) (bs' := bs + 1) (ln' := if ex = 1 then ln + out.length + 1 else ln) (cl' := cl') hG hT hN hTR' hrep27 ha (by omega) (by omega) hln'.2 hcl.1 ⟨d1, d3, d4.trans (inI q3 rfl), d2, d5, by omega, by omega, hln'.1, (d6 10 (by decide)).trans q9⟩ (fun j hj => d8 j (by simp at hj ⊢; omega)) (d17 28 (by decide)) (by rw [d9]; exact same_upd (Nat.le_refl _)) (same.of (d17 27 (by decide))) (fun j hj => ?_) (fun j hj => d15 j hj) ⟨hI2, ?_, ?_, ?_, ?_, hI11, hcl.2, ?_⟩ ?_ hrB hrN hr24 ?_ (fun b hb1 hb2 => ?_), fb_leaf hfb hrB hrN⟩
  · simp at hj
    rcases hj with rfl | rfl | rfl | rfl | rfl
    · rw [d10]; exact same_upd (Nat.le_refl _)
    · rw [d11]; exact same_upd (Nat.le_refl _)
    · rw [d12]; exact same_upd (Nat.le_refl _)
    · rw [d13]; exact same_upd (Nat.le_refl _)
    · rw [d14]; exact same_upd (Nat.le_refl _)
  · rw [hIk 1 (by decide), n3 1 (by decide), hIn 1 (by decide)]
  · rw [hIk 8 (by decide)]; exact n1
  · rw [hIk 9 (by decide), n2, if_neg hk5, hIn 9 (by decide)]; exact inI g9 rfl
  · rw [hIk 10 (by decide), n3 10 (by decide), hIn 10 (by decide)]; exact g10
  · rw [hIk 12 (by decide), n3 12 (by decide), hIn 12 (by decide)]; exact g12'
  · rw [n20, if_neg hk7]; simp only [upd, if_true]; exact inI g20 rfl
  · have b18 : B' 18 sz = 0 := by rw [d8 18 (by decide), t18]; simp [upd]
    have b26 : B' 26 sz = nI bs := by rw [d9]; simp [upd]
    have r18 : B9f 18 bs = nI (base + sz) := by rw [hrB 18 (by decide), n18, if_neg hk5]; simp [upd]
    refine ⟨Or.inl b18, fun _ => ⟨bs, by omega, b26, r18, ?_⟩, fun z => absurd b18 z, fun z => by rw [b18] at z; exact absurd z (by decide), fun _ => ⟨pt, by omega, ?_, ?_⟩, fun z => by rw [b18] at z; exact absurd z (by decide)⟩
    · rw [h5, d10]; simp [upd]
    · rw [d8 25 (by decide), t25, if_neg (by decide), q3]; simp [upd]
    · rw [hrB 23 (by decide), n23, if_neg hk7]; simp [upd]
  · have hb : b = bs := by omega
    subst hb
    have r18 : B9f 18 b = nI (base + sz) := by rw [hrB 18 (by decide), n18, if_neg hk5]; simp [upd]
    have e6 : B' 6 b = pk := by rw [d10]; simp [upd]
    have e7 : B' 7 b = ch := by rw [d11]; simp [upd]
    have e8 : B' 8 b = vr := by rw [d12]; simp [upd]
    have e9 : B' 9 b = (if ex = 1 then nI ln else -1) := by rw [d13]; simp [upd]
    have e10 : B' 10 b = nI p := by rw [d14]; simp [upd, q9]
    have r1 : B9f 1 = B9 1 := (hrB 1 (by decide)).trans (nk 1 (by decide))
    have r2 : B9f 2 = B9 2 := (hrB 2 (by decide)).trans (nk 2 (by decide))
    refine ⟨base + sz, by omega, r18, by rw [h5, e6], ?_, by rw [e6]; exact hpk, fun z => ?_, fun z => ?_, fun z => ?_, ?_⟩
    · rw [hrB 6 (by decide), n6, e10]; simp [upd]
    · rw [e6] at z; rw [e8, r1]; exact ha0 z
    · rw [e6] at z; rw [e7, r2]; exact ha2 z
    · rw [e6] at z; rw [e8, r1]; exact ha3 z
    · rw [e6, e9]
      rcases hxp with ⟨w1, w2, w3, w4⟩ | ⟨w1, w2, w3, w4, w5, w6, w7, w8, w9, w10, w11⟩
      · left
        rw [if_neg (by omega)]
        exact ⟨rfl, ⟨cl, by omega, w2, w3⟩, w4⟩
      · right
        rw [if_pos w1]
        refine ⟨ln, cl, out, rfl, d16 w1, ?_, w2, w3, w4, w5, w6, w7, w8, w9, w10, w11⟩
        rw [if_pos w1]; omega
end ZF5
