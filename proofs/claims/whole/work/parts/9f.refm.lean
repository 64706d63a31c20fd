/-! The reference between processes. -/
section ZI2
variable {I : Nat → Int32} {J : Nat → Int64} {B : Nat → Nat → Int32} {D : Nat → Nat → Int64} {I9 : Nat → Int32} {J9 : Nat → Int64} {B9 : Nat → Nat → Int32} {D9 : Nat → Nat → Int64}
def fdv (cv : Nat → Nat → Int64 → Int64) : Nat → Nat → Int64
  | 0, _ => 0
  | b + 1, j => cv b j (fdv cv b j)
theorem fdv_cg {cv cv' : Nat → Nat → Int64 → Int64} : ∀ (m j : Nat), (∀ b, b < m → cv' b = cv b) → fdv cv' m j = fdv cv m j := by
  intro m
  induction m with
  | zero => intro j _; rfl
  | succ m ih => intro j h; simp only [fdv]; rw [ih j (fun b hb => h b (by omega)), h m (by omega)]
/-- a basic statement's ways -/
def PB (P N : Nat) (B B9 : Nat → Nat → Int32) (cv : Nat → Nat → Int64 → Int64) (b : Nat) : Prop := ∃ (q base pt sz : Nat) (Bq : Nat → Nat → Int32) (k : Nat), q < P ∧ TT sz Bq ∧ RT base q pt sz Bq B9 ∧ base + sz ≤ N ∧ k < sz ∧ Bq 18 k = 0 ∧ B9 18 b = nI (base + k) ∧ B 11 b = pnt Bq (nI pt) (stl Bq sz (beh Bq (nI k))) ∧ B 12 b = kpv Bq sz k ∧ cv b = fun j v => cuv Bq q (bitL b) 7 (nI k) j v
/-- a process's points -/
def PP (N : Nat) (B B9 : Nat → Nat → Int32) (q : Nat) : Prop := ∃ (base pt sz : Nat) (Bq : Nat → Nat → Int32), TT sz Bq ∧ 0 < sz ∧ RT base q pt sz Bq B9 ∧ base + sz ≤ N ∧ B9 21 q = nI base ∧ B 13 q = pnt Bq (nI pt) (stl Bq sz (nI 0)) ∧ ∀ l, l < 8 → B 14 (8 * q + l) = if Bq 28 l = -3 then -1 else pnt Bq (nI pt) (stl Bq sz (Bq 28 l))
def RM (f : Nat → Int32) (n : Nat) (kd : Nat → Int32) (s : zS) (I9 : Nat → Int32) (B9 : Nat → Nat → Int32) : Prop := ∃ (a p base bs ln cl : Nat) (cv : Nat → Nat → Int64 → Int64),
  (s.1 5 = nI a ∧ s.1 10 = nI p ∧ s.1 9 = nI bs ∧ s.1 11 = nI ln ∧ bs ≤ 48 ∧ p ≤ 4 ∧ ln ≤ 480) ∧ (TY (B9 0) f (I9 2) (I9 1) a n ∧ I9 8 = nI base ∧ I9 9 = nI bs ∧ I9 10 = nI p ∧ I9 11 = nI cl ∧ cl ≤ a ∧ 2 * base ≤ a) ∧
  BRs kd ln cl base bs s.2.2.1 B9 ∧ (∀ j, 8 * p ≤ j → j < 32 → B9 22 j = -1 ∧ s.2.2.1 14 j = -1) ∧ knm B9 kd ∧
  (∀ b, b < bs → PB p base s.2.2.1 B9 cv b) ∧ (∀ q, q < p → PP base s.2.2.1 B9 q) ∧ (∀ j, j < 124 → s.2.2.2 1 j = fdv cv bs j) ∧ (∀ b b', b < bs → b' < bs → B9 18 b = B9 18 b' → b = b')
def FMo (I9 : Nat → Int32) (B9 : Nat → Nat → Int32) (I9' : Nat → Int32) (B9' : Nat → Nat → Int32) : Prop := (∀ k, k ∉ [2, 3, 6, 7, 8, 9, 10, 11, 12, 13] → I9' k = I9 k) ∧ (∀ k, k ∉ [1, 2, 3, 4, 5, 6, 7, 8, 9, 10, 11, 12, 13, 14, 15, 16, 18, 19, 20, 21, 22, 23, 24, 25, 26, 27, 28] → B9' k = B9 k)
theorem FMo.trn {I1 I2 : Nat → Int32} {B1 B2 : Nat → Nat → Int32} (h : FMo I9 B9 I1 B1) (g : FMo I1 B1 I2 B2) : FMo I9 B9 I2 B2 := ⟨fun k hk => (g.1 k hk).trans (h.1 k hk), fun k hk => (g.2 k hk).trans (h.2 k hk)⟩
theorem bst_fr {f : Nat → Int32} {n : Nat} {kd : Nat → Int32} {s t : zBo} (h : bst f n kd s t) : (∀ k, k ∈ [2, 3, 4, 5, 11, 12, 13, 14] → t.2.2.2.2.1 k = s.2.2.2.2.1 k) ∧ t.2.2.2.2.2 1 = s.2.2.2.2.2 1 := by
  obtain ⟨a, sz, bs, ln, bk, nd, lt, fr, I, I', J, J', B, B', D, D', _, h⟩ := h
  rcases h with ⟨rfl, rfl, _, _, _, h1, h2, h3⟩ | ⟨kk, I1, rfl, rfl, _, h1, h2⟩ | ⟨I1, rfl, rfl, _, _, _, h1, h2⟩ | ⟨I1, B1, rfl, rfl, _, _, _, h1, h2, h3, h4, h5⟩ | ⟨pk, ch, vr, ex, out, a', rfl, rfl, _, _, _, h⟩ | ⟨rfl, rfl, _, h1⟩ | ⟨rfl, rfl, _, h1⟩ | ⟨rfl, rfl, _, _, h1⟩
  · exact ⟨fun k hk => h3 k (by simp at hk; omega), rfl⟩
  · exact ⟨fun k hk => h2.2.2.2.2.2.2.2.2.2.2.2 k (by simp at hk ⊢; omega), rfl⟩
  · exact ⟨fun k hk => h2.2.2.2.2.2.2.2.2.2.2.2 k (by simp at hk ⊢; omega), rfl⟩
  · exact ⟨fun k hk => (h5 k (by simp at hk ⊢; omega)).trans (h2.2.2.2.2.2.2.2.2.2.2.2 k (by simp at hk ⊢; omega)), rfl⟩
  · obtain ⟨b1, b2, b3, b4, b5, b6, b7, b8, b9, b10, b11, b12, b13, b14, b15, b16, b17, b18, b19, b20⟩ := h
    exact ⟨fun k hk => b16 k (by simp at hk ⊢; omega), b20 1 (by decide)⟩
  · exact ⟨fun _ _ => rfl, rfl⟩
  · exact ⟨fun _ _ => rfl, rfl⟩
  · exact ⟨fun _ _ => rfl, rfl⟩
theorem bstar_fr {f : Nat → Int32} {n : Nat} {kd : Nat → Int32} {s t : zBo} (h : star (bst f n kd) s t) : (∀ k, k ∈ [2, 3, 4, 5, 11, 12, 13, 14] → t.2.2.2.2.1 k = s.2.2.2.2.1 k) ∧ t.2.2.2.2.2 1 = s.2.2.2.2.2 1 := h (fun t => (∀ k, k ∈ [2, 3, 4, 5, 11, 12, 13, 14] → t.2.2.2.2.1 k = s.2.2.2.2.1 k) ∧ t.2.2.2.2.2 1 = s.2.2.2.2.2 1) ⟨fun _ _ => rfl, rfl⟩ (fun _ _ c g => ⟨fun k hk => ((bst_fr g).1 k hk).trans (c.1 k hk), (bst_fr g).2.trans c.2⟩)
def FB4 (base p : Nat) (B9 B9' : Nat → Nat → Int32) : Prop := (∀ k, k ∈ [5, 6, 7, 8, 9, 10, 11, 12, 16] → same base (B9 k) (B9' k)) ∧ (∀ q, q ≠ p → B9' 20 q = B9 20 q) ∧ (∀ j, ¬ (8 * p ≤ j ∧ j < 8 * p + 8) → B9' 22 j = B9 22 j) ∧ (∀ j, ¬ (31 * p ≤ j ∧ j < 31 * p + 31) → B9' 23 j = B9 23 j)
theorem FB4.trn {base p : Nat} {B91 B92 : Nat → Nat → Int32} (h : FB4 base p B9 B91) (g : FB4 base p B91 B92) : FB4 base p B9 B92 := ⟨fun k hk => (h.1 k hk).tr (g.1 k hk), fun q hq => (g.2.1 q hq).trans (h.2.1 q hq), fun j hj => (g.2.2.1 j hj).trans (h.2.2.1 j hj), fun j hj => (g.2.2.2 j hj).trans (h.2.2.2 j hj)⟩
theorem FB.f4 {base p bs : Nat} {B9' : Nat → Nat → Int32} (h : FB base p bs B9 B9') : FB4 base p B9 B9' := ⟨h.1, h.2.1, h.2.2.1, h.2.2.2.1⟩
theorem RT_fr {base q pt sz p base2 : Nat} {Bq B9' : Nat → Nat → Int32} (h : RT base q pt sz Bq B9) (hb : base + sz ≤ base2) (hq : q ≠ p) (hF : FB4 base2 p B9 B9') : RT base q pt sz Bq B9' := by
  obtain ⟨h1, h2, h3, h4, h5, h6, h7⟩ := h
  obtain ⟨f1, f2, f3, f4⟩ := hF
  refine ⟨fun k hk => ?_, fun k hk => ?_, fun l hl => ?_, ?_, h5, h6, h7⟩
  · obtain ⟨r1, r2, r3, r4, r5, r6⟩ := h1 k hk
    rw [f1 7 (by decide) _ (by omega), f1 8 (by decide) _ (by omega), f1 9 (by decide) _ (by omega), f1 10 (by decide) _ (by omega), f1 11 (by decide) _ (by omega), f1 6 (by decide) _ (by omega)]
    exact ⟨r1, r2, r3, r4, r5, r6⟩
  · obtain ⟨r1, r2, r3, r4, r5⟩ := h2 k hk
    rw [f1 5 (by decide) _ (by omega), f1 12 (by decide) _ (by omega), f1 16 (by decide) _ (by omega)]
    refine ⟨r1, r2, r3, fun z => ?_, r5⟩
    obtain ⟨i, w1, w2, w3⟩ := r4 z
    refine ⟨i, w1, w2, ?_⟩
    rw [f4 _ (by omega)]; exact w3
  · rw [f3 _ (by omega)]; exact h3 l hl
  · rw [f2 q hq]; exact h4
/-- a process's end: its tree as the reference has it -/
theorem end_RT {f : Nat → Int32} {n : Nat} {kd : Nat → Int32} {base p a sz pt bs ln cl : Nat} {F : zF} (h : RG f n kd base p a sz pt bs ln cl 1 F I B I9 B9) : RT base p pt sz B B9 := by
  obtain ⟨⟨q1, q2, q3, q4, q5, q6, q7, q8, q9⟩, ⟨hTy, g8, g9, g10, gp, g11, gc, g12, g20⟩, ⟨c1, c2, c3, c4, c5⟩, _, hTR, hKR, hBR, hlab, hkn, hok, hTc⟩ := h
  refine ⟨hTR, fun k hk => ?_, fun l hl => (hlab l hl).1, g20, by omega, gp, q6⟩
  obtain ⟨k1, k2, k3, k4, k5, k6⟩ := hKR k hk
  refine ⟨fun z => ?_, k3, fun z => (k4 z).2, k5, k6⟩
  obtain ⟨b, hb, _, _, e⟩ := k2 z
  obtain ⟨m, _, _, _, _, hkd, _⟩ := hBR b hb
  rw [e]
  rcases hkd with w | w | w | w | w | w <;> (rw [w]; exact ⟨by decide, by decide⟩)
end ZI2
