/-! The reference reads a process as the class has. -/
section ZI3
variable {I : Nat → Int32} {J : Nat → Int64} {B : Nat → Nat → Int32} {D : Nat → Nat → Int64} {I9 : Nat → Int32} {J9 : Nat → Int64} {B9 : Nat → Nat → Int32} {D9 : Nat → Nat → Int64}
/-- the statement with a number -/
def kq (B1 : Nat → Nat → Int32) : Nat → Nat → Nat
  | 0, _ => 0
  | m + 1, c => if B1 18 m = 0 ∧ cnt B1 m = c then m else kq B1 m c
theorem kq_at {B1 : Nat → Nat → Int32} {k : Nat} (h0 : B1 18 k = 0) : ∀ sz, k < sz → kq B1 sz (cnt B1 k) = k := by
  intro sz
  induction sz with
  | zero => intro h; omega
  | succ sz ih =>
    intro h
    simp only [kq]
    by_cases g : B1 18 sz = 0 ∧ cnt B1 sz = cnt B1 k
    · rw [if_pos g]; exact cnt_inj g.1 h0 g.2
    · rw [if_neg g]
      refine ih ?_
      have : ¬ k = sz := fun z => g ⟨by rw [← z]; exact h0, by rw [z]⟩
      omega
def cvn (cv : Nat → Nat → Int64 → Int64) (B1 : Nat → Nat → Int32) (p bs0 sz : Nat) (b : Nat) : Nat → Int64 → Int64 := if b < bs0 then cv b else fun j v => cuv B1 p (bitL b) 7 (nI (kq B1 sz (b - bs0))) j v
theorem cvn_old {cv : Nat → Nat → Int64 → Int64} {B1 : Nat → Nat → Int32} {p bs0 sz b : Nat} (h : b < bs0) : cvn cv B1 p bs0 sz b = cv b := by
  unfold cvn; rw [if_pos h]
theorem cvn_new {cv : Nat → Nat → Int64 → Int64} {B1 : Nat → Nat → Int32} {p bs0 sz k : Nat} (hk : k < sz) (h0 : B1 18 k = 0) : cvn cv B1 p bs0 sz (bs0 + cnt B1 k) = fun j v => cuv B1 p (bitL (bs0 + cnt B1 k)) 7 (nI k) j v := by
  unfold cvn
  rw [if_neg (by omega), Nat.add_sub_cancel_left, kq_at h0 sz hk]
theorem fdk_fdv {cv : Nat → Nat → Int64 → Int64} {B1 : Nat → Nat → Int32} {p bs0 sz : Nat} (j : Nat) : ∀ k, k ≤ sz → fdk B1 p bs0 k j (fdv cv bs0 j) = fdv (cvn cv B1 p bs0 sz) (bs0 + cnt B1 k) j := by
  intro k
  induction k with
  | zero => intro _; exact (fdv_cg bs0 j (fun b hb => cvn_old hb)).symm
  | succ k ih =>
    intro hk
    have := ih (by omega)
    simp only [fdk, cnt]
    by_cases g : B1 18 k = 0
    · rw [if_pos g, if_pos g, this, ← Nat.add_assoc, fdv, cvn_new (by omega) g]
    · rw [if_neg g, if_neg g, this]; rfl
theorem FW.fmo {I1 : Nat → Int32} {B1 : Nat → Nat → Int32} (h : FW I9 B9 I1 B1) : FMo I9 B9 I1 B1 := ⟨fun k hk => h.1 k (by simp at hk ⊢; omega), fun k hk => h.2 k (by simp at hk ⊢; omega)⟩
/-- the start, for a process that is read or isn't -/
theorem r_proc0 {Post : Int32 → (Nat → Int32) → (Nat → Int64) → (Nat → Nat → Int32) → (Nat → Nat → Int64) → Prop} {f : Nat → Int32} {n : Nat} {kd : Nat → Int32} {s : zS} {a p bs0 base : Nat} (hR : RM f n kd s I9 B9) (hC : CM f n kd s) (ha : s.1 5 = nI a) (ha1 : a ≤ 240) (hp : s.1 10 = nI p) (hp4 : p < 4) (hbs : s.1 9 = nI bs0) (hbs1 : bs0 ≤ 48) (ht : tkn f n a = 123) (h8 : I9 8 = nI base) (hba : base ≤ 1000)
    (hG : ∀ I9' B9', I9' 12 = nI 0 → (∀ j, j ≠ 12 → I9' j = (upd I9 2 (nI (a + 1))) j) → B9' 21 = upd (B9 21) p (nI base) → B9' 20 = upd (B9 20) p 0 → (∀ j, j ∉ [20, 21, 25, 26, 27] → B9' j = B9 j) → GB J9 D9 Post f n kd base p bs0 I9' B9' (p0 a s)) : wp_LassoFinderModel_body (upd I9 2 (nI (a + 1))) J9 B9 D9 Post := by
  have hB0 := BI_0 hC ha ha1 hp hp4 ht
  obtain ⟨a2, p2, base2, bs2, ln, cl, cv, ⟨r1, r2, r3, r4, r5, r6, r7⟩, ⟨hTy, g8, g9, g10, g11, gc, gb⟩, hBR, hlab, hkn, hPB, hPP, hD⟩ := hR
  have hTy2 := hTy.2.2
  have e1 : a2 = a := nI_inj (by omega) (by omega) (r1.symm.trans ha)
  have e2 : p2 = p := nI_inj (by omega) (by omega) (r2.symm.trans hp)
  have e3 : bs2 = bs0 := nI_inj (by omega) (by omega) (r3.symm.trans hbs)
  have e4 : base2 = base := nI_inj (by omega) (by omega) (g8.symm.trans h8)
  subst e1; subst e2; subst e3; subst e4
  refine r_body (I := (p0 a2 s).2.2.1) (J := (p0 a2 s).2.2.2.1) (B := (p0 a2 s).2.2.2.2.1) (D := (p0 a2 s).2.2.2.2.2) (a := a2 + 1) (base := base2) (p := p2) (bs0 := bs2) hB0 (by simp [p0, upd]) (by omega) (by simpa [upd] using g8) (by simpa [upd] using g10) hp4 (fun I9' B9' i12 ik b25 b26 b27 b20 b21 bk => ?_) hG
  have k15 : (p0 a2 s).2.2.2.2.1 15 = s.2.2.1 15 := by simp [p0, va_up]
  refine ⟨a2 + 1, 0, 0, bs2, ln, cl, ⟨?_, ?_, ?_, ?_, ?_, by omega, r5, r7, ?_⟩, ⟨?_, ?_, ?_, ?_, hp4, ?_, by omega, ?_, ?_⟩, ?_, ⟨?_, ?_, ?_⟩, fun k hk => by omega, fun k hk => by omega, ?_, fun l hl => ⟨?_, Or.inl ?_⟩, ?_⟩
  · simp [p0, upd]
  · simp [p0, upd]; rfl
  · simp [p0, upd]; rfl
  · simpa [p0, upd] using r3
  · simpa [p0, upd] using r4
  · simpa [p0, upd] using r2
  · rw [bk 0 (by decide), ik 2 (by decide), ik 1 (by decide)]
    have := hTy.up (at2 := nI (a2 + 1)) rfl (tkn_le ht (by decide))
    simpa [upd] using this
  · rw [ik 8 (by decide)]; simpa [upd] using g8
  · rw [ik 9 (by decide)]; simpa [upd] using g9
  · rw [ik 10 (by decide)]; simpa [upd] using g10
  · rw [ik 11 (by decide)]; simpa [upd] using g11
  · rw [i12]; rfl
  · rw [b20]; simp [upd]; rfl
  · simp [p0]; omega
  · refine ⟨?_, trivial⟩; rw [b25]; simp [upd]; rfl
  · refine ⟨?_, trivial⟩; rw [b26]; simp [upd, off]
  · refine ⟨?_, trivial⟩; rw [b27]; simp [upd, off]
  · intro b hb
    refine (hBR b hb).up (Nat.le_refl _) (Nat.le_refl _) (by omega) ?_ ?_ ?_ ?_ ?_ (same.of k15) ?_ ?_ ?_ ?_ ?_ ?_ ?_ ?_ ?_ ?_
    · simp [p0, va_up]
    · simp [p0, va_up]
    · simp [p0, va_up]
    · simp [p0, va_up]
    · simp [p0, va_up]
    · rw [bk 18 (by decide)]
    · exact same.of (bk 5 (by decide))
    · exact same.of (bk 6 (by decide))
    · exact same.of (bk 12 (by decide))
    · exact same.of (bk 13 (by decide))
    · exact same.of (bk 14 (by decide))
    · exact same.of (bk 15 (by decide))
    · exact same.of (bk 24 (by decide))
    · exact bk 1 (by decide)
    · exact bk 2 (by decide)
  · have e : (p0 a2 s).2.2.2.2.1 28 l = -3 := by simp [p0, va_up, zFill, hl]
    rw [e, off_m3, bk 22 (by decide)]; exact (hlab _ (by omega) (by omega)).1
  · simp [p0, va_up, zFill, hl]
  · intro j hj
    rw [bk 1 (by decide), bk 2 (by decide)]; exact hkn j hj
theorem CI_b {bs0 : Nat} (x : zBo) (h : CI bs0 x) : ∀ bs, x.2.2.1 9 = nI bs → bs ≤ 1000 → bs0 ≤ bs := by
  intro bs h9 hb
  obtain ⟨sz, pt, bs2, e16, e17, e9, z1, z2, z3, e, _⟩ := h
  have : bs2 = bs := nI_inj (by omega) (by omega) (e9.symm.trans h9)
  omega
/-- refused -/
theorem r_proc_bad {Post : Int32 → (Nat → Int32) → (Nat → Int64) → (Nat → Nat → Int32) → (Nat → Nat → Int64) → Prop} {f : Nat → Int32} {n : Nat} {kd : Nat → Int32} {s : zS} {a p : Nat} {q : Int32} (hR : RM f n kd s I9 B9) (hC : CM f n kd s) (ha : s.1 5 = nI a) (ha1 : a ≤ 240) (hp : s.1 10 = nI p) (hp4 : p < 4) (ht : tkn f n a = 123) (hf : pfail f n kd s q)
    (k : ∀ I9' B9', FMo I9 B9 I9' B9' → I9' 3 = q → Post 0 I9' J9 B9' D9) : wp_LassoFinderModel_body (upd I9 2 (nI (a + 1))) J9 B9 D9 Post := by
  have hB0 := BI_0 hC ha ha1 hp hp4 ht
  obtain ⟨a2, p2, base, bs0, ln, cl, cv, ⟨r1, r2, r3, r4, r5, r6, r7⟩, ⟨hTy, g8, g9, g10, g11, gc, gb⟩, hBR, hlab, hkn, hPB, hPP, hD⟩ := id hR
  have hTy2 := hTy.2.2
  refine r_proc0 hR hC ha ha1 hp hp4 r3 r5 ht g8 (by omega) (fun I9' B9' i12 ik b21 b20 bk => ?_)
  have hfm : ∀ I9'' B9'', FW I9' B9' I9'' B9'' → FMo I9 B9 I9'' B9'' := by
    intro I9'' B9'' hw
    refine FMo.trn ⟨fun j hj => ?_, fun j hj => ?_⟩ hw.fmo
    · rw [ik j (by simp at hj; omega)]
      have : ¬ j = 2 := by simp at hj; omega
      simp [upd, this]
    · exact bk j (by simp at hj ⊢; omega)
  have hCI : CI bs0 (p0 a s) := CI_0 r3 r5
  obtain ⟨a3, p3, ⟨w1, w2, w3, w4⟩, w⟩ := hf
  have e1 : a3 = a := nI_inj (by omega) (by omega) (w1.symm.trans ha)
  have e2 : p3 = p := nI_inj (by omega) (by omega) (w2.symm.trans hp)
  subst e1; subst e2
  rcases w with ⟨_, w | w⟩ | ⟨_, _, v, q1, hs, hb, eq⟩ | ⟨_, _, v, I1, J1, B1, D1, a1, sz, bs9, k9, hs, ⟨y1, y2, y3, y4, y5, y6⟩, hTT, hk9, hbad, hfirst, eq⟩
  · exact absurd ht w
  · omega
  · exact GB_star (P := CI bs0) (fun x y h1 h2 h3 => CI_step h1 h2 h3) CI_b hB0 hCI hs (GB_bad (BI_star hB0 hs) hb (fun I9'' B9'' hw h3 => k I9'' B9'' (hfm _ _ hw) (by rw [h3, eq])))
  · refine GB_star (P := CI bs0) (fun x y h1 h2 h3 => CI_step h1 h2 h3) CI_b hB0 hCI hs (GB_ok (BI_star hB0 hs) y1 (by omega) y3 (fun I9e B9e hRe hFe hIe => ?_))
    obtain ⟨a4, sz4, pt4, bs4, ln4, cl4, hG⟩ := hRe.get (BI_star hB0 hs)
    have hzz : sz4 = sz := by
      have := hG.1.2.1
      have h2 := hG.2.2.1
      have h3 := hTT.1
      exact nI_inj (by omega) (by omega) (this.symm.trans y4)
    subst hzz
    refine q_jumps (end_RT hG) hTT (by simpa [upd] using hG.2.1.2.1) (by simpa [upd] using hG.2.1.2.2.2.1) (fun k0 hk0 hb0 hf0 => ⟨Or.inl rfl, ?_⟩) (fun hn => absurd hbad (hn k9 hk9))
    have ek : k0 = k9 := by
      rcases Nat.lt_trichotomy k0 k9 with z | z | z
      · exact absurd hb0 (hfirst k0 z)
      · exact z
      · exact absurd hbad (hf0 k9 z)
    subst ek
    refine k _ _ (hfm _ _ ⟨fun j hj => ?_, fun j hj => hFe.2.2.2.2.1 j hj⟩) (by simp [upd, eq])
    have q1 : ¬ j = 2 := by simp at hj; omega
    have q2 : ¬ j = 3 := by simp at hj; omega
    simp only [upd, q1, q2, if_false]; exact hIe j hj
end ZI3
