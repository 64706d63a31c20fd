/-! Processes: the class reads one. -/
section ZH9
variable {I : Nat → Int32} {J : Nat → Int64} {B : Nat → Nat → Int32} {D : Nat → Nat → Int64}
def p0 (a : Nat) (s : zS) : zBo := (0, [(0, -1, -1)], upd (upd (upd s.1 5 (nI (a + 1))) 16 0) 17 0, s.2.1, va_up s.2.2.1 28 (zFill (s.2.2.1 28) (-3) 8), s.2.2.2)
/-- a process is read, from s to t -/
def pst (f : Nat → Int32) (n : Nat) (kd : Nat → Int32) (s t : zS) : Prop := ∃ (a p bs0 a1 sz pt : Nat) (v : Int32) (I1 : Nat → Int32) (J1 : Nat → Int64) (B1 : Nat → Nat → Int32) (D1 : Nat → Nat → Int64) (B2 : Nat → Nat → Int32) (D2 : Nat → Nat → Int64),
  (s.1 5 = nI a ∧ s.1 10 = nI p ∧ s.1 9 = nI bs0 ∧ a ≤ 240 ∧ p < 4 ∧ bs0 ≤ 48 ∧ tkn f n a = 123) ∧ star (bst f n kd) (p0 a s) (1, [(0, -1, v)], I1, J1, B1, D1) ∧ (I1 5 = nI a1 ∧ a1 ≤ 240 ∧ tkn f n a1 = 125 ∧ I1 16 = nI sz ∧ I1 17 = nI pt ∧ pt ≤ 30) ∧ (TT sz B1 ∧ 0 < sz ∧ ∀ k, k < sz → C1 B1 pt bs0 k) ∧ (∀ k, k < sz → ¬ badJ B1 sz k) ∧ TP sz bs0 p pt B1 D1 B2 D2 ∧ t = (upd (upd I1 5 (nI (a1 + 1))) 10 (nI (p + 1)), J1, B2, D2)
/-- .. or not, wrong at q -/
def pfail (f : Nat → Int32) (n : Nat) (kd : Nat → Int32) (s : zS) (q : Int32) : Prop := ∃ a p : Nat, (s.1 5 = nI a ∧ s.1 10 = nI p ∧ a ≤ 240 ∧ p ≤ 4) ∧
  ((q = nI a ∧ (¬ tkn f n a = 123 ∨ p = 4)) ∨ (tkn f n a = 123 ∧ p < 4 ∧ ∃ v q1, star (bst f n kd) (p0 a s) v ∧ bfail f n kd v q1 ∧ q = nI q1) ∨
   (tkn f n a = 123 ∧ p < 4 ∧ ∃ (v : Int32) (I1 : Nat → Int32) (J1 : Nat → Int64) (B1 : Nat → Nat → Int32) (D1 : Nat → Nat → Int64) (a1 sz bs0 k : Nat), star (bst f n kd) (p0 a s) (1, [(0, -1, v)], I1, J1, B1, D1) ∧ (I1 5 = nI a1 ∧ a1 ≤ 240 ∧ tkn f n a1 = 125 ∧ I1 16 = nI sz ∧ s.1 9 = nI bs0 ∧ bs0 ≤ 48) ∧ TT sz B1 ∧ k < sz ∧ badJ B1 sz k ∧ (∀ j, j < k → ¬ badJ B1 sz j) ∧ q = B1 27 k))
/-- the class between processes -/
def CM (f : Nat → Int32) (n : Nat) (kd : Nat → Int32) (s : zS) : Prop := ∃ a bs p ln : Nat, TY (s.2.2.1 1) f (s.1 5) (s.1 4) a n ∧ s.1 9 = nI bs ∧ s.1 10 = nI p ∧ s.1 11 = nI ln ∧ bs ≤ 48 ∧ p ≤ 4 ∧ ln ≤ 2 * a ∧ ∀ j, j < 8 → s.2.2.1 2 j = kd j
theorem BI_0 {f : Nat → Int32} {n : Nat} {kd : Nat → Int32} {s : zS} (h : CM f n kd s) {a p : Nat} (ha : s.1 5 = nI a) (ha1 : a ≤ 240) (hp : s.1 10 = nI p) (hp4 : p < 4) (ht : tkn f n a = 123) : BI f n kd (p0 a s) := by
  obtain ⟨a2, bs, p2, ln, hT, h9, h10, h11, l1, l2, l3, hk⟩ := h
  have hT2 := hT.2.2
  have e1 : a2 = a := nI_inj (by omega) (by omega) (hT.1.symm.trans ha)
  subst e1
  have e2 : p2 = p := nI_inj (by omega) (by omega) (h10.symm.trans hp)
  subst e2
  refine ⟨a2 + 1, 0, 0, bs, p2, ln, ?_, ?_, ?_, ?_, ?_, ?_, by omega, l1, by omega, by omega, by simp [p0], by simp [p0], by simp [p0], fun j hj => ?_, ?_⟩
  · have := hT.up (at2 := nI (a2 + 1)) rfl (tkn_le ht (by decide))
    simpa [p0, upd, va_up] using this
  · simp [p0, upd]; rfl
  · simp [p0, upd]; rfl
  · simpa [p0, upd] using h9
  · simpa [p0, upd] using h10
  · simpa [p0, upd] using h11
  · simpa [p0, va_up] using hk j hj
  · exact ⟨Or.inl rfl, Or.inl ⟨rfl, rfl, rfl⟩⟩
theorem TI_0 {a : Nat} {s : zS} : TI (p0 a s) := by
  refine ⟨0, fun _ => 0, ?_, by omega, fun k hk => by omega, ⟨Or.inl rfl, trivial⟩, ⟨fun z => absurd (show (0 : Nat) = 1 from z) (by decide), fun _ z => absurd (show (0 : Nat) = 3 from z) (by decide), fun y hy => by simp at hy⟩⟩
  simp [p0, upd]; rfl
theorem CI_0 {a bs0 : Nat} {s : zS} (h9 : s.1 9 = nI bs0) (hb : bs0 ≤ 48) : CI bs0 (p0 a s) := by
  refine ⟨0, 0, bs0, ?_, ?_, ?_, by omega, by omega, by omega, rfl, fun k hk => by omega, fun l hl => Or.inl ?_⟩
  · simp [p0, upd]; rfl
  · simp [p0, upd]; rfl
  · simpa [p0, upd] using h9
  · simp [p0, va_up, zFill, hl]
/-- a process's end: its tree is whole -/
theorem end_TT {f : Nat → Int32} {n : Nat} {kd : Nat → Int32} {bs0 : Nat} {v : Int32} (hB : BI f n kd (1, [(0, -1, v)], I, J, B, D)) (hT : TI (1, [(0, -1, v)], I, J, B, D)) (hC : CI bs0 (1, [(0, -1, v)], I, J, B, D)) : ∃ a sz pt bs ln, TY (B 1) f (I 5) (I 4) a n ∧ I 16 = nI sz ∧ I 17 = nI pt ∧ I 9 = nI bs ∧ I 11 = nI ln ∧ pt ≤ 30 ∧ bs ≤ 48 ∧ ln ≤ 2 * a ∧ bs = bs0 + cnt B sz ∧ TT sz B ∧ 0 < sz ∧ (∀ k, k < sz → C1 B pt bs0 k) ∧ ∀ j, j < 8 → B 2 j = kd j := by
  obtain ⟨a, sz, pt, bs, pr, ln, hTy, h16, h17, h9, h10, h11, l1, l2, l3, l4, l5, l6, l7, l8, l9⟩ := hB
  obtain ⟨sz1, dp, e16, z1, hk, hD, hL⟩ := hT
  obtain ⟨sz2, pt2, bs2, f16, f17, f9, y16, y17, y9, ebs, hc, hl⟩ := hC
  dsimp only at *
  have hTy2 := hTy.2.2
  simp only [List.length_cons, List.length_nil] at l5
  have s1 : sz1 = sz := nI_inj (by omega) (by omega) (e16.symm.trans h16)
  have s2 : sz2 = sz := nI_inj (by omega) (by omega) (f16.symm.trans h16)
  have s3 : pt2 = pt := nI_inj (by omega) (by omega) (f17.symm.trans h17)
  have s4 : bs2 = bs := nI_inj (by omega) (by omega) (f9.symm.trans h9)
  subst s1; subst s2; subst s3; subst s4
  refine ⟨a, sz2, pt2, bs2, ln, hTy, h16, h17, h9, h11, l1, l2, l4, ebs, ⟨by omega, dp, fun k hk' => ⟨(hk k hk').1, (hk k hk').2.2 rfl, (hc k hk').1, (hc k hk').2.1⟩, fun l hl8 => (hl l hl8).imp id (fun ⟨k, h1, h2⟩ => ⟨k, by omega, h2⟩)⟩, ?_, hc, l8⟩
  have hv : ¬ v = -1 := hL.1 rfl
  have ho : okI v sz2 := l9.1
  obtain ⟨j, hj, _⟩ := ho.at hv
  omega
theorem TP.rfr {I : Nat → Int32} {J : Nat → Int64} {sz bs0 p pt : Nat} {B' : Nat → Nat → Int32} {D' : Nat → Nat → Int64} (h : TP sz bs0 p pt B D B' D') : RFr I J B D I J B' D' := ⟨fun _ _ => rfl, fun _ _ => rfl, fun k hk => h.2.2.2.2.2.2.1 k (by simp; omega), fun k hk => h.2.2.2.2.2.2.2 k (by omega)⟩
theorem bst_10 {f : Nat → Int32} {n : Nat} {kd : Nat → Int32} {s t : zBo} (h : bst f n kd s t) : t.2.2.1 10 = s.2.2.1 10 := by
  obtain ⟨a, sz, bs, ln, bk, nd, lt, fr, I, I', J, J', B, B', D, D', _, h⟩ := h
  rcases h with ⟨rfl, rfl, _, _, _, h1, h2, h3⟩ | ⟨kk, I1, rfl, rfl, _, h1, h2⟩ | ⟨I1, rfl, rfl, _, _, _, h1, h2⟩ | ⟨I1, B1, rfl, rfl, _, _, _, h1, h2, h3, h4, h5⟩ | ⟨pk, ch, vr, ex, out, a', rfl, rfl, _, _, _, h⟩ | ⟨rfl, rfl, _, h1⟩ | ⟨rfl, rfl, _, h1⟩ | ⟨rfl, rfl, _, _, h1⟩
  · exact h1.2 10 (by decide)
  · have e : I1 10 = I 10 := by
      rcases h1 with ⟨_, _, _, w⟩ | ⟨_, _, _, _, w⟩ | ⟨_, _, _, w⟩ <;> exact w.2 10 (by decide)
    exact (h2.2.2.1 10 (by decide)).trans e
  · exact (h2.2.2.1 10 (by decide)).trans (h1.2 10 (by decide))
  · exact (h2.2.2.1 10 (by decide)).trans (h1.2 10 (by decide))
  · exact h.2.2.2.2.2.1 10 (by decide)
  · exact h1.2 10 (by decide)
  · exact h1.2 10 (by decide)
  · exact h1.2 10 (by decide)
theorem q_process {K54 : Int32 → (Nat → Int32) → (Nat → Int64) → (Nat → Nat → Int32) → (Nat → Nat → Int64) → Prop} {Post : (Nat → Int32) → (Nat → Int64) → (Nat → Nat → Int32) → (Nat → Nat → Int64) → Prop} {PX : String → (Nat → Int32) → (Nat → Int64) → (Nat → Nat → Int32) → (Nat → Nat → Int64) → Prop} {x1 : Int32} {f : Nat → Int32} {n : Nat} {kd : Nat → Int32} {a p : Nat} (hC : CM f n kd (I, J, B, D)) (ha : I 5 = nI a) (ha1 : a ≤ 240) (hp : I 10 = nI p) (hp4 : p < 4) (ht : tkn f n a = 123)
    (kok : ∀ I' J' B' D', pst f n kd (I, J, B, D) (I', J', B', D') → CM f n kd (I', J', B', D') → RFr I J B D I' J' B' D' → K54 (x1 + 1) I' J' B' D')
    (kf : ∀ q I' J' B' D', pfail f n kd (I, J, B, D) q → RFr I J B D I' J' B' D' → I' 6 = q → PX IAE I' J' B' D') : wc_ModelReader_readAll_105 K54 Post PX x1 I J B D := by
  have hB0 := BI_0 hC ha ha1 hp hp4 ht
  obtain ⟨a2, bs0, p2, ln, hT, h9, h10, h11, l1, l2, l3, hk⟩ := id hC
  have hC0 : CI bs0 (p0 a (I, J, B, D)) := CI_0 h9 (by omega)
  have hf0 : RFr I J B D (p0 a (I, J, B, D)).2.2.1 (p0 a (I, J, B, D)).2.2.2.1 (p0 a (I, J, B, D)).2.2.2.2.1 (p0 a (I, J, B, D)).2.2.2.2.2 := by
    refine ⟨fun k hk => ?_, fun _ _ => rfl, fun k hk => ?_, fun _ _ => rfl⟩
    · have q1 : ¬ k = 5 := by omega
      have q2 : ¬ k = 16 := by omega
      have q3 : ¬ k = 17 := by omega
      simp [p0, upd, q1, q2, q3]
    · have q1 : ¬ k = 28 := by omega
      simp [p0, va_up, q1]
  refine q_skip ha ?_
  refine (q_readBody (f := f) (n := n) (kd := kd)) _ _ _ _ 0 (-1) [] _ _ rfl hB0 (fun I1 J1 B1 D1 v hs h59 => ?_) (fun s1 q I' J' B' D' hs hf hr h6 => ?_)
  · have hs' : star (bst f n kd) (p0 a (I, J, B, D)) (1, [(0, -1, v)], I1, J1, B1, D1) := hs
    have hB1 := BI_star hB0 hs'
    have hr1 := bstar_rfr hs'
    obtain ⟨a1, sz, pt, bs, ln1, hTy, h16, h17, h9', h11', m1, m2, m3, ebs, hTT, hsz, hC1, hk2⟩ := end_TT hB1 (TI_star hB0 hs' TI_0) (CI_star hB0 hs' hC0)
    have hTy2 := hTy.2.2
    have i10 : I1 10 = nI p := by
      have h10e : ∀ x y : zBo, bst f n kd x y → y.2.2.1 10 = x.2.2.1 10 := fun x y h => bst_10 h
      have := hs' (fun y => y.2.2.1 10 = I 10) (by simp [p0, upd]) (fun x y c g => (h10e x y g).trans c)
      exact this.trans hp
    refine q_ahead hTy.tx ?_
    rw [hTy.tk] at h59 ⊢
    refine ⟨fun g => ?_, fun g => ?_⟩
    · refine q_checkJumps hTT h16 (fun k hk hb hn => ?_) (fun hn => ?_)
      · refine kf (B1 27 k) _ _ _ _ ⟨a, p, ⟨ha, hp, ha1, by omega⟩, Or.inr (Or.inr ⟨ht, hp4, v, I1, J1, B1, D1, a1, sz, bs0, k, hs', ⟨hTy.1, by omega, g, h16, h9, by omega⟩, hTT, hk, hb, hn, rfl⟩)⟩ ((hf0.tr hr1).tr ⟨fun j hj => ?_, fun _ _ => rfl, fun _ _ => rfl, fun _ _ => rfl⟩) (by simp [upd])
        have : ¬ j = 6 := by omega
        simp [upd, this]
      · refine q_skip hTy.1 ?_
        refine q_takeProcess (pt := pt) (bs0 := bs0) hTT hsz (by simpa [upd] using h16) (p := p) (by simpa [upd] using i10) hp4 (by simpa [upd] using h17) hC1 m1 (by omega) (fun B2 D2 hTP z5 e5 => ?_)
        rw [e5]
        refine kok _ _ _ _ ⟨a, p, bs0, a1, sz, pt, v, I1, J1, B1, D1, B2, D2, ⟨ha, hp, h9, ha1, hp4, by omega, ht⟩, hs', ⟨hTy.1, by omega, g, h16, h17, m1⟩, ⟨hTT, hsz, hC1⟩, hn, hTP, rfl⟩ ⟨a1 + 1, bs, p + 1, ln1, ?_, ?_, ?_, ?_, m2, by omega, by omega, fun j hj => ?_⟩ ?_
        · have := hTy.up (at2 := nI (a1 + 1)) rfl (tkn_le g (by decide))
          have e1 : B2 1 = B1 1 := hTP.2.2.2.2.2.2.1 1 (by decide)
          simpa [upd, e1] using this
        · simpa [upd] using h9'
        · simp [upd]
        · simpa [upd] using h11'
        · have e2 : B2 2 = B1 2 := hTP.2.2.2.2.2.2.1 2 (by decide)
          show B2 2 j = kd j
          rw [e2]; exact hk2 j hj
        · refine ((hf0.tr hr1).tr (hTP.rfr (I := I1) (J := J1))).tr ⟨fun j hj => ?_, fun _ _ => rfl, fun _ _ => rfl, fun _ _ => rfl⟩
          have q1 : ¬ j = 5 := by omega
          have q2 : ¬ j = 10 := by omega
          simp [upd, q1, q2]
    · refine kf (nI a1) _ _ _ _ ⟨a, p, ⟨ha, hp, ha1, by omega⟩, Or.inr (Or.inl ⟨ht, hp4, _, a1, hs', ⟨a1, 0, -1, v, [], I1, J1, B1, D1, ⟨hTy.1, by omega⟩, Or.inr ⟨rfl, rfl, ?_, h59, ?_, ?_⟩⟩, rfl⟩)⟩ ((hf0.tr hr1).tr ⟨fun j hj => ?_, fun _ _ => rfl, fun _ _ => rfl, fun _ _ => rfl⟩) (by simp [upd, hTy.1])
      · rintro (⟨_, w | w⟩ | ⟨_, w⟩) <;> omega
      · rintro ⟨_, w | w⟩ <;> omega
      · exact fun w => g w.1
      · have : ¬ j = 6 := by omega
        simp [upd, this]
  · exact kf (nI q) I' J' B' D' ⟨a, p, ⟨ha, hp, ha1, by omega⟩, Or.inr (Or.inl ⟨ht, hp4, s1, q, hs, hf, rfl⟩)⟩ ((hf0.tr (bstar_rfr hs)).tr hr) h6
end ZH9
