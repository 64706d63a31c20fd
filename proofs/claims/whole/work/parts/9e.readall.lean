/-! The class reads a model's text. -/
section ZI1
variable {I : Nat → Int32} {J : Nat → Int64} {B : Nat → Nat → Int32} {D : Nat → Nat → Int64}
/-- all cleared -/
def s00 (s : zS) : zS := (upd (upd (upd (upd (upd s.1 7 0) 8 0) 11 0) 9 0) 10 0, vp_updL s.2.1 0 0, va_up (va_up (va_up s.2.2.1 2 (zFill (s.2.2.1 2) 0 8)) 13 (zFill (va_up s.2.2.1 2 (zFill (s.2.2.1 2) 0 8) 13) 0 4)) 14 (zFill (va_up (va_up s.2.2.1 2 (zFill (s.2.2.1 2) 0 8)) 13 (zFill (va_up s.2.2.1 2 (zFill (s.2.2.1 2) 0 8) 13) 0 4) 14) (-1) 32), va_up (va_up s.2.2.2 0 (zFill (s.2.2.2 0) 0 8)) 1 (zFill (va_up s.2.2.2 0 (zFill (s.2.2.2 0) 0 8) 1) 0 124))
def d00 (s : zS) : zD := (0, 0, 0, (s00 s).2.2.1 2, (s00 s).2.2.1 3, (s00 s).2.2.1 4, (s00 s).2.2.1 5)
/-- the declarations are read, and so many processes: t -/
def MAT (f : Nat → Int32) (n : Nat) (s t : zS) (d1 : zD) (s1 : zS) : Prop := star (dst f n) (d00 s) d1 ∧ tkn f n d1.1 = 123 ∧ DC f n s1.1 s1.2.2.1 d1 ∧ FD (s00 s).1 (s00 s).2.2.1 s1.1 s1.2.2.1 ∧ s1.2.1 = (s00 s).2.1 ∧ s1.2.2.2 = (s00 s).2.2.2 ∧ star (pst f n d1.2.2.2.1) s1 t
def MOK (f : Nat → Int32) (n : Nat) (s t : zS) : Prop := ∃ d1 s1, MAT f n s t d1 s1 ∧ CM f n d1.2.2.2.1 t ∧ t.1 5 = nI n
def MBAD (f : Nat → Int32) (n : Nat) (s : zS) (q : Int32) : Prop := (∃ d1 q1, star (dst f n) (d00 s) d1 ∧ ¬ tkn f n d1.1 = 123 ∧ dfail f n d1 q1 ∧ q = nI q1) ∨ (∃ t d1 s1, MAT f n s t d1 s1 ∧ ¬ t.1 5 = nI n ∧ pfail f n d1.2.2.2.1 t q)
theorem FD.trn {I1 I2 : Nat → Int32} {B1 B2 : Nat → Nat → Int32} (h : FD I B I1 B1) (g : FD I1 B1 I2 B2) : FD I B I2 B2 := ⟨fun k hk => (g.1 k hk).trans (h.1 k hk), fun k hk => (g.2 k hk).trans (h.2 k hk)⟩
theorem FD.rfr {I1 : Nat → Int32} {B1 : Nat → Nat → Int32} (h : FD I B I1 B1) : RFr I J B D I1 J B1 D := ⟨fun k hk => h.1 k (by simp; omega), fun _ _ => rfl, fun k hk => h.2 k (by simp; omega), fun _ _ => rfl⟩
theorem s00_rfr : RFr I J B D (s00 (I, J, B, D)).1 (s00 (I, J, B, D)).2.1 (s00 (I, J, B, D)).2.2.1 (s00 (I, J, B, D)).2.2.2 := by
  refine ⟨fun k hk => ?_, fun k hk => ?_, fun k hk => ?_, fun k hk => ?_⟩
  · have q1 : ¬ k = 7 := by omega
    have q2 : ¬ k = 8 := by omega
    have q3 : ¬ k = 11 := by omega
    have q4 : ¬ k = 9 := by omega
    have q5 : ¬ k = 10 := by omega
    simp [s00, upd, q1, q2, q3, q4, q5]
  · simp [s00, vp_updL, hk]
  · have q1 : ¬ k = 2 := by omega
    have q2 : ¬ k = 13 := by omega
    have q3 : ¬ k = 14 := by omega
    simp [s00, va_up, q1, q2, q3]
  · have q1 : ¬ k = 0 := by omega
    have q2 : ¬ k = 1 := by omega
    simp [s00, va_up, q1, q2]
theorem dst_lt {f : Nat → Int32} {n : Nat} {s t : zD} (h : dst f n s t) : s.1 + 2 ≤ t.1 := by
  obtain ⟨h1, h2, h⟩ := h
  have hp : s.1 ≤ dpl f n s.1 := by unfold dpl; split <;> omega
  rcases h with ⟨_, _, _, _, _, rfl⟩ | ⟨_, _, _, _, _, rfl⟩ | ⟨_, _, _, rfl⟩ <;> (dsimp only; omega)
theorem pst_lt {f : Nat → Int32} {n : Nat} {kd : Nat → Int32} {s t : zS} (hC : CM f n kd s) (h : pst f n kd s t) {a a' : Nat} (ha : s.1 5 = nI a) (ha' : t.1 5 = nI a') (hl : a ≤ 240) (hl' : a' ≤ 1000) : a < a' := by
  obtain ⟨a0, p, bs0, a1, sz, pt, v, I1, J1, B1, D1, B2, D2, ⟨h1, h2, h3, h4, h5, h6, h7⟩, hs, ⟨g1, g2, g3, g4, g5, g6⟩, _, _, _, rfl⟩ := h
  have e0 : a0 = a := nI_inj (by omega) (by omega) (h1.symm.trans ha)
  subst e0
  have e1 : a' = a1 + 1 := nI_inj (by omega) (by omega) (by rw [← ha']; simp [upd])
  have hB0 := BI_0 hC h1 h4 h2 h5 h7
  have key := hs (fun y => BI f n kd y ∧ ∃ b, y.2.2.1 5 = nI b ∧ b ≤ 240 ∧ a0 < b) ⟨hB0, a0 + 1, by simp [p0, upd], by
    have := tkn_le h7 (by decide)
    have := hC
    obtain ⟨_, _, _, _, hT, _⟩ := this
    have := hT.2.2; omega, by omega⟩ (fun x y c g => by
      obtain ⟨cB, b, e, hb, hlt⟩ := c
      obtain ⟨pa, pa', e5u, e5v, hlt', hpn, hn240⟩ := bst_pos cB g
      have : pa = b := nI_inj (by omega) (by omega) (e5u.symm.trans e)
      exact ⟨BI_step cB g, pa', e5v, by omega, by omega⟩)
  obtain ⟨_, b, e, hb, hlt⟩ := key
  have : b = a1 := nI_inj (by omega) (by omega) (e.symm.trans g1)
  omega
theorem q_procs {Post : (Nat → Int32) → (Nat → Int64) → (Nat → Nat → Int32) → (Nat → Nat → Int64) → Prop} {PX : String → (Nat → Int32) → (Nat → Int64) → (Nat → Nat → Int32) → (Nat → Nat → Int64) → Prop} {f : Nat → Int32} {n : Nat} {kd : Nat → Int32} {s1 : zS}
    (kok : ∀ I' J' B' D', star (pst f n kd) s1 (I', J', B', D') → CM f n kd (I', J', B', D') → RFr s1.1 s1.2.1 s1.2.2.1 s1.2.2.2 I' J' B' D' → I' 5 = nI n → Post I' J' B' D')
    (kf : ∀ t q I' J' B' D', star (pst f n kd) s1 t → ¬ t.1 5 = nI n → pfail f n kd t q → RFr s1.1 s1.2.1 s1.2.2.1 s1.2.2.2 I' J' B' D' → I' 6 = q → PX IAE I' J' B' D') : ∀ (m i a : Nat) (I : Nat → Int32) (J : Nat → Int64) (B : Nat → Nat → Int32) (D : Nat → Nat → Int64), n + 1 ≤ a + m → i ≤ a → I 5 = nI a → a ≤ 240 → (i = 0 → tkn f n a = 123) → star (pst f n kd) s1 (I, J, B, D) → CM f n kd (I, J, B, D) → RFr s1.1 s1.2.1 s1.2.2.1 s1.2.2.2 I J B D → wl_ModelReader_readAll_54 Post PX m (nI i) I J B D := by
  intro m
  induction m with
  | zero =>
    intro i a I J B D hm hi ha ha1 h0 hs hC hr
    exfalso
    obtain ⟨a2, _, _, _, hT, _⟩ := hC
    have hT2 := hT.2.2
    have : a2 = a := nI_inj (by omega) (by omega) (hT.1.symm.trans ha)
    omega
  | succ m ih =>
    intro i a I J B D hm hi ha ha1 h0 hs hC hr
    obtain ⟨a2, bs, p, ln, hT, h9, h10, h11, l1, l2, l3, hk⟩ := id hC
    have hT2 := hT.2.2
    have e2 : a2 = a := nI_inj (by omega) (by omega) (hT.1.symm.trans ha)
    subst e2
    dsimp only at hT h10 hT2
    have bad : ¬ a2 = n → (¬ tkn f n a2 = 123 ∨ p = 4) → wc_ModelReader_readAll_98 (wl_ModelReader_readAll_54 Post PX m) Post PX (nI i) I J B D := by
      intro hn hb
      refine kf (I, J, B, D) (nI a2) _ _ _ _ hs (fun z => hn (nI_inj (by omega) (by omega) (ha.symm.trans z))) ⟨a2, p, ⟨ha, h10, ha1, l2⟩, Or.inl ⟨rfl, hb⟩⟩ (hr.tr ⟨fun j hj => ?_, fun _ _ => rfl, fun _ _ => rfl, fun _ _ => rfl⟩) (by simp [upd, ha])
      have : ¬ j = 6 := by omega
      simp [upd, this]
    have go : ¬ a2 = n → wc_ModelReader_readAll_75 (wl_ModelReader_readAll_54 Post PX m) Post PX (nI i) I J B D := by
      intro hn
      refine q_ahead hT.tx ?_
      rw [hT.tk]
      refine ⟨fun g => bad hn (Or.inl g), fun g => ⟨fun g2 => ?_, fun g2 => bad hn (Or.inr ?_)⟩⟩
      · have hp4 : ¬ p = 4 := fun z => g2 (by rw [h10, z]; rfl)
        refine q_process hC ha ha1 h10 (by omega) g (fun I' J' B' D' hp hC' hr' => ?_) (fun q I' J' B' D' hf hr' h6 => kf (I, J, B, D) q _ _ _ _ hs (fun z => hn (nI_inj (by omega) (by omega) (ha.symm.trans z))) hf (hr.tr hr') h6)
        rw [nI_1]
        obtain ⟨a3, _, _, _, hT', _⟩ := id hC'
        have hT3 := hT'.2.2
        have := pst_lt hC hp ha hT'.1 ha1 (by omega)
        exact ih (i + 1) a3 I' J' B' D' (by omega) (by omega) hT'.1 (by omega) (fun z => by omega) (hs.tail hp) hC' (hr.tr hr')
      · have := (eqI h10 (y := 4) (b := 4) rfl (by omega) (by omega)).mp g2; exact this
    refine ⟨fun z => ?_, fun _ => ⟨fun z => ?_, fun z => ?_⟩⟩
    · have := (leI (x := 240) (a := 240) rfl (y := nI i) rfl (by omega) (by omega)).mp z
      have : a2 = n := by omega
      exact kok I J B D hs hC hr (by rw [ha, this])
    · have hi0 : i = 0 := (nI_lit (k := i) (by omega) (c := 0) (by omega)).mp z
      have := tkn_le (h0 hi0) (by decide)
      exact go (by omega)
    · have lt := ltI hT.1 hT.2.1 (by omega) (by omega)
      refine ⟨fun g => ⟨Or.inl rfl, fun z => absurd rfl z, fun _ => go (by have := lt.mp g; omega)⟩, fun g => ⟨Or.inr rfl, fun _ => ?_, fun z => absurd z (by decide)⟩⟩
      have : ¬ a2 < n := fun z => g (lt.mpr z)
      have : a2 = n := by omega
      exact kok I J B D hs hC hr (by rw [ha, this])
theorem q_readAll {Post : (Nat → Int32) → (Nat → Int64) → (Nat → Nat → Int32) → (Nat → Nat → Int64) → Prop} {PX : String → (Nat → Int32) → (Nat → Int64) → (Nat → Nat → Int32) → (Nat → Nat → Int64) → Prop} {f : Nat → Int32} {n : Nat} (hT : TY (B 1) f (I 5) (I 4) 0 n)
    (kok : ∀ I' J' B' D', MOK f n (I, J, B, D) (I', J', B', D') → RFr I J B D I' J' B' D' → Post I' J' B' D')
    (kf : ∀ q I' J' B' D', MBAD f n (I, J, B, D) q → RFr I J B D I' J' B' D' → I' 6 = q → PX IAE I' J' B' D') : wp_ModelReader_readAll I J B D Post PX := by
  have hn := hT.2.2.2.1
  have hs0 := s00_rfr (I := I) (J := J) (B := B) (D := D)
  suffices key : ∀ (m i : Nat) (s : zD) (I1 : Nat → Int32) (B1 : Nat → Nat → Int32), n + 1 ≤ s.1 + m → 2 * i ≤ s.1 → DC f n I1 B1 s → star (dst f n) (d00 (I, J, B, D)) s → FD (s00 (I, J, B, D)).1 (s00 (I, J, B, D)).2.2.1 I1 B1 → wl_ModelReader_readAll_23 Post PX m (nI i) I1 (s00 (I, J, B, D)).2.1 B1 (s00 (I, J, B, D)).2.2.2 by
    refine ⟨n + 1, key (n + 1) 0 (d00 (I, J, B, D)) _ _ (by simp [d00]) (by simp [d00]) ⟨?_, ?_, ?_, rfl, rfl, rfl, rfl, by simp [d00], by simp [d00]⟩ (star.refl _) ⟨fun _ _ => rfl, fun _ _ => rfl⟩⟩
    · simpa [s00, d00, upd, va_up] using hT
    · simp [s00, d00, upd]; rfl
    · simp [s00, d00, upd]; rfl
  intro m
  induction m with
  | zero =>
    intro i s I1 B1 hm hi hD hs hF
    have := hD.1.2.2; omega
  | succ m ih =>
    intro i s I1 B1 hm hi hD hs hF
    have hTs := hD.1
    have hT2 := hTs.2.2
    refine ⟨fun z => ?_, fun _ => q_ahead hTs.tx ?_⟩
    · have := (leI (x := 240) (a := 240) rfl (y := nI i) rfl (by omega) (by omega)).mp z; omega
    · rw [hTs.tk]
      have i9 : I1 9 = nI 0 := (hF.1 9 (by decide)).trans (by simp [s00, upd]; rfl)
      have i10 : I1 10 = nI 0 := (hF.1 10 (by decide)).trans (by simp [s00, upd]; rfl)
      have i11 : I1 11 = nI 0 := (hF.1 11 (by decide)).trans (by simp [s00, upd]; rfl)
      refine ⟨fun g => ⟨n + 2, ?_⟩, fun g => ?_⟩
      · refine q_procs (f := f) (n := n) (kd := s.2.2.2.1) (s1 := (I1, (s00 (I, J, B, D)).2.1, B1, (s00 (I, J, B, D)).2.2.2)) (fun I' J' B' D' h1 h2 h3 h4 => kok I' J' B' D' ⟨s, (I1, (s00 (I, J, B, D)).2.1, B1, (s00 (I, J, B, D)).2.2.2), ⟨hs, g, hD, hF, rfl, rfl, h1⟩, h2, h4⟩ ((hs0.tr hF.rfr).tr h3)) (fun t q I' J' B' D' h1 h2 h3 h4 h5 => kf q I' J' B' D' (Or.inr ⟨t, s, (I1, (s00 (I, J, B, D)).2.1, B1, (s00 (I, J, B, D)).2.2.2), ⟨hs, g, hD, hF, rfl, rfl, h1⟩, h2, h3⟩) ((hs0.tr hF.rfr).tr h4) h5) (n + 2) 0 s.1 _ _ _ _ (by omega) (by omega) hTs.1 (by omega) (fun _ => g) (star.refl _) ⟨s.1, 0, 0, 0, hTs, i9, i10, i11, by omega, by omega, by omega, fun j _ => by dsimp only; rw [hD.2.2.2.1]⟩ RFr.rf
      · refine q_decl hD (fun I' B' t hd hF' hD' z18 e18 => ?_) (fun I' B' q hd hF' h5 => ?_)
        · rw [inI rfl e18]
          have := dst_lt hd
          exact ih (i + 1) t I' B' (by omega) (by omega) hD' (hs.tail hd) (hF.trn hF')
        · refine kf (nI q) _ _ _ _ (Or.inl ⟨s, q, hs, g, hd, rfl⟩) (((hs0.tr hF.rfr).tr hF'.rfr).tr ⟨fun j hj => ?_, fun _ _ => rfl, fun _ _ => rfl, fun _ _ => rfl⟩) (by simp [upd, h5])
          have : ¬ j = 6 := by omega
          simp [upd, this]
end ZI1
