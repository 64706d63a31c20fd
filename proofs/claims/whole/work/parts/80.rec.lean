/-! Statements: the class reads bodies, by recursion. -/
section ZE7
variable {I : Nat → Int32} {J : Nat → Int64} {B : Nat → Nat → Int32} {D : Nat → Nat → Int64}
theorem bst_pos {f : Nat → Int32} {n : Nat} {kd : Nat → Int32} {s t : zBo} (hB : BI f n kd s) (h : bst f n kd s t) : ∃ a a', s.2.2.1 5 = nI a ∧ t.2.2.1 5 = nI a' ∧ a < a' ∧ a' ≤ n ∧ n ≤ 240 := by
  have hB' := BI_step hB h
  obtain ⟨a', _, _, _, _, _, hT', _⟩ := hB'
  obtain ⟨a, sz, bs, ln, bk, nd, lt, fr, I, I', J, J', B, B', D, D', hh, h⟩ := h
  have fin : ∀ p, t.2.2.1 5 = nI p → a < p → p ≤ 1000 → s.2.2.1 = I → ∃ a a', s.2.2.1 5 = nI a ∧ t.2.2.1 5 = nI a' ∧ a < a' ∧ a' ≤ n ∧ n ≤ 240 := by
    intro p hp hap hp1 hs
    have := hT'.2.2
    have e : a' = p := nI_inj (by omega) (by omega) (hT'.1.symm.trans hp)
    exact ⟨a, a', by rw [hs]; exact hh.1, hT'.1, by omega, by omega, by omega⟩
  have hal := hh.2.2.2.2.1
  rcases h with ⟨rfl, rfl, h0, hx, hy, h1, h2, h3⟩ | ⟨kk, I1, rfl, rfl, hl6, h1, h2⟩ | ⟨I1, rfl, rfl, h0, hx, hy, h1, h2⟩ | ⟨I1, B1, rfl, rfl, h0, hx, hy, h1, h2, h3, h4, h5⟩ | ⟨pk, ch, vr, ex, out, a3, rfl, rfl, hp30, hb48, hbas, h⟩ | ⟨rfl, rfl, h0, h1⟩ | ⟨rfl, rfl, h0, h1⟩ | ⟨rfl, rfl, h0, hx, h1⟩
  · have := one_tk (Or.inr (Or.inl rfl)) hx
    have := hT'.2.2
    exact fin (a + 2) h1.1 (by omega) (by omega) rfl
  · have h5 : I' 5 = I1 5 := h2.2.2.1 5 (by decide)
    have := hT'.2.2
    rcases h1 with ⟨z1, z2, z3, z4⟩ | ⟨z1, z2, z3, z4, z5⟩ | ⟨z1, z2, z3, z4⟩
    · have := tkn_le z2 (by decide)
      exact fin (a + 1) (h5.trans z4.1) (by omega) (by omega) rfl
    · have := tkn_le z3 (by decide)
      exact fin (a + 2) (h5.trans z5.1) (by omega) (by omega) rfl
    · have := tkn_le z2 (by decide)
      exact fin (a + 1) (h5.trans z4.1) (by omega) (by omega) rfl
  · have h5 : I' 5 = I1 5 := h2.2.2.1 5 (by decide)
    have := tkn_le h0 (by decide)
    have := hT'.2.2
    exact fin (a + 1) (h5.trans h1.1) (by omega) (by omega) rfl
  · have h5 : I' 5 = I1 5 := h2.2.2.1 5 (by decide)
    have := one_tk (Or.inr (Or.inl rfl)) hy
    have := hT'.2.2
    exact fin (a + 2) (h5.trans h1.1) (by omega) (by omega) rfl
  · obtain ⟨pt, pr, hT, _⟩ := BI_get hB hh
    have g := hbas.place hT.2.2.1
    have := hT.2.2
    exact fin a3 h.1 g.1 (by omega) rfl
  · have : a + 1 ≤ n := by rcases h0 with z | z <;> exact tkn_le z.1 (by decide)
    have := hT'.2.2
    exact fin (a + 1) h1.1 (by omega) (by omega) rfl
  · have := tkn_le h0 (by decide)
    have := hT'.2.2
    exact fin (a + 1) h1.1 (by omega) (by omega) rfl
  · have := tkn_le h0 (by decide)
    have := hT'.2.2
    exact fin (a + 1) h1.1 (by omega) (by omega) rfl
theorem bstar_pos {f : Nat → Int32} {n : Nat} {kd : Nat → Int32} {s t : zBo} (hB : BI f n kd s) (h : star (bst f n kd) s t) {a : Nat} (ha : s.2.2.1 5 = nI a) (han : a ≤ 1000) : ∃ a', t.2.2.1 5 = nI a' ∧ a' ≤ 1000 ∧ a ≤ a' ∧ (s.1 = t.1 ∨ a < a') := by
  have := h (fun t => BI f n kd t ∧ ∃ a', t.2.2.1 5 = nI a' ∧ a' ≤ 1000 ∧ a ≤ a' ∧ (s = t ∨ a < a')) ⟨hB, a, ha, han, Nat.le_refl _, Or.inl rfl⟩ ?_
  · obtain ⟨_, a', h1, h2, h3, h4⟩ := this
    refine ⟨a', h1, h2, h3, ?_⟩
    rcases h4 with h4 | h4
    · exact Or.inl (by rw [h4])
    · exact Or.inr h4
  · intro u v hu huv
    obtain ⟨hBu, b, h1, h2, h3, h4⟩ := hu
    obtain ⟨c, c', e1, e2, e3, e4, e5⟩ := bst_pos hBu huv
    have : c = b := nI_inj (by omega) (by omega) (e1.symm.trans h1)
    subst this
    exact ⟨BI_step hBu huv, c', e2, by omega, by omega, Or.inr (by omega)⟩
theorem BI.ty {f : Nat → Int32} {n : Nat} {kd : Nat → Int32} {m : Nat} {F : zF} (hB : BI f n kd (m, F, I, J, B, D)) : ∃ a, TY (B 1) f (I 5) (I 4) a n := by
  obtain ⟨a, _, _, _, _, _, hT, _⟩ := hB
  exact ⟨a, hT⟩
def SB (f : Nat → Int32) (n : Nat) (kd : Nat → Int32) (d : Nat) (P : zTgm0) : Prop := ∀ (I : Nat → Int32) (J : Nat → Int64) (B : Nat → Nat → Int32) (D : Nat → Nat → Int64) (bk : Nat) (nd : Int32) (fr : zF) (Post : (Nat → Int32) → (Nat → Int64) → (Nat → Nat → Int32) → (Nat → Nat → Int64) → Prop) (PX : String → (Nat → Int32) → (Nat → Int64) → (Nat → Nat → Int32) → (Nat → Nat → Int64) → Prop), fr.length = d → BI f n kd (0, (bk, nd, -1) :: fr, I, J, B, D) → (∀ I' J' B' D' v, star (bst f n kd) (0, (bk, nd, -1) :: fr, I, J, B, D) (1, (bk, nd, v) :: fr, I', J', B', D') → ¬ tok (B' 1) (I' 5) (I' 4) = 59 → Post I' J' B' D') → KF f n kd (0, (bk, nd, -1) :: fr, I, J, B, D) PX → P I J B D nd (nI d) Post PX
def SS (f : Nat → Int32) (n : Nat) (kd : Nat → Int32) (d : Nat) (P : zTgm1) : Prop := ∀ (I : Nat → Int32) (J : Nat → Int64) (B : Nat → Nat → Int32) (D : Nat → Nat → Int64) (bk : Nat) (nd lt : Int32) (fr : zF) (Post : Int32 → (Nat → Int32) → (Nat → Int64) → (Nat → Nat → Int32) → (Nat → Nat → Int64) → Prop) (PX : String → (Nat → Int32) → (Nat → Int64) → (Nat → Nat → Int32) → (Nat → Nat → Int64) → Prop), fr.length = d → BI f n kd (0, (bk, nd, lt) :: fr, I, J, B, D) → ¬ tok (B 1) (I 5) (I 4) = 58 → (∀ v I' J' B' D', star (bst f n kd) (0, (bk, nd, lt) :: fr, I, J, B, D) (1, (bk, nd, v) :: fr, I', J', B', D') → Post v I' J' B' D') → KF f n kd (0, (bk, nd, lt) :: fr, I, J, B, D) PX → P I J B D nd lt (nI d) Post PX
def SC (f : Nat → Int32) (n : Nat) (kd : Nat → Int32) (d : Nat) (P : zTgm2) : Prop := ∀ (I : Nat → Int32) (J : Nat → Int64) (B : Nat → Nat → Int32) (D : Nat → Nat → Int64) (bk : Nat) (nd lt : Int32) (fr : zF) (Post : Int32 → (Nat → Int32) → (Nat → Int64) → (Nat → Nat → Int32) → (Nat → Nat → Int64) → Prop) (PX : String → (Nat → Int32) → (Nat → Int64) → (Nat → Nat → Int32) → (Nat → Nat → Int64) → Prop), fr.length = d → BI f n kd (0, (bk, nd, lt) :: fr, I, J, B, D) → (tok (B 1) (I 5) (I 4) = 91 ∨ tok (B 1) (I 5) (I 4) = 42) → (∀ v I' J' B' D', star (bst f n kd) (0, (bk, nd, lt) :: fr, I, J, B, D) (1, (bk, nd, v) :: fr, I', J', B', D') → Post v I' J' B' D') → KF f n kd (0, (bk, nd, lt) :: fr, I, J, B, D) PX → P I J B D nd lt (nI d) Post PX
def SA (f : Nat → Int32) (n : Nat) (kd : Nat → Int32) (d : Nat) (P : zTgm3) : Prop := ∀ (I : Nat → Int32) (J : Nat → Int64) (B : Nat → Nat → Int32) (D : Nat → Nat → Int64) (bk : Nat) (nd lt : Int32) (fr : zF) (Post : Int32 → (Nat → Int32) → (Nat → Int64) → (Nat → Nat → Int32) → (Nat → Nat → Int64) → Prop) (PX : String → (Nat → Int32) → (Nat → Int64) → (Nat → Nat → Int32) → (Nat → Nat → Int64) → Prop), fr.length = d → BI f n kd (0, (bk, nd, lt) :: fr, I, J, B, D) → tok (B 1) (I 5) (I 4) = 60 → (∀ v I' J' B' D', star (bst f n kd) (0, (bk, nd, lt) :: fr, I, J, B, D) (1, (bk, nd, v) :: fr, I', J', B', D') → Post v I' J' B' D') → KF f n kd (0, (bk, nd, lt) :: fr, I, J, B, D) PX → P I J B D nd lt (nI d) Post PX
theorem one1 {α : Type} {R : α → α → Prop} {x y : α} (h : R x y) : star R x y := (star.refl x).tail h
theorem SS_of {f : Nat → Int32} {n : Nat} {kd : Nat → Int32} {d : Nat} {P0 : zTgm0} {P1 : zTgm1} {P2 : zTgm2} {P3 : zTgm3} (h2 : SC f n kd d P2) (h3 : SA f n kd d P3) : SS f n kd d (fun I J B D a b c Post PX => wp_ModelReader_readStatement_R I J B D P0 P1 P2 P3 a b c Post PX) := by
  intro I J B D bk nd lt fr Post PX hd hB h58 kok kf
  obtain ⟨a, hT⟩ := hB.ty
  have hn := hT.2.2
  rw [hT.tk] at h58
  refine q_ahead hT.tx ?_
  have hc : ∀ v : Int32, tok (B 1) (I 5) (I 4) = v → tkn f n a = v := fun v h => by rw [← hT.tk]; exact h
  refine ⟨fun g => h2 I J B D bk nd lt fr _ PX hd hB (Or.inr g) kok kf, fun g => q_break hT hB (hc _ g) (fun v I' J' B' D' w => kok v I' J' B' D' (one1 w)) kf, fun g => h3 I J B D bk nd lt fr _ PX hd hB g kok kf, fun g => h2 I J B D bk nd lt fr _ PX hd hB (Or.inl g) kok kf, fun g => q_jump hT hB (hc _ g) (fun v I' J' B' D' w => kok v I' J' B' D' (one1 w)) kf, fun g1 g2 g3 g4 g5 => ?_⟩
  rw [hT.tk] at g1 g2 g3 g4 g5
  have hcc : ¬ tkn f n a = 58 ∧ ¬ tkn f n a = 91 ∧ ¬ tkn f n a = 42 ∧ ¬ tkn f n a = 60 ∧ ¬ tkn f n a = 46 ∧ ¬ tkn f n a = 94 := ⟨h58, g4, g1, g3, g2, g5⟩
  have bad : (I 17 = 30 ∨ I 9 = 48) → PX IAE (upd I 6 (I 5)) J B D := fun w => kf.at (q := a) ⟨a, bk, nd, lt, fr, I, J, B, D, ⟨hT.1, by omega⟩, Or.inl ⟨rfl, Or.inr (Or.inr (Or.inr (Or.inr (Or.inr (Or.inr ⟨h58, g4, g1, g3, g2, g5, Or.inl ⟨rfl, w⟩⟩)))))⟩⟩ RFr.rf hT.1
  refine ⟨fun w => bad (Or.inl w), fun w => ⟨fun w2 => q_basic hT hB hcc w w2 (fun v I' J' B' D' w => kok v I' J' B' D' (one1 w)) kf, fun w2 => bad (Or.inr w2)⟩⟩
theorem SB_of {f : Nat → Int32} {n : Nat} {kd : Nat → Int32} {d : Nat} {P0 : zTgm0} {P1 : zTgm1} {P2 : zTgm2} {P3 : zTgm3} (h1 : SS f n kd d P1) : SB f n kd d (fun I J B D a b Post PX => wp_ModelReader_readBody_R I J B D P0 P1 P2 P3 a b Post PX) := by
  intro I0 J0 B0 D0 bk nd fr Post PX hd hB0 kok kf
  have loop : ∀ (m a c : Nat) (lt : Int32) (I : Nat → Int32) (J : Nat → Int64) (B : Nat → Nat → Int32) (D : Nat → Nat → Int64), n - a ≤ m → c ≤ a → TY (B 1) f (I 5) (I 4) a n → star (bst f n kd) (0, (bk, nd, -1) :: fr, I0, J0, B0, D0) (0, (bk, nd, lt) :: fr, I, J, B, D) → wc_ModelReader_readBody_R_30 P0 P1 P2 P3 nd (nI d) (wl_ModelReader_readBody_R_5 P0 P1 P2 P3 nd (nI d) Post PX (m + 1)) Post PX nd (nI d) lt (nI c) I J B D := by
    intro m
    induction m with
    | zero =>
      intro a c lt I J B D hm hc hT hs
      have hB := BI_star hB0 hs
      have hn := hT.2.2
      refine ⟨_, q_labels (kd := kd) (F := (bk, nd, lt) :: fr) n a 0 I B (by omega) (by omega) hT hB ?_ (kf.mono hs)⟩
      intro I1 B1 k1 k2
      refine h1 I1 J B1 D bk nd lt fr _ PX hd (BI_star hB k1) k2 ?_ (kf.mono (hs.trans k1))
      intro v I2 J2 B2 D2 k3 z3 e3
      exfalso
      obtain ⟨a', w1, w2, w3, w4⟩ := bstar_pos hB (k1.trans k3) (a := a) hT.1 (by omega)
      obtain ⟨a2, hT2⟩ := (BI_star hB (k1.trans k3)).ty
      have := hT2.2.2
      have : a' = a2 := nI_inj (by omega) (by omega) (w1.symm.trans hT2.1)
      rcases w4 with w4 | w4
      · exact absurd (show (0 : Nat) = 1 from w4) (by decide)
      · omega
    | succ m ih =>
      intro a c lt I J B D hm hc hT hs
      have hB := BI_star hB0 hs
      have hn := hT.2.2
      refine ⟨_, q_labels (kd := kd) (F := (bk, nd, lt) :: fr) n a 0 I B (by omega) (by omega) hT hB ?_ (kf.mono hs)⟩
      intro I1 B1 k1 k2
      refine h1 I1 J B1 D bk nd lt fr _ PX hd (BI_star hB k1) k2 ?_ (kf.mono (hs.trans k1))
      intro v I2 J2 B2 D2 k3 z3 e3
      have n3 : z3 = nI (c + 1) := inI rfl e3
      rw [n3]
      have hs2 := hs.trans (k1.trans k3)
      have hB2 := BI_star hB0 hs2
      obtain ⟨a', w1, w2, w3, w4⟩ := bstar_pos hB (k1.trans k3) (a := a) hT.1 (by omega)
      obtain ⟨a2, hT2⟩ := hB2.ty
      have hn2 := hT2.2.2
      have e2 : a' = a2 := nI_inj (by omega) (by omega) (w1.symm.trans hT2.1)
      subst e2
      have hlt : a < a' := by
        rcases w4 with w4 | w4
        · exact absurd (show (0 : Nat) = 1 from w4) (by decide)
        · exact w4
      refine ⟨fun g => ?_, fun _ => ⟨fun g => ?_, fun _ => q_accept hT2 (fun g => ⟨fun z => absurd z (by decide), fun _ => ?_⟩) (fun g => ⟨fun _ => kok I2 J2 B2 D2 v hs2 (by rw [hT2.tk]; exact g), fun z => absurd rfl z⟩)⟩⟩
      · have g := (leI (x := 240) (a := 240) rfl rfl (by omega) (by omega)).mp g
        refine kok I2 J2 B2 D2 v hs2 (fun e => ?_)
        rw [hT2.tk] at e
        have := tkn_le e (by decide); omega
      · have := (eqI (x := nI (c + 1)) rfl (y := 0) (b := 0) rfl (by omega) (by omega)).mp g
        omega
      · obtain ⟨a9, sz, pt, bs, pr, ln, hT9, h16, h17, h9, h10, h11, l1, l2, l3, l4, l5, l6, l7, l8, l9⟩ := id hB2
        dsimp only at hT9 h16 h17 h9 h10 h11 l5 l6 l7 l8 l9
        simp only [List.length_cons] at l5 l6
        have := hT9.2.2
        have e9 : a9 = a' := nI_inj (by omega) (by omega) (hT9.1.symm.trans hT2.1)
        subst e9
        have ha1 := tkn_le g (by decide)
        have hst : bst f n kd (1, (bk, nd, v) :: fr, I2, J2, B2, D2) (0, (bk, nd, v) :: fr, upd I2 5 (nI (a9 + 1)), J2, B2, D2) := ⟨a9, sz, bs, ln, bk, nd, v, fr, I2, _, J2, J2, B2, B2, D2, D2, ⟨hT2.1, h16, h9, h11, by omega, by omega, by omega, by omega⟩, Or.inr (Or.inr (Or.inr (Or.inr (Or.inr (Or.inr (Or.inl ⟨rfl, rfl, g, by simp [upd], fun k hk => by simp [upd, hk]⟩))))))⟩
        exact ih (a9 + 1) (c + 1) v _ J2 B2 D2 (by omega) (by omega) (hT2.up rfl ha1) (hs2.tail hst)
  obtain ⟨a, hT⟩ := hB0.ty
  refine ⟨n + 2, fun g => absurd g (by decide), fun _ => ⟨fun _ => loop n a 0 (-1) I0 J0 B0 D0 (by omega) (by omega) hT (star.refl _), fun g => absurd rfl g⟩⟩
theorem SA_of {f : Nat → Int32} {n : Nat} {kd : Nat → Int32} {d : Nat} {P0 : zTgm0} {P1 : zTgm1} {P2 : zTgm2} {P3 : zTgm3} (h0 : d < 6 → SB f n kd (d + 1) P0) : SA f n kd d (fun I J B D a b c Post PX => wp_ModelReader_readAtomic_R I J B D P0 P1 P2 P3 a b c Post PX) := by
  intro I J B D bk nd lt fr Post PX hd hB h60 kok kf
  obtain ⟨a, sz, pt, bs, pr, ln, hT, h16, h17, h9, h10, h11, l1, l2, l3, l4, l5, l6, l7, l8, l9⟩ := id hB
  dsimp only at hT h16 h17 h9 h10 h11 l5 l6 l7 l8 l9
  simp only [List.length_cons] at l5 l6
  have hn := hT.2.2
  rw [hT.tk] at h60
  have bad : (fr.length = 6 ∨ ¬ ati B nd = -1) → PX IAE (upd I 6 (I 5)) J B D := fun w => kf.at (q := a) ⟨a, bk, nd, lt, fr, I, J, B, D, ⟨hT.1, by omega⟩, Or.inl ⟨rfl, Or.inr (Or.inr (Or.inr (Or.inl ⟨h60, rfl, w⟩)))⟩⟩ RFr.rf hT.1
  have e6 : nI d = 6 ↔ d = 6 := nI_lit (k := d) (by omega) (c := 6) (by omega)
  refine ⟨fun g => bad (Or.inl (hd.trans (e6.mp g))), fun g => ?_⟩
  have g : ¬ d = 6 := fun z => g (e6.mpr z)
  refine q_atomicInside l9.hd (by omega) ⟨fun w => ?_, fun w => bad (Or.inr w)⟩
  refine q_skip hT.1 ?_
  refine q_tadd (sz := sz) h16 (by omega) l9.hd l9.1 ?_
  intro I1 B1 hTA z3 e3
  have n3 : z3 = nI (d + 1) := inI rfl e3
  rw [n3]
  have hst : bst f n kd (0, (bk, nd, lt) :: fr, I, J, B, D) (0, (3, nI sz, -1) :: (bk, nd, nI sz) :: fr, I1, J, B1, D) := ⟨a, sz, bs, ln, bk, nd, lt, fr, I, I1, J, J, B, B1, D, D, ⟨hT.1, h16, h9, h11, by omega, by omega, by omega, by omega⟩, Or.inr (Or.inl ⟨3, _, rfl, rfl, by omega, Or.inr (Or.inr ⟨rfl, h60, w, by simp [upd], fun k hk => by simp [upd, hk]⟩), hTA⟩)⟩
  have hB1 := BI_step hB hst
  refine h0 (by omega) I1 J B1 D 3 (nI sz) ((bk, nd, nI sz) :: fr) _ PX (by simp; omega) hB1 ?_ (kf.mono (one1 hst))
  intro I2 J2 B2 D2 v k1 k2
  have hs2 := (one1 hst).trans k1
  have hB2 := BI_star hB hs2
  obtain ⟨a9, sz9, pt9, bs9, pr9, ln9, hT9, j16, j17, j9, j10, j11, m1, m2, m3, m4, m5, m6, m7, m8, m9⟩ := id hB2
  dsimp only at hT9 j16 j17 j9 j10 j11 m5 m6 m7 m8 m9
  simp only [List.length_cons] at m5 m6
  have hn9 := hT9.2.2
  rw [hT9.tk] at k2
  refine q_expect hT9 (fun g2 => ?_) (fun g2 => ?_)
  · have hst2 : bst f n kd (1, (3, nI sz, v) :: (bk, nd, nI sz) :: fr, I2, J2, B2, D2) (1, (bk, nd, nI sz) :: fr, upd I2 5 (nI (a9 + 1)), J2, B2, D2) := ⟨a9, sz9, bs9, ln9, 3, nI sz, v, (bk, nd, nI sz) :: fr, I2, _, J2, J2, B2, B2, D2, D2, ⟨hT9.1, j16, j9, j11, by omega, by omega, by omega, by omega⟩, Or.inr (Or.inr (Or.inr (Or.inr (Or.inr (Or.inl ⟨rfl, rfl, Or.inr ⟨g2, rfl⟩, by simp [upd], fun k hk => by simp [upd, hk]⟩)))))⟩
    exact kok _ _ _ _ _ (hs2.tail hst2)
  · refine (kf.mono hs2).at (q := a9) ⟨a9, 3, nI sz, v, (bk, nd, nI sz) :: fr, I2, J2, B2, D2, ⟨hT9.1, by omega⟩, Or.inr ⟨rfl, rfl, fun z => ?_, k2, fun z => ?_, fun z => ?_⟩⟩ RFr.rf hT9.1
    · rcases z with z | z
      · rcases z.2 with z | z <;> exact absurd z (by decide)
      · exact g2 z.1
    · rcases z.2 with z | z <;> exact absurd z (by decide)
    · exact absurd z.2 (by simp)
theorem SC_of {f : Nat → Int32} {n : Nat} {kd : Nat → Int32} {d : Nat} {P0 : zTgm0} {P1 : zTgm1} {P2 : zTgm2} {P3 : zTgm3} (h0 : d < 6 → SB f n kd (d + 1) P0) : SC f n kd d (fun I J B D a b c Post PX => wp_ModelReader_readChoice_R I J B D P0 P1 P2 P3 a b c Post PX) := by
  intro I J B D bk nd lt fr Post PX hd hB h91 kok kf
  obtain ⟨a, sz, pt, bs, pr, ln, hT, h16, h17, h9, h10, h11, l1, l2, l3, l4, l5, l6, l7, l8, l9⟩ := id hB
  dsimp only at hT h16 h17 h9 h10 h11 l5 l6 l7 l8 l9
  simp only [List.length_cons] at l5 l6
  have hn := hT.2.2
  rw [hT.tk] at h91
  have e6 : nI d = 6 ↔ d = 6 := nI_lit (k := d) (by omega) (c := 6) (by omega)
  have bad : ∀ q, ((tkn f n a = 91 ∧ q = a ∧ (I 17 = 30 ∨ fr.length = 6)) ∨ (tkn f n a = 42 ∧ ((q = a ∧ I 17 = 30) ∨ (q = a + 1 ∧ ¬ I 17 = 30 ∧ (¬ tkn f n (a + 1) = 91 ∨ fr.length = 6))))) → ∀ I1, RFr I J B D I1 J B D → I1 5 = nI q → PX IAE (upd I1 6 (I1 5)) J B D := by
    intro q w I1 hr h5
    refine kf.at (q := q) ⟨a, bk, nd, lt, fr, I, J, B, D, ⟨hT.1, by omega⟩, Or.inl ⟨rfl, ?_⟩⟩ hr h5
    rcases w with w | w
    · exact Or.inr (Or.inl w)
    · exact Or.inr (Or.inr (Or.inl w))
  -- behind the "["
  have inner : ∀ (kk : Nat) (I1 : Nat → Int32) (p : Nat), p ≤ n → ¬ d = 6 → I1 5 = nI p → I1 16 = nI sz → ((kk = 1 ∧ tkn f n a = 91 ∧ ¬ I 17 = 30 ∧ adv (a + 1) I (upd I1 5 (nI (p + 1)))) ∨ (kk = 2 ∧ tkn f n a = 42 ∧ tkn f n (a + 1) = 91 ∧ ¬ I 17 = 30 ∧ adv (a + 2) I (upd I1 5 (nI (p + 1))))) → wc_ModelReader_readChoice_R_63 P0 P1 P2 P3 nd lt (nI d) Post PX nd lt (nI d) (nI kk) I1 J B D := by
    intro kk I1 p hp hd6 h5 hI16 hkk
    have hk : kk = 1 ∨ kk = 2 := by rcases hkk with z | z <;> omega
    refine q_skip h5 ?_
    refine q_tadd (sz := sz) (by simpa [upd] using hI16) (by omega) l9.hd l9.1 ?_
    intro I2 B2 hTA
    have hst : bst f n kd (0, (bk, nd, lt) :: fr, I, J, B, D) (0, (kk, nI sz, -1) :: (bk, nd, nI sz) :: fr, I2, J, B2, D) := ⟨a, sz, bs, ln, bk, nd, lt, fr, I, I2, J, J, B, B2, D, D, ⟨hT.1, h16, h9, h11, by omega, by omega, by omega, by omega⟩, Or.inr (Or.inl ⟨kk, _, rfl, rfl, by omega, hkk.elim Or.inl (fun z => Or.inr (Or.inl z)), hTA⟩)⟩
    -- the bodies one by one
    have loop : ∀ (m a1 c : Nat) (I3 : Nat → Int32) (J3 : Nat → Int64) (B3 : Nat → Nat → Int32) (D3 : Nat → Nat → Int64), n - a1 ≤ m → c ≤ a1 → TY (B3 1) f (I3 5) (I3 4) a1 n → star (bst f n kd) (0, (bk, nd, lt) :: fr, I, J, B, D) (0, (kk, nI sz, -1) :: (bk, nd, nI sz) :: fr, I3, J3, B3, D3) → wc_ModelReader_readChoice_R_111 P0 P1 P2 P3 nd lt (nI d) (wl_ModelReader_readChoice_R_86 P0 P1 P2 P3 nd lt (nI d) Post PX (m + 1)) Post PX (nI d) (nI sz) (nI c) I3 J3 B3 D3 := by
      intro m
      induction m with
      | zero =>
        intro a1 c I3 J3 B3 D3 hm hc hT3 hs z2 e2
        have n2 : z2 = nI (d + 1) := inI rfl e2
        rw [n2]
        have hB3 := BI_star hB hs
        have hn3 := hT3.2.2
        refine h0 (by omega) I3 J3 B3 D3 kk (nI sz) ((bk, nd, nI sz) :: fr) _ PX (by simp; omega) hB3 ?_ (kf.mono hs)
        intro I4 J4 B4 D4 v k1 k2 z4 e4
        exfalso
        obtain ⟨a', w1, w2, w3, w4⟩ := bstar_pos hB3 k1 (a := a1) hT3.1 (by omega)
        obtain ⟨a2, hT2⟩ := (BI_star hB3 k1).ty
        have := hT2.2.2
        have : a' = a2 := nI_inj (by omega) (by omega) (w1.symm.trans hT2.1)
        rcases w4 with w4 | w4
        · exact absurd (show (0 : Nat) = 1 from w4) (by decide)
        · omega
      | succ m ih =>
        intro a1 c I3 J3 B3 D3 hm hc hT3 hs z2 e2
        have n2 : z2 = nI (d + 1) := inI rfl e2
        rw [n2]
        have hB3 := BI_star hB hs
        have hn3 := hT3.2.2
        refine h0 (by omega) I3 J3 B3 D3 kk (nI sz) ((bk, nd, nI sz) :: fr) _ PX (by simp; omega) hB3 ?_ (kf.mono hs)
        intro I4 J4 B4 D4 v k1 k2 z4 e4
        have n4 : z4 = nI (c + 1) := inI rfl e4
        rw [n4]
        obtain ⟨a', w1, w2, w3, w4⟩ := bstar_pos hB3 k1 (a := a1) hT3.1 (by omega)
        have hs2 := hs.trans k1
        have hB4 := BI_star hB hs2
        obtain ⟨a9, sz9, pt9, bs9, pr9, ln9, hT9, j16, j17, j9, j10, j11, m1, m2, m3, m4, m5, m6, m7, m8, m9⟩ := id hB4
        dsimp only at hT9 j16 j17 j9 j10 j11 m5 m6 m7 m8 m9
        simp only [List.length_cons] at m5 m6
        have hn9 := hT9.2.2
        have e9 : a' = a9 := nI_inj (by omega) (by omega) (w1.symm.trans hT9.1)
        subst e9
        have hlt : a1 < a' := by
          rcases w4 with w4 | w4
          · exact absurd (show (0 : Nat) = 1 from w4) (by decide)
          · exact w4
        rw [hT9.tk] at k2
        have hb : I4 5 = nI a' ∧ I4 16 = nI sz9 ∧ I4 9 = nI bs9 ∧ I4 11 = nI ln9 ∧ a' ≤ 1000 ∧ sz9 ≤ 1000 ∧ bs9 ≤ 1000 ∧ ln9 ≤ 1000 := ⟨hT9.1, j16, j9, j11, by omega, by omega, by omega, by omega⟩
        have wexp : ¬ tkn f n a' = 124 → wc_ModelReader_readChoice_R_126 P0 P1 P2 P3 nd lt (nI d) Post PX (nI sz) I4 J4 B4 D4 := by
          intro h124
          refine q_expect hT9 (fun g2 => ?_) (fun g2 => ?_)
          · have hst2 : bst f n kd (1, (kk, nI sz, v) :: (bk, nd, nI sz) :: fr, I4, J4, B4, D4) (1, (bk, nd, nI sz) :: fr, upd I4 5 (nI (a' + 1)), J4, B4, D4) := ⟨a', sz9, bs9, ln9, kk, nI sz, v, (bk, nd, nI sz) :: fr, I4, _, J4, J4, B4, B4, D4, D4, hb, Or.inr (Or.inr (Or.inr (Or.inr (Or.inr (Or.inl ⟨rfl, rfl, Or.inl ⟨g2, hk⟩, by simp [upd], fun k hk => by simp [upd, hk]⟩)))))⟩
            exact kok _ _ _ _ _ (hs2.tail hst2)
          · refine (kf.mono hs2).at (q := a') ⟨a', kk, nI sz, v, (bk, nd, nI sz) :: fr, I4, J4, B4, D4, ⟨hT9.1, by omega⟩, Or.inr ⟨rfl, rfl, fun z => ?_, k2, fun z => h124 z.1, fun z => absurd z.2 (by simp)⟩⟩ RFr.rf hT9.1
            rcases z with z | z
            · exact g2 z.1
            · have := z.2; omega
        refine ⟨fun g => ?_, fun _ => ⟨fun g => ?_, fun _ => q_accept hT9 (fun g => ⟨fun z => absurd z (by decide), fun _ => ?_⟩) (fun g => ⟨fun _ => wexp g, fun z => absurd rfl z⟩)⟩⟩
        · have g := (leI (x := 240) (a := 240) rfl rfl (by omega) (by omega)).mp g
          exact wexp (fun e => by have := tkn_le e (by decide); omega)
        · have := (eqI (x := nI (c + 1)) rfl (y := 0) (b := 0) rfl (by omega) (by omega)).mp g
          omega
        · have ha1 := tkn_le g (by decide)
          have hst2 : bst f n kd (1, (kk, nI sz, v) :: (bk, nd, nI sz) :: fr, I4, J4, B4, D4) (0, (kk, nI sz, -1) :: (bk, nd, nI sz) :: fr, upd I4 5 (nI (a' + 1)), J4, B4, D4) := ⟨a', sz9, bs9, ln9, kk, nI sz, v, (bk, nd, nI sz) :: fr, I4, _, J4, J4, B4, B4, D4, D4, hb, Or.inr (Or.inr (Or.inr (Or.inr (Or.inr (Or.inr (Or.inr ⟨rfl, rfl, g, hk, by simp [upd], fun k hk => by simp [upd, hk]⟩))))))⟩
          exact ih (a' + 1) (c + 1) _ J4 B4 D4 (by omega) (by omega) (hT9.up rfl ha1) (hs2.tail hst2)
    obtain ⟨a1, hT1⟩ := (BI_step hB hst).ty
    refine ⟨n + 2, fun g => absurd g (by decide), fun _ => ⟨fun _ => loop n a1 0 I2 J B2 D (by omega) (by omega) hT1 (one1 hst), fun g => absurd rfl g⟩⟩
  refine ⟨fun g => ?_, fun g => ?_⟩
  · -- "*" or not
    refine q_accept hT (fun w => ⟨fun z => absurd z (by decide), fun _ => ?_⟩) (fun w => ⟨fun _ => ?_, fun z => absurd rfl z⟩)
    · have ha1 := tkn_le w (by decide)
      have hT1 : TY (B 1) f (upd I 5 (nI (a + 1)) 5) (upd I 5 (nI (a + 1)) 4) (a + 1) n := hT.up rfl ha1
      refine q_ahead hT1.tx ?_
      rw [hT1.tk]
      have bad2 : (¬ tkn f n (a + 1) = 91 ∨ fr.length = 6) → PX IAE (upd (upd I 5 (nI (a + 1))) 6 (upd I 5 (nI (a + 1)) 5)) J B D := fun z => bad (a + 1) (Or.inr ⟨w, Or.inr ⟨rfl, g, z⟩⟩) _ rfr5 (by simp [upd])
      refine ⟨fun w2 => bad2 (Or.inl w2), fun w2 => ⟨fun w3 => ?_, fun w3 => bad2 (Or.inr (hd.trans (e6.mp w3)))⟩⟩
      exact inner 2 _ (a + 1) ha1 (fun z => w3 (e6.mpr z)) (by simp [upd]) (by simpa [upd] using h16) (Or.inr ⟨rfl, w, w2, g, by simp [upd], fun k hk => by simp [upd, hk]⟩)
    · have h91' : tkn f n a = 91 := h91.resolve_right w
      refine q_ahead hT.tx ?_
      rw [hT.tk]
      refine ⟨fun w2 => absurd h91' w2, fun _ => ⟨fun w3 => ?_, fun w3 => bad a (Or.inl ⟨h91', rfl, Or.inr (hd.trans (e6.mp w3))⟩) I RFr.rf hT.1⟩⟩
      exact inner 1 I a (by omega) (fun z => w3 (e6.mpr z)) hT.1 h16 (Or.inl ⟨rfl, h91', g, by simp [upd], fun k hk => by simp [upd, hk]⟩)
  · rcases h91 with w | w
    · exact bad a (Or.inl ⟨w, rfl, Or.inl g⟩) I RFr.rf hT.1
    · exact bad a (Or.inr ⟨w, Or.inl ⟨rfl, g⟩⟩) I RFr.rf hT.1
end ZE7
