/-! Statements: the class reads the basic ones. -/
section ZE6
variable {I : Nat → Int32} {J : Nat → Int64} {B : Nat → Nat → Int32} {D : Nat → Nat → Int64}
theorem okF.kind {B : Nat → Nat → Int32} {sz bk : Nat} {nd lt : Int32} {fr : zF} (h : okF B sz ((bk, nd, lt) :: fr)) (hn : ¬ nd = -1) : ∃ j, j < sz ∧ nd = nI j ∧ B 18 j = nI bk ∧ 1 ≤ bk ∧ bk ≤ 3 := by
  rcases h.2 with w | ⟨w1, w2, w3, j, hj, e1, e2, _⟩
  · exact absurd w.2.2 hn
  · exact ⟨j, hj, e1, e2, w2, w3⟩
theorem q_basic {P0 : zTgm0} {P1 : zTgm1} {P2 : zTgm2} {P3 : zTgm3} {b0 b1 b2 : Int32} {Post : Int32 → (Nat → Int32) → (Nat → Int64) → (Nat → Nat → Int32) → (Nat → Nat → Int64) → Prop} {PX : String → (Nat → Int32) → (Nat → Int64) → (Nat → Nat → Int32) → (Nat → Nat → Int64) → Prop} {f : Nat → Int32} {n : Nat} {kd : Nat → Int32} {bk : Nat} {nd lt : Int32} {fr : zF} {a : Nat} (hT : TY (B 1) f (I 5) (I 4) a n) (hB : BI f n kd (0, (bk, nd, lt) :: fr, I, J, B, D)) (hc : ¬ tkn f n a = 58 ∧ ¬ tkn f n a = 91 ∧ ¬ tkn f n a = 42 ∧ ¬ tkn f n a = 60 ∧ ¬ tkn f n a = 46 ∧ ¬ tkn f n a = 94) (h30 : ¬ I 17 = 30) (h48 : ¬ I 9 = 48)
    (kok : ∀ v I' J' B' D', bst f n kd (0, (bk, nd, lt) :: fr, I, J, B, D) (1, (bk, nd, v) :: fr, I', J', B', D') → Post v I' J' B' D') (kf : KF f n kd (0, (bk, nd, lt) :: fr, I, J, B, D) PX) : wc_ModelReader_readStatement_R_117 P0 P1 P2 P3 b0 b1 b2 Post PX nd lt I J B D := by
  obtain ⟨a2, sz, pt, bs, pr, ln, hT2, h16, h17, h9, h10, h11, l1, l2, l3, l4, l5, l6, l7, l8, l9⟩ := id hB
  dsimp only at hT2 h16 h17 h9 h10 h11 l5 l6 l7 l8 l9
  have hn := hT.2.2.2.1
  have han := hT.2.2.1
  have q1 : a2 = a := nI_inj (by have := hT2.2.2; omega) (by omega) (hT2.1.symm.trans hT.1)
  subst q1
  simp only [List.length_cons] at l5 l6
  have hbb : bs < 48 := by
    have : ¬ bs = 48 := fun z => h48 (by rw [h9, z]; rfl)
    omega
  refine q_tadd (sz := sz) h16 (by omega) l9.hd l9.1 ?_
  intro I1 B1 hTA
  obtain ⟨t1, t2, t3, t18, t19, t20, t21, t22, t23, t24, t25, tk⟩ := id hTA
  have hv : vp_in (nI sz) 240 := vin2 rfl (by omega) (by omega)
  refine ⟨hv, ?_⟩
  rw [clI (x := nI sz) rfl (by omega)]
  have i9 : I1 9 = nI bs := (t3 9 (by decide)).trans h9
  have i11 : I1 11 = nI ln := (t3 11 (by decide)).trans h11
  generalize hB2 : va_up B1 26 (upd (B1 26) sz (I1 9)) = B2
  have b26 : B2 26 = upd (B1 26) sz (nI bs) := by rw [← hB2]; simp [va_up, i9]
  have bk2 : ∀ k, k ≠ 26 → B2 k = B1 k := by intro k hk; rw [← hB2]; simp [va_up, hk]
  have hTy : TY (B2 1) f (I1 5) (I1 4) a2 n := by
    rw [bk2 1 (by decide), tk 1 (by decide), t3 5 (by decide), t3 4 (by decide)]; exact hT
  have hkd : ∀ j, j < 8 → B2 2 j = kd j := by
    intro j hj; rw [bk2 2 (by decide), tk 2 (by decide)]; exact l8 j hj
  have hR1 : RFr I J B D I1 J B2 D := (hTA.rfr (J := J) (D := D)).tr ⟨fun _ _ => rfl, fun _ _ => rfl, fun k hk => bk2 k (by omega), fun _ _ => rfl⟩
  have bad : ∀ (q : Nat), BASF f n kd bk nd lt a2 q → ∀ I' J' B' D', RFr I J B D I' J' B' D' → I' 5 = nI q → PX IAE (upd I' 6 (I' 5)) J' B' D' := by
    intro q hq I' J' B' D' hr h5
    exact kf.at (q := q) ⟨a2, bk, nd, lt, fr, I, J, B, D, ⟨hT.1, by omega⟩, Or.inl ⟨rfl, Or.inr (Or.inr (Or.inr (Or.inr (Or.inr (Or.inr ⟨hc.1, hc.2.1, hc.2.2.1, hc.2.2.2.1, hc.2.2.2.2.1, hc.2.2.2.2.2, Or.inr ⟨h30, h48, hq⟩⟩)))))⟩⟩ hr h5
  have good : ∀ (pk ch vr : Int32) (ex : Nat) (out : List Int32) (a' : Nat) (I' : Nat → Int32) (J' : Nat → Int64) (B' : Nat → Nat → Int32) (D' : Nat → Nat → Int64), BAS f n kd bk nd lt a2 pk ch vr ex out a' → BA nd lt pk ch vr ex out sz bs ln a' I J B D I' J' B' D' → Post (nI sz) I' J' B' D' := by
    intro pk ch vr ex out a' I' J' B' D' hbas hba
    exact kok _ _ _ _ _ ⟨a2, sz, bs, ln, bk, nd, lt, fr, I, I', J, J', B, B', D, D', ⟨hT.1, h16, h9, h11, by omega, by omega, by omega, by omega⟩, Or.inr (Or.inr (Or.inr (Or.inr (Or.inl ⟨pk, ch, vr, ex, out, a', rfl, rfl, h30, h48, hbas, hba⟩))))⟩
  -- without an expression
  have simple : ∀ (pk ch vr : Int32) (p : Nat), (pk = 3 → vp_in ch 8) → BAS f n kd bk nd lt a2 pk ch vr 0 [] (p + 1) → ∀ (I3 : Nat → Int32), (∀ k, k ≠ 5 → I3 k = I1 k) → I3 5 = nI (p + 1) → ∀ I4 J4 B4 D4, PA pk ch vr (-1) bs I3 J B2 D I4 J4 B4 D4 → Post (nI sz) I4 J4 B4 D4 := by
    intro pk ch vr p _ hbas I3 hI3 h35 I4 J4 B4 D4 hPA
    refine good pk ch vr 0 [] (p + 1) I4 J4 B4 D4 hbas (mkBA hTA (I3 := I3) (B3 := B2) (fun k hk => ?_) ?_ (fun k hk => ?_) b26 (fun k hk => ?_) (fun z => absurd z (by decide)) hPA ?_ (fun _ _ => rfl))
    · simp at hk; exact hI3 k (by simp [hk])
    · rw [hI3 11 (by decide)]; exact i11
    · simp at hk; exact bk2 k (by simp [hk])
    · rw [bk2 15 (by decide)]
    · rw [hPA.2.1 5 (by decide)]; exact h35
  -- with one
  have expr : ∀ (pk ch vr : Int32) (a' : Nat) (out : List Int32), ¬ pk = 3 → BAS f n kd bk nd lt a2 pk ch vr 1 out a' → ∀ (I2 I3 : Nat → Int32) (B3 : Nat → Nat → Int32), (∀ k, k ≠ 5 → I2 k = I1 k) → FCA ln I2 B2 I3 B3 → I3 11 = nI (ln + out.length + 1) → rep (B3 15) ln (22 :: out) → ∀ I4 J4 B4 D4, PA pk ch vr (nI ln) bs I3 J B3 D I4 J4 B4 D4 → ∀ I5, I5 5 = nI a' → (∀ k, k ≠ 5 → I5 k = I4 k) → Post (nI sz) I5 J4 B4 D4 := by
    intro pk ch vr a' out _ hbas I2 I3 B3 hI2 hF h311 hrep I4 J4 B4 D4 hPA I5 h5 h5k
    refine good pk ch vr 1 out a' I5 J4 B4 D4 hbas (mkBA hTA (I3 := I3) (B3 := B3) (fun k hk => ?_) ?_ (fun k hk => ?_) ?_ (fun k hk => ?_) (fun _ => hrep) hPA h5 h5k)
    · have hk' := hk
      simp at hk; rw [hF.1 k hk']; exact hI2 k (by simp [hk])
    · rw [if_pos rfl]; exact h311
    · simp at hk; rw [hF.2.1 k (by simp [hk])]; exact bk2 k (by simp [hk])
    · rw [hF.2.1 26 (by decide)]; exact b26
    · rw [hF.2.2 k hk, bk2 15 (by decide)]
  have hFr : ∀ (I2 : Nat → Int32) (I3 : Nat → Int32) (B3 : Nat → Nat → Int32), (∀ k, k ≠ 5 → I2 k = I1 k) → FCA ln I2 B2 I3 B3 → RFr I J B D I3 J B3 D := by
    intro I2 I3 B3 hI2 hF
    refine hR1.tr ⟨fun k hk => ?_, fun _ _ => rfl, fun k hk => hF.2.1 k (by simp; omega), fun _ _ => rfl⟩
    rw [hF.1 k (by simp; omega)]; exact hI2 k (by omega)
  have hPr : ∀ (pk ch vr tm : Int32) (I3 : Nat → Int32) (B3 : Nat → Nat → Int32) I4 J4 B4 D4, RFr I J B D I3 J B3 D → PA pk ch vr tm bs I3 J B3 D I4 J4 B4 D4 → RFr I J B D I4 J4 B4 D4 := by
    intro pk ch vr tm I3 B3 I4 J4 B4 D4 hr hPA
    obtain ⟨p1, p2, p3, p4, p5, p6, p7, p8, p9, p10, p11, p12⟩ := hPA
    exact hr.tr ⟨fun k hk => p2 k (by omega), p4, fun k hk => p10 k (by simp; omega), fun k hk => p12 k (by omega)⟩
  have u5 : ∀ (v : Int32) k, k ≠ 5 → (upd I1 5 v) k = I1 k := by intro v k hk; simp [upd, hk]
  refine q_ahead hTy.tx ?_
  rw [hTy.tk]
  refine ⟨fun g => ?_, fun g => ?_, fun g => ?_, fun g1 g2 g3 => ?_⟩
  · -- (expression)
    have ha1 := tkn_le g (by decide)
    refine q_skip hTy.1 ?_
    refine q_read_A (f := f) (n := n) (b := ln) (ob := 1) (a := a2 + 1) (kd := kd) (by omega) (by omega) (hTy.up rfl ha1) i11 hkd ?_ ?_
    · intro I3 B3 a1 out hE hF hT3 h311 hrep
      have i93 : I3 9 = nI bs := (hF.1 9 (by decide)).trans ((u5 _ 9 (by decide)).trans i9)
      refine q_padd (bs := bs) i93 hbb (fun z => absurd z (by decide)) ?_
      intro I4 J4 B4 D4 hPA
      have hT4 : TY (B4 1) f (I4 5) (I4 4) a1 n := by
        rw [hPA.2.2.2.2.2.2.2.2.2.1 1 (by decide), hPA.2.1 5 (by decide), hPA.2.1 4 (by decide)]; exact hT3
      refine q_expect hT4 (fun w => ?_) (fun w => ?_)
      · exact expr 1 (-1) (-1) (a1 + 1) out (by decide) (Or.inr (Or.inr (Or.inl ⟨g, rfl, rfl, rfl, rfl, a1, hE, w, rfl⟩))) _ I3 B3 (u5 _) hF h311 hrep I4 J4 B4 D4 hPA _ (by simp [upd]) (fun k hk => by simp [upd, hk])
      · exact bad a1 (Or.inr (Or.inl ⟨g, Or.inr ⟨out, hE, w⟩⟩)) I4 J4 B4 D4 (hPr _ _ _ _ _ _ _ _ _ _ (hFr _ _ _ (u5 _) hF) hPA) hT4.1
    · intro I3 B3 a1 hE hF h5
      exact bad a1 (Or.inr (Or.inl ⟨g, Or.inl hE⟩)) I3 J B3 D (hFr _ _ _ (u5 _) hF) h5
  · -- nothing
    refine q_skip hTy.1 ?_
    refine q_padd (bs := bs) ((u5 _ 9 (by decide)).trans i9) hbb (fun z => absurd z (by decide)) ?_
    intro I4 J4 B4 D4 hPA
    exact simple 4 (-1) (-1) a2 (fun z => absurd z (by decide)) (Or.inl ⟨g, rfl, rfl, rfl, rfl, rfl, rfl⟩) _ (u5 _) (by simp [upd]) I4 J4 B4 D4 hPA
  · -- else
    refine q_leads (fun w => ⟨fun z => absurd z (by decide), fun _ => ?_⟩) (fun w => ⟨fun _ => ?_, fun z => absurd rfl z⟩)
    · obtain ⟨j, hj, e1, e2, e3, e4⟩ := l9.kind w.1
      have hb18 : B2 18 nd.toNatClampNeg = nI bk := by
        rw [clI e1 (by omega), bk2 18 (by decide), t18]
        have : ¬ j = sz := by omega
        simp only [upd, this, if_false]; exact e2
      have c3 : nI bk = 3 ↔ bk = 3 := nI_lit (k := bk) (by omega) (c := 3) (by omega)
      refine ⟨vin2 e1 (by omega) (by omega), fun z6 e6 => ⟨fun w2 => ?_, fun w2 => ?_⟩⟩
      · rw [e6, hb18] at w2
        refine q_skip hTy.1 ?_
        refine q_padd (bs := bs) ((u5 _ 9 (by decide)).trans i9) hbb (fun z => absurd z (by decide)) ?_
        intro I4 J4 B4 D4 hPA
        exact simple 5 (-1) (-1) a2 (fun z => absurd z (by decide)) (Or.inr (Or.inl ⟨g, w.1, w.2, fun z => w2 (c3.mpr z), rfl, rfl, rfl, rfl, rfl, rfl⟩)) _ (u5 _) (by simp [upd]) I4 J4 B4 D4 hPA
      · rw [e6, hb18] at w2
        exact bad a2 (Or.inl ⟨g, rfl, Or.inr (Or.inr (c3.mp w2))⟩) I1 J B2 D hR1 hTy.1
    · refine bad a2 (Or.inl ⟨g, rfl, ?_⟩) I1 J B2 D hR1 hTy.1
      by_cases z : nd = -1
      · exact Or.inl z
      · exact Or.inr (Or.inl (fun z2 => w ⟨z, z2⟩))
  · -- a name
    refine q_oneOf (Or.inr (Or.inr rfl)) hTy.tx ?_
    rw [hTy.tk]
    have badn : ∀ q, ((q = a2 ∧ (one (tkn f n a2) 97 8 = -1 ∨ kd (one (tkn f n a2) 97 8).toNatClampNeg = 0)) ∨ (¬ one (tkn f n a2) 97 8 = -1 ∧ ¬ kd (one (tkn f n a2) 97 8).toNatClampNeg = 0 ∧ ((kd (one (tkn f n a2) 97 8).toNatClampNeg = 1 ∧ ((q = a2 + 1 ∧ ¬ tkn f n (a2 + 1) = 61) ∨ (tkn f n (a2 + 1) = 61 ∧ EXPF f n kd 0 (a2 + 2) q))) ∨ (¬ kd (one (tkn f n a2) 97 8).toNatClampNeg = 1 ∧ ((q = a2 + 1 ∧ ¬ tkn f n (a2 + 1) = 33 ∧ ¬ tkn f n (a2 + 1) = 63) ∨ (tkn f n (a2 + 1) = 33 ∧ EXPF f n kd 0 (a2 + 2) q) ∨ (tkn f n (a2 + 1) = 63 ∧ q = a2 + 2 ∧ (one (tkn f n (a2 + 2)) 97 8 = -1 ∨ ¬ kd (one (tkn f n (a2 + 2)) 97 8).toNatClampNeg = 1))))))) → ∀ I' J' B' D', RFr I J B D I' J' B' D' → I' 5 = nI q → PX IAE (upd I' 6 (I' 5)) J' B' D' := fun q hq => bad q (Or.inr (Or.inr ⟨g2, g3, g1, hq⟩))
    refine ⟨fun w => badn a2 (Or.inl ⟨rfl, Or.inl w⟩) I1 J B2 D hR1 hTy.1, fun w => ?_⟩
    obtain ⟨wl, wv⟩ := one_lt w
    have ha1 : a2 + 1 ≤ n := one_tk (Or.inr (Or.inr rfl)) w
    refine ⟨wv, fun z22 e22 => ⟨fun w0 => ?_, fun w0 => badn a2 (Or.inl ⟨rfl, Or.inr (by rw [← hkd _ wl, ← e22]; exact w0)⟩) I1 J B2 D hR1 hTy.1⟩⟩
    have w0 : ¬ kd (one (tkn f n a2) 97 8).toNatClampNeg = 0 := by rw [← hkd _ wl, ← e22]; exact w0
    refine q_skip hTy.1 ⟨wv, fun z5 e5 => ?_⟩
    have e5 : z5 = kd (one (tkn f n a2) 97 8).toNatClampNeg := e5.trans (hkd _ wl)
    have hT1 : TY (B2 1) f (upd I1 5 (nI (a2 + 1)) 5) (upd I1 5 (nI (a2 + 1)) 4) (a2 + 1) n := hTy.up rfl ha1
    have hR2 : RFr I J B D (upd I1 5 (nI (a2 + 1))) J B2 D := hR1.tr rfr5
    have u52 : ∀ (v v2 : Int32) k, k ≠ 5 → (upd (upd I1 5 v) 5 v2) k = I1 k := by intro v v2 k hk; simp [upd, hk]
    refine ⟨fun w1 => ?_, fun w1 => ?_⟩
    · rw [e5] at w1
      refine q_accept hT1 (fun w2 => ⟨fun z => absurd z (by decide), fun _ => ?_⟩) (fun w2 => ⟨fun _ => ?_, fun z => absurd rfl z⟩)
      · -- a SEND
        have ha2 := tkn_le w2 (by decide)
        refine q_read_A (f := f) (n := n) (b := ln) (ob := 0) (a := a2 + 2) (kd := kd) (by omega) (by omega) (hT1.up rfl ha2) i11 hkd ?_ ?_
        · intro I3 B3 a1 out hE hF hT3 h311 hrep
          have i93 : I3 9 = nI bs := (hF.1 9 (by decide)).trans ((u52 _ _ 9 (by decide)).trans i9)
          refine q_padd (bs := bs) i93 hbb (fun z => absurd z (by decide)) ?_
          intro I4 J4 B4 D4 hPA
          exact expr 2 _ (-1) a1 out (by decide) (Or.inr (Or.inr (Or.inr (Or.inr (Or.inl ⟨w, w0, w1, w2, rfl, rfl, rfl, rfl, hE⟩))))) _ I3 B3 (u52 _ _) hF h311 hrep I4 J4 B4 D4 hPA I4 ((hPA.2.1 5 (by decide)).trans hT3.1) (fun _ _ => rfl)
        · intro I3 B3 a1 hE hF h5
          exact badn a1 (Or.inr ⟨w, w0, Or.inr ⟨w1, Or.inr (Or.inl ⟨w2, hE⟩)⟩⟩) I3 J B3 D (hFr _ _ _ (u52 _ _) hF) h5
      · -- a RECEIVE
        refine q_expect hT1 (fun w3 => ?_) (fun w3 => badn (a2 + 1) (Or.inr ⟨w, w0, Or.inr ⟨w1, Or.inl ⟨rfl, w2, w3⟩⟩⟩) _ J B2 D hR2 (by simp [upd]))
        have ha2 := tkn_le w3 (by decide)
        have hT2' : TY (B2 1) f (upd (upd I1 5 (nI (a2 + 1))) 5 (nI (a2 + 2)) 5) (upd (upd I1 5 (nI (a2 + 1))) 5 (nI (a2 + 2)) 4) (a2 + 2) n := hT1.up rfl ha2
        refine q_oneOf (Or.inr (Or.inr rfl)) hT2'.tx ?_
        rw [hT2'.tk]
        have bad3 : (one (tkn f n (a2 + 2)) 97 8 = -1 ∨ ¬ kd (one (tkn f n (a2 + 2)) 97 8).toNatClampNeg = 1) → PX IAE (upd (upd (upd I1 5 (nI (a2 + 1))) 5 (nI (a2 + 2))) 6 (upd (upd I1 5 (nI (a2 + 1))) 5 (nI (a2 + 2)) 5)) J B2 D := fun z => badn (a2 + 2) (Or.inr ⟨w, w0, Or.inr ⟨w1, Or.inr (Or.inr ⟨w3, rfl, z⟩)⟩⟩) _ J B2 D (hR2.tr rfr5) (by simp [upd])
        refine ⟨fun w4 => bad3 (Or.inl w4), fun w4 => ?_⟩
        obtain ⟨wl4, wv4⟩ := one_lt w4
        refine ⟨wv4, fun z12 e12 => ⟨fun w5 => ?_, fun w5 => bad3 (Or.inr (by rw [← hkd _ wl4, ← e12]; exact w5))⟩⟩
        have w5 : kd (one (tkn f n (a2 + 2)) 97 8).toNatClampNeg = 1 := by rw [← hkd _ wl4, ← e12]; exact w5
        refine q_skip (a := a2 + 2) (by simp [upd]) ?_
        refine q_padd (bs := bs) (by simpa [upd] using i9) hbb (fun _ => wv) ?_
        intro I4 J4 B4 D4 hPA
        exact simple 3 _ _ (a2 + 2) (fun _ => wv) (Or.inr (Or.inr (Or.inr (Or.inr (Or.inr ⟨w, w0, w1, w3, w4, w5, rfl, rfl, rfl, rfl, rfl, rfl⟩))))) _ (fun k hk => by simp [upd, hk]) (by simp [upd]) I4 J4 B4 D4 hPA
    · rw [e5] at w1
      refine q_expect hT1 (fun w2 => ?_) (fun w2 => badn (a2 + 1) (Or.inr ⟨w, w0, Or.inl ⟨w1, Or.inl ⟨rfl, w2⟩⟩⟩) _ J B2 D hR2 (by simp [upd]))
      have ha2 := tkn_le w2 (by decide)
      refine q_read_A (f := f) (n := n) (b := ln) (ob := 0) (a := a2 + 2) (kd := kd) (by omega) (by omega) (hT1.up rfl ha2) i11 hkd ?_ ?_
      · intro I3 B3 a1 out hE hF hT3 h311 hrep
        have i93 : I3 9 = nI bs := (hF.1 9 (by decide)).trans ((u52 _ _ 9 (by decide)).trans i9)
        refine q_padd (bs := bs) i93 hbb (fun z => absurd z (by decide)) ?_
        intro I4 J4 B4 D4 hPA
        exact expr 0 (-1) _ a1 out (by decide) (Or.inr (Or.inr (Or.inr (Or.inl ⟨w, w1, w2, rfl, rfl, rfl, rfl, hE⟩)))) _ I3 B3 (u52 _ _) hF h311 hrep I4 J4 B4 D4 hPA I4 ((hPA.2.1 5 (by decide)).trans hT3.1) (fun _ _ => rfl)
      · intro I3 B3 a1 hE hF h5
        exact badn a1 (Or.inr ⟨w, w0, Or.inl ⟨w1, Or.inr ⟨w2, hE⟩⟩⟩) I3 J B3 D (hFr _ _ _ (u52 _ _) hF) h5
end ZE6
