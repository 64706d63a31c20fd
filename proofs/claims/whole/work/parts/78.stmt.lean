/-! Statements: the class reads those without a body. -/
section ZE5
variable {I : Nat → Int32} {J : Nat → Int64} {B : Nat → Nat → Int32} {D : Nat → Nat → Int64}
/-- what is thrown is as the steps say -/
def KF (f : Nat → Int32) (n : Nat) (kd : Nat → Int32) (s : zBo) (PX : String → (Nat → Int32) → (Nat → Int64) → (Nat → Nat → Int32) → (Nat → Nat → Int64) → Prop) : Prop := ∀ s1 q I' J' B' D', star (bst f n kd) s s1 → bfail f n kd s1 q → RFr s1.2.2.1 s1.2.2.2.1 s1.2.2.2.2.1 s1.2.2.2.2.2 I' J' B' D' → I' 6 = nI q → PX IAE I' J' B' D'
theorem KF.mono {f : Nat → Int32} {n : Nat} {kd : Nat → Int32} {s t : zBo} {PX : String → (Nat → Int32) → (Nat → Int64) → (Nat → Nat → Int32) → (Nat → Nat → Int64) → Prop} (h : KF f n kd s PX) (g : star (bst f n kd) s t) : KF f n kd t PX := fun s1 q I' J' B' D' k1 k2 k3 k4 => h s1 q I' J' B' D' (g.trans k1) k2 k3 k4
theorem KF.at {f : Nat → Int32} {n : Nat} {kd : Nat → Int32} {s : zBo} {PX : String → (Nat → Int32) → (Nat → Int64) → (Nat → Nat → Int32) → (Nat → Nat → Int64) → Prop} (h : KF f n kd s PX) {q : Nat} {I' : Nat → Int32} {J' : Nat → Int64} {B' : Nat → Nat → Int32} {D' : Nat → Nat → Int64} (h1 : bfail f n kd s q) (h2 : RFr s.2.2.1 s.2.2.2.1 s.2.2.2.2.1 s.2.2.2.2.2 I' J' B' D') (h3 : I' 5 = nI q) : PX IAE (upd I' 6 (I' 5)) J' B' D' := by
  refine h s q _ J' B' D' (star.refl _) h1 (h2.tr ⟨fun k hk => ?_, fun _ _ => rfl, fun _ _ => rfl, fun _ _ => rfl⟩) (by simp [upd, h3])
  have : ¬ k = 6 := by omega
  simp [upd, this]
theorem rfr5 {v : Int32} : RFr I J B D (upd I 5 v) J B D := by
  refine ⟨fun k hk => ?_, fun _ _ => rfl, fun _ _ => rfl, fun _ _ => rfl⟩
  have : ¬ k = 5 := by omega
  simp [upd, this]
theorem q_labels {Post : (Nat → Int32) → (Nat → Int64) → (Nat → Nat → Int32) → (Nat → Nat → Int64) → Prop} {PX : String → (Nat → Int32) → (Nat → Int64) → (Nat → Nat → Int32) → (Nat → Nat → Int64) → Prop} {f : Nat → Int32} {n : Nat} {kd : Nat → Int32} {F : zF} : ∀ (d a c : Nat) (I : Nat → Int32) (B : Nat → Nat → Int32), n - a ≤ d → c ≤ a → TY (B 1) f (I 5) (I 4) a n → BI f n kd (0, F, I, J, B, D) →
    (∀ I' B', star (bst f n kd) (0, F, I, J, B, D) (0, F, I', J, B', D) → ¬ tok (B' 1) (I' 5) (I' 4) = 58 → Post I' J B' D) → KF f n kd (0, F, I, J, B, D) PX → wl_ModelReader_readLabels_2 Post PX (d + 1) (nI c) I J B D := by
  intro d
  induction d with
  | zero =>
    intro a c I B hd hc hT hB kok kf
    have hne : ¬ tkn f n a = 58 := fun e => by have := tkn_le e (by decide); omega
    have hp : Post I J B D := kok I B (star.refl _) (by rw [hT.tk]; exact hne)
    refine ⟨fun _ => hp, fun _ => q_accept hT (fun g => absurd g hne) (fun g => ⟨fun _ => hp, fun w => absurd rfl w⟩)⟩
  | succ d ih =>
    intro a c I B hd hc hT hB kok kf
    have hn := hT.2.2.2.1
    have han := hT.2.2.1
    refine ⟨fun g => ?_, fun _ => q_accept hT (fun g => ⟨fun w => absurd w (by decide), fun _ => ?_⟩) (fun g => ⟨fun _ => kok I B (star.refl _) (by rw [hT.tk]; exact g), fun w => absurd rfl w⟩)⟩
    · have g := (leI (x := 240) (a := 240) rfl rfl (by omega) (by omega)).mp g
      refine kok I B (star.refl _) (fun e => ?_)
      rw [hT.tk] at e
      have := tkn_le e (by decide); omega
    have ha1 := tkn_le g (by decide)
    have hT1 : TY (B 1) f (upd I 5 (nI (a + 1)) 5) (upd I 5 (nI (a + 1)) 4) (a + 1) n := hT.up rfl ha1
    refine q_oneOf (Or.inr (Or.inl rfl)) hT1.tx ?_
    rw [hT1.tk]
    obtain ⟨a2, sz, pt, bs, pr, ln, hT2, h16, h17, h9, h10, h11, l1, l2, l3, l4, l5, l6, l7, l8, l9⟩ := id hB
    dsimp only at hT2 h16 h17 h9 h10 h11 l5 l6 l7 l8 l9
    have q1 : a2 = a := nI_inj (by have := hT2.2.2; omega) (by omega) (hT2.1.symm.trans hT.1)
    subst q1
    cases F with
    | nil => exact l9.elim
    | cons x fr =>
    obtain ⟨bk, nd, lt⟩ := x
    have bad : (one (tkn f n (a2 + 1)) 65 8 = -1 ∨ ¬ B 28 (one (tkn f n (a2 + 1)) 65 8).toNatClampNeg = -3) → PX IAE (upd (upd I 5 (nI (a2 + 1))) 6 (upd I 5 (nI (a2 + 1)) 5)) J B D := by
      intro w
      exact kf.at (q := a2 + 1) ⟨a2, bk, nd, lt, fr, I, J, B, D, ⟨hT.1, by omega⟩, Or.inl ⟨rfl, Or.inl ⟨g, rfl, w⟩⟩⟩ rfr5 (by simp [upd])
    refine ⟨fun w => bad (Or.inl w), fun w => ⟨(one_lt w).2, fun z9 e9 => ⟨fun w2 => ?_, fun w2 => bad (Or.inr (by rw [← e9]; exact w2))⟩⟩⟩
    rw [e9] at w2
    refine q_skip (a := a2 + 1) rfl ⟨(one_lt w).2, fun z2 e2 => ?_⟩
    have n2 : z2 = nI (c + 1) := inI rfl e2
    rw [n2]
    have ha2 := one_tk (Or.inr (Or.inl rfl)) w
    have hst : bst f n kd (0, (bk, nd, lt) :: fr, I, J, B, D) (0, (bk, nd, lt) :: fr, upd (upd I 5 (nI (a2 + 1))) 5 (nI (a2 + 2)), J, va_up B 28 (upd (B 28) (one (tkn f n (a2 + 1)) 65 8).toNatClampNeg (I 16)), D) := by
      refine ⟨a2, sz, bs, ln, bk, nd, lt, fr, I, _, J, J, B, _, D, D, ⟨hT.1, h16, h9, h11, by omega, by omega, by omega, by omega⟩, Or.inl ⟨rfl, rfl, g, w, w2, ⟨by simp [upd], fun k hk => by simp [upd, hk]⟩, ?_, fun k hk => by simp [va_up, hk]⟩⟩
      simp [va_up, h16]
    refine ih (a2 + 2) (c + 1) _ _ (by omega) (by omega) (hT1.up rfl ha2) (BI_step hB hst) (fun I' B' k1 k2 => kok I' B' (star.head hst k1) k2) (kf.mono ((star.refl _).tail hst))
theorem q_leads {Post : Int32 → (Nat → Int32) → (Nat → Int64) → (Nat → Nat → Int32) → (Nat → Nat → Int64) → Prop} {nd lt : Int32} (h1 : (¬ nd = -1 ∧ lt = -1) → Post 1 I J B D) (h0 : ¬ (¬ nd = -1 ∧ lt = -1) → Post 0 I J B D) : wp_ModelReader_leadsInside I J B D nd lt Post :=
  ⟨fun g => ⟨Or.inl rfl, h0 (fun z => z.1 g)⟩, fun g => ⟨fun g2 => ⟨Or.inl rfl, h0 (fun z => g2 z.2)⟩, fun g2 => ⟨Or.inr rfl, h1 ⟨g, g2⟩⟩⟩⟩
theorem q_break {Post : Int32 → (Nat → Int32) → (Nat → Int64) → (Nat → Nat → Int32) → (Nat → Nat → Int64) → Prop} {PX : String → (Nat → Int32) → (Nat → Int64) → (Nat → Nat → Int32) → (Nat → Nat → Int64) → Prop} {f : Nat → Int32} {n : Nat} {kd : Nat → Int32} {bk : Nat} {nd lt : Int32} {fr : zF} {a : Nat} (hT : TY (B 1) f (I 5) (I 4) a n) (hB : BI f n kd (0, (bk, nd, lt) :: fr, I, J, B, D)) (h46 : tkn f n a = 46)
    (kok : ∀ v I' J' B' D', bst f n kd (0, (bk, nd, lt) :: fr, I, J, B, D) (1, (bk, nd, v) :: fr, I', J', B', D') → Post v I' J' B' D') (kf : KF f n kd (0, (bk, nd, lt) :: fr, I, J, B, D) PX) : wp_ModelReader_readBreak I J B D nd lt Post PX := by
  obtain ⟨a2, sz, pt, bs, pr, ln, hT2, h16, h17, h9, h10, h11, l1, l2, l3, l4, l5, l6, l7, l8, l9⟩ := id hB
  dsimp only at hT2 h16 h17 h9 h10 h11 l5 l6 l7 l8 l9
  have hn := hT.2.2.2.1
  have han := hT.2.2.1
  have q1 : a2 = a := nI_inj (by have := hT2.2.2; omega) (by omega) (hT2.1.symm.trans hT.1)
  subst q1
  simp only [List.length_cons] at l5 l6
  have bad : ((¬ nd = -1 ∧ lt = -1) ∨ lpi B nd = -1) → PX IAE (upd I 6 (I 5)) J B D := fun w => kf.at (q := a2) ⟨a2, bk, nd, lt, fr, I, J, B, D, ⟨hT.1, by omega⟩, Or.inl ⟨rfl, Or.inr (Or.inr (Or.inr (Or.inr (Or.inl ⟨h46, rfl, w⟩))))⟩⟩ RFr.rf hT.1
  refine q_leads (fun w => ⟨fun _ => bad (Or.inl w), fun z => absurd z (by decide)⟩) (fun w => ⟨fun z => absurd rfl z, fun _ => ?_⟩)
  refine q_loopInside l9.hd (by omega) ⟨fun w2 => ?_, fun w2 => bad (Or.inr w2)⟩
  refine q_skip hT.1 ?_
  refine q_tadd (sz := sz) h16 (by omega) l9.hd l9.1 ?_
  intro I' B' hTA
  exact kok _ _ _ _ _ ⟨a2, sz, bs, ln, bk, nd, lt, fr, I, I', J, J, B, B', D, D, ⟨hT.1, h16, h9, h11, by omega, by omega, by omega, by omega⟩, Or.inr (Or.inr (Or.inl ⟨_, rfl, rfl, h46, w, w2, ⟨by simp [upd], fun k hk => by simp [upd, hk]⟩, hTA⟩))⟩
theorem q_jump {Post : Int32 → (Nat → Int32) → (Nat → Int64) → (Nat → Nat → Int32) → (Nat → Nat → Int64) → Prop} {PX : String → (Nat → Int32) → (Nat → Int64) → (Nat → Nat → Int32) → (Nat → Nat → Int64) → Prop} {f : Nat → Int32} {n : Nat} {kd : Nat → Int32} {bk : Nat} {nd lt : Int32} {fr : zF} {a : Nat} (hT : TY (B 1) f (I 5) (I 4) a n) (hB : BI f n kd (0, (bk, nd, lt) :: fr, I, J, B, D)) (h94 : tkn f n a = 94)
    (kok : ∀ v I' J' B' D', bst f n kd (0, (bk, nd, lt) :: fr, I, J, B, D) (1, (bk, nd, v) :: fr, I', J', B', D') → Post v I' J' B' D') (kf : KF f n kd (0, (bk, nd, lt) :: fr, I, J, B, D) PX) : wp_ModelReader_readJump I J B D nd lt Post PX := by
  obtain ⟨a2, sz, pt, bs, pr, ln, hT2, h16, h17, h9, h10, h11, l1, l2, l3, l4, l5, l6, l7, l8, l9⟩ := id hB
  dsimp only at hT2 h16 h17 h9 h10 h11 l5 l6 l7 l8 l9
  have hn := hT.2.2.2.1
  have han := hT.2.2.1
  have q1 : a2 = a := nI_inj (by have := hT2.2.2; omega) (by omega) (hT2.1.symm.trans hT.1)
  subst q1
  simp only [List.length_cons] at l5 l6
  have ha1 := tkn_le h94 (by decide)
  refine q_leads (fun w => ⟨fun z => absurd z (by decide), fun _ => ?_⟩) (fun w => ⟨fun _ => ?_, fun z => absurd rfl z⟩)
  · exact kf.at (q := a2) ⟨a2, bk, nd, lt, fr, I, J, B, D, ⟨hT.1, by omega⟩, Or.inl ⟨rfl, Or.inr (Or.inr (Or.inr (Or.inr (Or.inr (Or.inl ⟨h94, Or.inl ⟨rfl, w⟩⟩)))))⟩⟩ RFr.rf hT.1
  refine q_skip hT.1 ?_
  have hT1 : TY (B 1) f (upd I 5 (nI (a2 + 1)) 5) (upd I 5 (nI (a2 + 1)) 4) (a2 + 1) n := hT.up rfl ha1
  refine q_oneOf (Or.inr (Or.inl rfl)) hT1.tx ?_
  rw [hT1.tk]
  refine ⟨fun w2 => ?_, fun w2 => ?_⟩
  · refine q_tadd (sz := sz) h16 (by omega) l9.hd l9.1 ?_
    intro I' B' hTA
    obtain ⟨t1, t2, t3, t18, t19, t20, t21, t22, t23, t24, t25, tk⟩ := id hTA
    have hv : vp_in (nI sz) 240 := vin2 rfl (by omega) (by omega)
    refine ⟨hv, ⟨hv, ?_⟩⟩
    have h5 : I' 5 = nI (a2 + 1) := (t3 5 (by decide)).trans (by simp [upd])
    refine q_skip h5 ?_
    rw [clI (x := nI sz) rfl (by omega)]
    refine kok _ _ _ _ _ ⟨a2, sz, bs, ln, bk, nd, lt, fr, I, _, J, J, B, _, D, D, ⟨hT.1, h16, h9, h11, by omega, by omega, by omega, by omega⟩, Or.inr (Or.inr (Or.inr (Or.inl ⟨upd I 5 (nI (a2 + 2)), B', rfl, rfl, h94, w, w2, ⟨by simp [upd], fun k hk => by simp [upd, hk]⟩, ⟨?_, ?_, ?_, t18, t19, t20, t21, t22, t23, t24, ?_, tk⟩, ?_, ?_, ?_⟩)))⟩
    · simpa [upd] using t1
    · simpa [upd] using t2
    · intro k hk
      by_cases e : k = 5
      · subst e; simp [upd]
      · simp only [upd, e, if_false]; rw [t3 k hk]; simp [upd, e]
    · simpa [upd] using t25
    · simp [va_up, tk 26 (by decide)]
    · simp [va_up, tk 27 (by decide), h5]
    · intro k hk; simp at hk; simp [va_up, hk]
  · exact kf.at (q := a2 + 1) ⟨a2, bk, nd, lt, fr, I, J, B, D, ⟨hT.1, by omega⟩, Or.inl ⟨rfl, Or.inr (Or.inr (Or.inr (Or.inr (Or.inr (Or.inl ⟨h94, Or.inr ⟨rfl, w, w2⟩⟩)))))⟩⟩ rfr5 (by simp [upd])
/-- the parts of a basic statement put together -/
theorem mkBA {nd lt pk ch vr : Int32} {ex : Nat} {out : List Int32} {sz bs ln a' : Nat} {I1 I3 I4 I5 : Nat → Int32} {J4 : Nat → Int64} {B1 B3 B4 : Nat → Nat → Int32} {D4 : Nat → Nat → Int64} (hTA : TA 0 nd lt sz I B I1 B1) (h3I : ∀ k, k ∉ [5, 11, 12, 13, 14, 15] → I3 k = I1 k) (h311 : I3 11 = nI (if ex = 1 then ln + out.length + 1 else ln)) (h3B : ∀ k, k ∉ [15, 16, 26] → B3 k = B1 k) (h326 : B3 26 = upd (B1 26) sz (nI bs)) (h315 : ∀ k, k < ln → B3 15 k = B1 15 k) (hrep : ex = 1 → rep (B3 15) ln (22 :: out))
    (hPA : PA pk ch vr (if ex = 1 then nI ln else -1) bs I3 J B3 D I4 J4 B4 D4) (h5 : I5 5 = nI a') (h5k : ∀ k, k ≠ 5 → I5 k = I4 k) : BA nd lt pk ch vr ex out sz bs ln a' I J B D I5 J4 B4 D4 := by
  obtain ⟨t1, t2, t3, t18, t19, t20, t21, t22, t23, t24, t25, tk⟩ := id hTA
  obtain ⟨p1, p2, p3, p4, p5, p6, p7, p8, p9, p10, p11, p12⟩ := hPA
  refine ⟨h5, (h5k 9 (by decide)).trans p1, ?_, ?_, ?_, fun k hk => ?_, ⟨I1, B1, hTA, fun k hk => ?_⟩, ?_, ?_, ?_, ?_, ?_, ?_, fun k hk => ?_, fun hx => ?_, fun k hk => ?_, p3, p4, p11, p12⟩
  · rw [h5k 16 (by decide), p2 16 (by decide), h3I 16 (by decide)]; exact t1
  · rw [h5k 17 (by decide), p2 17 (by decide), h3I 17 (by decide), t2]; rfl
  · rw [h5k 11 (by decide), p2 11 (by decide)]; exact h311
  · simp at hk
    rw [h5k k (by simp [hk]), p2 k (by simp [hk]), h3I k (by simp [hk])]
    exact t3 k (by simp [hk])
  · rw [p10 k (by simp at hk ⊢; omega), h3B k (by simp at hk ⊢; omega)]
  · rw [p10 26 (by decide), h326, tk 26 (by decide)]
  · rw [p5, h3B 6 (by decide), tk 6 (by decide)]
  · rw [p6, h3B 7 (by decide), tk 7 (by decide)]
  · rw [p7, h3B 8 (by decide), tk 8 (by decide)]
  · rw [p8, h3B 9 (by decide), tk 9 (by decide)]
  · rw [p9, h3B 10 (by decide), tk 10 (by decide), h3I 10 (by decide), t3 10 (by decide)]
  · rw [p10 15 (by decide), h315 k hk, tk 15 (by decide)]
  · rw [p10 15 (by decide)]; exact hrep hx
  · simp at hk
    rw [p10 k (by simp [hk]), h3B k (by simp [hk])]
    exact tk k (by simp [hk])
end ZE5
