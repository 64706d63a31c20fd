/-! The reference adds the steps of a state. -/
section ZL4
variable {I9 : Nat → Int32} {J9 : Nat → Int64} {B9 : Nat → Nat → Int32} {D9 : Nat → Nat → Int64}
theorem st_400 {d : zD} {X : zG} {c : zCf} {s : Nat} {x y : Int32} (h : gM X = 400) : (ent d X c).bind (fun q => adds q.1 s q.2 x y) = none := by
  unfold ent
  split
  · split
    · rfl
    · show adds _ s _ x y = none
      unfold adds; rw [if_pos h]
  · show adds _ s _ x y = none
    unfold adds; rw [if_pos h]
theorem ent_self {d : zD} {Q : zQ} {X : zG} {s : Nat} (hW : QW d Q) (hX : XI d Q X) (hs : s < gN X) : ent d X (gK X s) = some (X, s) := by
  have hc := hX.2.2.1 s hs
  obtain ⟨f1, f2, f3, f4⟩ := fnd_le (fne d X (gK X s)) (gN X) 0
  have hne : fnd (fne d X (gK X s)) (gN X) 0 < gN X := by
    refine Classical.byContradiction (fun hn => ?_)
    have := f4 s (by omega) (by omega)
    rw [(fne_iff hW hX hc hs).mpr rfl] at this
    exact absurd this (by decide)
  have he := (fne_iff hW hX hc hne).mp (f3 (by omega))
  have es : fn d X (gK X s) = s := hX.2.2.2.1 _ s hne hs he
  unfold ent
  rw [es, if_neg (by omega)]
theorem RG_fy {d : zD} {Q : zQ} {X : zG} {I1 : Nat → Int32} {B1 : Nat → Nat → Int32} (h : RG9 d Q X I9 B9 D9) (hI : ∀ k, k ≠ 17 → I1 k = I9 k) (hB : ∀ k, k ∉ [36, 37, 38, 39, 40] → B1 k = B9 k) : RG9 d Q X I1 B1 D9 := by
  obtain ⟨g14, g15, gk, gs⟩ := h
  refine ⟨by rw [hI 14 (by decide)]; exact g14, by rw [hI 15 (by decide)]; exact g15, gk, fun j hj => ?_⟩
  rw [hB 31 (by decide), hB 30 (by decide), hB 32 (by decide), hB 33 (by decide)]; exact gs j hj
/-- all of a step but its work -/
theorem r_st {Post : (Nat → Int32) → (Nat → Int64) → (Nat → Nat → Int32) → (Nat → Nat → Int64) → Prop} {d : zD} {Q : zQ} {X : zG} {s : Nat} {x2 x3 : Int32} {c : zCf} (hW : QW d Q) (hP : PR d Q I9 B9 D9) (hX : XI d Q X) (hG : RG9 d Q X I9 B9 D9) (hs : s < gN X) (h16 : I9 16 = 0) (hc : WC d Q c) (hw : ∀ I1 B1 (P : (Nat → Int32) → (Nat → Int64) → (Nat → Nat → Int32) → (Nat → Nat → Int64) → Prop), RS d (qP Q) (gK X s) I1 B1 → PR d Q I1 B1 D9 → (∀ I2 B2, RS d (qP Q) c I2 B2 → (∀ k, k ≠ 17 → I2 k = I1 k) → (∀ k, k ∉ [36, 37, 38, 39, 40] → B2 k = B1 k) → P I2 J9 B2 D9) → ((x2 < 0 → P I1 J9 B1 D9) ∧ (¬ x2 < 0 → wp_LassoFinderModel_act I1 J9 B1 D9 x2 x3 (fun I J B D => P I J B D)))) (h : ∀ I' B' D', OUT9 d Q ((ent d X c).bind (fun y => adds y.1 s y.2 x2 x3)) I' B' D' → FY9 I9 B9 D9 I' B' D' → Post I' J9 B' D') : wp_LassoFinderModel_step I9 J9 B9 D9 (nI s) x2 x3 Post := by
  obtain ⟨g14, g15, gk, gs⟩ := id hG
  have x1 := hX.1
  have xm := hX.2.1
  refine ⟨fun g => ⟨fun _ => ⟨vin2 rfl (by omega) (by omega), fun z12 e12 => ?_⟩, fun q => absurd h16 q⟩, fun g => ⟨fun q => ?_, fun _ => ?_⟩⟩
  · have n4 : ¬ gM X = 400 := fun e => g (by rw [g15, e]; rfl)
    rw [clI rfl (by omega), gk s hs] at e12
    rw [e12]
    refine r_unpack (hP.kr hW) (hX.2.2.1 s hs).1 (fun I1 B1 s1 _ f1 => ?_)
    have F1 : FY9 I9 B9 D9 I1 B1 D9 := ⟨fun k hk => f1.1 k (by simp at hk ⊢; omega), fun k hk => f1.2 k (by simp at hk ⊢; omega), fun _ _ => rfl⟩
    have P1 := hP.fx F1.fx
    refine hw I1 B1 _ s1 P1 (fun I2 B2 s2 i2 f2 => ?_)
    have F2 : FY9 I9 B9 D9 I2 B2 D9 := F1.tr ⟨fun k hk => i2 k (by simp at hk ⊢; omega), fun k hk => f2 k (by simp at hk ⊢; omega), fun _ _ => rfl⟩
    have G2 : RG9 d Q X I2 B2 D9 := RG_fy (RG_fy hG f1.1 (fun k hk => f1.2 k (by simp at hk ⊢; omega))) i2 f2
    exact r_enter hW (hP.fx F2.fx) hX G2 hc s2 hs n4 (by rw [i2 16 (by decide), f1.1 16 (by decide)]; exact h16) (fun I' B' D' o F => h I' B' D' o (F2.tr F))
  · simp [upd] at q
  · have n4 : gM X = 400 := (eqI g15 (y := 400) (b := 400) rfl (by omega) (by omega)).mp g
    exact h _ _ _ (Or.inl ⟨st_400 n4, by simp [upd], X, ⟨by simp [upd]; exact g14, by simp [upd]; exact g15, gk, gs⟩, hX⟩) ⟨fun k hk => by simp at hk; simp [upd, hk], fun _ _ => rfl, fun _ _ => rfl⟩
theorem r_step {Post : (Nat → Int32) → (Nat → Int64) → (Nat → Nat → Int32) → (Nat → Nat → Int64) → Prop} {d : zD} {Q : zQ} {X : zG} {s b : Nat} {r : Option Nat} (hW : QW d Q) (hP : PR d Q I9 B9 D9) (hX : XI d Q X) (hG : RG9 d Q X I9 B9 D9) (hs : s < gN X) (h16 : I9 16 = 0) (hd : dn Q (gK X s) b r) (h : ∀ I' B' D', OUT9 d Q (stG d Q X s b r) I' B' D' → FY9 I9 B9 D9 I' B' D' → Post I' J9 B' D') : wp_LassoFinderModel_step I9 J9 B9 D9 (nI s) (nI b) (oI r) Post := by
  have hC := hX.2.2.1 s hs
  have hb : b < qN Q := by cases r <;> exact hd.1
  have := hW.2.1
  refine r_st hW hP hX hG hs h16 (WC_act hW hC hd) (fun I1 B1 P s1 P1 hk => ⟨fun z => absurd ((ltI (x := nI b) rfl (y := 0) (b := 0) rfl (by omega) (by omega)).mp z) (by omega), fun _ => ?_⟩) h
  exact r_act hW P1 s1 hC hd (fun I2 B2 s2 i2 f2 => hk I2 B2 s2 i2 f2)
theorem r_step0 {Post : (Nat → Int32) → (Nat → Int64) → (Nat → Nat → Int32) → (Nat → Nat → Int64) → Prop} {d : zD} {Q : zQ} {X : zG} {s : Nat} (hW : QW d Q) (hP : PR d Q I9 B9 D9) (hX : XI d Q X) (hG : RG9 d Q X I9 B9 D9) (hs : s < gN X) (h16 : I9 16 = 0) (h : ∀ I' B' D', OUT9 d Q (adds X s s (-1) (-1)) I' B' D' → FY9 I9 B9 D9 I' B' D' → Post I' J9 B' D') : wp_LassoFinderModel_step I9 J9 B9 D9 (nI s) (-1) (-1) Post := by
  refine r_st hW hP hX hG hs h16 (hX.2.2.1 s hs) (fun I1 B1 P s1 P1 hk => ⟨fun _ => hk I1 B1 s1 (fun _ _ => rfl) (fun _ _ => rfl), fun z => absurd (by decide) z⟩) (fun I' B' D' o F => h I' B' D' ?_ F)
  rw [ent_self hW hX hs] at o; exact o
theorem ptn_n {d : zD} {Q : zQ} {c : zCf} {b : Nat} (h : ¬ (qK Q b = 2 ∧ sl d (qC Q b) = 0)) : ¬ anyB (ptn d Q c b) 48 = true := by
  intro e
  obtain ⟨r, _, e⟩ := anyB_iff.mp e
  unfold ptn at e
  simp only [Bool.and_eq_true, decide_eq_true_eq] at e
  exact h e.1
theorem dob_ptn {d : zD} {Q : zQ} {c : zCf} {b : Nat} (hW : QW d Q) (h : dob d Q c b = true) (hk : qK Q b = 2) (h0 : sl d (qC Q b) = 0) : anyB (ptn d Q c b) 48 = true := by
  unfold dob at h
  simp only [Bool.and_eq_true] at h
  obtain ⟨p, _, hpb⟩ := anyB_iff.mp h.1
  unfold pab at hpb
  simp only [Bool.and_eq_true] at hpb
  have q := hpb.2
  have hcn : cn d Q c b = true := by
    split at q
    · exact q
    · simp [hk] at q
  unfold cn at hcn
  rw [if_neg (by omega), if_neg (by omega), if_pos hk, if_neg (by omega)] at hcn
  obtain ⟨r, hr, e⟩ := anyB_iff.mp hcn
  refine anyB_iff.mpr ⟨r, by have := hW.2.1; omega, ?_⟩
  simp [ptn, hk, h0, e]
theorem byL_end {d : zD} {Q : zQ} {s b : Nat} {c : zCf} : ∀ m r X, (∀ j, r ≤ j → ptn d Q c b j = false) → byL d Q s b c m r X = some X := by
  intro m
  induction m with
  | zero => intro r X _; rfl
  | succ m ih =>
    intro r X h
    unfold byL
    rw [if_neg (by rw [h r (Nat.le_refl _)]; decide)]
    exact ih (r + 1) X (fun j hj => h j (by omega))
theorem ofL_end {d : zD} {Q : zQ} {s : Nat} {c : zCf} : ∀ m b X, (∀ j, b ≤ j → dob d Q c j = false) → ofL d Q s c m b X = some X := by
  intro m
  induction m with
  | zero => intro r X _; rfl
  | succ m ih =>
    intro r X h
    unfold ofL
    rw [if_neg (by rw [h r (Nat.le_refl _)]; decide)]
    exact ih (r + 1) X (fun j hj => h j (by omega))
/-- the meetings of a SEND -/
theorem r_byL {Post : (Nat → Int32) → (Nat → Int64) → (Nat → Nat → Int32) → (Nat → Nat → Int64) → Prop} {K28 : Int32 → Int64 → Int32 → (Nat → Int32) → (Nat → Int64) → (Nat → Nat → Int32) → (Nat → Nat → Int64) → Prop} {d : zD} {Q : zQ} {s b m0 : Nat} {c : zCf} {w : Int64} {a0 : Int32} {o : Option zG} (hW : QW d Q) (hP : PR d Q I9 B9 D9) (hb : b < qN Q) (hk : qK Q b = 2) (h0 : sl d (qC Q b) = 0) (hm : R1 Q B9 b m0) (hs97 : s < 96) (h : ∀ I' B' D', OUT9 d Q o I' B' D' → FY9 I9 B9 D9 I' B' D' → K28 (nI s) w (nI (b + 1)) I' J9 B' D') : ∀ (k r : Nat) (X : zG) (I1 : Nat → Int32) (B1 : Nat → Nat → Int32) (D1 : Nat → Nat → Int64), r + k = qN Q → XI d Q X → RG9 d Q X I1 B1 D1 → I1 16 = 0 → s < gN X → gK X s = c → FY9 I9 B9 D9 I1 B1 D1 → byL d Q s b c (48 - r) r X = o → wl_LassoFinderModel_expand_116 a0 K28 Post (k + 1) (nI s) w (nI b) (nI m0) 1 (nI r) I1 J9 B1 D1 := by
  have hN48 := hW.2.1
  intro k
  induction k with
  | zero =>
    intro r X I1 B1 D1 hr hX hG h16 hs hc hF ho
    have e : r = qN Q := by omega
    subst e
    rw [byL_end _ _ _ (fun j hj => by
      cases e : ptn d Q c b j
      · rfl
      · have := (ptn_dn hW hb e).2.1; omega)] at ho
    have p9 : I1 9 = nI (qN Q) := by rw [hF.1 9 (by decide)]; exact hP.2.2.1
    refine ⟨fun _ z4 e4 => ?_, fun z => absurd ((leI p9 (y := nI (qN Q)) rfl (by omega) (by omega)).mpr (Nat.le_refl _)) z⟩
    rw [inI rfl e4]
    exact h I1 B1 D1 (Or.inr ⟨X, ho.symm, h16, hG, hX⟩) hF
  | succ k ih =>
    intro r X I1 B1 D1 hr hX hG h16 hs hc hF ho
    have p9 : I1 9 = nI (qN Q) := by rw [hF.1 9 (by decide)]; exact hP.2.2.1
    refine ⟨fun z => ?_, fun _ => ⟨fun z => absurd z (by decide), fun _ => ⟨fun z => absurd h16 z, fun _ => ⟨vin2 rfl (by omega) (by omega), fun z9 e9 => ?_⟩⟩⟩⟩
    · have := (leI p9 (y := nI r) rfl (by omega) (by omega)).mp z; omega
    rw [clI rfl (by omega), hG.2.2.1 s hs] at e9
    rw [e9]
    have P1 := hP.fx hF.fx
    have hC := hX.2.2.1 s hs
    refine r_unpack (P1.kr hW) hC.1 (fun I2 B2 s2 _ f2 => ?_)
    have F2 : FY9 I1 B1 D1 I2 B2 D1 := ⟨fun k hk => f2.1 k (by simp at hk ⊢; omega), fun k hk => f2.2 k (by simp at hk ⊢; omega), fun _ _ => rfl⟩
    have hF2 := hF.tr F2
    have P2 := hP.fx hF2.fx
    have G2 : RG9 d Q X I2 B2 D1 := RG_fy hG f2.1 (fun k hk => f2.2 k (by simp at hk ⊢; omega))
    have h16' : I2 16 = 0 := by rw [f2.1 16 (by decide)]; exact h16
    have hm2 : R1 Q B2 b m0 := by
      have g := hF2.fx.2.1
      unfold R1
      rw [g 18 (by decide), g 5 (by decide), g 6 (by decide), g 17 (by decide), g 12 (by decide), g 13 (by decide), g 14 (by decide), g 15 (by decide), g 24 (by decide), g 10 (by decide), g 20 (by decide), g 23 (by decide)]
      exact hm
    have hfu : 48 - r = (48 - (r + 1)) + 1 := by omega
    rw [hfu] at ho
    unfold byL at ho
    have hpt : ptn d Q c b r = mtc Q c b r := by simp [ptn, hk, h0]
    rw [hpt] at ho
    refine r_meets hW P2 s2 hC hb hk hm2 (by omega) ?_
    rw [hc]
    refine ⟨fun q z5 e5 => ?_, fun q => ?_⟩
    · have hf : ¬ mtc Q c b r = true := fun e => by rw [if_pos e] at q; exact absurd q (by decide)
      rw [if_neg hf] at ho
      rw [inI rfl e5]
      exact ih (r + 1) X I2 B2 D1 (by omega) hX G2 h16' hs hc hF2 ho
    · have hf : mtc Q c b r = true := by
        cases e : mtc Q c b r
        · rw [if_neg (by rw [e]; decide)] at q; exact absurd rfl q
        · rfl
      rw [if_pos hf] at ho
      have hd : dn Q (gK X s) b (some r) := by rw [hc]; exact ptn_dn hW hb (by rw [hpt]; exact hf)
      refine r_step (r := some r) hW P2 hX G2 hs h16' hd (fun I3 B3 D3 hO F3 z5 e5 => ?_)
      rw [inI rfl e5]
      have hF3 := hF2.tr F3
      rcases hO with ⟨hn, h3, hx3⟩ | ⟨Y, hn, h3, hG3, hX3⟩
      · rw [hn] at ho
        have fi : ∀ z4 : Int32, z4 = nI b + 1 → K28 (nI s) w z4 I3 J9 B3 D3 := fun z4 e4 => by
          rw [inI rfl e4]; exact h I3 B3 D3 (Or.inl ⟨ho.symm, h3, hx3⟩) hF3
        exact ⟨fun _ => fi, fun _ => ⟨fun q => absurd q (by decide), fun _ => ⟨fun _ => fi, fun q => by rw [h3] at q; exact absurd q (by decide)⟩⟩⟩
      · rw [hn] at ho
        obtain ⟨a1, a2, a3⟩ := stG_ok hW hX hs hd hn
        exact ih (r + 1) Y I3 B3 D3 (by omega) hX3 hG3 h3 (by have := a2.1; omega) (by rw [a2.2.1 s hs]; exact hc) hF3 ho
/-- the steps of a state -/
theorem r_expand {Post : (Nat → Int32) → (Nat → Int64) → (Nat → Nat → Int32) → (Nat → Nat → Int64) → Prop} {d : zD} {Q : zQ} {X : zG} {s : Nat} (hW : QW d Q) (hP : PR d Q I9 B9 D9) (hX : XI d Q X) (hG : RG9 d Q X I9 B9 D9) (hs : s < gN X) (h16 : I9 16 = 0) (h : ∀ I' B' D', OUT9 d Q (of1 d Q X s) I' B' D' → FX9 I9 B9 D9 I' B' D' → B' 29 s = nI (gM X) → (∀ q, q ≠ s → B' 29 q = B9 29 q) → Post I' J9 B' D') : wp_LassoFinderModel_expand I9 J9 B9 D9 (nI s) Post := by
  have hN := hP.nc
  have hN48 := hW.2.1
  have x1 := hX.1
  have hC := hX.2.2.1 s hs
  obtain ⟨g14, g15, gk, gs⟩ := id hG
  have cs : (nI s).toNatClampNeg = s := clI rfl (by omega)
  refine ⟨vin2 rfl (by omega) (by omega), vin2 rfl (by omega) (by omega), fun z28 e28 => ?_⟩
  rw [cs, gk s hs] at e28
  rw [e28, cs]
  have K0 : va_up B9 29 (upd (B9 29) s (I9 15)) 29 s = nI (gM X) := by simp [va_up, upd, g15]
  have K1 : ∀ q, q ≠ s → va_up B9 29 (upd (B9 29) s (I9 15)) 29 q = B9 29 q := fun q hq => by simp [va_up, upd, hq]
  have F0 : FX9 I9 B9 D9 I9 (va_up B9 29 (upd (B9 29) s (I9 15))) D9 := ⟨fun _ _ => rfl, fun k hk => by simp at hk; simp [va_up, hk], fun _ _ => rfl⟩
  have G0 : RG9 d Q X I9 (va_up B9 29 (upd (B9 29) s (I9 15))) D9 := ⟨g14, g15, gk, fun j hj => by simpa [va_up] using gs j hj⟩
  generalize va_up B9 29 (upd (B9 29) s (I9 15)) = B0 at K0 K1 F0 G0
  have P0 := hP.fx F0
  refine r_unpack (P0.kr hW) hC.1 (fun I2 B2 s2 _ f2 => ?_)
  have F2 : FY9 I9 B0 D9 I2 B2 D9 := ⟨fun k hk => f2.1 k (by simp at hk ⊢; omega), fun k hk => f2.2 k (by simp at hk ⊢; omega), fun _ _ => rfl⟩
  have P2 := P0.fx F2.fx
  refine r_doable hW P2 s2 hC (fun w B3 hw f3 => ⟨qN Q + 1, ?_⟩)
  have F3 : FY9 I9 B0 D9 I2 B3 D9 := F2.tr ⟨fun _ _ => rfl, fun k hk => f3 k (by simp at hk ⊢; omega), fun _ _ => rfl⟩
  have G3 : RG9 d Q X I2 B3 D9 := RG_fy (RG_fy G0 f2.1 (fun k hk => f2.2 k (by simp at hk ⊢; omega))) (fun _ _ => rfl) (fun k hk => f3 k (by simp at hk; omega))
  have h16' : I2 16 = 0 := by rw [f2.1 16 (by decide)]; exact h16
  have fin : ∀ I4 B4 D4, OUT9 d Q (of1 d Q X s) I4 B4 D4 → FY9 I9 B0 D9 I4 B4 D4 → Post I4 J9 B4 D4 := by
    intro I4 B4 D4 hO hF
    have e29 := hF.2.1 29 (by decide)
    exact h I4 B4 D4 hO (F0.tr hF.fx) (by rw [e29]; exact K0) (fun q hq => by rw [e29]; exact K1 q hq)
  -- over
  have ov : ∀ I4 B4 D4, of1 d Q X s = none → ¬ w = 0 → I4 16 = 1 → (∃ Y, RG9 d Q Y I4 B4 D4 ∧ XI d Q Y) → FY9 I9 B0 D9 I4 B4 D4 → wc_LassoFinderModel_expand_179 (nI s) Post (nI s) w I4 J9 B4 D4 := by
    intro I4 B4 D4 hn hw0 h1 hx hF z1 e1
    exact ⟨fun _ => fin I4 B4 D4 (Or.inl ⟨hn, h1, hx⟩) hF, fun q => absurd ((cmp0 _ _).mp (by rw [← e1]; exact q)) hw0⟩
  obtain ⟨oX, hoX⟩ : ∃ o, ofL d Q s (gK X s) 48 0 X = o := ⟨_, rfl⟩
  have lp : ∀ (m b : Nat) (Y : zG) (I4 : Nat → Int32) (B4 : Nat → Nat → Int32) (D4 : Nat → Nat → Int64), b + m = qN Q → XI d Q Y → RG9 d Q Y I4 B4 D4 → I4 16 = 0 → s < gN Y → gK Y s = gK X s → FY9 I9 B0 D9 I4 B4 D4 → ofL d Q s (gK X s) (48 - b) b Y = oX → wl_LassoFinderModel_expand_28 (nI s) Post (m + 1) (nI s) w (nI b) I4 J9 B4 D4 := by
    intro m
    induction m with
    | zero =>
      intro b Y I4 B4 D4 hb hY hG4 h4 hsY hkY hF ho
      have e : b = qN Q := by omega
      subst e
      rw [ofL_end _ _ _ (fun j hj => by
        cases e : dob d Q (gK X s) j
        · rfl
        · have := dob_b hW e; omega)] at ho
      have p9 : I4 9 = nI (qN Q) := by rw [hF.1 9 (by decide)]; exact P0.2.2.1
      have hof : of1 d Q X s = if gM Y = gM X then adds Y s s (-1) (-1) else some Y := by unfold of1; rw [hoX, ← ho]; rfl
      obtain ⟨o1, o2, o3⟩ := ofL_ok hN hW 48 0 X Y hX hs rfl (hoX.trans ho.symm)
      refine ⟨fun _ z1 e1 => ⟨fun q => fin I4 B4 D4 (Or.inr ⟨Y, ?_, h4, hG4, hY⟩) hF, fun q => ?_⟩, fun z => absurd ((leI p9 (y := nI (qN Q)) rfl (by omega) (by omega)).mpr (Nat.le_refl _)) z⟩
      · have hw0 : ¬ w = 0 := fun e => q (by rw [e1]; exact (cmp0 _ _).mpr e)
        obtain ⟨i, hi⟩ := bt_ne hw0
        rw [hw i] at hi
        have := o3 ⟨i, by omega, by have := dob_b hW hi; omega, hi⟩
        rw [hof, if_neg (by omega)]
      · have hw0 : w = 0 := (cmp0 _ _).mp (by rw [← e1]; exact q)
        have nd : ∀ j, dob d Q (gK X s) j = false := fun j => by rw [← hw j, hw0, bt_0]
        rw [ofL_end 48 0 X (fun j _ => nd j), ← ho] at hoX
        injection hoX with hoX
        subst hoX
        rw [if_pos rfl] at hof
        refine r_step0 hW (P0.fx hF.fx) hY hG4 hsY h4 (fun I5 B5 D5 hO F5 => fin I5 B5 D5 ?_ (hF.tr F5))
        rw [hof]; exact hO
    | succ m ih =>
      intro b Y I4 B4 D4 hb hY hG4 h4 hsY hkY hF ho
      have p9 : I4 9 = nI (qN Q) := by rw [hF.1 9 (by decide)]; exact P0.2.2.1
      refine ⟨fun z => ?_, fun _ => ⟨fun z => absurd h4 z, fun _ z18 e18 z19 e19 z20 e20 => ?_⟩⟩
      · have := (leI p9 (y := nI b) rfl (by omega) (by omega)).mp z; omega
      rw [e19, e18] at e20
      have t := tstR w (b := b) (by omega)
      rw [← e20, hw b] at t
      have hfu : 48 - b = (48 - (b + 1)) + 1 := by omega
      rw [hfu] at ho
      unfold ofL at ho
      have nx : by1 d Q Y s b = by1 d Q Y s b → dob d Q (gK X s) b = true → ∀ I5 B5 D5, OUT9 d Q (by1 d Q Y s b) I5 B5 D5 → FY9 I4 B4 D4 I5 B5 D5 → wl_LassoFinderModel_expand_28 (nI s) Post (m + 1) (nI s) w (nI (b + 1)) I5 J9 B5 D5 := by
        intro _ hp I5 B5 D5 hO F5
        rw [if_pos hp] at ho
        have hF5 := hF.tr F5
        rcases hO with ⟨hn, h5, hx5⟩ | ⟨Z, hn, h5, hG5, hX5⟩
        · rw [hn] at ho
          have hof : of1 d Q X s = none := by unfold of1; rw [hoX, ← ho]; rfl
          have hw0 : ¬ w = 0 := bt_t (i := b) (by rw [hw b]; exact hp)
          have fi := ov I5 B5 D5 hof hw0 h5 hx5 hF5
          exact ⟨fun _ => fi, fun _ => ⟨fun _ => fi, fun q => by rw [h5] at q; exact absurd q (by decide)⟩⟩
        · rw [hn] at ho
          obtain ⟨a1, a2, a3⟩ := by1_ok hN hW hY hsY (by rw [hkY]; exact hp) hn
          exact ih (b + 1) Z I5 B5 D5 (by omega) hX5 hG5 h5 (by have := a2.1; omega) (by rw [a2.2.1 s hsY]; exact hkY) hF5 ho
      refine ⟨fun g => ?_, fun g z4 e4 => ?_⟩
      · have hp : dob d Q (gK X s) b = true := by
          cases e : dob d Q (gK X s) b
          · exact absurd (t.mpr e) g
          · rfl
        have P4 := P0.fx hF.fx
        obtain ⟨m0, hm0⟩ := P4.2.2.2.1 b (by omega)
        obtain ⟨m1, m2, m3, m4, m5, m6, m7, _⟩ := id hm0
        obtain ⟨w1, w2, w3, w4, _⟩ := hW.2.2.1 b (by omega)
        refine ⟨vin2 rfl (by omega) (by omega), fun z22 e22 => ?_⟩
        rw [clI rfl (by omega), m2] at e22
        subst e22
        have cm : (nI m0).toNatClampNeg = m0 := clI rfl (by omega)
        refine ⟨vin2 rfl m1 (by omega), fun z23 e23 => ?_⟩
        rw [cm, m3] at e23
        have q2 : z23 = 2 ↔ qK Q b = 2 := eqI e23 (y := 2) (b := 2) rfl (by omega) (by omega)
        -- alone
        have al : ¬ (qK Q b = 2 ∧ sl d (qC Q b) = 0) → wc_LassoFinderModel_expand_97 (nI s) (wl_LassoFinderModel_expand_28 (nI s) Post (m + 1)) Post (nI s) w (nI b) (nI m0) I4 J9 B4 D4 := by
          intro hne
          have hpn := ptn_n (c := gK Y s) hne
          have hby : by1 d Q Y s b = stG d Q Y s b none := by unfold by1; rw [if_neg hpn]
          refine ⟨fun z => absurd rfl z, fun _ => ?_⟩
          refine r_step (r := none) hW P4 hY hG4 hsY h4 (dob_dn hN hW (by rw [hkY]; exact hp) hpn) (fun I5 B5 D5 hO F5 => ⟨1, ?_⟩)
          have fi := nx rfl hp I5 B5 D5 (by rw [hby]; exact hO) F5
          have fi2 : wc_LassoFinderModel_expand_173 (nI s) (wl_LassoFinderModel_expand_28 (nI s) Post (m + 1)) Post (nI s) w (nI b) I5 J9 B5 D5 := fun z4 e4 => by rw [inI rfl e4]; exact fi
          exact ⟨fun _ => fi2, fun _ => ⟨fun _ => fi2, fun q => absurd rfl q⟩⟩
        refine ⟨fun g2 => al (fun e => g2 (q2.mpr e.1)), fun g2 => ⟨vin2 rfl m1 (by omega), fun z25 e25 => ?_⟩⟩
        have k2 := q2.mp g2
        have hk := w4 (Or.inl k2)
        have hc2 := P4.1.2.2.2.1
        have s3 := (sl_ok hN hk).2
        rw [cm, m7 (Or.inl k2)] at e25
        refine ⟨vin2 e25 (by omega) (by omega), fun z26 e26 => ?_⟩
        rw [clI e25 (by omega), P4.sl hk] at e26
        have q0 : z26 = 0 ↔ sl d (qC Q b) = 0 := eqI e26 (y := 0) (b := 0) rfl (by omega) (by omega)
        refine ⟨fun g0 => al (fun e => g0 (q0.mpr e.2)), fun g0 => ⟨fun _ => ⟨qN Q + 1, ?_⟩, fun q => absurd q (by decide)⟩⟩
        have s0 := q0.mp g0
        have hby : by1 d Q Y s b = byL d Q s b (gK Y s) 48 0 Y := by unfold by1; rw [if_pos (dob_ptn hW (by rw [hkY]; exact hp) k2 s0)]
        exact r_byL (c := gK Y s) (o := by1 d Q Y s b) hW P4 (by omega) k2 s0 hm0 (by omega) (fun I5 B5 D5 hO F5 => nx rfl hp I5 B5 D5 hO F5) (qN Q) 0 Y I4 B4 D4 (by omega) hY hG4 h4 hsY rfl FY9.rf hby.symm
      · rw [if_neg (by rw [t.mp g]; decide)] at ho
        rw [inI rfl e4]
        exact ih (b + 1) Y I4 B4 D4 (by omega) hY hG4 h4 hsY hkY hF ho
  exact lp (qN Q) 0 X I2 B3 D9 (by omega) hX G3 h16' hs rfl F3 hoX
end ZL4
