/-! The reference does a step's work, and adds a step. -/
section ZL3
variable {I9 : Nat → Int32} {J9 : Nat → Int64} {B9 : Nat → Nat → Int32} {D9 : Nat → Nat → Int64}
theorem oI_neg {r : Option Nat} (hr : ∀ x, r = some x → x ≤ 1000) : oI r < 0 ↔ r = none := by
  cases r with
  | none => exact ⟨fun _ => rfl, fun _ => by decide⟩
  | some r => exact ⟨fun z => absurd ((ltI (x := nI r) rfl (y := 0) (b := 0) rfl (by have := hr r rfl; omega) (by omega)).mp z) (by omega), fun z => absurd z (by simp)⟩
theorem r_act {Post : (Nat → Int32) → (Nat → Int64) → (Nat → Nat → Int32) → (Nat → Nat → Int64) → Prop} {d : zD} {Q : zQ} {c : zCf} {b : Nat} {r : Option Nat} (hW : QW d Q) (hP : PR d Q I9 B9 D9) (hS : RS d (qP Q) c I9 B9) (hC : WC d Q c) (hd : dn Q c b r) (h : ∀ I' B', RS d (qP Q) (act d Q c b r) I' B' → (∀ k, k ≠ 17 → I' k = I9 k) → (∀ k, k ∉ [36, 37, 38, 39, 40] → B' k = B9 k) → Post I' J9 B' D9) : wp_LassoFinderModel_act I9 J9 B9 D9 (nI b) (oI r) Post := by
  have hN48 := hW.2.1
  have hP4 := hW.1
  have hv6 := hP.1.2.2.1
  have hc2 := hP.1.2.2.2.1
  have hb : b < qN Q := by cases r <;> exact hd.1
  have hr1 : ∀ x, r = some x → x ≤ 1000 := fun x hx => by subst hx; have := hd.2.1; omega
  have hneg := oI_neg hr1
  obtain ⟨u1, u2, u3, u4, u5, u6⟩ := hW.2.2.1 b hb
  obtain ⟨m, hm⟩ := hP.2.2.2.1 b hb
  have hm' := hm
  obtain ⟨b1, b2, b3, b4, b5, b6, b7, b8, b9, b10, _⟩ := hm
  have cm : (nI m).toNatClampNeg = m := clI rfl (by omega)
  have vm : vp_in (nI m) 140 := vin2 rfl b1 (by omega)
  have m3 := hC.1.2.2.1
  have R1f : ∀ (B1 : Nat → Nat → Int32), (∀ k, k ∉ [36, 37, 38, 39, 40] → B1 k = B9 k) → ∀ b' m', R1 Q B9 b' m' → R1 Q B1 b' m' := by
    intro B1 g b' m' h1
    unfold R1
    rw [g 18 (by decide), g 5 (by decide), g 6 (by decide), g 17 (by decide), g 12 (by decide), g 13 (by decide), g 14 (by decide), g 15 (by decide), g 24 (by decide), g 10 (by decide), g 20 (by decide), g 23 (by decide)]
    exact h1
  have tl : ∀ B1, RS d (qP Q) (efc d Q c b r) I9 B1 → (∀ k, k ∉ [36, 37, 38, 39, 40] → B1 k = B9 k) → wc_LassoFinderModel_act_241 (nI b) (oI r) Post (oI r) (nI m) (nI (qA Q b)) I9 J9 B1 D9 := by
    intro B1 s1 f1
    refine r_goesOn (b := b) rfl rfl hW hb (R1f B1 f1 b m hm') ?_
    have f2 : ∀ k, k ∉ [36, 37, 38, 39, 40] → va_up B1 39 (upd (B1 39) (qA Q b) (nI (qF Q b))) k = B9 k := fun k hk => by
      rw [← f1 k hk]; simp at hk; simp [va_up, hk]
    have s2 := RS_sS (p := qA Q b) s1 (y := nI (qF Q b)) rfl
    generalize va_up B1 39 (upd (B1 39) (qA Q b) (nI (qF Q b))) = B2 at f2 s2
    have en : ∀ y0 : Int32, y0 + 1 = nI (if qH Q b = true then qA Q b + 1 else 0) → wc_LassoFinderModel_act_258 (nI b) (oI r) Post (oI r) y0 I9 J9 B2 D9 := by
      intro y0 hy0
      have s3' : RS d (qP Q) (sH (sS (efc d Q c b r) (qA Q b) (qF Q b)) (if qH Q b = true then qA Q b + 1 else 0)) (upd I9 17 y0) B2 := RS_sH s2 hy0
      have s3 : RS d (qP Q) (go1 Q (sH (efc d Q c b r) 0) b) (upd I9 17 y0) B2 := s3'
      refine ⟨fun g => ?_, fun g => ?_⟩
      · have hn := hneg.mp g
        subst hn
        exact h _ _ s3 (fun k hk => by simp [upd, hk]) f2
      · cases r with
        | none => exact absurd (by decide) g
        | some r =>
          have hrN : r < qN Q := hd.2.1
          obtain ⟨m', hmr⟩ := hP.2.2.2.1 r hrN
          have hmr2 := R1f B2 f2 r m' hmr
          obtain ⟨r1, r2, r3, r4, _⟩ := id hmr2
          have cr : (oI (some r)).toNatClampNeg = r := clI rfl (by omega)
          have vr : vp_in (oI (some r)) 48 := vin2 rfl (by omega) (by omega)
          refine ⟨vr, fun z2 e2 => ?_⟩
          rw [cr, r2] at e2
          refine ⟨vin2 e2 r1 (by omega), fun z3 e3 => ⟨vr, fun z4 e4 => ?_⟩⟩
          rw [clI e2 (by omega), r4] at e3
          rw [cr, r2] at e4
          refine r_goesOn (b := r) e3 e4 hW hrN hmr2 ?_
          have f3 : ∀ k, k ∉ [36, 37, 38, 39, 40] → va_up B2 39 (upd (B2 39) (qA Q r) (nI (qF Q r))) k = B9 k := fun k hk => by
            rw [← f2 k hk]; simp at hk; simp [va_up, hk]
          have s4 := RS_sS (p := qA Q r) s3 (y := nI (qF Q r)) rfl
          refine ⟨fun q => h _ _ ?_ (fun k hk => by simp [upd, hk]) f3, fun q => h _ _ ?_ (fun k hk => by simp [upd, hk]) f3⟩
          · have hf : ¬ qH Q r = true := fun e => by rw [if_pos e] at q; exact absurd q (by decide)
            have hx : upd I9 17 y0 17 + 1 = nI (if qH Q r = true then qA Q r + 1 else (go1 Q (sH (efc d Q c b (some r)) 0) b).2.2.2.2) := by
              rw [if_neg hf]; exact s3.2.2.2.2
            exact RS_sH s4 hx
          · have hf : qH Q r = true := by
              cases e : qH Q r
              · rw [if_neg (by rw [e]; decide)] at q; exact absurd rfl q
              · rfl
            have hx : z3 + 1 = nI (if qH Q r = true then qA Q r + 1 else (go1 Q (sH (efc d Q c b (some r)) 0) b).2.2.2.2) := by
              rw [if_pos hf, e3, nI_1]
            exact RS_sH s4 hx
    refine ⟨fun q => en (-1) ?_, fun q => en _ ?_⟩
    · have hf : ¬ qH Q b = true := fun e => by rw [if_pos e] at q; exact absurd q (by decide)
      rw [if_neg hf]; rfl
    · have hf : qH Q b = true := by
        cases e : qH Q b
        · rw [if_neg (by rw [e]; decide)] at q; exact absurd rfl q
        · rfl
      rw [if_pos hf, nI_1]
  have st : ∀ (y0 : Int32) (B1 : Nat → Nat → Int32), (∀ k, k ≠ 40 → B1 k = B9 k) → (qK Q b ≤ 2 → y0 = nI (vl d Q c b)) → wc_LassoFinderModel_act_58 (nI b) (oI r) Post (oI r) (nI m) (nI (qA Q b)) (B9 12 m) y0 I9 J9 B1 D9 := by
    intro y0 B1 f1 hy
    have s1 := hS.k40 f1
    have f1' : ∀ k, k ∉ [36, 37, 38, 39, 40] → B1 k = B9 k := fun k hk => f1 k (by simp at hk; omega)
    have e5 : B1 5 m = nI (qK Q b) := by rw [f1 5 (by decide)]; exact b3
    have kq : ∀ (x y : Int32) (k : Nat), x = B1 5 (nI m).toNatClampNeg → y = nI k → k ≤ 5 → (x = y ↔ qK Q b = k) := fun x y k hx hy hk => eqI (by rw [hx, cm]; exact e5) hy (by omega) (by omega)
    have nn : ¬ qK Q b = 2 → r = none := fun e => by
      cases r with
      | none => rfl
      | some r => exact absurd hd.2.2.1 e
    have w116 : ¬ qK Q b = 0 → r = none → wc_LassoFinderModel_act_116 (nI b) (oI r) Post (oI r) (nI m) (nI (qA Q b)) (B9 12 m) y0 I9 J9 B1 D9 := by
      intro k0 hn
      subst hn
      refine ⟨vm, fun z19 e19 => ⟨fun g => ⟨vm, fun z21 e21 => ⟨fun g3 => ?_, fun g3 => ⟨vm, fun z23 e23 z24 e24 => ?_⟩⟩⟩, fun g z26 e26 => ?_⟩⟩
      · have k2 : ¬ qK Q b = 2 := fun e => g ((kq z19 2 2 e19 rfl (by omega)).mpr e)
        have k3 : ¬ qK Q b = 3 := fun e => g3 ((kq z21 3 3 e21 rfl (by omega)).mpr e)
        refine tl B1 ?_ f1'
        have : efc d Q c b none = c := by simp [efc, k0, k2, k3]
        rw [this]; exact s1
      · have k3 := (kq z21 3 3 e21 rfl (by omega)).mp g3
        have hk := u4 (Or.inr k3)
        have hv := u5 (Or.inr k3)
        have hM := hd.2.2 k3
        have hM3 := m3 (qC Q b)
        rw [cm, f1 13 (by decide), b8 k3] at e23
        have e12 := b7 (Or.inr k3)
        have n24 : z24 = nI (3 * qC Q b) := by rw [e24, e12, show (3 : Int32) = nI 3 from rfl, nI_mul]
        refine ⟨vin2 n24 (by omega) (by omega), fun z25 e25 => ⟨vin2 e23 (by omega) (by omega), 3, ?_⟩⟩
        have s10 := s1.2.2.1 (qC Q b) hk 0 hM
        rw [Nat.add_zero] at s10
        rw [clI n24 (by omega), s10] at e25
        rw [clI e23 (by omega), e12]
        have s2 := RS_sV (v := qV Q b) s1 e25
        have f2 : ∀ k, k ∉ [36, 37, 38, 39, 40] → va_up B1 36 (upd (B1 36) (qV Q b) z25) k = B9 k := fun k hk => by
          rw [← f1' k hk]; simp at hk; simp [va_up, hk]
        generalize va_up B1 36 (upd (B1 36) (qV Q b) z25) = B2 at s2 f2
        have cC : (nI (qC Q b)).toNatClampNeg = qC Q b := clI rfl (by omega)
        have q3 : (3 : Int32) = nI 3 := rfl
        refine ⟨fun z => absurd z (by decide), fun _ z12 e12 z13 e13 z14 e14 z15 e15 z16 e16 => ?_⟩
        have n13 : z13 = nI (3 * qC Q b + 1) := by rw [e13, e12, q3, nI_mul, nI_1]
        have n14 : z14 = nI (3 * qC Q b) := deI n13 e14
        have n16 : z16 = nI (3 * qC Q b + 1) := by rw [e16, e15, q3, nI_mul, nI_1]
        refine ⟨vin2 n16 (by omega) (by omega), fun z17 e17 => ⟨vin2 n14 (by omega) (by omega), fun z18 e18 => ?_⟩⟩
        rw [clI n16 (by omega)] at e17
        rw [clI n14 (by omega), e18]
        refine ⟨fun z => absurd z (by decide), fun _ z12 e12 z13 e13 z14 e14 z15 e15 z16 e16 => ?_⟩
        have n13 : z13 = nI (3 * qC Q b + 1 + 1) := by rw [e13, e12, q3, nI_mul, show (1 : Int32) + 1 = nI 2 from rfl, nI_add]
        have n14 : z14 = nI (3 * qC Q b + 1) := deI n13 e14
        have n16 : z16 = nI (3 * qC Q b + 2) := by rw [e16, e15, q3, nI_mul, show (1 : Int32) + 1 = nI 2 from rfl, nI_add]
        refine ⟨vin2 n16 (by omega) (by omega), fun z17' e17' => ⟨vin2 n14 (by omega) (by omega), fun z18 e18 => ?_⟩⟩
        rw [clI n16 (by omega)] at e17'
        rw [clI n14 (by omega), e18]
        refine ⟨fun _ => ⟨vin2 rfl (by omega) (by omega), fun z10 e10 z11 e11 => ⟨vin2 rfl (by omega) (by omega), tl _ ?_ (fun k hk => ?_)⟩⟩, fun z => absurd (by decide) z⟩
        · rw [cC] at e10 ⊢
          obtain ⟨M, hM'⟩ : ∃ M, c.2.1 (qC Q b) = M + 1 := ⟨c.2.1 (qC Q b) - 1, by omega⟩
          have e10' : z10 = nI (M + 1) := by
            rw [e10, ← hM']
            simp [va_up]; exact s2.2.1 (qC Q b) hk
          have n11 : z11 = nI ((sV c (qV Q b) (c.2.2.1 (3 * qC Q b))).2.1 (qC Q b) - 1) := by
            rw [deI e10' e11]; show nI M = nI (c.2.1 (qC Q b) - 1); congr 1; omega
          have : efc d Q c b none = shf (sV c (qV Q b) (c.2.2.1 (3 * qC Q b))) (qC Q b) := by simp [efc, k3]; rfl
          rw [this]
          refine RS_shf (B9 := B2) s2 hk hM m3 n11 ?_ ?_ (fun j h1 h2 => ?_) (fun j hj => ?_)
          · simp [va_up, upd, e17]
          · rw [e17']; simp [va_up, upd]
          · simp [va_up, upd, h1, h2]
          · simp [va_up, hj]
        · rw [← f2 k hk]; simp at hk; simp [va_up, hk]
      · have k2 := (kq z19 2 2 e19 rfl (by omega)).mp g
        have hk := u4 (Or.inl k2)
        have hM := hd.2.1 k2
        have e12 := b7 (Or.inl k2)
        rw [e12] at e26 ⊢
        have cC : (nI (qC Q b)).toNatClampNeg = qC Q b := clI rfl (by omega)
        have vC : vp_in (nI (qC Q b)) 2 := vin2 rfl (by omega) (by omega)
        refine ⟨vC, fun z27 e27 z28 e28 => ?_⟩
        rw [cC, s1.2.1 _ hk] at e27
        have n28 : z28 = nI (3 * qC Q b + c.2.1 (qC Q b)) := by rw [e28, e26, e27, show (3 : Int32) = nI 3 from rfl, nI_mul, nI_add]
        refine ⟨vin2 n28 (by omega) (by omega), vC, fun z29 e29 z30 e30 => ⟨vC, tl _ ?_ (fun k hk => by rw [← f1' k hk]; simp at hk; simp [va_up, hk])⟩⟩
        rw [cC, s1.2.1 _ hk] at e29
        rw [cC, clI n28 (by omega)]
        have : efc d Q c b none = sM (sG c (3 * qC Q b + c.2.1 (qC Q b)) (vl d Q c b)) (qC Q b) (c.2.1 (qC Q b) + 1) := by simp [efc, k2]
        rw [this]
        exact RS_put s1 hM (hy (by omega)) (inI e29 e30) m3
    refine ⟨vm, fun z31 e31 => ⟨fun g0 => ⟨vm, fun z33 e33 => ⟨fun g2 => ?_, fun g2 => ⟨fun gn => ?_, fun gn => ?_⟩⟩⟩, fun g0 => ?_⟩⟩
    · exact w116 (fun e => g0 ((kq z31 0 0 e31 rfl (by omega)).mpr e)) (nn (fun e => g2 ((kq z33 2 2 e33 rfl (by omega)).mpr e)))
    · exact w116 (fun e => g0 ((kq z31 0 0 e31 rfl (by omega)).mpr e)) (hneg.mp gn)
    · cases r with
      | none => exact absurd (by decide) gn
      | some r =>
        have hrN : r < qN Q := hd.2.1
        have k3 := hd.2.2.2
        have hv := (hW.2.2.1 r hrN).2.2.2.2.1 (Or.inr k3)
        obtain ⟨m', hmr⟩ := hP.2.2.2.1 r hrN
        obtain ⟨r1, r2, r3, r4, r5, r6, r7, r8, _⟩ := hmr
        have cr : (oI (some r)).toNatClampNeg = r := clI rfl (by omega)
        refine ⟨vin2 rfl (by omega) (by omega), fun z36 e36 => ?_⟩
        rw [cr, f1 18 (by decide), r2] at e36
        refine ⟨vin2 e36 r1 (by omega), fun z37 e37 => ?_⟩
        rw [clI e36 (by omega), f1 13 (by decide), r8 k3] at e37
        refine ⟨vin2 e37 (by omega) (by omega), tl _ ?_ (fun k hk => by rw [← f1' k hk]; simp at hk; simp [va_up, hk])⟩
        rw [clI e37 (by omega)]
        exact RS_sV s1 (hy (by have := hd.2.2.1; omega))
    · have k0 := (kq z31 0 0 e31 rfl (by omega)).mp g0
      have hn := nn (by omega)
      subst hn
      have hv := u5 (Or.inl k0)
      have e12 := b6 k0
      rw [e12]
      refine ⟨vin2 rfl (by omega) (by omega), tl _ ?_ (fun k hk => by rw [← f1' k hk]; simp at hk; simp [va_up, hk])⟩
      rw [clI (x := nI (qV Q b)) rfl (by omega)]
      have : efc d Q c b none = sV c (qV Q b) (vl d Q c b) := by simp [efc, k0]
      rw [this]; exact RS_sV s1 (hy (by omega))
  refine ⟨vin2 rfl (by omega) (by omega), fun z38 e38 => ?_⟩
  rw [clI rfl (by omega), b2] at e38
  subst e38
  refine ⟨vm, fun z39 e39 => ⟨vm, fun z40 e40 => ⟨vm, fun z41 e41 => ⟨vm, fun z42 e42 => ?_⟩⟩⟩⟩
  rw [cm, b4] at e39
  rw [cm] at e40 e41 e42
  rw [e39, e40]
  by_cases k2 : qK Q b ≤ 2
  · obtain ⟨x, x1, x2, x3, x4, x5⟩ := b9 k2
    obtain ⟨t1, t2, t3, t4⟩ := u6 k2
    rw [x1] at e41
    rw [x2] at e42
    refine ⟨fun z => ?_, fun _ => ⟨vm, fun z44 e44 => ⟨vm, fun z45 e45 => ?_⟩⟩⟩
    · have := (leI e42 e41 (by omega) (by omega)).mp z; omega
    rw [cm, x1] at e44
    rw [cm, x2] at e45
    rw [e44, e45]
    refine q_worth x4 t1 t2 t3 t4 x3 (RS_nm hP hS) (fun B' hB' => ?_)
    rw [(vl_ok hC.1 t1).2]
    exact st _ B' hB' (fun _ => rfl)
  · obtain ⟨x, x0, x1, x2⟩ := b10 (by omega)
    rw [x1] at e41
    rw [x2] at e42
    exact ⟨fun _ => st 0 B9 (fun _ _ => rfl) (fun e => absurd e k2), fun z => absurd ((leI e42 e41 (by omega) (by omega)).mpr (Nat.le_refl _)) z⟩
/-- the reference keeps the graph -/
def RG9 (d : zD) (Q : zQ) (X : zG) (I9 : Nat → Int32) (B9 : Nat → Nat → Int32) (D9 : Nat → Nat → Int64) : Prop := I9 14 = nI (gN X) ∧ I9 15 = nI (gM X) ∧ (∀ t, t < gN X → D9 1 t = lN (packR d.2.1 d.2.2.1 (qP Q) (gK X t))) ∧ (∀ j, j < gM X → B9 31 j = nI (gS X j) ∧ B9 30 j = nI (gT X j) ∧ B9 32 j = gD X j ∧ B9 33 j = gR X j)
def FY9 (I9 : Nat → Int32) (B9 : Nat → Nat → Int32) (D9 : Nat → Nat → Int64) (I9' : Nat → Int32) (B9' : Nat → Nat → Int32) (D9' : Nat → Nat → Int64) : Prop := (∀ k, k ∉ [14, 15, 16, 17] → I9' k = I9 k) ∧ (∀ k, k ∉ [30, 31, 32, 33, 36, 37, 38, 39, 40] → B9' k = B9 k) ∧ (∀ k, k ≠ 1 → D9' k = D9 k)
theorem FY9.rf : FY9 I9 B9 D9 I9 B9 D9 := ⟨fun _ _ => rfl, fun _ _ => rfl, fun _ _ => rfl⟩
theorem FY9.tr {I1 I2 : Nat → Int32} {B1 B2 : Nat → Nat → Int32} {D1 D2 : Nat → Nat → Int64} (h : FY9 I9 B9 D9 I1 B1 D1) (g : FY9 I1 B1 D1 I2 B2 D2) : FY9 I9 B9 D9 I2 B2 D2 := ⟨fun k hk => (g.1 k hk).trans (h.1 k hk), fun k hk => (g.2.1 k hk).trans (h.2.1 k hk), fun k hk => (g.2.2 k hk).trans (h.2.2 k hk)⟩
theorem FY9.fx {I1 : Nat → Int32} {B1 : Nat → Nat → Int32} {D1 : Nat → Nat → Int64} (h : FY9 I9 B9 D9 I1 B1 D1) : FX9 I9 B9 D9 I1 B1 D1 := ⟨h.1, fun k hk => h.2.1 k (by simp at hk ⊢; omega), h.2.2⟩
def OUT9 (d : zD) (Q : zQ) (o : Option zG) (I9 : Nat → Int32) (B9 : Nat → Nat → Int32) (D9 : Nat → Nat → Int64) : Prop := (o = none ∧ I9 16 = 1 ∧ ∃ X, RG9 d Q X I9 B9 D9 ∧ XI d Q X) ∨ ∃ X, o = some X ∧ I9 16 = 0 ∧ RG9 d Q X I9 B9 D9 ∧ XI d Q X
theorem packR_lt {d : zD} {Q : zQ} {c : zCf} (hN : NC d) (hW : QW d Q) (hc : WC d Q c) : packR d.2.1 d.2.2.1 (qP Q) c < 2 ^ 63 := packR_b hc.1 hN.1 hN.2.1 hW.1
/-- the reference enters a state and adds a step to it -/
theorem r_enter {Post : (Nat → Int32) → (Nat → Int64) → (Nat → Nat → Int32) → (Nat → Nat → Int64) → Prop} {d : zD} {Q : zQ} {X : zG} {c : zCf} {s : Nat} {x2 x3 a0 a1 a2 : Int32} (hW : QW d Q) (hP : PR d Q I9 B9 D9) (hX : XI d Q X) (hG : RG9 d Q X I9 B9 D9) (hc : WC d Q c) (hS : RS d (qP Q) c I9 B9) (hs : s < gN X) (h4 : ¬ gM X = 400) (h16 : I9 16 = 0) (h : ∀ I' B' D', OUT9 d Q ((ent d X c).bind (fun y => adds y.1 s y.2 x2 x3)) I' B' D' → FY9 I9 B9 D9 I' B' D' → Post I' J9 B' D') : wc_LassoFinderModel_step_43 a0 a1 a2 Post (nI s) x2 x3 I9 J9 B9 D9 := by
  have hN := hP.nc
  obtain ⟨x1, xm, xw, xk, xs⟩ := id hX
  obtain ⟨g14, g15, gk, gs⟩ := id hG
  refine r_packed (hP.kr hW) hc.1 hS ?_
  have fi : ∀ t, fn d X c = t → wc_LassoFinderModel_step_80 a0 a1 a2 Post (nI s) x2 x3 (lN (packR d.2.1 d.2.2.1 (qP Q) c)) (nI t) I9 J9 B9 D9 := by
    intro t ht
    have f2 := (fnd_le (fne d X c) (gN X) 0).2.1
    have htn : t ≤ gN X := by rw [← ht]; unfold fn; omega
    refine ⟨fun g => ⟨vin2 rfl (by omega) (by omega), ?_⟩, fun g => ?_⟩
    · have n96 : ¬ t = 96 := fun e => g (by rw [e]; rfl)
      have en : ∀ (y0 : Int32) (X' : zG), ent d X c = some (X', t) → y0 = nI (gN X') → wc_LassoFinderModel_step_125 a0 a1 a2 Post (nI s) x2 x3 (nI t) y0 I9 J9 B9 (va_up D9 1 (vp_updL (D9 1) (nI t).toNatClampNeg (lN (packR d.2.1 d.2.2.1 (qP Q) c)))) := by
        intro y0 X' he hy
        obtain ⟨a1', a2', a3', a4', a5', a6'⟩ := ent_ok hW hX hc he
        have mX : gM X' = gM X := by unfold gM; rw [a6']
        have v := vin2 (n := 401) g15 (by omega) (by omega)
        refine ⟨v, v, v, v, fun z1 e1 => ?_⟩
        have n1 := inI g15 e1
        rw [clI g15 (by omega), clI (x := nI t) rfl (by omega)]
        have ha : adds X' s t x2 x3 = some (gN X', gK X', gM X' + 1, upn (gS X') (gM X') s, upn (gT X') (gM X') t, upd (gD X') (gM X') x2, upd (gR X') (gM X') x3, gF X') := by unfold adds; rw [if_neg (by rw [mX]; exact h4)]
        have hbind : (ent d X c).bind (fun y => adds y.1 s y.2 x2 x3) = some (gN X', gK X', gM X' + 1, upn (gS X') (gM X') s, upn (gT X') (gM X') t, upd (gD X') (gM X') x2, upd (gR X') (gM X') x3, gF X') := by rw [he]; exact ha
        refine h _ _ _ (Or.inr ⟨_, hbind, by simp [upd, h16], ⟨by simp [upd, hy], by simp [upd, n1, mX], fun t' ht' => ?_, fun j hj => ?_⟩, (adds_ok a1' (by omega) a2' ha).1⟩) ⟨fun k hk => by simp at hk; simp [upd, hk], fun k hk => by simp at hk; simp [va_up, hk], fun k hk => by simp [va_up, hk]⟩
        · show va_up D9 1 (vp_updL (D9 1) t (lN (packR d.2.1 d.2.2.1 (qP Q) c))) 1 t' = lN (packR d.2.1 d.2.2.1 (qP Q) (gK X' t'))
          have ht'' : t' < gN X' := ht'
          by_cases e : t' = t
          · subst e; rw [a3']; simp [va_up, vp_updL]
          · have hlt : t' < gN X := by
              unfold ent at he
              split at he
              · rename_i q
                split at he
                · exact absurd he (by simp)
                · injection he with he
                  injection he with he _
                  rw [← he] at ht''
                  have : t' < gN X + 1 := ht''
                  omega
              · injection he with he
                injection he with he _
                rw [← he] at ht''; exact ht''
            rw [a5' t' hlt]; simp [va_up, vp_updL, e]; exact gk t' hlt
        · have hj' : j < gM X' + 1 := hj
          have sX : gS X' = gS X := by unfold gS; rw [a6']
          have tX : gT X' = gT X := by unfold gT; rw [a6']
          have dX : gD X' = gD X := by unfold gD; rw [a6']
          have rX : gR X' = gR X := by unfold gR; rw [a6']
          show va_up (va_up (va_up (va_up B9 31 (upd (B9 31) (gM X) (nI s))) 30 (upd (B9 30) (gM X) (nI t))) 32 (upd (B9 32) (gM X) x2)) 33 (upd (B9 33) (gM X) x3) 31 j = nI (upn (gS X') (gM X') s j) ∧ va_up (va_up (va_up (va_up B9 31 (upd (B9 31) (gM X) (nI s))) 30 (upd (B9 30) (gM X) (nI t))) 32 (upd (B9 32) (gM X) x2)) 33 (upd (B9 33) (gM X) x3) 30 j = nI (upn (gT X') (gM X') t j) ∧ va_up (va_up (va_up (va_up B9 31 (upd (B9 31) (gM X) (nI s))) 30 (upd (B9 30) (gM X) (nI t))) 32 (upd (B9 32) (gM X) x2)) 33 (upd (B9 33) (gM X) x3) 32 j = upd (gD X') (gM X') x2 j ∧ va_up (va_up (va_up (va_up B9 31 (upd (B9 31) (gM X) (nI s))) 30 (upd (B9 30) (gM X) (nI t))) 32 (upd (B9 32) (gM X) x2)) 33 (upd (B9 33) (gM X) x3) 33 j = upd (gR X') (gM X') x3 j
          rw [sX, tX, dX, rX, mX]
          rw [mX] at hj'
          by_cases e : j = gM X
          · subst e; simp [va_up, upd, upn]
          · obtain ⟨q1, q2, q3, q4⟩ := gs j (by omega)
            simp [va_up, upd, upn, e, q1, q2, q3, q4]
      refine ⟨fun gn => en (I9 14) X ?_ g14, fun gn z4 e4 => en z4 (gN X + 1, upK (gK X) (gN X) c, X.2.2) ?_ (inI g14 e4)⟩
      · have : ¬ t = gN X := fun e => gn (by rw [g14, e])
        unfold ent; rw [ht, if_neg this]
      · have : t = gN X := (eqI (x := nI t) rfl g14 (by omega) (by omega)).mp gn
        unfold ent; rw [ht, if_pos this, if_neg (by omega), this]
    · have n96 : t = 96 := (eqI (x := nI t) rfl (y := 96) (b := 96) rfl (by omega) (by omega)).mp g
      have hn : gN X = 96 := by omega
      have he : ent d X c = none := by unfold ent; rw [ht, if_pos (by omega), if_pos hn]
      exact h _ _ _ (Or.inl ⟨by rw [he]; rfl, by simp [upd], X, ⟨by simp [upd]; exact g14, by simp [upd]; exact g15, gk, gs⟩, hX⟩) ⟨fun k hk => by simp at hk; simp [upd, hk], fun _ _ => rfl, fun _ _ => rfl⟩
  have lp : ∀ (m q : Nat), q + m = gN X → fnd (fne d X c) m q = fn d X c → wl_LassoFinderModel_step_52 a0 a1 a2 Post (m + 1) (nI s) x2 x3 (lN (packR d.2.1 d.2.2.1 (qP Q) c)) (nI q) I9 J9 B9 D9 := by
    intro m
    induction m with
    | zero =>
      intro q hq hf
      have e : q = gN X := by omega
      subst e
      exact ⟨fun _ => fi _ hf.symm, fun z => absurd ((leI g14 (y := nI (gN X)) rfl (by omega) (by omega)).mpr (Nat.le_refl _)) z⟩
    | succ m ih =>
      intro q hq hf
      refine ⟨fun z => ?_, fun _ => ⟨vin2 rfl (by omega) (by omega), fun z6 e6 z7 e7 => ?_⟩⟩
      · have := (leI g14 (y := nI q) rfl (by omega) (by omega)).mp z; omega
      rw [clI rfl (by omega), gk q (by omega)] at e6
      rw [e6] at e7
      have hz : z7 = 0 ↔ fne d X c q = true := by
        rw [e7, cmp0, fne_iff hW hX hc (by omega)]
        constructor
        · intro e
          exact packR_inj (xw q (by omega)).1 hc.1 hN.1 hN.2.1 hW.1 (lN_inj (packR_lt hN hW (xw q (by omega))) (packR_lt hN hW hc) e)
        · intro e; rw [e]
      refine ⟨fun g => fi q ?_, fun g z9 e9 => ?_⟩
      · rw [← hf, fnd, if_pos (hz.mp g)]
      · rw [inI rfl e9]
        refine ih (q + 1) (by omega) ?_
        rw [← hf, fnd, if_neg (fun e => g (hz.mpr e))]
  exact ⟨gN X + 1, lp (gN X) 0 (by omega) rfl⟩
end ZL3
