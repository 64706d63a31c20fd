/-! The reference: what can be done. -/
section ZL1
variable {I9 : Nat → Int32} {J9 : Nat → Int64} {B9 : Nat → Nat → Int32} {D9 : Nat → Nat → Int64}
/-- a basic statement as the reference keeps it -/
def R1 (Q : zQ) (B9 : Nat → Nat → Int32) (b m : Nat) : Prop := m < 140 ∧ B9 18 b = nI m ∧ B9 5 m = nI (qK Q b) ∧ B9 6 m = nI (qA Q b) ∧ B9 17 m = nI (qF Q b) ∧ (qK Q b = 0 → B9 12 m = nI (qV Q b)) ∧ (qK Q b = 2 ∨ qK Q b = 3 → B9 12 m = nI (qC Q b)) ∧ (qK Q b = 3 → B9 13 m = nI (qV Q b)) ∧
  (qK Q b ≤ 2 → ∃ x, B9 14 m = nI x ∧ B9 15 m = nI (x + (qT Q b).length) ∧ rep (B9 24) x ((qT Q b).map om) ∧ x + (qT Q b).length ≤ 480 ∧ 1 ≤ (qT Q b).length) ∧ (2 < qK Q b → ∃ x, x ≤ 1000 ∧ B9 14 m = nI x ∧ B9 15 m = nI x) ∧
  (B9 10 m < 0 → qH Q b = false) ∧ (¬ B9 10 m < 0 → ∃ pt, pt ≤ 30 ∧ B9 20 (qA Q b) = nI pt ∧ (pt ≤ qF Q b → qH Q b = false) ∧ (qF Q b < pt → ∃ k, k < 140 ∧ B9 23 (31 * qA Q b + qF Q b) = nI k ∧ (B9 10 k = B9 10 m ↔ qH Q b = true)))
/-- the reference keeps the program -/
def PR (d : zD) (Q : zQ) (I9 : Nat → Int32) (B9 : Nat → Nat → Int32) (D9 : Nat → Nat → Int64) : Prop :=
  NM d I9 B9 ∧ I9 10 = nI (qP Q) ∧ I9 9 = nI (qN Q) ∧ (∀ b, b < qN Q → ∃ m, R1 Q B9 b m) ∧ (∀ b b', b < qN Q → b' < qN Q → B9 18 b = B9 18 b' → b = b') ∧
  (∀ p, p < qP Q → ∃ pt, pt ≤ 30 ∧ B9 20 p = nI pt ∧ ∀ b, qM Q p pt b = false) ∧ (∀ p s, p < 4 → s < 31 → ∀ b, bt (D9 0 (31 * p + s)) b = qM Q p s b)
def FX9 (I9 : Nat → Int32) (B9 : Nat → Nat → Int32) (D9 : Nat → Nat → Int64) (I9' : Nat → Int32) (B9' : Nat → Nat → Int32) (D9' : Nat → Nat → Int64) : Prop := (∀ k, k ∉ [14, 15, 16, 17] → I9' k = I9 k) ∧ (∀ k, k ∉ [29, 30, 31, 32, 33, 34, 35, 36, 37, 38, 39, 40] → B9' k = B9 k) ∧ (∀ k, k ≠ 1 → D9' k = D9 k)
theorem FX9.rf : FX9 I9 B9 D9 I9 B9 D9 := ⟨fun _ _ => rfl, fun _ _ => rfl, fun _ _ => rfl⟩
theorem FX9.tr {I1 I2 : Nat → Int32} {B1 B2 : Nat → Nat → Int32} {D1 D2 : Nat → Nat → Int64} (h : FX9 I9 B9 D9 I1 B1 D1) (g : FX9 I1 B1 D1 I2 B2 D2) : FX9 I9 B9 D9 I2 B2 D2 := ⟨fun k hk => (g.1 k hk).trans (h.1 k hk), fun k hk => (g.2.1 k hk).trans (h.2.1 k hk), fun k hk => (g.2.2 k hk).trans (h.2.2 k hk)⟩
theorem PR.fx {d : zD} {Q : zQ} {I1 : Nat → Int32} {B1 : Nat → Nat → Int32} {D1 : Nat → Nat → Int64} (h : PR d Q I9 B9 D9) (g : FX9 I9 B9 D9 I1 B1 D1) : PR d Q I1 B1 D1 := by
  obtain ⟨gI, gB, gD⟩ := g
  obtain ⟨⟨n1, n2, n3, n4, n5⟩, h2, h3, h4, h5, h6, h7⟩ := h
  refine ⟨⟨by rw [gI 6 (by decide)]; exact n1, by rw [gI 7 (by decide)]; exact n2, n3, n4, ?_⟩, by rw [gI 10 (by decide)]; exact h2, by rw [gI 9 (by decide)]; exact h3, fun b hb => ?_, fun b b' => by rw [gB 18 (by decide)]; exact h5 b b', by rw [gB 20 (by decide)]; exact h6, by rw [gD 0 (by decide)]; exact h7⟩
  · unfold NR; rw [gB 1 (by decide), gB 2 (by decide), gB 3 (by decide), gB 4 (by decide)]; exact n5
  · obtain ⟨m, hm⟩ := h4 b hb
    refine ⟨m, ?_⟩
    unfold R1
    rw [gB 18 (by decide), gB 5 (by decide), gB 6 (by decide), gB 17 (by decide), gB 12 (by decide), gB 13 (by decide), gB 14 (by decide), gB 15 (by decide), gB 24 (by decide), gB 10 (by decide), gB 20 (by decide), gB 23 (by decide)]
    exact hm
theorem PR.kr {d : zD} {Q : zQ} (h : PR d Q I9 B9 D9) (hW : QW d Q) : KR9 d (qP Q) I9 := ⟨h.1.1, h.1.2.1, h.2.1, h.1.2.2.1, h.1.2.2.2.1, hW.1⟩
theorem PR.nc {d : zD} {Q : zQ} (h : PR d Q I9 B9 D9) : NC d := h.1.nc
theorem PR.k40 {d : zD} {Q : zQ} {B1 : Nat → Nat → Int32} (h : PR d Q I9 B9 D9) (g : ∀ k, k ≠ 40 → B1 k = B9 k) : PR d Q I9 B1 D9 := h.fx ⟨fun _ _ => rfl, fun k hk => g k (by simp at hk; omega), fun _ _ => rfl⟩
theorem RS.k40 {d : zD} {np : Nat} {c : zCf} {B1 : Nat → Nat → Int32} (h : RS d np c I9 B9) (g : ∀ k, k ≠ 40 → B1 k = B9 k) : RS d np c I9 B1 := by
  unfold RS; rw [g 36 (by decide), g 37 (by decide), g 38 (by decide), g 39 (by decide)]; exact h
theorem PR.sl {d : zD} {Q : zQ} (h : PR d Q I9 B9 D9) {k : Nat} (hk : k < d.2.2.1) : B9 4 k = nI (sl d k) := by
  obtain ⟨j, j8, e1, e2, e3, e4⟩ := h.1.2.2.2.2.2.2.2.2.1 k hk
  have ej : xc d k = j := by unfold xc; exact clI e1 (by omega)
  rw [e4, ← ej]; exact (sl_ok h.nc hk).1
theorem PR.ini {d : zD} {Q : zQ} (h : PR d Q I9 B9 D9) {k : Nat} (hk : k < d.2.1) : B9 3 k = nI (ini d k) := by
  obtain ⟨j, j8, e1, e2, e3, e4⟩ := h.1.2.2.2.2.2.1 k hk
  have ej : xv d k = j := by unfold xv; exact clI e1 (by omega)
  rw [e4, ← ej]; exact (ini_ok h.nc hk).1
theorem RS_nm {d : zD} {Q : zQ} {c : zCf} {np : Nat} (h : PR d Q I9 B9 D9) (hS : RS d np c I9 B9) : nmv B9 d.2.2.2.1 (amf d c) := by
  have hN := h.nc
  obtain ⟨n1, n2, n3, n4, r0, r1, r2, r3, r4, r5, r6⟩ := h.1
  intro j hj hk
  rcases (r0 j hj).1 with w | w | w
  · exact absurd w hk
  · obtain ⟨v, hv, e1, e2⟩ := r2 j hj w
    have ej : xv d v = j := by unfold xv; exact clI e1 (by omega)
    refine ⟨fun _ => ⟨vin2 e2 (by omega) (by omega), ?_⟩, fun z => ?_⟩
    · rw [clI e2 (by omega), hS.1 v hv, ← ej, amf_v hN hv]
    · rw [e2] at z; exact absurd ((ltI (x := nI v) rfl (y := 0) (b := 0) rfl (by omega) (by omega)).mp z) (by omega)
  · have e3 := r3 j hj (by rw [w]; decide)
    obtain ⟨k, hk, e1, e2⟩ := r5 j hj w
    have ej : xc d k = j := by unfold xc; exact clI e1 (by omega)
    refine ⟨fun z => absurd (by rw [e3]; decide) z, fun _ => ⟨vin2 e2 (by omega) (by omega), ?_⟩⟩
    rw [clI e2 (by omega), hS.2.1 k hk, ← ej, amf_c hN hk]
theorem r_maskOf {Post : Int64 → (Nat → Int32) → (Nat → Int64) → (Nat → Nat → Int32) → (Nat → Nat → Int64) → Prop} {d : zD} {Q : zQ} {c : zCf} {p : Nat} {x : Int32} (hx : x = nI p) (hW : QW d Q) (hP : PR d Q I9 B9 D9) (hS : RS d (qP Q) c I9 B9) (hC : WC d Q c) (hp : p < qP Q) (h : ∀ w, (∀ i, bt w i = hB Q c p i) → Post w I9 J9 B9 D9) : wp_LassoFinderModel_maskOf I9 J9 B9 D9 x Post := by
  subst hx
  have hP4 := hW.1
  have hs := hC.2 p
  obtain ⟨pt, pt30, e20, hz⟩ := hP.2.2.2.2.2.1 p hp
  have v4 : vp_in (nI p) 4 := vin2 rfl (by omega) (by omega)
  have cp : (nI p).toNatClampNeg = p := clI rfl (by omega)
  refine ⟨v4, fun z1 e1 => ⟨vin2 rfl (by omega) (by omega), fun z2 e2 => ?_⟩⟩
  rw [cp, hS.2.2.2.1 p hp] at e1
  rw [cp, e20] at e2
  refine ⟨fun g z4 e4 => ⟨v4, fun z5 e5 z6 e6 => ?_⟩, fun g => h 0 (fun i => ?_)⟩
  · rw [cp, hS.2.2.2.1 p hp] at e5
    have n6 : z6 = nI (31 * p + c.2.2.2.1 p) := by rw [e6, e4, e5, show (31 : Int32) = nI 31 from rfl, nI_mul, nI_add]
    refine ⟨vin2 n6 (by omega) (by omega), fun z7 e7 => h z7 (fun i => ?_)⟩
    rw [e7, clI n6 (by omega), hP.2.2.2.2.2.2 p _ (by omega) (by omega)]; rfl
  · have : c.2.2.2.1 p = pt := (eqI e1 e2 (by omega) (by omega)).mp g
    rw [bt_0]; unfold hB; rw [this, hz i]
theorem r_meets {Post : Int32 → (Nat → Int32) → (Nat → Int64) → (Nat → Nat → Int32) → (Nat → Nat → Int64) → Prop} {d : zD} {Q : zQ} {c : zCf} {b m r : Nat} (hW : QW d Q) (hP : PR d Q I9 B9 D9) (hS : RS d (qP Q) c I9 B9) (hC : WC d Q c) (hb : b < qN Q) (hk : qK Q b = 2) (hm : R1 Q B9 b m) (hr : r < qN Q) (h : Post (if mtc Q c b r = true then 1 else 0) I9 J9 B9 D9) : wp_LassoFinderModel_meets I9 J9 B9 D9 (nI m) (nI r) Post := by
  have hP4 := hW.1
  have hN48 := hW.2.1
  have hc2 := hP.1.2.2.2.1
  obtain ⟨m', m1, m2, m3, m4, m5, m6, m7, m8, _⟩ := hP.2.2.2.1 r hr
  obtain ⟨w1, w2, w3, w4, _⟩ := hW.2.2.1 r hr
  obtain ⟨u1, u2, u3, u4, _⟩ := hW.2.2.1 b hb
  obtain ⟨b1, b2, b3, b4, b5, b6, b7, _⟩ := hm
  refine ⟨vin2 rfl (by omega) (by omega), fun z1 e1 => ?_⟩
  rw [clI rfl (by omega), m2] at e1
  have v1 : vp_in z1 140 := vin2 e1 m1 (by omega)
  have c1 : z1.toNatClampNeg = m' := clI e1 (by omega)
  have cm : (nI m).toNatClampNeg = m := clI rfl (by omega)
  have vm : vp_in (nI m) 140 := vin2 rfl b1 (by omega)
  refine ⟨v1, fun z2 e2 => ?_⟩
  rw [c1, m3] at e2
  have q2 : z2 = 3 ↔ qK Q r = 3 := eqI e2 (y := 3) (b := 3) rfl (by omega) (by omega)
  refine ⟨fun g => ⟨Or.inl rfl, ?_⟩, fun g => ⟨v1, fun z4 e4 => ⟨vm, fun z5 e5 => ?_⟩⟩⟩
  · have g' : ¬ qK Q r = 3 := fun e => g (q2.mpr e)
    rw [if_neg (by simp [mtc, g'])] at h; exact h
  have k3 := q2.mp g
  rw [c1, m7 (Or.inr k3)] at e4
  rw [cm, b7 (Or.inl hk)] at e5
  have hkr := w4 (Or.inr k3)
  have hkb := u4 (Or.inl hk)
  have q4 : z4 = z5 ↔ qC Q r = qC Q b := eqI e4 e5 (by omega) (by omega)
  refine ⟨fun g => ⟨Or.inl rfl, ?_⟩, fun g => ⟨v1, fun z7 e7 => ⟨vm, fun z8 e8 => ?_⟩⟩⟩
  · have g' : ¬ qC Q r = qC Q b := fun e => g (q4.mpr e)
    rw [if_neg (by simp [mtc, g'])] at h; exact h
  have kc := q4.mp g
  rw [c1, m4] at e7
  rw [cm, b4] at e8
  have q7 : z7 = z8 ↔ qA Q r = qA Q b := eqI e7 e8 (by omega) (by omega)
  refine ⟨fun g => ⟨Or.inl rfl, ?_⟩, fun g => ⟨v1, fun z10 e10 => ?_⟩⟩
  · have g' := q7.mp g
    rw [if_neg (by simp [mtc, g'])] at h; exact h
  have ka : ¬ qA Q r = qA Q b := fun e => g (q7.mpr e)
  rw [c1, m4] at e10
  refine r_maskOf e10 hW hP hS hC w2 (fun w hw z12 e12 z13 e13 z14 e14 => ?_)
  rw [e13, e12] at e14
  have t := tstR1 w (b := r) (by omega)
  rw [← e14, hw r] at t
  refine ⟨fun g => ⟨Or.inl rfl, ?_⟩, fun g => ⟨Or.inr rfl, ?_⟩⟩
  · have : hB Q c (qA Q r) r = false := by
      cases e : hB Q c (qA Q r) r
      · rfl
      · exact absurd (t.mpr e) g
    rw [if_neg (by simp [mtc, this])] at h; exact h
  · rw [if_pos (by simp [mtc, k3, kc, ka, t.mp g])] at h; exact h
theorem r_can {Post : Int32 → (Nat → Int32) → (Nat → Int64) → (Nat → Nat → Int32) → (Nat → Nat → Int64) → Prop} {d : zD} {Q : zQ} {c : zCf} {b m : Nat} (hW : QW d Q) (hP : PR d Q I9 B9 D9) (hS : RS d (qP Q) c I9 B9) (hC : WC d Q c) (hb : b < qN Q) (hm : R1 Q B9 b m) (h : ∀ B', (∀ k, k ≠ 40 → B' k = B9 k) → Post (if cn d Q c b = true then 1 else 0) I9 J9 B' D9) : wp_LassoFinderModel_can I9 J9 B9 D9 (nI m) Post := by
  have hN48 := hW.2.1
  have hc2 := hP.1.2.2.2.1
  obtain ⟨u1, u2, u3, u4, u5, u6⟩ := hW.2.2.1 b hb
  have hm' := hm
  obtain ⟨b1, b2, b3, b4, b5, b6, b7, b8, b9, b10, _⟩ := hm
  have cm : (nI m).toNatClampNeg = m := clI rfl (by omega)
  have vm : vp_in (nI m) 140 := vin2 rfl b1 (by omega)
  have h0 := h B9 (fun _ _ => rfl)
  refine ⟨vm, fun z6 e6 => ?_⟩
  rw [cm, b3] at e6
  have kq : ∀ (x y : Int32) (k : Nat), x = nI (qK Q b) → y = nI k → k ≤ 5 → (x = y ↔ qK Q b = k) := fun x y k hx hy hk => eqI hx hy (by omega) (by omega)
  refine ⟨fun g1 => ⟨vm, fun z8 e8 => ?_⟩, fun g1 => ⟨vm, fun z25 e25 => ⟨vm, fun z26 e26 => ?_⟩⟩⟩
  · have k1 : ¬ qK Q b = 1 := fun e => g1 ((kq z6 1 1 e6 rfl (by omega)).mpr e)
    rw [cm, b3] at e8
    refine ⟨fun g3 => ⟨vm, fun z10 e10 => ?_⟩, fun g3 => ⟨vm, fun z22 e22 => ?_⟩⟩
    · have k3 : ¬ qK Q b = 3 := fun e => g3 ((kq z8 3 3 e8 rfl (by omega)).mpr e)
      rw [cm, b3] at e10
      refine ⟨fun g2 => ⟨vm, fun z12 e12 => ?_⟩, fun g2 => ⟨vm, fun z20 e20 => ?_⟩⟩
      · have k2 := (kq z10 2 2 e10 rfl (by omega)).mp g2
        have hk := u4 (Or.inl k2)
        have e12' := b7 (Or.inl k2)
        rw [cm, e12'] at e12
        have s3 := (sl_ok hP.nc hk).2
        refine ⟨vin2 e12 (by omega) (by omega), fun z13 e13 => ?_⟩
        rw [clI e12 (by omega), hP.sl hk] at e13
        have le : z13 ≤ 0 ↔ sl d (qC Q b) ≤ 0 := leI e13 (y := 0) (b := 0) rfl (by omega) (by omega)
        have hcn : cn d Q c b = (if 0 < sl d (qC Q b) then decide (c.2.1 (qC Q b) < sl d (qC Q b)) else anyB (mtc Q c b) (qN Q)) := by simp [cn, k2]
        refine ⟨fun g => ⟨qN Q + 1, ?_⟩, fun g => ⟨vm, fun z15 e15 => ?_⟩⟩
        · have s0 := le.mp g
          rw [if_neg (by omega)] at hcn
          have lp : ∀ (k r : Nat) (y : Int32), r + k = qN Q → y = (if anyB (mtc Q c b) r = true then 1 else 0) → wl_LassoFinderModel_can_140 (nI m) Post (k + 1) (nI m) y (nI r) I9 J9 B9 D9 := by
            intro k
            induction k with
            | zero =>
              intro r y hr hy
              have e : r = qN Q := by omega
              subst e
              refine ⟨fun _ => ⟨by rw [hy]; split <;> simp, ?_⟩, fun z => absurd ((leI hP.2.2.1 (y := nI (qN Q)) rfl (by omega) (by omega)).mpr (Nat.le_refl _)) z⟩
              rw [hcn] at h0; rw [hy]; exact h0
            | succ k ih =>
              intro r y hr hy
              refine ⟨fun z => ?_, fun _ => ⟨fun g z1 e1 => ?_, fun g => ?_⟩⟩
              · have := (leI hP.2.2.1 (y := nI r) rfl (by omega) (by omega)).mp z; omega
              · rw [inI rfl e1]
                refine ih (r + 1) 1 (by omega) ?_
                have : anyB (mtc Q c b) r = true := by
                  cases e : anyB (mtc Q c b) r
                  · rw [hy, e] at g; exact absurd rfl g
                  · rfl
                simp [anyB, this]
              · have ha : anyB (mtc Q c b) r = false := by
                  cases e : anyB (mtc Q c b) r
                  · rfl
                  · rw [hy, e] at g; exact absurd g (by decide)
                refine r_meets hW hP hS hC hb k2 hm' (by omega) ⟨fun q z1 e1 => ?_, fun q z1 e1 => ?_⟩
                · rw [inI rfl e1]
                  refine ih (r + 1) 0 (by omega) ?_
                  have : mtc Q c b r = false := by
                    cases e : mtc Q c b r
                    · rfl
                    · rw [e] at q; exact absurd q (by decide)
                  simp [anyB, this, ha]
                · rw [inI rfl e1]
                  refine ih (r + 1) 1 (by omega) ?_
                  have : mtc Q c b r = true := by
                    cases e : mtc Q c b r
                    · rw [e] at q; exact absurd rfl q
                    · rfl
                  simp [anyB, this]
          exact lp (qN Q) 0 0 (by omega) rfl
        · rw [cm, e12'] at e15
          have v2 := vin2 (n := 2) e15 (by omega) (by omega)
          refine ⟨v2, fun z16 e16 => ⟨vm, fun z17 e17 => ?_⟩⟩
          rw [cm, e12'] at e17
          refine ⟨vin2 e17 (by omega) (by omega), fun z18 e18 => ?_⟩
          rw [clI e15 (by omega), hS.2.1 _ hk] at e16
          rw [clI e17 (by omega), hP.sl hk] at e18
          have s0 : 0 < sl d (qC Q b) := by
            have : ¬ sl d (qC Q b) ≤ 0 := fun e => g (le.mpr e)
            omega
          have m3 := hC.1.2.2.1 (qC Q b)
          have le2 : z18 ≤ z16 ↔ sl d (qC Q b) ≤ c.2.1 (qC Q b) := leI e18 e16 (by omega) (by omega)
          rw [if_pos s0] at hcn
          refine ⟨fun q => ⟨Or.inl rfl, ?_⟩, fun q => ⟨Or.inr rfl, ?_⟩⟩
          · have := le2.mp q
            rw [if_neg (by rw [hcn]; simp; omega)] at h0; exact h0
          · have : ¬ sl d (qC Q b) ≤ c.2.1 (qC Q b) := fun e => q (le2.mpr e)
            rw [if_pos (by rw [hcn]; simp; omega)] at h0; exact h0
      · have k2 : ¬ qK Q b = 2 := fun e => g2 ((kq z10 2 2 e10 rfl (by omega)).mpr e)
        rw [cm, b3] at e20
        have hcn : cn d Q c b = !decide (qK Q b = 5) := by simp [cn, k1, k2, k3]
        refine ⟨fun q => ⟨Or.inl rfl, ?_⟩, fun q => ⟨Or.inr rfl, ?_⟩⟩
        · have := (kq z20 5 5 e20 rfl (by omega)).mp q
          rw [if_neg (by rw [hcn]; simp [this])] at h0; exact h0
        · have : ¬ qK Q b = 5 := fun e => q ((kq z20 5 5 e20 rfl (by omega)).mpr e)
          rw [if_pos (by rw [hcn]; simp [this])] at h0; exact h0
    · have k3 := (kq z8 3 3 e8 rfl (by omega)).mp g3
      have hk := u4 (Or.inr k3)
      rw [cm, b7 (Or.inr k3)] at e22
      refine ⟨vin2 e22 (by omega) (by omega), fun z23 e23 => ?_⟩
      rw [clI e22 (by omega), hS.2.1 _ hk] at e23
      have m3 := hC.1.2.2.1 (qC Q b)
      have le : z23 ≤ 0 ↔ c.2.1 (qC Q b) ≤ 0 := leI e23 (y := 0) (b := 0) rfl (by omega) (by omega)
      have hcn : cn d Q c b = decide (0 < c.2.1 (qC Q b)) := by simp [cn, k3]
      refine ⟨fun q => ⟨Or.inl rfl, ?_⟩, fun q => ⟨Or.inr rfl, ?_⟩⟩
      · have := le.mp q
        rw [if_neg (by rw [hcn]; simp; omega)] at h0; exact h0
      · have : ¬ c.2.1 (qC Q b) ≤ 0 := fun e => q (le.mpr e)
        rw [if_pos (by rw [hcn]; simp; omega)] at h0; exact h0
  · have k1 := (kq z6 1 1 e6 rfl (by omega)).mp g1
    obtain ⟨x, x1, x2, x3, x4, x5⟩ := b9 (by omega)
    obtain ⟨t1, t2, t3, t4⟩ := u6 (by omega)
    rw [cm, x1] at e25
    rw [cm, x2] at e26
    rw [e25, e26]
    refine q_worth x4 t1 t2 t3 t4 x3 (RS_nm hP hS) (fun B' hB' => ?_)
    rw [(vl_ok hC.1 t1).2]
    have hv := (vl_ok hC.1 t1).1
    have hcn : cn d Q c b = !decide (vl d Q c b = 0) := by simp [cn, k1]
    have h1 := h B' hB'
    have ez : nI (vl d Q c b) = 0 ↔ vl d Q c b = 0 := eqI rfl (y := 0) (b := 0) rfl (by omega) (by omega)
    refine ⟨fun z => ⟨Or.inl rfl, ?_⟩, fun z => ⟨Or.inr rfl, ?_⟩⟩
    · rw [if_neg (by rw [hcn, ez.mp z]; decide)] at h1; exact h1
    · have hv0 : ¬ vl d Q c b = 0 := fun e => z (ez.mpr e)
      rw [if_pos (by rw [hcn]; simp [hv0])] at h1; exact h1
end ZL1
