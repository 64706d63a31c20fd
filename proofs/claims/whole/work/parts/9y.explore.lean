/-! The class explores. -/
section ZK5
variable {I : Nat → Int32} {J : Nat → Int64} {B : Nat → Nat → Int32} {D : Nat → Nat → Int64}
def FZ (I : Nat → Int32) (B : Nat → Nat → Int32) (D : Nat → Nat → Int64) (I' : Nat → Int32) (B' : Nat → Nat → Int32) (D' : Nat → Nat → Int64) : Prop := (∀ k, k ∉ [18, 19, 20] → I' k = I k) ∧ (∀ k, k ∉ [17, 29, 30, 31, 32, 33, 34, 35, 36] → B' k = B k) ∧ (∀ k, k ≠ 2 → D' k = D k)
theorem FZ.rf : FZ I B D I B D := ⟨fun _ _ => rfl, fun _ _ => rfl, fun _ _ => rfl⟩
theorem FZ.tr {I1 I2 : Nat → Int32} {B1 B2 : Nat → Nat → Int32} {D1 D2 : Nat → Nat → Int64} (h : FZ I B D I1 B1 D1) (g : FZ I1 B1 D1 I2 B2 D2) : FZ I B D I2 B2 D2 := ⟨fun k hk => (g.1 k hk).trans (h.1 k hk), fun k hk => (g.2.1 k hk).trans (h.2.1 k hk), fun k hk => (g.2.2 k hk).trans (h.2.2 k hk)⟩
theorem FY.fz {I1 : Nat → Int32} {B1 : Nat → Nat → Int32} {D1 : Nat → Nat → Int64} (h : FY I B D I1 B1 D1) : FZ I B D I1 B1 D1 := ⟨h.1, fun k hk => h.2.1 k (by simp at hk ⊢; omega), h.2.2⟩
theorem FZ.fx {I1 : Nat → Int32} {J1 : Nat → Int64} {B1 : Nat → Nat → Int32} {D1 : Nat → Nat → Int64} (h : FZ I B D I1 B1 D1) (hJ : ∀ k, k ≠ 1 → J1 k = J k) : FX I J B D I1 J1 B1 D1 := ⟨h.1, hJ, fun k hk => h.2.1 k (by simp at hk ⊢; omega), h.2.2⟩
theorem CG_32 {d : zD} {X : zG} {f : Nat → Int32} (h : CG d X I B D) : CG d X I (va_up B 32 f) D := by
  obtain ⟨g19, g20, gk, gs⟩ := h
  refine ⟨g19, g20, gk, fun j hj => ?_⟩
  simpa [va_up] using gs j hj
theorem OUT_32 {d : zD} {Q : zQ} {o : Option zG} {y : Int32} {f : Nat → Int32} (h : OUT d Q o y I B D) : OUT d Q o y I (va_up B 32 f) D := by
  rcases h with h | ⟨X, a, b, c, e⟩
  · exact Or.inl h
  · exact Or.inr ⟨X, a, b, CG_32 c, e⟩
theorem OUT_y {d : zD} {Q : zQ} {o : Option zG} {y : Int32} (h : OUT d Q o y I B D) : y = 0 ∨ y = 1 := by
  rcases h with ⟨_, h⟩ | ⟨_, _, h, _⟩
  · exact Or.inl h
  · exact Or.inr h
theorem q_addStepsOf {Post : Int32 → (Nat → Int32) → (Nat → Int64) → (Nat → Nat → Int32) → (Nat → Nat → Int64) → Prop} {d : zD} {Q : zQ} {X : zG} {s : Nat} (hN : NC d) (hW : QW d Q) (hP : PC d Q I J B D) (hX : XI d Q X) (hG : CG d X I B D) (hs : s < gN X) (h : ∀ y I' J' B' D', OUT d Q (of1 d Q X s) y I' B' D' → FZ I B D I' B' D' → (∀ k, k ≠ 1 → J' k = J k) → B' 32 s = nI (gM X) → B' 32 (s + 1) = I' 20 → (∀ q, q ≠ s → q ≠ s + 1 → B' 32 q = B 32 q) → Post y I' J' B' D') : wp_Graph_addStepsOf I J B D (nI s) Post := by
  have x1 := hX.1
  have x2 := hX.2.1
  have hC := hX.2.2.1 s hs
  obtain ⟨g19, g20, gk, gs⟩ := id hG
  refine ⟨vin2 rfl (by omega) (by omega), vin2 rfl (by omega) (by omega), fun z14 e14 => ?_⟩
  have cs : (nI s).toNatClampNeg = s := clI rfl (by omega)
  rw [cs, gk s hs] at e14
  rw [e14, cs]
  have K0 : va_up B 32 (upd (B 32) s (I 20)) 32 s = nI (gM X) := by simp [va_up, upd, g20]
  have K1 : ∀ q, q ≠ s → va_up B 32 (upd (B 32) s (I 20)) 32 q = B 32 q := fun q hq => by simp [va_up, upd, hq]
  have F0 : FZ I B D I (va_up B 32 (upd (B 32) s (I 20))) D := ⟨fun _ _ => rfl, fun k hk => by simp at hk; simp [va_up, hk], fun _ _ => rfl⟩
  have G0 : CG d X I (va_up B 32 (upd (B 32) s (I 20))) D := CG_32 hG
  generalize va_up B 32 (upd (B 32) s (I 20)) = B0 at K0 K1 F0 G0
  have P0 : PC d Q I J B0 D := hP.fx (F0.fx (fun _ _ => rfl))
  obtain ⟨h19, h20, hk, hsg⟩ := id G0
  refine q_unpack hN P0.1 hC.1 hW.1 (fun I2 B2 s2 f2 => ?_)
  have F2 : FY I B0 D I2 B2 D := ⟨fun k hk => f2.1 k (by simp at hk ⊢; omega), fun k hk => f2.2 k (by simp at hk ⊢; omega), fun _ _ => rfl⟩
  have P2 : PC d Q I2 J B2 D := P0.fx F2.fx
  refine q_able hN hW P2 s2 hC (fun w J2 B3 hw hJ2 hJp f3 => ⟨49, ?_⟩)
  have F3 : FY I B0 D I2 B3 D := F2.tr ⟨fun _ _ => rfl, fun k hk => f3 k (by simp at hk; omega), fun _ _ => rfl⟩
  have P3 : PC d Q I2 J2 B3 D := P0.fx ⟨F3.1, hJ2, fun k hk => F3.2.1 k (by simp at hk ⊢; omega), F3.2.2⟩
  have G3 : CG d X I2 B3 D := ⟨by rw [f2.1 19 (by decide)]; exact h19, by rw [f2.1 20 (by decide)]; exact h20, hk, fun j hj => by
    rw [f3 33 (by decide), f3 34 (by decide), f3 35 (by decide), f3 36 (by decide), f2.2 33 (by decide), f2.2 34 (by decide), f2.2 35 (by decide), f2.2 36 (by decide)]; exact hsg j hj⟩
  -- the end
  have fin : ∀ y I4 B4 D4, OUT d Q (of1 d Q X s) y I4 B4 D4 → FY I B0 D I4 B4 D4 → wc_Graph_addStepsOf_103 (nI s) Post (nI s) y I4 J2 B4 D4 := by
    intro y I4 B4 D4 hO hF z1 e1
    have n1 : z1 = nI (s + 1) := inI rfl e1
    refine ⟨vin2 n1 (by omega) (by omega), OUT_y hO, ?_⟩
    rw [clI n1 (by omega)]
    have e32 := hF.2.1 32 (by decide)
    refine h y I4 J2 _ D4 (OUT_32 hO) (F0.tr (hF.fz.tr ⟨fun _ _ => rfl, fun k hk => by simp at hk; simp [va_up, hk], fun _ _ => rfl⟩)) hJ2 ?_ ?_ (fun q h1 h2 => ?_)
    · have : ¬ s = s + 1 := by omega
      simp [va_up, upd, e32]; exact K0
    · simp [va_up, upd]
    · simp [va_up, upd, h2, e32]; exact K1 q h1
  obtain ⟨oX, hoX⟩ : ∃ o, ofL d Q s (gK X s) 48 0 X = o := ⟨_, rfl⟩
  have lp : ∀ (m b : Nat) (Y : zG) (I4 : Nat → Int32) (B4 : Nat → Nat → Int32) (D4 : Nat → Nat → Int64), b + m = 48 → XI d Q Y → CG d Y I4 B4 D4 → s < gN Y → gK Y s = gK X s → FY I B0 D I4 B4 D4 → ofL d Q s (gK X s) m b Y = oX → wl_Graph_addStepsOf_37 (nI s) Post (m + 1) (nI s) w 1 (nI b) I4 J2 B4 D4 := by
    intro m
    induction m with
    | zero =>
      intro b Y I4 B4 D4 hb hY hG4 hsY hkY hF ho
      have e : b = 48 := by omega
      subst e
      refine ⟨fun _ => ⟨fun z => absurd z (by decide), fun _ => ⟨vin2 rfl (by omega) (by omega), fun z3 e3 => ?_⟩⟩, fun z => absurd ?_ z⟩
      · rw [cs, hF.2.1 32 (by decide), K0] at e3
        have y2 := hY.2.1
        have hq : I4 20 = z3 ↔ gM Y = gM X := eqI hG4.2.1 e3 (by omega) (by omega)
        have hof : of1 d Q X s = if gM Y = gM X then adds Y s s (-1) (-1) else some Y := by
          unfold of1; rw [hoX, ← ho]; rfl
        refine ⟨fun g => fin 1 I4 B4 D4 (Or.inr ⟨Y, ?_, rfl, hG4, hY⟩) hF, fun g => ?_⟩
        · rw [hof, if_neg (fun e => g (hq.mpr e))]
        · rw [if_pos (hq.mp g)] at hof
          refine q_add y2 hG4 (fun ha => fin 0 I4 B4 D4 (Or.inl ⟨by rw [hof]; exact ha, rfl⟩) hF) (fun X2 I5 B5 ha G5 i5 f5 => fin 1 I5 B5 D4 (Or.inr ⟨X2, by rw [hof]; exact ha, rfl, G5, (adds_ok hY hsY hsY ha).1⟩) (hF.tr ⟨fun k hk => i5 k (by simp at hk ⊢; omega), fun k hk => f5 k (by simp at hk ⊢; omega), fun _ _ => rfl⟩))
      · exact (leI (x := 48) (a := 48) rfl (y := nI 48) rfl (by omega) (by omega)).mpr (by omega)
    | succ m ih =>
      intro b Y I4 B4 D4 hb hY hG4 hsY hkY hF ho
      refine ⟨fun z => ?_, fun _ => ⟨fun z => absurd z (by decide), fun _ z9 e9 z10 e10 z11 e11 => ?_⟩⟩
      · have := (leI (x := 48) (a := 48) rfl (y := nI b) rfl (by omega) (by omega)).mp z; omega
      rw [e10, e9] at e11
      have t := tstC w (b := b) (by omega)
      rw [← e11, hw b] at t
      unfold ofL at ho
      refine ⟨fun g z6 e6 => ?_, fun g => ?_⟩
      · rw [if_neg (by rw [t.mp g]; decide)] at ho
        rw [inI rfl e6]
        exact ih (b + 1) Y I4 B4 D4 (by omega) hY hG4 hsY hkY hF ho
      · have hp : dob d Q (gK X s) b = true := by
          cases e : dob d Q (gK X s) b
          · exact absurd (t.mpr e) g
          · rfl
        rw [if_pos hp] at ho
        have P4 : PC d Q I4 J2 B4 D4 := P0.fx ⟨hF.1, hJ2, fun k hk => hF.2.1 k (by simp at hk ⊢; omega), hF.2.2⟩
        refine q_addStepsBy hN hW P4 hY hG4 hsY (by rw [hkY]; exact hJp) (by rw [hkY]; exact hp) (fun y I5 B5 D5 hO hF5 z6 e6 => ?_)
        rw [inI rfl e6]
        rcases hO with ⟨hn, hy⟩ | ⟨X2, hn, hy, hG2, hX2⟩
        · rw [hn] at ho
          rw [hy]
          have hof : of1 d Q X s = none := by unfold of1; rw [hoX, ← ho]; rfl
          have fi := fin 0 I5 B5 D5 (Or.inl ⟨hof, rfl⟩) (hF.tr hF5)
          exact ⟨fun _ => ⟨fun _ => fi, fun q => absurd rfl q⟩, fun _ => ⟨fun _ => ⟨fun _ => fi, fun q => absurd rfl q⟩, fun q => absurd rfl q⟩⟩
        · rw [hn] at ho
          rw [hy]
          obtain ⟨a1, a2, a3⟩ := by1_ok hN hW hY hsY (by rw [hkY]; exact hp) hn
          exact ih (b + 1) X2 I5 B5 D5 (by omega) hX2 hG2 (by have := a2.1; omega) (by rw [a2.2.1 s hsY]; exact hkY) (hF.tr hF5) ho
  exact lp 48 0 X I2 B3 D (by omega) hX G3 hs rfl F3 hoX
/-- the first state -/
def c0 (d : zD) (Q : zQ) : zCf := (fun v => if v < d.2.1 then ini d v else 0, fun _ => 0, fun _ => 0, qS Q, 0)
theorem WC_0 {d : zD} {Q : zQ} (hN : NC d) (hW : QW d Q) : WC d Q (c0 d Q) := by
  refine ⟨⟨fun v => ?_, fun v hv => ?_, fun _ => Nat.zero_le _, fun _ _ => rfl, fun _ => by show 0 < 8; omega, fun _ _ => rfl, fun _ _ _ _ => rfl, fun p => by have := hW.2.2.2.2.1 p; show qS Q p < 32; omega, fun p hp => hW.2.2.2.2.2.1 p hp, Nat.zero_le _⟩, fun p => hW.2.2.2.2.1 p⟩
  · show (if v < d.2.1 then ini d v else 0) < 8
    split
    · rename_i g; exact (ini_ok hN g).2
    · omega
  · show (if v < d.2.1 then ini d v else 0) = 0
    rw [if_neg (by omega)]
theorem q_begin {Post : (Nat → Int32) → (Nat → Int64) → (Nat → Nat → Int32) → (Nat → Nat → Int64) → Prop} {d : zD} {Q : zQ} (hN : NC d) (hW : QW d Q) (hP : PC d Q I J B D) (h : ∀ I' B', CS d (c0 d Q) I' B' → (∀ k, k ≠ 18 → I' k = I k) → (∀ k, k ∉ [29, 30, 31] → B' k = B k) → Post I' J B' D) : wp_Situation_begin I J B D Post := by
  obtain ⟨⟨k7, k8, k4, k5⟩, p3, p10, p9, hL, hJ0, hD0, hD1, h13⟩ := hP
  have hv6 := hN.1
  have lp : ∀ (m v : Nat) (B1 : Nat → Nat → Int32), v + m = d.2.1 → (∀ j, j < v → B1 29 (xv d j) = nI (ini d j)) → (∀ k, k < d.2.2.1 → B1 29 (xc d k) = 0) → (∀ j, j < 24 → B1 30 j = 0) → (∀ k, k ∉ [29, 30, 31] → B1 k = B k) → wl_Situation_begin_18 Post (m + 1) (nI v) I J B1 D := by
    intro m
    induction m with
    | zero =>
      intro v B1 hv a1 a2 a3 a4
      have e : v = d.2.1 := by omega
      subst e
      refine ⟨fun _ => h _ _ ⟨fun v hv => ?_, fun k hk => ?_, fun k hk i hi => ?_, fun p hp => ?_, ?_⟩ (fun k hk => by simp [upd, hk]) (fun k hk => by rw [← a4 k hk]; simp at hk; simp [va_up, hk]), fun z => absurd ((leI k7 (y := nI d.2.1) rfl (by omega) (by omega)).mpr (Nat.le_refl _)) z⟩
      · have : va_up B1 31 (va_cpy (B1 13) (B1 31) (0 : Int32).toNatClampNeg (0 : Int32).toNatClampNeg (4 : Int32).toNatClampNeg) 29 = B1 29 := by simp [va_up]
        rw [this, a1 v hv]
        show nI (ini d v) = nI (if v < d.2.1 then ini d v else 0)
        rw [if_pos hv]
      · have : va_up B1 31 (va_cpy (B1 13) (B1 31) (0 : Int32).toNatClampNeg (0 : Int32).toNatClampNeg (4 : Int32).toNatClampNeg) 29 = B1 29 := by simp [va_up]
        rw [this, a2 k hk]; rfl
      · have : va_up B1 31 (va_cpy (B1 13) (B1 31) (0 : Int32).toNatClampNeg (0 : Int32).toNatClampNeg (4 : Int32).toNatClampNeg) 30 = B1 30 := by simp [va_up]
        rw [this, a3 _ (by have := (hN.c hk).2.1; omega)]; rfl
      · have : va_up B1 31 (va_cpy (B1 13) (B1 31) (0 : Int32).toNatClampNeg (0 : Int32).toNatClampNeg (4 : Int32).toNatClampNeg) 31 p = B1 13 p := by
          have e4 : (4 : Int32).toNatClampNeg = 4 := by decide
          have e0 : (0 : Int32).toNatClampNeg = 0 := by decide
          simp [va_up, va_cpy, e4, e0, hp]
        rw [this, a4 13 (by decide), h13 p hp]; rfl
      · simp [upd]; rfl
    | succ m ih =>
      intro v B1 hv a1 a2 a3 a4
      refine ⟨fun z => ?_, fun _ => ⟨vin2 rfl (by omega) (by omega), fun z2 e2 => ?_⟩⟩
      · have := (leI k7 (y := nI v) rfl (by omega) (by omega)).mp z; omega
      obtain ⟨xe, x8, x1⟩ := hN.v (v := v) (by omega)
      rw [clI rfl (by omega), a4 4 (by decide), k4, xe] at e2
      refine ⟨vin2 e2 x8 (by omega), fun z3 e3 => ⟨vin2 e2 x8 (by omega), fun z4 e4 => ?_⟩⟩
      rw [clI e2 (by omega), a4 3 (by decide), p3, (ini_ok hN (k := v) (by omega)).1] at e3
      rw [inI rfl e4, clI e2 (by omega)]
      refine ih (v + 1) _ (by omega) (fun j hj => ?_) (fun k hk => ?_) (fun j hj => by simpa [va_up] using a3 j hj) (fun k hk => by rw [← a4 k hk]; simp at hk; simp [va_up, hk])
      · by_cases e : j = v
        · subst e; simp [va_up, upd, e3]
        · have : ¬ xv d j = xv d v := fun q => e (hN.vi (by omega) (by omega) q)
          simp [va_up, upd, this]; exact a1 j (by omega)
      · have : ¬ xc d k = xv d v := fun q => hN.vc (v := v) (by omega) hk q.symm
        simp [va_up, upd, this]; exact a2 k hk
  refine ⟨d.2.1 + 1, lp d.2.1 0 _ (by omega) (fun j hj => by omega) (fun k hk => ?_) (fun j hj => ?_) (fun k hk => by simp at hk; simp [va_up, hk])⟩
  · have := (hN.c hk).2.1
    simp [va_up, zFill, this]
  · simp [va_up, zFill, hj]
def sF (X : zG) (f : Nat → Nat) : zG := (X.1, X.2.1, X.2.2.1, X.2.2.2.1, X.2.2.2.2.1, X.2.2.2.2.2.1, X.2.2.2.2.2.2.1, f)
def exG (d : zD) (Q : zQ) : Nat → Nat → zG → Option zG
  | 0, _, X => some X
  | m + 1, q, X => if q < gN X then (of1 d Q X q).bind (fun X' => exG d Q m (q + 1) (sF X' (upn (upn (gF X) q (gM X)) (q + 1) (gM X')))) else some X
def g0 (d : zD) (Q : zQ) : zG := (0 + 1, upK (fun _ => c0 d Q) 0 (c0 d Q), 0, fun _ => 0, fun _ => 0, fun _ => 0, fun _ => 0, fun _ => 0)
/-- all states and steps -/
def gall (d : zD) (Q : zQ) : Option zG := exG d Q 96 0 (g0 d Q)
theorem XI_0 {d : zD} {Q : zQ} (hN : NC d) (hW : QW d Q) : XI d Q (g0 d Q) := by
  refine ⟨by show 0 + 1 ≤ 96; omega, by show 0 ≤ 400; omega, fun t _ => ?_, fun t t' h1 h2 _ => ?_, fun j hj => ?_⟩
  · have : gK (g0 d Q) t = c0 d Q := by show upK (fun _ => c0 d Q) 0 (c0 d Q) t = c0 d Q; unfold upK; split <;> rfl
    rw [this]; exact WC_0 hN hW
  · have a : t < 0 + 1 := h1
    have b : t' < 0 + 1 := h2
    omega
  · have : j < 0 := hj
    omega
/-- the rows of first steps -/
def G32 (X : zG) (q : Nat) (B : Nat → Nat → Int32) : Prop := (∀ j, j ≤ q → B 32 j = nI (gF X j)) ∧ gF X q = gM X
theorem q_exL {Post : Int32 → (Nat → Int32) → (Nat → Int64) → (Nat → Nat → Int32) → (Nat → Nat → Int64) → Prop} {d : zD} {Q : zQ} (hN : NC d) (hW : QW d Q) (hP : PC d Q I J B D) (h0 : gall d Q = none → ∀ I' J' B' D', FX I J B D I' J' B' D' → Post 0 I' J' B' D') (h1 : ∀ X I' J' B' D', gall d Q = some X → XI d Q X → CG d X I' B' D' → G32 X (gN X) B' → FX I J B D I' J' B' D' → wp_Graph_turnRound I' J' B' D' (fun I2 J2 B2 D2 => wc_Graph_explore_78 Post 1 I2 J2 B2 D2)) : ∀ (m q : Nat) (X : zG) (I1 : Nat → Int32) (J1 : Nat → Int64) (B1 : Nat → Nat → Int32) (D1 : Nat → Nat → Int64), q + m = 96 → q ≤ gN X → XI d Q X → CG d X I1 B1 D1 → (0 < q → G32 X q B1) → (0 < gN X) → (q = 0 → gM X = 0) → FX I J B D I1 J1 B1 D1 → exG d Q m q X = gall d Q → wl_Graph_explore_40 Post (m + 1) 1 (nI q) I1 J1 B1 D1 := by
  intro m
  induction m with
  | zero =>
    intro q X I1 J1 B1 D1 hq hqn hX hG h32 hpos hm0 hF ho
    have e : q = 96 := by omega
    subst e
    have hn : gN X = 96 := by have := hX.1; omega
    have h3 : G32 X (gN X) B1 := by rw [hn]; exact h32 (by omega)
    refine ⟨fun _ => ⟨fun z => absurd z (by decide), fun _ => ?_⟩, fun z => absurd ?_ z⟩
    · exact h1 X I1 J1 B1 D1 ho.symm hX hG h3 hF
    · exact (leI (x := 96) (a := 96) rfl (y := nI 96) rfl (by omega) (by omega)).mpr (by omega)
  | succ m ih =>
    intro q X I1 J1 B1 D1 hq hqn hX hG h32 hpos hm0 hF ho
    have x1 := hX.1
    refine ⟨fun z => ?_, fun _ => ⟨fun z => ?_, fun z => ⟨fun z => absurd z (by decide), fun _ => ?_⟩⟩⟩
    · have := (leI (x := 96) (a := 96) rfl (y := nI q) rfl (by omega) (by omega)).mp z; omega
    · have hle := (leI hG.1 (y := nI q) rfl (by omega) (by omega)).mp z
      have e : q = gN X := by omega
      unfold exG at ho
      rw [if_neg (by omega)] at ho
      have h3 : G32 X (gN X) B1 := by rw [← e]; exact h32 (by omega)
      refine ⟨fun z => absurd z (by decide), fun _ => ?_⟩
      exact h1 X I1 J1 B1 D1 ho.symm hX hG h3 hF
    · have hlt : q < gN X := by
        have : ¬ gN X ≤ q := fun e => z ((leI hG.1 (y := nI q) rfl (by omega) (by omega)).mpr e)
        omega
      unfold exG at ho
      rw [if_pos hlt] at ho
      refine q_addStepsOf hN hW (hP.fx hF) hX hG hlt (fun y I2 J2 B2 D2 hO hF2 hJ2 k0 k1 k2 z7 e7 => ?_)
      rw [inI rfl e7]
      have hF3 : FX I J B D I2 J2 B2 D2 := hF.tr (hF2.fx hJ2)
      rcases hO with ⟨hn, hy⟩ | ⟨Y, hn, hy, hG2, hX2⟩
      · rw [hn] at ho
        rw [hy]
        have fi := h0 ho.symm I2 J2 B2 D2 hF3
        have fi2 : wc_Graph_explore_70 Post 0 I2 J2 B2 D2 := ⟨fun _ => ⟨Or.inl rfl, fi⟩, fun q => absurd rfl q⟩
        exact ⟨fun _ => fi2, fun _ => ⟨fun _ => fi2, fun _ => ⟨fun _ => fi2, fun q => absurd rfl q⟩⟩⟩
      · rw [hn] at ho
        rw [hy]
        obtain ⟨a1, a2, a3⟩ := of1_ok hN hW hX hlt hn
        have x1' := a1.1
        have x2' := a1.2.1
        refine ih (q + 1) (sF Y (upn (upn (gF X) q (gM X)) (q + 1) (gM Y))) I2 J2 B2 D2 (by omega) (by have := a2.1; show q + 1 ≤ gN Y; omega) hX2 hG2 (fun _ => ⟨fun j hj => ?_, ?_⟩) (by have := a2.1; show 0 < gN Y; omega) (by omega) hF3 ho
        · show B2 32 j = nI (upn (upn (gF X) q (gM X)) (q + 1) (gM Y) j)
          by_cases e1 : j = q + 1
          · subst e1; rw [k1, upn_at]; exact hG2.2.1
          · rw [upn_ne e1]
            by_cases e2 : j = q
            · subst e2; rw [k0, upn_at]
            · rw [upn_ne e2, k2 j e2 e1]; exact (h32 (by omega)).1 j (by omega)
        · show upn (upn (gF X) q (gM X)) (q + 1) (gM Y) (q + 1) = gM Y
          exact upn_at _ _ _
theorem q_explore {Post : Int32 → (Nat → Int32) → (Nat → Int64) → (Nat → Nat → Int32) → (Nat → Nat → Int64) → Prop} {d : zD} {Q : zQ} (hN : NC d) (hW : QW d Q) (hP : PC d Q I J B D) (h0 : gall d Q = none → ∀ I' J' B' D', FX I J B D I' J' B' D' → Post 0 I' J' B' D') (h1 : ∀ X I' J' B' D', gall d Q = some X → XI d Q X → CG d X I' B' D' → G32 X (gN X) B' → FX I J B D I' J' B' D' → wp_Graph_turnRound I' J' B' D' (fun I2 J2 B2 D2 => wc_Graph_explore_78 Post 1 I2 J2 B2 D2)) : wp_Graph_explore I J B D Post := by
  have F0 : FX I J B D (upd (upd I 19 0) 20 0) J B D := ⟨fun k hk => by simp at hk; simp [upd, hk], fun _ _ => rfl, fun _ _ => rfl, fun _ _ => rfl⟩
  refine q_begin hN hW (hP.fx F0) (fun I2 B2 s2 i2 f2 => ?_)
  have F2 : FX I J B D I2 J B2 D := F0.tr ⟨fun k hk => i2 k (by simp at hk ⊢; omega), fun _ _ => rfl, fun k hk => f2 k (by simp at hk ⊢; omega), fun _ _ => rfl⟩
  have W0 := WC_0 hN hW
  refine q_packed hN (hP.fx F2).1 W0.1 hW.1 s2 ?_
  have G2 : CG d (0, fun _ => c0 d Q, 0, fun _ => 0, fun _ => 0, fun _ => 0, fun _ => 0, fun _ => 0) I2 B2 D := ⟨by rw [i2 19 (by decide)]; simp [upd]; rfl, by rw [i2 20 (by decide)]; simp [upd]; rfl, fun t ht => absurd ht (Nat.not_lt_zero t), fun j hj => absurd hj (Nat.not_lt_zero j)⟩
  have X2 : XI d Q (0, fun _ => c0 d Q, 0, fun _ => 0, fun _ => 0, fun _ => 0, fun _ => 0, fun _ => 0) := ⟨Nat.zero_le _, Nat.zero_le _, fun t ht => absurd ht (Nat.not_lt_zero t), fun t _ ht => absurd ht (Nat.not_lt_zero t), fun j hj => absurd hj (Nat.not_lt_zero j)⟩
  refine q_enter hN hW X2 W0 G2 (fun he => absurd he (by simp [ent, fn, fnd, gN])) (fun X' t I3 D3 he G3 i3 d3 => ⟨fun g => ?_, fun g => ⟨97, ?_⟩⟩)
  · exact absurd g (nI_m1 (by have := (ent_ok hW X2 W0 he); have := this.2.1; have := (ent_ok hW X2 W0 he).1.1; omega))
  · have hg : X' = g0 d Q := by
      have : ent d (0, fun _ => c0 d Q, 0, fun _ => 0, fun _ => 0, fun _ => 0, fun _ => 0, fun _ => 0) (c0 d Q) = some (g0 d Q, 0) := rfl
      rw [this] at he
      injection he with he
      injection he with he _
      exact he.symm
    subst hg
    exact q_exL hN hW hP h0 h1 96 0 (g0 d Q) I3 J B2 D3 (by omega) (Nat.zero_le _) (XI_0 hN hW) G3 (fun z => absurd z (by omega)) (Nat.succ_pos 0) (fun _ => rfl) (F2.tr ⟨fun k hk => i3 k (by simp at hk ⊢; omega), fun _ _ => rfl, fun _ _ => rfl, d3⟩) rfl
end ZK5
