/-! The class: what begins a step. -/
section ZJ8
variable {I : Nat → Int32} {J : Nat → Int64} {B : Nat → Nat → Int32} {D : Nat → Nat → Int64}
/-- the class keeps the program -/
def PC (d : zD) (Q : zQ) (I : Nat → Int32) (J : Nat → Int64) (B : Nat → Nat → Int32) (D : Nat → Nat → Int64) : Prop :=
  KX d I B ∧ B 3 = d.2.2.2.2.1 ∧ I 10 = nI (qP Q) ∧ I 9 = nI (qN Q) ∧
  (∃ L, I 11 = nI L ∧ L ≤ 480 ∧ ∀ b, b < qN Q → B 6 b = nI (qK Q b) ∧ B 10 b = nI (qA Q b) ∧ B 11 b = nI (qF Q b) ∧ B 12 b = (if qH Q b = true then 1 else 0) ∧ (qK Q b = 2 ∨ qK Q b = 3 → B 7 b = nI (xc d (qC Q b))) ∧ (qK Q b = 0 ∨ qK Q b = 3 → B 8 b = nI (xv d (qV Q b))) ∧ (qK Q b ≤ 2 → ∃ lb, B 9 b = nI lb ∧ lb ≤ 480 ∧ rep (B 15) lb (22 :: qT Q b) ∧ lb + (qT Q b).length < L) ∧ (2 < qK Q b → B 9 b = -1)) ∧
  (∀ b, bt (J 0) b = (decide (b < qN Q) && decide (qK Q b = 5))) ∧ (∀ k, k < d.2.2.1 → ∀ b, bt (D 0 (xc d k)) b = (decide (b < qN Q) && decide (qK Q b = 3) && decide (qC Q b = k))) ∧ (∀ p s, p < 4 → s < 31 → ∀ b, bt (D 1 (31 * p + s)) b = qM Q p s b) ∧ (∀ p, p < 4 → B 13 p = nI (qS Q p))
/-- what exploring leaves as it is -/
def FX (I : Nat → Int32) (J : Nat → Int64) (B : Nat → Nat → Int32) (D : Nat → Nat → Int64) (I' : Nat → Int32) (J' : Nat → Int64) (B' : Nat → Nat → Int32) (D' : Nat → Nat → Int64) : Prop := (∀ k, k ∉ [18, 19, 20] → I' k = I k) ∧ (∀ k, k ≠ 1 → J' k = J k) ∧ (∀ k, k ∉ [17, 29, 30, 31, 32, 33, 34, 35, 36, 37, 38] → B' k = B k) ∧ (∀ k, k ≠ 2 → D' k = D k)
theorem FX.rf : FX I J B D I J B D := ⟨fun _ _ => rfl, fun _ _ => rfl, fun _ _ => rfl, fun _ _ => rfl⟩
theorem FX.tr {I1 I2 : Nat → Int32} {J1 J2 : Nat → Int64} {B1 B2 : Nat → Nat → Int32} {D1 D2 : Nat → Nat → Int64} (h : FX I J B D I1 J1 B1 D1) (g : FX I1 J1 B1 D1 I2 J2 B2 D2) : FX I J B D I2 J2 B2 D2 := ⟨fun k hk => (g.1 k hk).trans (h.1 k hk), fun k hk => (g.2.1 k hk).trans (h.2.1 k hk), fun k hk => (g.2.2.1 k hk).trans (h.2.2.1 k hk), fun k hk => (g.2.2.2 k hk).trans (h.2.2.2 k hk)⟩
theorem PC.fx {d : zD} {Q : zQ} {I1 : Nat → Int32} {J1 : Nat → Int64} {B1 : Nat → Nat → Int32} {D1 : Nat → Nat → Int64} (h : PC d Q I J B D) (g : FX I J B D I1 J1 B1 D1) : PC d Q I1 J1 B1 D1 := by
  obtain ⟨gI, gJ, gB, gD⟩ := g
  obtain ⟨⟨a1, a2, a3, a4⟩, h2, h3, h4, ⟨L, h5, h5', h6⟩, h7, h8, h9, h10⟩ := h
  refine ⟨⟨by rw [gI 7 (by decide)]; exact a1, by rw [gI 8 (by decide)]; exact a2, by rw [gB 4 (by decide)]; exact a3, by rw [gB 5 (by decide)]; exact a4⟩, by rw [gB 3 (by decide)]; exact h2, by rw [gI 10 (by decide)]; exact h3, by rw [gI 9 (by decide)]; exact h4, ⟨L, by rw [gI 11 (by decide)]; exact h5, h5', fun b hb => ?_⟩, by rw [gJ 0 (by decide)]; exact h7, by rw [gD 0 (by decide)]; exact h8, by rw [gD 1 (by decide)]; exact h9, by rw [gB 13 (by decide)]; exact h10⟩
  rw [gB 6 (by decide), gB 10 (by decide), gB 11 (by decide), gB 12 (by decide), gB 7 (by decide), gB 8 (by decide), gB 9 (by decide), gB 15 (by decide)]
  exact h6 b hb
theorem PC.sk {d : zD} {Q : zQ} {B1 : Nat → Nat → Int32} (h : PC d Q I J B D) (g : ∀ k, k ≠ 17 → B1 k = B k) : PC d Q I J B1 D := h.fx ⟨fun _ _ => rfl, fun _ _ => rfl, fun k hk => g k (by simp at hk; omega), fun _ _ => rfl⟩
theorem CS.sk {d : zD} {c : zCf} {B1 : Nat → Nat → Int32} (h : CS d c I B) (g : ∀ k, k ≠ 17 → B1 k = B k) : CS d c I B1 := by
  unfold CS; rw [g 29 (by decide), g 30 (by decide), g 31 (by decide)]; exact h
theorem q_at {Post : Int64 → (Nat → Int32) → (Nat → Int64) → (Nat → Nat → Int32) → (Nat → Nat → Int64) → Prop} {p s : Nat} (hp : p < 4) (hs : s ≤ 30) (h : Post (D 1 (31 * p + s)) I J B D) : wp_Program_at I J B D (nI p) (nI s) Post := by
  intro z1 e1 z2 e2
  have n2 : z2 = nI (31 * p + s) := by rw [e2, e1, show (31 : Int32) = nI 31 from rfl, nI_mul, nI_add, Nat.mul_comm]
  refine ⟨vin2 n2 (by omega) (by omega), fun z3 e3 => ?_⟩
  rw [clI n2 (by omega)] at e3; rw [e3]; exact h
theorem CS_am {d : zD} {Q : zQ} {c : zCf} (hN : NC d) (hW : QW d Q) (hS : CS d c I B) {l : List Int32} (hR : okR l) (hK : KN d.2.2.2.1 l) : ev (B 29) l = ev (amf d c) l := by
  have ho : ∀ x ∈ l, opd x ∨ okS x := by
    clear hK
    induction l with
    | nil => intro x hx; simp at hx
    | cons y l ih =>
      intro x hx
      rcases List.mem_cons.mp hx with e | e
      · rw [e]; rcases hR.2 with w | w
        · exact Or.inl w
        · exact Or.inr w.1
      · exact ih hR.1 x e
  refine ev_cg (fun x hx h16 h8 => ?_)
  have hop : opd x := by
    rcases ho x hx with w | w
    · exact w
    · rcases w with q | q | q | q | q <;> rw [q] at h16 <;> exact absurd h16 (by decide)
  obtain ⟨_, hj, h8'⟩ := opd_name hop h8
  have hk := hK x hx h16 h8'
  generalize (x - 8).toNatClampNeg = j at hj hk
  rcases hW.2.2.2.2.2.2 j hj with w | w | w
  · exact absurd w hk
  · obtain ⟨v, hv, e⟩ := hN.2.2.2.2.2.2.1 j hj w
    have ej : xv d v = j := by unfold xv; exact clI e (by omega)
    rw [← ej, hS.1 v hv, amf_v hN hv]
  · obtain ⟨v, hv, e⟩ := hN.2.2.2.2.2.2.2.1 j hj w
    have ej : xc d v = j := by unfold xc; exact clI e (by omega)
    rw [← ej, hS.2.1 v hv, amf_c hN hv]
/-- which RECEIVEs are partners -/
def ptn (d : zD) (Q : zQ) (c : zCf) (b r : Nat) : Bool := decide (qK Q b = 2) && decide (sl d (qC Q b) = 0) && mtc Q c b r
/-- what is present -/
def prs (Q : zQ) (c : zCf) (x : Int64) : Prop := ∀ b, bt x b = anyB (fun p => hB Q c p b) (qP Q)
theorem q_partners {Post : Int64 → (Nat → Int32) → (Nat → Int64) → (Nat → Nat → Int32) → (Nat → Nat → Int64) → Prop} {d : zD} {Q : zQ} {c : zCf} {b : Nat} (hN : NC d) (hW : QW d Q) (hP : PC d Q I J B D) (hS : CS d c I B) (hC : WC d Q c) (hJ : prs Q c (J 1)) (hb : b < qN Q) (h : ∀ w, (∀ r, bt w r = ptn d Q c b r) → Post w I J B D) : wp_Situation_partners I J B D (nI b) Post := by
  have hN48 := hW.2.1
  obtain ⟨w1, w2, w3, w4, w5, w6⟩ := hW.2.2.1 b hb
  obtain ⟨hX, p3, p10, p9, ⟨L, hL, hL8, hq⟩, hJ0, hD0, hD1, h13⟩ := hP
  obtain ⟨b6, b10, b11, b12, b7, b8, b9, b9'⟩ := hq b hb
  have vb : vp_in (nI b) 48 := vin2 rfl (by omega) (by omega)
  have cb : (nI b).toNatClampNeg = b := clI rfl (by omega)
  refine ⟨vb, fun z1 e1 => ?_⟩
  rw [cb, b6] at e1
  refine ⟨fun g => h 0 (fun r => ?_), fun g => ⟨vb, fun z3 e3 => ?_⟩⟩
  · have g2 : ¬ qK Q b = 2 := fun e => g (by rw [e1, e]; rfl)
    rw [bt_0]; simp [ptn, g2]
  · have g2 : qK Q b = 2 := (eqI e1 (y := 2) (b := 2) rfl (by omega) (by omega)).mp g
    have hk := w4 (Or.inl g2)
    obtain ⟨xe, x8, x2⟩ := hN.c hk
    rw [cb, b7 (Or.inl g2)] at e3
    refine ⟨vin2 e3 x8 (by omega), fun z4 e4 => ?_⟩
    obtain ⟨se, s3⟩ := sl_ok hN hk
    rw [clI e3 (by omega), p3, se] at e4
    have le : z4 ≤ 0 ↔ sl d (qC Q b) ≤ 0 := leI e4 (y := 0) (b := 0) rfl (by omega) (by omega)
    refine ⟨fun g4 => ⟨vb, fun z6 e6 => ⟨vb, fun z7 e7 => ?_⟩⟩, fun g4 => h 0 (fun r => ?_)⟩
    · rw [cb, b10] at e6
      rw [cb, b7 (Or.inl g2)] at e7
      refine ⟨vin2 e7 x8 (by omega), fun z8 e8 z9 e9 => ⟨vin2 e6 (by have := hW.1; omega) (by omega), fun z10 e10 => ?_⟩⟩
      have hA4 : qA Q b < 4 := by have := hW.1; omega
      rw [clI e7 (by omega)] at e8
      rw [clI e6 (by omega), hS.2.2.2.1 _ hA4] at e10
      rw [e6, e10]
      refine q_at hA4 (hC.2 _) (fun z12 e12 z13 e13 => h z13 (fun r => ?_))
      rw [e13, e12, e9, e8]
      rcases Nat.lt_or_ge r 64 with hr | hr
      · rw [bt_and, bt_and, bt_xor, bt_m1 hr, hD0 _ hk, hJ r, hD1 _ _ hA4 (by have := hC.2 (qA Q b); omega)]
        have hs0 : sl d (qC Q b) = 0 := by have := le.mp g4; omega
        simp only [ptn, g2, hs0, decide_true, Bool.true_and, mtc]
        rw [Bool.eq_iff_iff]
        simp only [Bool.and_eq_true, Bool.xor_true, Bool.not_eq_true', decide_eq_true_eq, decide_eq_false_iff_not, anyB_iff]
        constructor
        · rintro ⟨⟨⟨⟨a1, a2⟩, a3⟩, p, a4, a5⟩, a6⟩
          have := (hB_n hW a5).2
          subst this
          refine ⟨⟨⟨a2, a3⟩, fun e => ?_⟩, a5⟩
          rw [e] at a5
          have a7 : qM Q (qA Q b) (c.2.2.2.1 (qA Q b)) r = true := a5
          rw [a7] at a6; exact absurd a6 (by decide)
        · rintro ⟨⟨⟨a2, a3⟩, a4⟩, a5⟩
          have a1 := (hB_n hW a5).1
          refine ⟨⟨⟨⟨a1, a2⟩, a3⟩, _, (hW.2.2.1 r a1).2.1, a5⟩, ?_⟩
          cases e : qM Q (qA Q b) (c.2.2.2.1 (qA Q b)) r
          · rfl
          · exact absurd (hB_n hW (c := c) e).2 a4
      · rw [bt_hi _ hr]
        cases e : ptn d Q c b r
        · rfl
        · unfold ptn mtc at e
          simp only [Bool.and_eq_true] at e
          have := (hB_n hW e.2.2).1
          omega
    · have g5 : ¬ sl d (qC Q b) = 0 := fun e => g4 (le.mpr (by omega))
      rw [bt_0]; simp [ptn, g5]
theorem q_canBeDone {Post : Int32 → (Nat → Int32) → (Nat → Int64) → (Nat → Nat → Int32) → (Nat → Nat → Int64) → Prop} {d : zD} {Q : zQ} {c : zCf} {b : Nat} (hN : NC d) (hW : QW d Q) (hP : PC d Q I J B D) (hS : CS d c I B) (hC : WC d Q c) (hJ : prs Q c (J 1)) (hb : b < qN Q) (h : ∀ B', (∀ k, k ≠ 17 → B' k = B k) → Post (if cn d Q c b = true then 1 else 0) I J B' D) : wp_Situation_canBeDone I J B D (nI b) Post := by
  have hN48 := hW.2.1
  obtain ⟨w1, w2, w3, w4, w5, w6⟩ := hW.2.2.1 b hb
  have hP' := hP
  obtain ⟨hX, p3, p10, p9, ⟨L, hL, hL8, hq⟩, hJ0, hD0, hD1, h13⟩ := hP
  obtain ⟨b6, b10, b11, b12, b7, b8, b9, b9'⟩ := hq b hb
  have vb : vp_in (nI b) 48 := vin2 rfl (by omega) (by omega)
  have cb : (nI b).toNatClampNeg = b := clI rfl (by omega)
  have h0 := h B (fun _ _ => rfl)
  refine ⟨vb, fun z1 e1 => ?_⟩
  rw [cb, b6] at e1
  have kq : ∀ (y : Int32) (m : Nat), y = nI m → m ≤ 5 → (z1 = y ↔ qK Q b = m) := fun y m hy hm => eqI e1 hy (by omega) (by omega)
  refine ⟨fun g => ?_, fun g => ⟨vb, fun z4 e4 => ?_⟩, fun g => ⟨vb, fun z8 e8 => ?_⟩, fun g => ⟨vb, fun z15 e15 => ?_⟩, fun g => ?_, fun g0 g1 g2 g3 g4 => ?_⟩
  · have g := (kq 0 0 rfl (by omega)).mp g
    have : cn d Q c b = true := by simp [cn, g]
    rw [if_pos this] at h0; exact h0
  · have g := (kq 1 1 rfl (by omega)).mp g
    obtain ⟨lb, l1, l2, l3, l4⟩ := b9 (by omega)
    obtain ⟨t1, t2, t3, t4⟩ := w6 (by omega)
    rw [cb, l1] at e4
    rw [e4]
    refine q_reckon_A hL l4 hL8 t1 t2 t3 l3 (fun _ _ => rfl) (fun B' hB' => ?_)
    rw [CS_am hN hW hS t1 t4, (vl_ok hC.1 t1).2]
    have hv := (vl_ok hC.1 t1).1
    have hcn : cn d Q c b = !decide (vl d Q c b = 0) := by simp [cn, g]
    have := h B' hB'
    have ez : nI (vl d Q c b) = 0 ↔ vl d Q c b = 0 := eqI rfl (y := 0) (b := 0) rfl (by omega) (by omega)
    refine ⟨fun z => ⟨Or.inl rfl, ?_⟩, fun z => ⟨Or.inr rfl, ?_⟩⟩
    · rw [if_neg (by rw [hcn, ez.mp z]; decide)] at this; exact this
    · have hv0 : ¬ vl d Q c b = 0 := fun e => z (ez.mpr e)
      rw [if_pos (by rw [hcn]; simp [hv0])] at this; exact this
  · have g := (kq 2 2 rfl (by omega)).mp g
    have hk := w4 (Or.inl g)
    obtain ⟨xe, x8, x2⟩ := hN.c hk
    obtain ⟨se, s3⟩ := sl_ok hN hk
    rw [cb, b7 (Or.inl g)] at e8
    rw [e8]
    refine ⟨vin2 rfl x8 (by omega), fun z1 e1 => ⟨vin2 rfl x8 (by omega), fun z2 e2 => ?_⟩⟩
    rw [clI rfl (by omega), hS.2.1 _ hk] at e1
    rw [clI rfl (by omega), p3, se] at e2
    have m3 := hC.1.2.2.1 (qC Q b)
    have le : z2 ≤ z1 ↔ sl d (qC Q b) ≤ c.2.1 (qC Q b) := leI e2 e1 (by omega) (by omega)
    have hcn : cn d Q c b = (if 0 < sl d (qC Q b) then decide (c.2.1 (qC Q b) < sl d (qC Q b)) else anyB (mtc Q c b) (qN Q)) := by simp [cn, g]
    refine ⟨fun z => ⟨Or.inl rfl, fun q => absurd rfl q, fun _ => ?_⟩, fun z => ⟨Or.inr rfl, fun _ => ⟨Or.inr rfl, ?_⟩, fun q => absurd q (by decide)⟩⟩
    · refine q_partners hN hW hP' hS hC hJ hb (fun w hw z12 e12 => ?_)
      have cz : z12 = 0 ↔ w = 0 := by rw [e12]; exact cmp0 _ _
      have hle := le.mp z
      have hany : cn d Q c b = true ↔ ¬ w = 0 := by
        rw [hcn]
        by_cases g0 : 0 < sl d (qC Q b)
        · rw [if_pos g0]
          have : w = 0 := bt_ext (fun i _ => by
            have e : ¬ sl d (qC Q b) = 0 := by omega
            rw [hw i, bt_0]; simp [ptn, e])
          simp [this]; omega
        · rw [if_neg g0, anyB_iff]
          have e0 : sl d (qC Q b) = 0 := by omega
          constructor
          · rintro ⟨k, hk, e⟩ z
            have := hw k
            rw [z, bt_0] at this
            simp only [ptn, g, e0, decide_true, Bool.true_and, e] at this
            exact absurd this (by decide)
          · intro hz
            refine Classical.byContradiction (fun hn => hz (bt_ext (fun i _ => ?_)))
            rw [hw i, bt_0]
            simp only [ptn, g, e0, decide_true, Bool.true_and]
            cases e : mtc Q c b i
            · rfl
            · refine absurd ⟨i, ?_, e⟩ hn
              unfold mtc at e
              simp only [Bool.and_eq_true] at e
              exact (hB_n hW e.2).1
      refine ⟨fun q => ⟨Or.inl rfl, ?_⟩, fun q => ⟨Or.inr rfl, ?_⟩⟩
      · rw [if_neg (fun e => hany.mp e (cz.mp q))] at h0; exact h0
      · rw [if_pos (hany.mpr (fun e => q (cz.mpr e)))] at h0; exact h0
    · have hlt : c.2.1 (qC Q b) < sl d (qC Q b) := by
        have : ¬ sl d (qC Q b) ≤ c.2.1 (qC Q b) := fun e => z (le.mpr e)
        omega
      have : cn d Q c b = true := by rw [hcn, if_pos (by omega)]; simpa using hlt
      rw [if_pos this] at h0; exact h0
  · have g := (kq 3 3 rfl (by omega)).mp g
    have hk := w4 (Or.inr g)
    obtain ⟨xe, x8, x2⟩ := hN.c hk
    rw [cb, b7 (Or.inr g)] at e15
    refine ⟨vin2 e15 x8 (by omega), fun z16 e16 => ?_⟩
    rw [clI e15 (by omega), hS.2.1 _ hk] at e16
    have m3 := hC.1.2.2.1 (qC Q b)
    have le : z16 ≤ 0 ↔ c.2.1 (qC Q b) ≤ 0 := leI e16 (y := 0) (b := 0) rfl (by omega) (by omega)
    have hcn : cn d Q c b = decide (0 < c.2.1 (qC Q b)) := by simp [cn, g]
    refine ⟨fun z => ⟨Or.inl rfl, ?_⟩, fun z => ⟨Or.inr rfl, ?_⟩⟩
    · rw [if_neg (by rw [hcn]; have := le.mp z; simp; omega)] at h0; exact h0
    · rw [if_pos (by rw [hcn]; have : ¬ c.2.1 (qC Q b) ≤ 0 := fun e => z (le.mpr e); simp; omega)] at h0; exact h0
  · have g := (kq 4 4 rfl (by omega)).mp g
    have : cn d Q c b = true := by simp [cn, g]
    rw [if_pos this] at h0; exact h0
  · have g0 : ¬ qK Q b = 0 := fun e => g0 ((kq 0 0 rfl (by omega)).mpr e)
    have g1 : ¬ qK Q b = 1 := fun e => g1 ((kq 1 1 rfl (by omega)).mpr e)
    have g2 : ¬ qK Q b = 2 := fun e => g2 ((kq 2 2 rfl (by omega)).mpr e)
    have g3 : ¬ qK Q b = 3 := fun e => g3 ((kq 3 3 rfl (by omega)).mpr e)
    have g4 : ¬ qK Q b = 4 := fun e => g4 ((kq 4 4 rfl (by omega)).mpr e)
    have g5 : qK Q b = 5 := by omega
    have : ¬ cn d Q c b = true := by simp [cn, g5]
    rw [if_neg this] at h0; exact h0
end ZJ8
