/-! The class does a step's work. -/
section ZK2
variable {I : Nat → Int32} {J : Nat → Int64} {B : Nat → Nat → Int32} {D : Nat → Nat → Int64}
def oI : Option Nat → Int32
  | none => -1
  | some r => nI r
theorem oI_n {r : Nat} (h : r ≤ 1000) : ¬ oI (some r) = -1 := nI_m1 (by omega)
theorem q_put {Post : (Nat → Int32) → (Nat → Int64) → (Nat → Nat → Int32) → (Nat → Nat → Int64) → Prop} {d : zD} {c : zCf} {k x : Nat} {y : Int32} (hN : NC d) (hS : CS d c I B) (hk : k < d.2.2.1) (hm : c.2.1 k < 3) (hy : y = nI x) (h : ∀ B', CS d (sM (sG c (3 * k + c.2.1 k) x) k (c.2.1 k + 1)) I B' → (∀ j, j ∉ [29, 30] → B' j = B j) → Post I J B' D) : wp_Situation_put I J B D (nI (xc d k)) y Post := by
  obtain ⟨xe, x8, x2⟩ := hN.c hk
  have cx : (nI (xc d k)).toNatClampNeg = xc d k := clI rfl (by omega)
  intro z1 e1
  refine ⟨vin2 rfl x8 (by omega), fun z2 e2 z3 e3 => ?_⟩
  rw [cx, hS.2.1 k hk] at e2
  have n3 : z3 = nI (3 * xc d k + c.2.1 k) := by rw [e3, e1, e2, show (3 : Int32) = nI 3 from rfl, nI_mul, nI_add, Nat.mul_comm]
  refine ⟨vin2 n3 (by omega) (by omega), vin2 rfl x8 (by omega), fun z4 e4 z5 e5 => ⟨vin2 rfl x8 (by omega), ?_⟩⟩
  rw [cx, hS.2.1 k hk] at e4
  have n5 := inI e4 e5
  rw [cx, clI n3 (by omega)]
  refine h _ ?_ (fun j hj => by simp at hj; simp [va_up, hj])
  exact CS_sM hN (CS_sG hN hS hk hm hy) hk n5
theorem q_taken {Post : Int32 → (Nat → Int32) → (Nat → Int64) → (Nat → Nat → Int32) → (Nat → Nat → Int64) → Prop} {d : zD} {c : zCf} {k : Nat} (hN : NC d) (hS : CS d c I B) (hk : k < d.2.2.1) (hm : 0 < c.2.1 k) (h : ∀ B', CS d (shf c k) I B' → (∀ j, j ∉ [29, 30] → B' j = B j) → Post (nI (c.2.2.1 (3 * k))) I J B' D) : wp_Situation_taken I J B D (nI (xc d k)) Post := by
  obtain ⟨xe, x8, x2⟩ := hN.c hk
  have cx : (nI (xc d k)).toNatClampNeg = xc d k := clI rfl (by omega)
  intro z7 e7 z8 e8 z9 e9
  have n7 : z7 = nI (3 * xc d k) := by rw [e7, show (3 : Int32) = nI 3 from rfl, nI_mul, Nat.mul_comm]
  have n8 : z8 = nI (3 * xc d k + 2 + 1) := by rw [e8, n7, show (3 : Int32) = nI 3 from rfl, nI_add]
  have n9 : z9 = nI (3 * xc d k + 2) := deI n8 e9
  refine ⟨vin2 n7 (by omega) (by omega), fun z10 e10 => ⟨3, ?_⟩⟩
  rw [clI n7 (by omega)] at e10
  have g0 := hS.2.2.1 k hk 0 (by omega)
  have g1 := hS.2.2.1 k hk 1 (by omega)
  have g2 := hS.2.2.1 k hk 2 (by omega)
  simp only [Nat.add_zero] at g0
  have n10 : z10 = nI (c.2.2.1 (3 * k)) := by rw [e10, g0]
  rw [n7, n9, n10]
  refine ⟨fun z => ?_, fun _ z4 e4 => ?_⟩
  · have := (leI (x := nI (3 * xc d k + 2)) rfl (y := nI (3 * xc d k)) rfl (by omega) (by omega)).mp z; omega
  have n4 : z4 = nI (3 * xc d k + 1) := inI rfl e4
  refine ⟨vin2 n4 (by omega) (by omega), fun z5 e5 => ⟨vin2 rfl (by omega) (by omega), fun z6 e6 => ?_⟩⟩
  rw [clI n4 (by omega), g1] at e5
  rw [inI rfl e6, clI (x := nI (3 * xc d k)) rfl (by omega)]
  have s1 : CS d (sG c (3 * k + 0) (c.2.2.1 (3 * k + 1))) I (va_up B 30 (upd (B 30) (3 * xc d k + 0) z5)) := CS_sG hN hS hk (by omega) e5
  simp only [Nat.add_zero] at s1
  have f1 : ∀ j, j ∉ [29, 30] → va_up B 30 (upd (B 30) (3 * xc d k) z5) j = B j := fun j hj => by simp at hj; simp [va_up, hj]
  generalize va_up B 30 (upd (B 30) (3 * xc d k) z5) = B1 at s1 f1
  refine ⟨fun z => ?_, fun _ z4 e4 => ?_⟩
  · have := (leI (x := nI (3 * xc d k + 2)) rfl (y := nI (3 * xc d k + 1)) rfl (by omega) (by omega)).mp z; omega
  have n4 : z4 = nI (3 * xc d k + 2) := inI rfl e4
  refine ⟨vin2 n4 (by omega) (by omega), fun z5 e5 => ⟨vin2 rfl (by omega) (by omega), fun z6 e6 => ?_⟩⟩
  have g2' := s1.2.2.1 k hk 2 (by omega)
  have u2 : (sG c (3 * k) (c.2.2.1 (3 * k + 1))).2.2.1 (3 * k + 2) = c.2.2.1 (3 * k + 2) := upn_ne (by omega)
  rw [u2] at g2'
  rw [clI n4 (by omega), g2'] at e5
  rw [inI rfl e6, clI (x := nI (3 * xc d k + 1)) rfl (by omega)]
  have s2 := CS_sG hN s1 hk (i := 1) (by omega) e5
  have f2 : ∀ j, j ∉ [29, 30] → va_up B1 30 (upd (B1 30) (3 * xc d k + 1) z5) j = B j := fun j hj => by
    rw [← f1 j hj]; simp at hj; simp [va_up, hj]
  generalize va_up B1 30 (upd (B1 30) (3 * xc d k + 1) z5) = B2 at s2 f2
  refine ⟨fun _ => ⟨vin2 rfl (by omega) (by omega), vin2 rfl x8 (by omega), fun z2 e2 z3 e3 => ⟨vin2 rfl x8 (by omega), ?_⟩⟩, fun z => absurd ?_ z⟩
  · have s3 := CS_sG hN s2 hk (i := 2) (by omega) (x := 0) (y := 0) rfl
    have e29 : va_up B2 30 (upd (B2 30) (3 * xc d k + 2) 0) 29 = B2 29 := by simp [va_up]
    have m3 := s2.2.1 k hk
    rw [cx, m3] at e2
    obtain ⟨m, hm'⟩ : ∃ m, c.2.1 k = m + 1 := ⟨c.2.1 k - 1, by omega⟩
    have e2' : z2 = nI (m + 1) := by rw [e2, ← hm']; rfl
    have n3 : z3 = nI (c.2.1 k - 1) := by rw [deI e2' e3]; congr 1; omega
    have s4 := CS_sM hN s3 hk n3
    rw [e29] at s4
    rw [clI (x := nI (3 * xc d k + 2)) rfl (by omega), cx]
    exact h _ s4 (fun j hj => by rw [← f2 j hj]; simp at hj; simp [va_up, hj])
  · exact (leI (x := nI (3 * xc d k + 2)) rfl (y := nI (3 * xc d k + 1 + 1)) rfl (by omega) (by omega)).mpr (by omega)
theorem q_perform {Post : (Nat → Int32) → (Nat → Int64) → (Nat → Nat → Int32) → (Nat → Nat → Int64) → Prop} {d : zD} {Q : zQ} {c : zCf} {b : Nat} {r : Option Nat} (hN : NC d) (hW : QW d Q) (hP : PC d Q I J B D) (hS : CS d c I B) (hC : WC d Q c) (hd : dn Q c b r) (h : ∀ I' B', CS d (act d Q c b r) I' B' → (∀ k, k ≠ 18 → I' k = I k) → (∀ k, k ∉ [17, 29, 30, 31] → B' k = B k) → Post I' J B' D) : wp_Situation_perform I J B D (nI b) (oI r) Post := by
  have hN48 := hW.2.1
  have hb : b < qN Q := by cases r <;> exact hd.1
  obtain ⟨w1, w2, w3, w4, w5, w6⟩ := hW.2.2.1 b hb
  have hP' := hP
  obtain ⟨hX, p3, p10, p9, ⟨L, hL, hL8, hq⟩, hJ0, hD0, hD1, h13⟩ := hP
  obtain ⟨b6, b10, b11, b12, b7, b8, b9, b9'⟩ := hq b hb
  have vb : vp_in (nI b) 48 := vin2 rfl (by omega) (by omega)
  have cb : (nI b).toNatClampNeg = b := clI rfl (by omega)
  have tl : ∀ B1, CS d (efc d Q c b r) I B1 → (∀ k, k ∉ [17, 29, 30, 31] → B1 k = B k) → wc_Situation_perform_163 (nI b) (oI r) Post (nI b) (oI r) I J B1 D := by
    intro B1 s1 f1
    have hP1 : PC d Q (upd I 18 (-1)) J B1 D := hP'.fx ⟨fun k hk => by simp at hk; simp [upd, hk], fun _ _ => rfl, fun k hk => f1 k (by simp at hk ⊢; omega), fun _ _ => rfl⟩
    refine q_passOn hW hP1 (CS_sH s1 (x := 0) (y := -1) rfl) hb (fun I2 B2 s2 i2 f2 => ⟨fun g => ?_, fun g => ?_⟩)
    · cases r with
      | none => exact h I2 B2 s2 (fun k hk => by rw [i2 k hk]; simp [upd, hk]) (fun k hk => (f2 k (by simp at hk ⊢; omega)).trans (f1 k hk))
      | some r => exact absurd g (oI_n (by have := hd.2.1; omega))
    · cases r with
      | none => exact absurd rfl g
      | some r =>
        have hP2 : PC d Q I2 J B2 D := hP1.fx ⟨fun k hk => i2 k (by simp at hk ⊢; omega), fun _ _ => rfl, fun k hk => f2 k (by simp at hk ⊢; omega), fun _ _ => rfl⟩
        refine q_passOn hW hP2 s2 hd.2.1 (fun I3 B3 s3 i3 f3 => ?_)
        exact h I3 B3 s3 (fun k hk => by rw [i3 k hk, i2 k hk]; simp [upd, hk]) (fun k hk => (f3 k (by simp at hk ⊢; omega)).trans ((f2 k (by simp at hk ⊢; omega)).trans (f1 k hk)))
  have st : ∀ (y0 : Int32) (B1 : Nat → Nat → Int32), (∀ k, k ≠ 17 → B1 k = B k) → (qK Q b ≤ 2 → y0 = nI (vl d Q c b)) → wc_Situation_perform_31 (nI b) (oI r) Post (nI b) (oI r) y0 I J B1 D := by
    intro y0 B1 f1 hy
    have s1 := hS.sk f1
    refine ⟨vb, fun z4 e4 => ?_⟩
    rw [cb, f1 6 (by decide), b6] at e4
    have kq : ∀ (y : Int32) (m : Nat), y = nI m → m ≤ 5 → (z4 = y ↔ qK Q b = m) := fun y m hy hm => eqI e4 hy (by omega) (by omega)
    have f1' : ∀ k, k ∉ [17, 29, 30, 31] → B1 k = B k := fun k hk => f1 k (by simp at hk; omega)
    refine ⟨fun g => ⟨vb, fun z6 e6 => ?_⟩, fun g => ?_, fun g => ⟨fun g2 => ?_, fun g2 => ⟨vb, fun z11 e11 => ?_⟩⟩, fun g => ⟨vb, fun z14 e14 => ⟨vb, fun z15 e15 => ?_⟩⟩, fun g0 g1 g2 g3 => ?_⟩
    · have g := (kq 0 0 rfl (by omega)).mp g
      have hv := w5 (Or.inl g)
      obtain ⟨xe, x8, x2⟩ := hN.v hv
      rw [cb, f1 8 (by decide), b8 (Or.inl g)] at e6
      refine ⟨vin2 e6 x8 (by omega), tl _ ?_ (fun k hk => by rw [← f1' k hk]; simp at hk; simp [va_up, hk])⟩
      rw [clI e6 (by omega)]
      cases r with
      | some r => exact absurd hd.2.2.1 (by omega)
      | none =>
        have : efc d Q c b none = sV c (qV Q b) (vl d Q c b) := by simp [efc, g]
        rw [this]; exact CS_sV hN s1 hv (hy (by omega))
    · have g := (kq 1 1 rfl (by omega)).mp g
      refine tl _ ?_ f1'
      cases r with
      | some r => exact absurd hd.2.2.1 (by omega)
      | none =>
        have : efc d Q c b none = c := by simp [efc, g]
        rw [this]; exact s1
    · have g := (kq 2 2 rfl (by omega)).mp g
      cases r with
      | none => exact absurd rfl g2
      | some r =>
        obtain ⟨_, hr, _, k3⟩ := hd
        have hv := (hW.2.2.1 r hr).2.2.2.2.1 (Or.inr k3)
        obtain ⟨xe, x8, x2⟩ := hN.v hv
        have b8r := (hq r hr).2.2.2.2.2.1 (Or.inr k3)
        refine ⟨vin2 rfl (by omega) (by omega), fun z10 e10 => ?_⟩
        have cr : (oI (some r)).toNatClampNeg = r := clI rfl (by omega)
        rw [cr, f1 8 (by decide), b8r] at e10
        refine ⟨vin2 e10 x8 (by omega), tl _ ?_ (fun k hk => by rw [← f1' k hk]; simp at hk; simp [va_up, hk])⟩
        rw [clI e10 (by omega)]
        exact CS_sV hN s1 hv (hy (by omega))
    · have g := (kq 2 2 rfl (by omega)).mp g
      cases r with
      | some r => exact absurd g2 (oI_n (by have := hd.2.1; omega))
      | none =>
        have hk := w4 (Or.inl g)
        rw [cb, f1 7 (by decide), b7 (Or.inl g)] at e11
        rw [e11]
        refine q_put hN s1 hk (hd.2.1 g) (hy (by omega)) (fun B2 s2 f2 => tl B2 ?_ (fun k hk => by rw [f2 k (by simp at hk ⊢; omega)]; exact f1' k hk))
        have : efc d Q c b none = sM (sG c (3 * qC Q b + c.2.1 (qC Q b)) (vl d Q c b)) (qC Q b) (c.2.1 (qC Q b) + 1) := by simp [efc, g]
        rw [this]; exact s2
    · have g := (kq 3 3 rfl (by omega)).mp g
      cases r with
      | some r => exact absurd hd.2.2.1 (by omega)
      | none =>
        have hk := w4 (Or.inr g)
        have hv := w5 (Or.inr g)
        obtain ⟨xe, x8, x2⟩ := hN.v hv
        rw [cb, f1 8 (by decide), b8 (Or.inr g)] at e14
        rw [cb, f1 7 (by decide), b7 (Or.inr g)] at e15
        rw [e15]
        refine q_taken hN s1 hk (hd.2.2 g) (fun B2 s2 f2 => ⟨vin2 e14 x8 (by omega), tl _ ?_ (fun k hk => ?_)⟩)
        · rw [clI e14 (by omega)]
          have : efc d Q c b none = sV (shf c (qC Q b)) (qV Q b) (c.2.2.1 (3 * qC Q b)) := by simp [efc, g]
          rw [this]; exact CS_sV hN s2 hv rfl
        · rw [← f1' k hk, ← f2 k (by simp at hk ⊢; omega)]; simp at hk; simp [va_up, hk]
    · have g0 : ¬ qK Q b = 0 := fun e => g0 ((kq 0 0 rfl (by omega)).mpr e)
      have g2 : ¬ qK Q b = 2 := fun e => g2 ((kq 2 2 rfl (by omega)).mpr e)
      have g3 : ¬ qK Q b = 3 := fun e => g3 ((kq 3 3 rfl (by omega)).mpr e)
      refine tl _ ?_ f1'
      cases r with
      | some r => exact absurd hd.2.2.1 (by omega)
      | none =>
        have : efc d Q c b none = c := by simp [efc, g0, g2, g3]
        rw [this]; exact s1
  refine ⟨vb, fun z17 e17 => ⟨fun g => ?_, fun g => ?_⟩⟩
  · have k2 : qK Q b ≤ 2 := by
      refine Classical.byContradiction (fun hn => g ?_)
      rw [e17, cb]; exact b9' (by omega)
    obtain ⟨lb, l1, l2, l3, l4⟩ := b9 k2
    obtain ⟨t1, t2, t3, t4⟩ := w6 k2
    rw [cb, l1] at e17
    rw [e17]
    refine q_reckon_A hL l4 hL8 t1 t2 t3 l3 (fun _ _ => rfl) (fun B' hB' => ?_)
    rw [CS_am hN hW hS t1 t4, (vl_ok hC.1 t1).2]
    exact st _ B' hB' (fun _ => rfl)
  · have k2 : ¬ qK Q b ≤ 2 := by
      intro k2
      obtain ⟨lb, l1, l2, _⟩ := b9 k2
      rw [e17, cb, l1] at g
      exact nI_m1 (by omega) g
    exact st 0 B (fun _ _ => rfl) (fun k => absurd k k2)
end ZK2
