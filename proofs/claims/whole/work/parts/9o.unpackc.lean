/-! States in one number: the class takes one apart. -/
section ZJ4
variable {I : Nat → Int32} {J : Nat → Int64} {B : Nat → Nat → Int32} {D : Nat → Nat → Int64}
theorem dgt {a g w : Nat} (hw : w ≤ 30) (hg : g < 2 ^ w) : (lN (a * 2 ^ w + g)).toInt32 &&& nI (2 ^ w - 1) = nI g := by
  rw [lN_i, nI_andm hw, Nat.mul_comm, Nat.mul_add_mod, Nat.mod_eq_of_lt hg]
theorem dsh {a g w : Nat} (hw : w < 64) (hg : g < 2 ^ w) (h : a * 2 ^ w + g < 2 ^ 64) : ((lN (a * 2 ^ w + g)).toUInt64 >>> ((nI w).toInt64.toUInt64 &&& Int64.toUInt64 63)).toInt64 = lN a := by
  rw [lN_ushr h hw, Nat.mul_comm, Nat.mul_add_div (Nat.two_pow_pos w), Nat.div_eq_of_lt hg, Nat.add_zero]
theorem dg8 {a g : Nat} (hg : g < 8) : (lN (a * 8 + g)).toInt32 &&& 7 = nI g := dgt (w := 3) (by omega) hg
theorem dg32 {a g : Nat} (hg : g < 32) : (lN (a * 32 + g)).toInt32 &&& 31 = nI g := dgt (w := 5) (by omega) hg
theorem dg4 {a g : Nat} (hg : g < 4) : (lN (a * 4 + g)).toInt32 &&& 3 = nI g := dgt (w := 2) (by omega) hg
theorem sh8 {a g : Nat} (hg : g < 8) (h : a * 8 + g < 2 ^ 64) : ((lN (a * 8 + g)).toUInt64 >>> ((3 : Int32).toInt64.toUInt64 &&& Int64.toUInt64 63)).toInt64 = lN a := dsh (w := 3) (by omega) hg h
theorem sh32 {a g : Nat} (hg : g < 32) (h : a * 32 + g < 2 ^ 64) : ((lN (a * 32 + g)).toUInt64 >>> ((5 : Int32).toInt64.toUInt64 &&& Int64.toUInt64 63)).toInt64 = lN a := dsh (w := 5) (by omega) hg h
theorem sh4 {a g : Nat} (hg : g < 4) (h : a * 4 + g < 2 ^ 64) : ((lN (a * 4 + g)).toUInt64 >>> ((2 : Int32).toInt64.toUInt64 &&& Int64.toUInt64 63)).toInt64 = lN a := dsh (w := 2) (by omega) hg h
theorem nI_m (m : Nat) : nI (m + 1) - 1 = nI m := nI_pred m
def FU (I : Nat → Int32) (B : Nat → Nat → Int32) (I' : Nat → Int32) (B' : Nat → Nat → Int32) : Prop := (∀ k, k ≠ 18 → I' k = I k) ∧ (∀ k, k ∉ [29, 30, 31] → B' k = B k)
theorem q_unpack {Post : (Nat → Int32) → (Nat → Int64) → (Nat → Nat → Int32) → (Nat → Nat → Int64) → Prop} {d : zD} {c : zCf} {np : Nat} (hN : NC d) (hK : KX d I B) (hO : OKC d.2.1 d.2.2.1 np c) (hnp : np ≤ 4) (h : ∀ I' B', CS d c I' B' → FU I B I' B' → Post I' J B' D) : wp_Situation_unpack I J B D (lN (packC d.2.1 d.2.2.1 c)) Post := by
  have hv6 := hN.1
  have hc2 := hN.2.1
  obtain ⟨bS, bV, bC⟩ := packC_b hO hv6 hc2 hnp
  obtain ⟨o1, o2, o3, o4, o5, o6, o7, o8, o9, o10⟩ := hO
  obtain ⟨k7, k8, k4, k5⟩ := hK
  have gen : ∀ a0 : Int64, wl_Situation_unpack_13 a0 Post (d.2.2.1 + 1) (lN (packC d.2.1 d.2.2.1 c)) (nI d.2.2.1 - 1) I J B D := by
   intro a0
   have q7 : (7 : Int32) = nI (2 ^ 3 - 1) := rfl
   have q31 : (31 : Int32) = nI (2 ^ 5 - 1) := rfl
   have q3m : (3 : Int32) = nI (2 ^ 2 - 1) := rfl
   have q3 : (3 : Int32) = nI 3 := rfl
   have q2 : (2 : Int32) = nI 2 := rfl
   have q5 : (5 : Int32) = nI 5 := rfl
   have ngm : ∀ m, nI m + (-1) = nI m - 1 := fun m => by grind
   have neg : nI 0 - 1 < 0 := by decide
   -- points
   have kp : ∀ (m : Nat) (B1 : Nat → Nat → Int32), m ≤ 4 → (∀ p, m ≤ p → p < 4 → B1 31 p = nI (c.2.2.2.1 p)) → (∀ v, v < d.2.1 → B1 29 (xv d v) = nI (c.1 v)) → (∀ k, k < d.2.2.1 → B1 29 (xc d k) = nI (c.2.1 k)) → (∀ k, k < d.2.2.1 → ∀ i, i < 3 → B1 30 (3 * xc d k + i) = nI (c.2.2.1 (3 * k + i))) → (∀ k, k ∉ [29, 30, 31] → B1 k = B k) → wl_Situation_unpack_135 a0 Post (m + 1) (lN (pS c.2.2.2.1 m c.2.2.2.2)) (nI m - 1) I J B1 D := by
     intro m
     induction m with
     | zero =>
       intro B1 hm a1 a2 a3 a4 a5
       refine ⟨fun _ z2 e2 z3 e3 => ?_, fun z => absurd neg z⟩
       refine h _ _ ⟨a2, a3, a4, fun p hp => a1 p (by omega) hp, ?_⟩ ⟨fun k hk => by simp [upd, hk], a5⟩
       have : pS c.2.2.2.1 0 c.2.2.2.2 = c.2.2.2.2 := rfl
       rw [this, lN_i] at e2
       simp only [upd, if_true]
       rw [e3, e2]; grind
     | succ m ih =>
       intro B1 hm a1 a2 a3 a4 a5
       have ep : pS c.2.2.2.1 (m + 1) c.2.2.2.2 = pS c.2.2.2.1 m c.2.2.2.2 * 32 + c.2.2.2.1 m := rfl
       have hb := bS (m + 1) hm
       rw [ep] at hb
       rw [nI_m, ep]
       refine ⟨fun z => absurd z (nI_pos (by omega)), fun _ z4 e4 z5 e5 => ⟨vin2 rfl (by omega) (by omega), fun z6 e6 z7 e7 => ?_⟩⟩
       have hd := o8 m
       have n5 : z5 = nI (c.2.2.2.1 m) := by rw [e5, e4]; exact dg32 hd
       have n6 : z6 = lN (pS c.2.2.2.1 m c.2.2.2.2) := by rw [e6]; exact sh32 hd (by omega)
       rw [n6, e7, ngm m, clI (x := nI m) rfl (by omega)]
       refine ih _ (by omega) (fun p hp hp4 => ?_) (fun v hv => by simpa [va_up] using a2 v hv) (fun k hk => by simpa [va_up] using a3 k hk) (fun k hk i hi => by simpa [va_up] using a4 k hk i hi) (fun k hk => by rw [← a5 k hk]; simp at hk; simp [va_up, hk])
       by_cases e : p = m
       · subst e; simp [va_up, upd, n5]
       · simp [va_up, upd, e]; exact a1 p (by omega) hp4
   -- variables
   have kv : ∀ (m : Nat) (B1 : Nat → Nat → Int32), m ≤ d.2.1 → (∀ v, m ≤ v → v < d.2.1 → B1 29 (xv d v) = nI (c.1 v)) → (∀ k, k < d.2.2.1 → B1 29 (xc d k) = nI (c.2.1 k)) → (∀ k, k < d.2.2.1 → ∀ i, i < 3 → B1 30 (3 * xc d k + i) = nI (c.2.2.1 (3 * k + i))) → (∀ k, k ∉ [29, 30, 31] → B1 k = B k) → wl_Situation_unpack_97 a0 Post (m + 1) (lN (pV c.1 m (pS c.2.2.2.1 4 c.2.2.2.2))) (nI m - 1) I J B1 D := by
     intro m
     induction m with
     | zero =>
       intro B1 hm a2 a3 a4 a5
       exact ⟨fun _ => ⟨5, kp 4 B1 (by omega) (fun p hp hp4 => by omega) (fun v hv => a2 v (by omega) hv) a3 a4 a5⟩, fun z => absurd neg z⟩
     | succ m ih =>
       intro B1 hm a2 a3 a4 a5
       have ep : pV c.1 (m + 1) (pS c.2.2.2.1 4 c.2.2.2.2) = pV c.1 m (pS c.2.2.2.1 4 c.2.2.2.2) * 8 + c.1 m := rfl
       have hb := bV (m + 1) hm
       rw [ep] at hb
       rw [nI_m, ep]
       obtain ⟨c1, c2, c3⟩ := hN.v (v := m) (by omega)
       refine ⟨fun z => absurd z (nI_pos (by omega)), fun _ => ⟨vin2 rfl (by omega) (by omega), fun z9 e9 z10 e10 z11 e11 => ?_⟩⟩
       have n9 : z9 = nI (xv d m) := by rw [e9, clI (x := nI m) rfl (by omega), a5 4 (by decide), k4]; exact c1
       have hd := o1 m
       have n11 : z11 = nI (c.1 m) := by rw [e11, e10]; exact dg8 hd
       refine ⟨vin2 n9 (by omega) (by omega), fun z12 e12 z13 e13 => ?_⟩
       have n12 : z12 = lN (pV c.1 m (pS c.2.2.2.1 4 c.2.2.2.2)) := by
         rw [e12]; exact sh8 hd (by omega)
       rw [n12, e13, ngm m, clI n9 (by omega)]
       refine ih _ (by omega) (fun v hv1 hv2 => ?_) (fun k hk => ?_) (fun k hk i hi => by simpa [va_up] using a4 k hk i hi) (fun k hk => by rw [← a5 k hk]; simp at hk; simp [va_up, hk])
       · by_cases e : v = m
         · subst e; simp [va_up, upd, n11]
         · have : ¬ xv d v = xv d m := fun z => e (hN.vi hv2 (by omega) z)
           simp [va_up, upd, this]; exact a2 v (by omega) hv2
       · have : ¬ xc d k = xv d m := fun z => hN.vc (v := m) (by omega) hk z.symm
         simp [va_up, upd, this]; exact a3 k hk
   -- channels
   have kc : ∀ (m : Nat) (B1 : Nat → Nat → Int32), m ≤ d.2.2.1 → (∀ k, m ≤ k → k < d.2.2.1 → B1 29 (xc d k) = nI (c.2.1 k)) → (∀ k, m ≤ k → k < d.2.2.1 → ∀ i, i < 3 → B1 30 (3 * xc d k + i) = nI (c.2.2.1 (3 * k + i))) → (∀ k, k ∉ [29, 30, 31] → B1 k = B k) → wl_Situation_unpack_13 a0 Post (m + 1) (lN (pC c.2.1 c.2.2.1 m (pV c.1 d.2.1 (pS c.2.2.2.1 4 c.2.2.2.2)))) (nI m - 1) I J B1 D := by
     intro m
     induction m with
     | zero =>
       intro B1 hm a3 a4 a5
       refine ⟨fun _ z26 e26 => ⟨d.2.1 + 1, ?_⟩, fun z => absurd neg z⟩
       rw [e26, k7]
       exact kv d.2.1 B1 (by omega) (fun v hv1 hv2 => by omega) (fun k hk => a3 k (by omega) hk) (fun k hk => a4 k (by omega) hk) a5
     | succ m ih =>
       intro B1 hm a3 a4 a5
       have ep : pC c.2.1 c.2.2.1 (m + 1) (pV c.1 d.2.1 (pS c.2.2.2.1 4 c.2.2.2.2)) = (((pC c.2.1 c.2.2.1 m (pV c.1 d.2.1 (pS c.2.2.2.1 4 c.2.2.2.2)) * 4 + c.2.1 m) * 8 + c.2.2.1 (3 * m)) * 8 + c.2.2.1 (3 * m + 1)) * 8 + c.2.2.1 (3 * m + 2) := rfl
       have hb := bC (m + 1) hm
       rw [ep] at hb
       rw [nI_m, ep]
       obtain ⟨c1, c2, c3⟩ := hN.c (k := m) (by omega)
       refine ⟨fun z => absurd z (nI_pos (by omega)), fun _ => ⟨vin2 rfl (by omega) (by omega), fun z27 e27 => ⟨4, ?_⟩⟩⟩
       have n27 : z27 = nI (xc d m) := by rw [e27, clI (x := nI m) rfl (by omega), a5 5 (by decide), k5]; exact c1
       rw [n27]
       generalize hA : pC c.2.1 c.2.2.1 m (pV c.1 d.2.1 (pS c.2.2.2.1 4 c.2.2.2.2)) = A at hb ⊢
       have hM := o3 m
       have g0 := o5 (3 * m)
       have g1 := o5 (3 * m + 1)
       have g2 := o5 (3 * m + 2)
       have nm : (-1 : Int32) < 0 := by decide
       refine ⟨fun z => absurd z (by decide), fun _ z19 e19 z20 e20 z21 e21 z22 e22 => ?_⟩
       have m20 : z20 = nI (3 * xc d m + 2) := by rw [e20, e19, q3, q2, nI_mul, nI_add, Nat.mul_comm]
       have m22 : z22 = nI (c.2.2.1 (3 * m + 2)) := by rw [e22, e21]; exact dg8 g2
       refine ⟨vin2 m20 (by omega) (by omega), fun z23 e23 z24 e24 => ?_⟩
       have m23 : z23 = lN (((A * 4 + c.2.1 m) * 8 + c.2.2.1 (3 * m)) * 8 + c.2.2.1 (3 * m + 1)) := by rw [e23]; exact sh8 g2 (by omega)
       have m24 : z24 = 1 := by rw [e24]; decide
       rw [m23, m24, clI m20 (by omega)]
       refine ⟨fun z => absurd z (by decide), fun _ y19 f19 y20 f20 y21 f21 y22 f22 => ?_⟩
       have p20 : y20 = nI (3 * xc d m + 1) := by rw [f20, f19, q3, show (1 : Int32) = nI 1 from rfl, nI_mul, nI_add, Nat.mul_comm]
       have p22 : y22 = nI (c.2.2.1 (3 * m + 1)) := by rw [f22, f21]; exact dg8 g1
       refine ⟨vin2 p20 (by omega) (by omega), fun y23 f23 y24 f24 => ?_⟩
       have p23 : y23 = lN ((A * 4 + c.2.1 m) * 8 + c.2.2.1 (3 * m)) := by rw [f23]; exact sh8 g1 (by omega)
       have p24 : y24 = 0 := by rw [f24]; decide
       rw [p23, p24, clI p20 (by omega)]
       refine ⟨fun z => absurd z (by decide), fun _ x19 h19 x20 h20 x21 h21 x22 h22 => ?_⟩
       have r20 : x20 = nI (3 * xc d m) := by rw [h20, h19, q3, show (0 : Int32) = nI 0 from rfl, nI_mul, nI_add, Nat.mul_comm, Nat.add_zero]
       have r22 : x22 = nI (c.2.2.1 (3 * m)) := by rw [h22, h21]; exact dg8 g0
       refine ⟨vin2 r20 (by omega) (by omega), fun x23 h23 x24 h24 => ?_⟩
       have r23 : x23 = lN (A * 4 + c.2.1 m) := by rw [h23]; exact sh8 g0 (by omega)
       have r24 : x24 = -1 := by rw [h24]; decide
       rw [r23, r24, clI r20 (by omega)]
       refine ⟨fun _ z15 e15 z16 e16 => ⟨vin2 rfl (by omega) (by omega), fun z17 e17 z18 e18 => ?_⟩, fun z => absurd nm z⟩
       have n16 : z16 = nI (c.2.1 m) := by rw [e16, e15]; exact dg4 (by omega)
       have n17 : z17 = lN A := by rw [e17]; exact sh4 (by omega) (by omega)
       rw [n17, e18, ngm m, clI (x := nI (xc d m)) rfl (by omega), ← hA]
       refine ih _ (by omega) (fun k hk1 hk2 => ?_) (fun k hk1 hk2 i hi => ?_) (fun k hk => by rw [← a5 k hk]; simp at hk; simp [va_up, hk])
       · by_cases e : k = m
         · subst e; simp [va_up, upd, n16]
         · have : ¬ xc d k = xc d m := fun z => e (hN.ci hk2 (by omega) z)
           simp [va_up, upd, this]; exact a3 k (by omega) hk2
       · by_cases e : k = m
         · subst e
           have : i = 0 ∨ i = 1 ∨ i = 2 := by omega
           rcases this with rfl | rfl | rfl
           · simp [va_up, upd, r22]
           · have q : ¬ 3 * xc d k + 1 = 3 * xc d k := by omega
             simp [va_up, upd, p22]
           · simp [va_up, upd, m22]
         · have q : ¬ xc d k = xc d m := fun z => e (hN.ci hk2 (by omega) z)
           have q0 : ¬ 3 * xc d k + i = 3 * xc d m := by omega
           have q1 : ¬ 3 * xc d k + i = 3 * xc d m + 1 := by omega
           have q2 : ¬ 3 * xc d k + i = 3 * xc d m + 2 := by omega
           simp [va_up, upd, q0, q1, q2]; exact a4 k (by omega) hk2 i hi
   exact kc d.2.2.1 B (by omega) (fun k h1 h2 => by omega) (fun k h1 h2 => by omega) (fun _ _ => rfl)
  intro z28 e28
  rw [k8] at e28
  rw [e28]
  exact ⟨d.2.2.1 + 1, gen _⟩
end ZJ4
