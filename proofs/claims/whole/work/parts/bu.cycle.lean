/-! Rounds: how long the shortest is. The class measures it. -/
section ZR4
variable {I : Nat → Int32} {J : Nat → Int64} {B : Nat → Nat → Int32} {D : Nat → Nat → Int64}
theorem divI {v : Nat} (h : v ≤ 100000) : nI v / 8 = nI (v / 8) := by
  apply Int32.toInt_inj.mp
  rw [Int32.toInt_div, nI_toInt (by omega), nI_toInt (by omega), show (8 : Int32).toInt = 8 from rfl, Int.tdiv_eq_ediv_of_nonneg (by omega), Int.bmod_def]
  split <;> omega
theorem modI {v : Nat} (h : v ≤ 100000) : nI v - nI v / 8 * 8 = nI (v % 8) := by
  rw [divI h, show (8 : Int32) = nI 8 from rfl, nI_mul]
  have := nI_sk (v % 8) (v / 8 * 8)
  rw [show v % 8 + v / 8 * 8 = v by omega] at this
  exact this
/-- a step back: the spot before, and what was met from it on -/
def Rc (d : zD) (X : zG) (out : List zIt) (p p' : Nat) : Prop := ∃ w, Er d X out (p / 8) w ∧ p' = 8 * w + (p % 8 ||| Sx d X out w)
def fw (d : zD) (X : zG) (out : List zIt) (v n p : Nat) : Prop := pn (Rc d X out) n (8 * v) p
theorem or8 {a b : Nat} (ha : a < 8) (hb : b < 8) : a ||| b < 8 := Nat.or_lt_two_pow (n := 3) ha hb
theorem Rc_e2 {d : zD} {X : zG} {out : List zIt} (h3 : ntm out ≤ 3) {x m y m' : Nat} (hm : m < 8) (h : E2 (dgX X) (nbX d X out) (Sx d X out) (x, m) (y, m')) : Rc d X out (8 * x + m) (8 * y + m') ∧ m' < 8 := by
  obtain ⟨h1, h2⟩ := h
  have h2' : m' = m ||| Sx d X out y := h2
  have hs := (Sx_lt (d := d) (X := X) h3 y).2
  refine ⟨⟨y, ?_, ?_⟩, by rw [h2']; exact or8 hm hs⟩
  · rw [show (8 * x + m) / 8 = x by omega]; exact h1
  · rw [show (8 * x + m) % 8 = m by omega, h2']
theorem e2_Rc {d : zD} {X : zG} {out : List zIt} (h3 : ntm out ≤ 3) {p p' : Nat} (h : Rc d X out p p') : E2 (dgX X) (nbX d X out) (Sx d X out) (p / 8, p % 8) (p' / 8, p' % 8) := by
  obtain ⟨w, h1, h2⟩ := h
  have hs := (Sx_lt (d := d) (X := X) h3 w).2
  have := or8 (show p % 8 < 8 by omega) hs
  have e1 : p' / 8 = w := by omega
  have e2 : p' % 8 = p % 8 ||| Sx d X out w := by omega
  rw [e1, e2]; exact ⟨h1, rfl⟩
/-- good spots are those that a round goes through -/
theorem gd_fw {d : zD} {X : zG} {out : List zIt} (h3 : ntm out ≤ 3) {v : Nat} : gd d X out v ↔ ∃ n, fw d X out v (n + 1) (8 * v + (2 ^ ntm out - 1)) := by
  have p8 := p2_3 h3
  constructor
  · rintro ⟨w, h1, h2⟩
    have hs := (Sx_lt (d := d) (X := X) h3 w).2
    have key := h2 (fun y => y.2 < 8 ∧ ∃ n, fw d X out v (n + 1) (8 * y.1 + y.2)) (by
      refine ⟨hs, 0, 8 * v, rfl, ?_⟩
      have := (Rc_e2 (d := d) (X := X) h3 (x := v) (m := 0) (y := w) (m' := Sx d X out w) (by omega) ⟨h1, by simp⟩).1
      simpa using this) (fun a b c g => by
      obtain ⟨c1, n, c2⟩ := c
      obtain ⟨g1, g2⟩ := Rc_e2 (d := d) (X := X) h3 (x := a.1) (m := a.2) (y := b.1) (m' := b.2) c1 g
      exact ⟨g2, n + 1, _, c2, g1⟩)
    exact key.2
  · rintro ⟨n, h⟩
    have : ∀ n p, fw d X out v (n + 1) p → ∃ w, Ed (dgX X) (nbX d X out) v w ∧ star (E2 (dgX X) (nbX d X out) (Sx d X out)) (w, Sx d X out w) (p / 8, p % 8) := by
      intro n
      induction n with
      | zero =>
        rintro p ⟨z, h1, h2⟩
        have hz : 8 * v = z := h1
        subst hz
        have := e2_Rc h3 h2
        obtain ⟨a1, a2⟩ := this
        have e1 : 8 * v / 8 = v := by omega
        have e2 : 8 * v % 8 = 0 := by omega
        have a2' : p % 8 = 8 * v % 8 ||| Sx d X out (p / 8) := a2
        rw [e2, Nat.zero_or] at a2'
        have a1' : Ed (dgX X) (nbX d X out) (8 * v / 8) (p / 8) := a1
        rw [e1] at a1'
        refine ⟨p / 8, a1', ?_⟩
        rw [a2']; exact star.refl _
      | succ n ih =>
        rintro p ⟨z, h1, h2⟩
        obtain ⟨w, a1, a2⟩ := ih z h1
        exact ⟨w, a1, a2.tail (e2_Rc h3 h2)⟩
    obtain ⟨w, a1, a2⟩ := this n _ h
    rw [show (8 * v + (2 ^ ntm out - 1)) / 8 = v by omega, show (8 * v + (2 ^ ntm out - 1)) % 8 = 2 ^ ntm out - 1 by omega] at a2
    exact ⟨w, a1, a2⟩
def popx (k : Nat) : Nat := k % 2 + k / 2 % 2 + k / 4 % 2
theorem popx_eq : ∀ a, a < 8 → ∀ b, b < 8 → a ||| b = b → popx a = popx b → a = b := by decide
theorem Rc_mono {d : zD} {X : zG} {out : List zIt} (h3 : ntm out ≤ 3) {p p' : Nat} (h : star (Rc d X out) p p') : p % 8 ||| p' % 8 = p' % 8 :=
  h (fun q => p % 8 ||| q % 8 = q % 8) (Nat.or_self _) (fun a b c g => by
    have := (e2_Rc h3 g).2
    have e : b % 8 = a % 8 ||| Sx d X out (b / 8) := this
    rw [e, ← Nat.or_assoc, c])
theorem Rc_lt {d : zD} {Q : zQ} {X : zG} {out : List zIt} (hX : XI d Q X) (h3 : ntm out ≤ 3) {p p' : Nat} (h : Rc d X out p p') : p' < 64 * gN X := by
  obtain ⟨w, h1, h2⟩ := h
  have := (Er_lt hX h3 h1).1
  have := or8 (show p % 8 < 8 by omega) (Sx_lt (d := d) (X := X) h3 w).2
  omega
/-- a shortest way -/
theorem fw_bnd {d : zD} {Q : zQ} {X : zG} {out : List zIt} (hX : XI d Q X) (h3 : ntm out ≤ 3) {v n p : Nat} (hv : v < 8 * gN X) (h : fw d X out v n p) (hmin : ∀ k, k < n → ¬ fw d X out v k p) : n < 3072 := by
  have x1 := hX.1
  refine Nat.lt_of_lt_of_le (pn_bnd (M := 32 * gN X) h hmin (fun p => 4 * (p / 8) + popx (p % 8)) (fun z hz => ?_) (fun a b hab e => ?_)) (by omega)
  · have hz2 : z < 64 * gN X := hz (fun z => z < 64 * gN X) (by omega) (fun _ _ _ g => Rc_lt hX h3 g)
    show 4 * (z / 8) + popx (z % 8) < 32 * gN X
    unfold popx; omega
  · have hm := Rc_mono h3 hab
    have e' : 4 * (a / 8) + popx (a % 8) = 4 * (b / 8) + popx (b % 8) := e
    have pa : popx (a % 8) < 4 := by unfold popx; omega
    have pb : popx (b % 8) < 4 := by unfold popx; omega
    have := popx_eq (a % 8) (by omega) (b % 8) (by omega) hm (by omega)
    omega
/-- the rows when a round is found -/
def CDx (d : zD) (X : zG) (out : List zIt) (v n : Nat) (ds : Nat → Nat) (B : Nat → Nat → Int32) : Prop := (∀ p, p < 6144 → B 56 p = nI (ds p) - 1) ∧ (∀ p, ¬ ds p = 0 → fw d X out v (ds p - 1) p) ∧ (∀ k p, k < n → fw d X out v k p → ¬ ds p = 0 ∧ ds p ≤ k + 1) ∧ (∀ p, ds p ≤ 6144)
/-- the length of the shortest round -/
def CLx (d : zD) (X : zG) (out : List zIt) (v n : Nat) : Prop := 1 ≤ n ∧ fw d X out v n (8 * v + (2 ^ ntm out - 1)) ∧ (∀ k, 1 ≤ k → k < n → ¬ fw d X out v k (8 * v + (2 ^ ntm out - 1))) ∧ n ≤ 3072
theorem CLx_det {d : zD} {X : zG} {out : List zIt} {v n n' : Nat} (h : CLx d X out v n) (g : CLx d X out v n') : n = n' := by
  rcases Nat.lt_trichotomy n n' with e | e | e
  · exact absurd h.2.1 (g.2.2.1 n h.1 e)
  · exact e
  · exact absurd g.2.1 (h.2.2.1 n' g.1 e)
theorem q_measureCycle {Post : Int32 → (Nat → Int32) → (Nat → Int64) → (Nat → Nat → Int32) → (Nat → Nat → Int64) → Prop} {d : zD} {Q : zQ} {X : zG} {out : List zIt} {v : Nat} {x : Int32} (hR : SR d Q X out I B) (hx : x = nI v) (hv : v < 8 * gN X) (hg : gd d X out v)
    (h : ∀ n ds I' B', CLx d X out v n → CDx d X out v n ds B' → (∀ k, k ≠ 35 → I' k = I k) → (∀ k, k ∉ [56, 57] → B' k = B k) → Post (nI n) I' J B' D) : wp_LassoSearch_measureCycle I J B D x Post := by
  subst hx
  have x1 := hR.1.1
  have x2 := hR.1.2.1
  have h3 := hR.2.1
  have p8 := p2_3 h3
  have p1 : 0 < 2 ^ ntm out := Nat.two_pow_pos _
  have fr : ∀ I1 B1, (∀ k, k ≠ 35 → I1 k = I k) → (∀ k, k ∉ [56, 57] → B1 k = B k) → SR d Q X out I1 B1 := fun I1 B1 hI hB => hR.cg (fun k hk => hI k (by simp at hk; omega)) (fun k hk => hB k (by simp at hk ⊢; omega))
  have dsN : ∀ ds qu m, BQ (Rc d X out) (fun p => p = 8 * v) (64 * gN X) ds qu m → ∀ w, ds w ≤ 6144 := fun ds qu m hb w => by
    by_cases e : ds w = 0
    · omega
    · obtain ⟨_, ⟨a, a1, a2⟩, _⟩ := hb.1 w e
      have := hb.2.2.2.2.2 a a1
      rw [a2] at this
      have := BQ_m hb
      omega
  have ptf : ∀ n p, pt (Rc d X out) (fun p => p = 8 * v) n p ↔ fw d X out v n p := fun n p => ⟨fun ⟨s, e, hp⟩ => by rw [show s = 8 * v from e] at hp; exact hp, fun hp => ⟨8 * v, rfl, hp⟩⟩
  -- a round is found from the place at i
  have found : ∀ i ds qu m I1 B1, BQ (Rc d X out) (fun p => p = 8 * v) (64 * gN X) ds qu m → BPx (Rc d X out) ds qu i → i < m → RW ds qu m I1 B1 → (∀ a, a < i → ¬ Rc d X out (qu a) (8 * v + (2 ^ ntm out - 1))) → Rc d X out (qu i) (8 * v + (2 ^ ntm out - 1)) → (∀ k, k ≠ 35 → I1 k = I k) → (∀ k, k ∉ [56, 57] → B1 k = B k) → Post (nI (ds (qu i))) I1 J B1 D := by
    intro i ds qu m I1 B1 hb hp hi hr hno hgo hI hB
    have hz := hb.2.1 i hi
    have hfi := (ptf _ _).mp (hb.1 _ hz).2.2
    have lv : ∀ k p, k < ds (qu i) → fw d X out v k p → ¬ ds p = 0 ∧ ds p ≤ k + 1 := fun k p hk hf => B_lv hb hp hi ((ptf k p).mpr hf) (by omega)
    refine h _ ds I1 B1 ⟨by omega, ?_, fun k h1 h2 hf => ?_, ?_⟩ ⟨hr.2.2, fun p hp' => (ptf _ _).mp (hb.1 p hp').2.2, lv, dsN ds qu m hb⟩ hI hB
    · have : fw d X out v ((ds (qu i) - 1) + 1) (8 * v + (2 ^ ntm out - 1)) := ⟨qu i, hfi, hgo⟩
      rw [show ds (qu i) - 1 + 1 = ds (qu i) by omega] at this; exact this
    · obtain ⟨k, rfl⟩ : ∃ k', k = k' + 1 := ⟨k - 1, by omega⟩
      obtain ⟨u, u1, u2⟩ := hf
      obtain ⟨a1, a2⟩ := lv k u (by omega) u1
      obtain ⟨_, ⟨a, a3, a4⟩, _⟩ := hb.1 u a1
      have ha : a < i := Nat.lt_of_not_le (fun g => by
        have := hb.2.2.2.1 i a g a3
        rw [a4] at this; omega)
      exact hno a ha (by rw [a4]; exact u2)
    · have := fw_bnd hR.1 h3 hv hfi (fun k hk hf => by
        have := (lv k (qu i) (by omega) hf).2
        omega)
      omega
  have inner : ∀ (K39 : Int32 → Int32 → (Nat → Int32) → (Nat → Int64) → (Nat → Nat → Int32) → (Nat → Nat → Int64) → Prop) (i p : Nat), p < 64 * gN X → (∀ ds qu m I1 B1, BQ (Rc d X out) (fun p => p = 8 * v) (64 * gN X) ds qu m → BL ds qu m (i + 1) → BPx (Rc d X out) ds qu (i + 1) → RW ds qu m I1 B1 → (∀ a, a < i + 1 → ¬ Rc d X out (qu a) (8 * v + (2 ^ ntm out - 1))) → (∀ k, k ≠ 35 → I1 k = I k) → (∀ k, k ∉ [56, 57] → B1 k = B k) → i + 1 ≤ m → K39 (nI (8 * v + (2 ^ ntm out - 1))) (nI (i + 1)) I1 J B1 D) →
      ∀ t k ds qu m I1 B1, k + t = dgX X (p / 8) → BQ (Rc d X out) (fun p => p = 8 * v) (64 * gN X) ds qu m → BL ds qu m i → BPx (Rc d X out) ds qu i → i < m → qu i = p → (∀ k', k' < k → ¬ ds (8 * nbX d X out (p / 8) k' + (p % 8 ||| Sx d X out (nbX d X out (p / 8) k'))) = 0 ∧ ds (8 * nbX d X out (p / 8) k' + (p % 8 ||| Sx d X out (nbX d X out (p / 8) k'))) ≤ ds p + 1 ∧ ¬ 8 * nbX d X out (p / 8) k' + (p % 8 ||| Sx d X out (nbX d X out (p / 8) k')) = 8 * v + (2 ^ ntm out - 1)) → RW ds qu m I1 B1 → (∀ a, a < i → ¬ Rc d X out (qu a) (8 * v + (2 ^ ntm out - 1))) → (∀ k, k ≠ 35 → I1 k = I k) → (∀ k, k ∉ [56, 57] → B1 k = B k) → wl_LassoSearch_measureCycle_94 (nI v) K39 Post (t + 1) (nI (8 * v + (2 ^ ntm out - 1))) (nI i) (nI p) (nI (p / 8 % 8)) (nI (p / 8 / 8)) (nI (cq X (p / 8) + k)) I1 J B1 D := by
    intro K39 i p hpl hK t
    have hcl1 := cl_le (gT X) (p / 8 / 8 + 1) (gM X)
    have hcq := cl_q (f := gT X) (show p / 8 / 8 ≤ p / 8 / 8 + 1 by omega) (gM X)
    have hdg : dgX X (p / 8) = cl (gT X) (p / 8 / 8 + 1) (gM X) - cl (gT X) (p / 8 / 8) (gM X) := rfl
    have hcqv : cq X (p / 8) = cl (gT X) (p / 8 / 8) (gM X) := rfl
    induction t with
    | zero =>
      intro k ds qu m I1 B1 hk hb hl hp hi hq hdone hr hno hI hB z1 e1
      have hR1 := fr I1 B1 hI hB
      have n1 := inI rfl e1
      refine ⟨vin2 n1 (by omega) (by omega), fun z2 e2 => ?_⟩
      rw [clI n1 (by omega), hR1.2.2.2.2.2.1.1 _ (by omega)] at e2
      refine ⟨fun _ z4 e4 => ?_, fun z => absurd ((leI e2 (y := nI (cq X (p / 8) + k)) rfl (by omega) (by omega)).mpr (by omega)) z⟩
      rw [inI rfl e4]
      refine hK ds qu m I1 B1 hb (BL_next hb hl) (fun a ha w hw => ?_) hr (fun a ha hw => ?_) hI hB hi
      · by_cases e : a = i
        · subst e
          rw [hq] at hw ⊢
          obtain ⟨u, ⟨k', h1, h2⟩, h4⟩ := hw
          have := hdone k' (by omega)
          rw [h2, ← h4] at this; exact ⟨this.1, this.2.1⟩
        · exact hp a (by omega) w hw
      · by_cases e : a = i
        · subst e
          rw [hq] at hw
          obtain ⟨u, ⟨k', h1, h2⟩, h4⟩ := hw
          have := hdone k' (by omega)
          rw [h2, ← h4] at this; exact this.2.2 rfl
        · exact hno a (by omega) hw
    | succ t ih =>
      intro k ds qu m I1 B1 hk hb hl hp hi hq hdone hr hno hI hB z1 e1
      have hR1 := fr I1 B1 hI hB
      have n1 := inI rfl e1
      have hkl : k < dgX X (p / 8) := by omega
      have hmN := BQ_m hb
      refine ⟨vin2 n1 (by omega) (by omega), fun z2 e2 => ?_⟩
      rw [clI n1 (by omega), hR1.2.2.2.2.2.1.1 _ (by omega)] at e2
      refine ⟨fun z => ?_, fun _ => ⟨vin2 rfl (by omega) (by omega), fun z5 e5 => ?_⟩⟩
      · have := (leI e2 (y := nI (cq X (p / 8) + k)) rfl (by omega) (by omega)).mp z; omega
      obtain ⟨j1, j2, j3⟩ := jx_at (dg_k.mp hkl)
      rw [← hcqv] at j1 j2 j3
      rw [clI rfl (by omega), ← j3, hR1.2.2.2.2.2.1.2 _ j1] at e5
      have hs := (hR.1.2.2.2.2 _ j1).1
      obtain ⟨u1, u2, u3⟩ := nb_lt (d := d) (out := out) hR.1 h3 hkl
      refine q_spotBefore e5 rfl hR1 hs (by omega) (fun z7 e7 => ?_)
      have eu : 8 * gS X (jx X (cq X (p / 8) + k)) + bef (atv d (gK X (gS X (jx X (cq X (p / 8) + k))))) out (p / 8 % 8) = nbX d X out (p / 8) k := rfl
      rw [eu]
      have hRk : Rc d X out p (8 * nbX d X out (p / 8) k + (p % 8 ||| Sx d X out (nbX d X out (p / 8) k))) := ⟨_, ⟨k, hkl, rfl⟩, rfl⟩
      have hwl := Rc_lt hR.1 h3 hRk
      have hsl := (Sx_lt (d := d) (X := X) h3 (nbX d X out (p / 8) k)).2
      have hol := or8 (show p % 8 < 8 by omega) hsl
      rw [modI (by omega)] at e7
      refine ⟨vin2 rfl (by omega) (by omega), fun z8 e8 z9 e9 z10 e10 z11 e11 => ?_⟩
      rw [clI rfl (by omega), B48 hR1 u1] at e8
      have n9 : z9 = nI (p % 8 ||| Sx d X out (nbX d X out (p / 8) k)) := by rw [e9, e7, e8, nI_or]
      have n11 : z11 = nI (8 * nbX d X out (p / 8) k + (p % 8 ||| Sx d X out (nbX d X out (p / 8) k))) := by rw [e11, e10, n9, show (8 : Int32) = nI 8 from rfl, nI_mul, nI_add, Nat.mul_comm]
      have q : z11 = nI (8 * v + (2 ^ ntm out - 1)) ↔ 8 * nbX d X out (p / 8) k + (p % 8 ||| Sx d X out (nbX d X out (p / 8) k)) = 8 * v + (2 ^ ntm out - 1) := eqI n11 rfl (by omega) (by omega)
      have vp : vp_in (nI p) 6144 := vin2 rfl (by omega) (by omega)
      have hpz : ∀ z : Int32, z = B1 56 (nI p).toNatClampNeg → ∀ y : Int32, y = z + 1 → y = nI (ds (qu i)) := by
        intro z ez y ey
        rw [clI rfl (by omega), hr.2.2 p (by omega)] at ez
        rw [ey, ez, hq]
        generalize nI (ds p) = y
        grind
      refine ⟨fun w z13 e13 z14 e14 => ⟨vp, fun z15 e15 z16 e16 => ?_⟩, fun w => ⟨vp, fun z19 e19 z20 e20 => ?_⟩⟩
      · have n14 : z14 = nI (8 * nbX d X out (p / 8) k + (p % 8 ||| Sx d X out (nbX d X out (p / 8) k))) := by rw [e14, e13, n9, show (8 : Int32) = nI 8 from rfl, nI_mul, nI_add, Nat.mul_comm]
        refine q_reach (by omega) hb hl hi hwl (by rw [hq]; exact hRk) hr n14 (hpz z15 e15 z16 e16) (fun ds' qu' m' I' B' c1 c2 c3 c4 c5 c6 c7 c8 z18 e18 => ?_)
        rw [inI rfl e18]
        obtain ⟨f1, f2⟩ := c3.at hb.2.1 hi
        refine ih (k + 1) ds' qu' m' I' B' (by omega) c1 c2 (hp.ex (by omega) hb.2.1 c3) (by have := c3.2.2; omega) (f1.trans hq) (fun k' hk' => ?_) c6 (fun a ha => by rw [c3.2.1 a (by omega)]; exact hno a ha) (fun y hy => (c7 y hy).trans (hI y hy)) (fun y hy => (c8 y hy).trans (hB y hy))
        rw [f1, hq] at f2 c5
        by_cases e : k' = k
        · subst e; exact ⟨c4, c5, fun y => w (q.mpr y)⟩
        · obtain ⟨g1, g2, g3⟩ := hdone k' (by omega)
          rw [c3.1 _ g1, f2]; exact ⟨g1, g2, g3⟩
      · rw [hpz z19 e19 z20 e20]
        refine found i ds qu m I1 B1 hb hp hi hr hno ?_ hI hB
        rw [hq, ← q.mp w]; exact hRk
  have outer : ∀ t i ds qu m I1 B1, i + t = 6144 → BQ (Rc d X out) (fun p => p = 8 * v) (64 * gN X) ds qu m → BL ds qu m i → BPx (Rc d X out) ds qu i → RW ds qu m I1 B1 → (∀ a, a < i → ¬ Rc d X out (qu a) (8 * v + (2 ^ ntm out - 1))) → (∀ k, k ≠ 35 → I1 k = I k) → (∀ k, k ∉ [56, 57] → B1 k = B k) → i ≤ m → wl_LassoSearch_measureCycle_39 (nI v) Post (t + 1) (nI (8 * v + (2 ^ ntm out - 1))) (nI i) I1 J B1 D := by
    have no : ∀ i ds qu m, BQ (Rc d X out) (fun p => p = 8 * v) (64 * gN X) ds qu m → BPx (Rc d X out) ds qu i → (∀ a, a < i → ¬ Rc d X out (qu a) (8 * v + (2 ^ ntm out - 1))) → m ≤ i → False := by
      intro i ds qu m hb hp hno hmi
      obtain ⟨n, u, u1, u2⟩ := (gd_fw h3).mp hg
      obtain ⟨a1, a2⟩ := (B_end hb hp hmi).2 n u ((ptf n u).mpr u1)
      obtain ⟨_, ⟨a, a3, a4⟩, _⟩ := hb.1 u a1
      exact hno a (by omega) (by rw [a4]; exact u2)
    intro t
    induction t with
    | zero =>
      intro i ds qu m I1 B1 hi hb hl hp hr hno hI hB him
      have hmN := BQ_m hb
      exact absurd (no i ds qu m hb hp hno (by omega)) id
    | succ t ih =>
      intro i ds qu m I1 B1 hi hb hl hp hr hno hI hB him
      have hmN := BQ_m hb
      have hR1 := fr I1 B1 hI hB
      refine ⟨fun z => ?_, fun _ => ⟨fun z => ?_, fun z => ?_⟩⟩
      · have := (leI (x := 6144) (a := 6144) rfl (y := nI i) rfl (by omega) (by omega)).mp z; omega
      · have := (leI hr.1 (y := nI i) rfl (by omega) (by omega)).mp z
        exact absurd (no i ds qu m hb hp hno this) id
      · have him2 : i < m := Nat.lt_of_not_le (fun y => z ((leI hr.1 (y := nI i) rfl (by omega) (by omega)).mpr y))
        refine ⟨vin2 rfl (by omega) (by omega), fun z23 e23 z24 e24 z25 e25 z26 e26 z27 e27 => ?_⟩
        rw [clI rfl (by omega), hr.2.1 i him2] at e23
        have hvN : qu i < 64 * gN X := (hb.1 _ (hb.2.1 i him2)).1
        rw [e23, divI (by omega)] at e24 e26
        rw [e24, modI (by omega)] at e25
        rw [e26, divI (by omega)] at e27
        refine ⟨vin2 e27 (by omega) (by omega), fun z28 e28 => ?_⟩
        rw [clI e27 (by omega), hR1.2.2.2.2.2.1.1 _ (by omega)] at e28
        rw [e23, e25, e27, e28]
        refine ⟨dgX X (qu i / 8) + 1, ?_⟩
        exact inner (wl_LassoSearch_measureCycle_39 (nI v) Post (t + 1)) i (qu i) hvN (fun ds' qu' m' I' B' c1 c2 c3 c4 c5 c6 c7 c8 => ih (i + 1) ds' qu' m' I' B' (by omega) c1 c2 c3 c4 c5 c6 c7 c8) (dgX X (qu i / 8)) 0 ds qu m I1 B1 (by omega) hb hl hp him2 rfl (fun k' hk' => by omega) hr hno hI hB
  intro z29 e29 z30 e30 z31 e31 z32 e32
  have n29 : z29 = nI (8 * v) := by rw [e29, show (8 : Int32) = nI 8 from rfl, nI_mul, Nat.mul_comm]
  have n32 : z32 = nI (8 * v) := by rw [e32, show (8 : Int32) = nI 8 from rfl, nI_mul, Nat.mul_comm]
  have n31 : z31 = nI (8 * v + (2 ^ ntm out - 1)) := by
    refine deI ?_ e31
    rw [e30, n29, hR.2.2.2.1, nI_add]; congr 1; omega
  subst n32
  rw [n31]
  have vv : vp_in (nI (8 * v)) 6144 := vin2 rfl (by omega) (by omega)
  have cw : (nI (8 * v)).toNatClampNeg = 8 * v := clI rfl (by omega)
  have hfl : ∀ p, p < 6144 → va_up B 56 (zFill (B 56) (-1) 6144) 56 p = -1 := fun p hp => by simp [va_up, zFill, hp]
  refine ⟨vv, fun z1 e1 => ?_⟩
  rw [cw, hfl _ (by omega)] at e1
  refine ⟨fun z => absurd e1 z, fun _ => ⟨vv, ?_, fun z3 e3 => ⟨6145, ?_⟩⟩⟩
  · exact vin2 (k := 0) (by simp [upd]; rfl) (by omega) (by omega)
  have e35 : upd I 35 0 35 = nI 0 := by simp [upd]; rfl
  rw [cw, clI e35 (by omega)]
  have hcv : ∀ N, 8 * v < N → cv (upn (fun _ => 0) (8 * v) (0 + 1)) N = cv (fun _ => 0) N + 1 := fun N hN => cv_up rfl N hN
  refine outer 6144 0 (upn (fun _ => 0) (8 * v) 1) (fun _ => 8 * v) 1 _ _ (by omega) ⟨fun w hw => ?_, fun a ha => ?_, ?_, fun a b _ _ => Nat.le_refl _, fun w hw => ?_, fun a ha => ?_⟩ (fun _ b _ => by simp [upn]) (fun a ha => by omega) ⟨?_, fun a ha => ?_, fun p hp => ?_⟩ (fun a ha => by omega) (fun k hk => by simp [upd, hk]) (fun k hk => by simp at hk; simp [va_up, hk]) (by omega)
  · have e : w = 8 * v := Classical.byContradiction (fun e => hw (by rw [upn_ne e]))
    subst e
    exact ⟨by omega, ⟨0, by omega, rfl⟩, 8 * v, rfl, by rw [upn_at]; rfl⟩
  · show ¬ upn (fun _ => 0) (8 * v) 1 (8 * v) = 0
    rw [upn_at]; omega
  · have := hcv (64 * gN X) (by omega)
    rw [Nat.zero_add] at this
    rw [this]; omega
  · rw [show w = 8 * v from hw, upn_at]
  · show upn (fun _ => 0) (8 * v) 1 (8 * v) ≤ a + 1
    rw [upn_at]; omega
  · have := inI e35 e3
    simp [upd]; exact this
  · have : a = 0 := by omega
    subst this
    simp [va_up, upd]
  · by_cases e : p = 8 * v
    · subst e; simp [va_up, upd, upn]; rfl
    · simp [va_up, upd, upn, e, zFill, hp]; rfl
end ZR4
