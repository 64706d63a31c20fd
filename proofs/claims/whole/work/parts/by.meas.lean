/-! The reference measures rounds. -/
section ZR8
variable {I9 : Nat → Int32} {J9 : Nat → Int64} {B9 : Nat → Nat → Int32} {D9 : Nat → Nat → Int64}
/-- what the reference's searches stand on -/
def SV (mc : Nat) (d : zD) (Q : zQ) (X : zG) (out : List zIt) (I9 : Nat → Int32) (B9 : Nat → Nat → Int32) : Prop := XI d Q X ∧ ntm out ≤ 3 ∧ out.length ≤ 240 ∧ I9 14 = nI (gN X) ∧ RK mc out I9 B9 ∧ LK d X (gN X) out B9 ∧ RT9 X B9 ∧ (∀ j, j ≤ gN X → B9 29 j = nI (gF X j)) ∧ (∀ j, j < gM X → B9 31 j = nI (gS X j) ∧ B9 30 j = nI (gT X j))
theorem SV.cg {mc : Nat} {d : zD} {Q : zQ} {X : zG} {out : List zIt} {I' : Nat → Int32} {B' : Nat → Nat → Int32} (h : SV mc d Q X out I9 B9) (hI : ∀ k, k ∈ [14, 19, 20, 23] → I' k = I9 k) (hB : ∀ k, k < 49 → B' k = B9 k) : SV mc d Q X out I' B' := by
  obtain ⟨h1, h2, h3, h4, ⟨r1, r2, r3, r4, r5⟩, h6, h7, h8, h9⟩ := h
  refine ⟨h1, h2, h3, by rw [hI 14 (by decide)]; exact h4, ⟨by rw [hI 19 (by decide)]; exact r1, by rw [hI 20 (by decide)]; exact r2, by rw [hI 23 (by decide)]; exact r3, r4.cg (fun k _ => by rw [hB 41 (by omega)]) (fun r hr k _ => by rw [hB r (by simp at hr; omega)]) (fun k _ => by rw [hB 24 (by omega)]), by rw [hB 43 (by omega)]; exact r5⟩, ?_, ⟨by rw [hB 34 (by omega)]; exact h7.1, by rw [hB 35 (by omega)]; exact h7.2⟩, by rw [hB 29 (by omega)]; exact h8, by rw [hB 31 (by omega), hB 30 (by omega)]; exact h9⟩
  unfold LK; rw [hB 48 (by omega)]; exact h6
theorem SV.b {mc : Nat} {d : zD} {Q : zQ} {X : zG} {out : List zIt} {B' : Nat → Nat → Int32} (h : SV mc d Q X out I9 B9) (hB : ∀ k, k < 49 → B' k = B9 k) : SV mc d Q X out I9 B' := h.cg (fun _ _ => rfl) hB
theorem r_bf {Post : Int32 → (Nat → Int32) → (Nat → Int64) → (Nat → Nat → Int32) → (Nat → Nat → Int64) → Prop} {mc : Nat} {d : zD} {Q : zQ} {X : zG} {out : List zIt} {q g : Nat} {x y : Int32} (h : SV mc d Q X out I9 B9) (hx : x = nI q) (hy : y = nI g) (hq : q < gN X) (hg : g < 8) (hp : Post (nI (bfx d X out q g)) I9 J9 B9 D9) : wp_LassoFinderModel_truthAt I9 J9 B9 D9 x y Post := r_truthAt hx hy h.2.2.2.2.1 h.2.2.2.2.2.1 h.2.2.1 h.2.1 hq h.1.1 hg hp
theorem r_stx {Post : Int32 → (Nat → Int32) → (Nat → Int64) → (Nat → Nat → Int32) → (Nat → Nat → Int64) → Prop} {mc : Nat} {d : zD} {Q : zQ} {X : zG} {out : List zIt} {q g : Nat} {x y : Int32} (h : SV mc d Q X out I9 B9) (hx : x = nI q) (hy : y = nI g) (hq : q < gN X) (hg : g < 8) (hp : Post (nI (Sx d X out (8 * q + g))) I9 J9 B9 D9) : wp_LassoFinderModel_settled I9 J9 B9 D9 x y Post := by
  refine r_settled9 hx hy h.2.2.2.2.1 h.2.2.2.2.2.1 h.2.2.1 h.2.1 hq h.1.1 hg ?_
  have : stN (atv d (gK X q)) out g = Sx d X out (8 * q + g) := by
    unfold Sx
    rw [show (8 * q + g) / 8 = q by omega, show (8 * q + g) % 8 = g by omega]
  rw [this]; exact hp
theorem sh3 {a : Nat} (h : a ≤ 100000) : nI a >>> ((3 : Int32) &&& 31) = nI (a / 8) := nI_shr (k := 3) (by omega) (by omega)
theorem sh6 {a : Nat} (h : a ≤ 100000) : nI a >>> ((6 : Int32) &&& 31) = nI (a / 64) := nI_shr (k := 6) (by omega) (by omega)
theorem an7 (a : Nat) : nI a &&& 7 = nI (a % 8) := nI_andm (w := 3) (by omega)
theorem tw {mc : Nat} {d : zD} {Q : zQ} {X : zG} {out : List zIt} (h : SV mc d Q X out I9 B9) : (1 : Int32) <<< (I9 20 &&& 31) = nI (2 ^ ntm out) := by
  have := h.2.1
  rw [h.2.2.2.2.1.2.1]
  have := nI_shl (a := 1) (k := ntm out) (by omega)
  rw [Nat.one_mul] at this; exact this
theorem nI_nn {k : Nat} (h : k < 2 ^ 31) : (0 : Int32) ≤ nI k := by
  rw [Int32.le_iff_toInt_le, nI_toInt h]
  have : (0 : Int32).toInt = 0 := rfl
  omega
/-- how far, as the reference keeps it -/
def AW (X : zG) (ds : Nat → Nat) (B : Nat → Nat → Int32) : Prop := ∀ p, p < 64 * gN X → (ds p = 0 → B 51 p = -1) ∧ (¬ ds p = 0 → ∃ L, L ≤ 6144 ∧ B 51 p = nI (L * 4096 + (ds p - 1))) ∧ ds p ≤ 3073
theorem r_away {Post : Int32 → (Nat → Int32) → (Nat → Int64) → (Nat → Nat → Int32) → (Nat → Nat → Int64) → Prop} {X : zG} {ds : Nat → Nat} {p : Nat} {x : Int32} (hN : gN X ≤ 96) (h : AW X ds B9) (hp : p < 64 * gN X) (hx : x = nI p) (hP : Post (nI (ds p) - 1) I9 J9 B9 D9) : wp_LassoFinderModel_away I9 J9 B9 D9 x Post := by
  subst hx
  obtain ⟨a1, a2, a3⟩ := h p hp
  have vv : vp_in (nI p) 6144 := vin2 rfl (by omega) (by omega)
  have cp : (nI p).toNatClampNeg = p := clI rfl (by omega)
  refine ⟨vv, fun z1 e1 => ?_⟩
  rw [cp] at e1
  by_cases e : ds p = 0
  · rw [a1 e] at e1
    rw [e] at hP
    exact ⟨fun z => absurd z (by rw [e1]; decide), fun _ => hP⟩
  · obtain ⟨L, l1, l2⟩ := a2 e
    rw [l2] at e1
    refine ⟨fun _ => ⟨vv, fun z3 e3 z4 e4 => ?_⟩, fun z => absurd (by rw [e1]; exact nI_nn (by omega)) z⟩
    rw [cp, l2] at e3
    have n4 : z4 = nI (ds p - 1) := by
      rw [e4, e3, show (4095 : Int32) = nI (2 ^ 12 - 1) from rfl, nI_andm (by omega)]
      congr 1
      omega
    have : nI (ds p - 1) = nI (ds p) - 1 := (deI (k := ds p - 1) (by rw [show ds p - 1 + 1 = ds p by omega]) rfl).symm
    show Post z4 I9 J9 B9 D9
    rw [n4, this]; exact hP
/-- a step back in the reference: what was met up to it -/
def R9x (d : zD) (X : zG) (out : List zIt) (p p' : Nat) : Prop := Er d X out (p / 8) (p' / 8) ∧ p' % 8 < 2 ^ ntm out ∧ (p' % 8 ||| Sx d X out (p / 8)) = p % 8 ∧ Sx d X out (p' / 8) ||| p' % 8 = p' % 8
theorem or_ab {b s r t : Nat} (h : s ||| (r ||| t) = r ||| t) : (b ||| s) ||| r ||| t = b ||| r ||| t := by
  rw [Nat.or_assoc, Nat.or_assoc, h, ← Nat.or_assoc]
theorem or_ac {b w r t : Nat} (h : w ||| b = b) : b ||| (r ||| w) ||| t = b ||| r ||| t := by
  rw [Nat.or_comm r w, ← Nat.or_assoc, Nat.or_comm b w, h]
/-- the spot itself is met on the way, or it is the end -/
theorem fw_sub {d : zD} {X : zG} {out : List zIt} (h3 : ntm out ≤ 3) {v n w r : Nat} (hr : r < 8) (h : fw d X out v n (8 * w + r)) : Sx d X out w ||| (r ||| Sx d X out v) = r ||| Sx d X out v := by
  match n, h with
  | 0, h =>
    have e : 8 * v = 8 * w + r := h
    have : w = v := by omega
    rw [this, Nat.or_comm r, ← Nat.or_assoc, Nat.or_self]
  | n + 1, ⟨z, _, u, _, e⟩ =>
    have := or8 (show z % 8 < 8 by omega) (Sx_lt (d := d) (X := X) h3 u).2
    have e1 : w = u := by omega
    have e2 : r = z % 8 ||| Sx d X out u := by omega
    rw [e2, e1, Nat.or_comm (z % 8), Nat.or_assoc, ← Nat.or_assoc (Sx d X out u), Nat.or_self]
/-- both measure the same -/
theorem fw9 {d : zD} {Q : zQ} {X : zG} {out : List zIt} (hX : XI d Q X) (h3 : ntm out ≤ 3) {v : Nat} (hv : v < 8 * gN X) : ∀ n p, pn (R9x d X out) n (8 * v + (2 ^ ntm out - 1)) p ↔ (p % 8 < 2 ^ ntm out ∧ Sx d X out (p / 8) ||| p % 8 = p % 8 ∧ ∃ r, r < 2 ^ ntm out ∧ fw d X out v n (8 * (p / 8) + r) ∧ p % 8 ||| r ||| Sx d X out v = 2 ^ ntm out - 1) := by
  have p8 := p2_3 h3
  have p1 : 0 < 2 ^ ntm out := Nat.two_pow_pos _
  have sa : ∀ w, Sx d X out w ||| (2 ^ ntm out - 1) = 2 ^ ntm out - 1 := fun w => sub_e (sub_o (sub_al (Sx_lt h3 w).1) sub.rf) (sub_r _ _)
  intro n
  induction n with
  | zero =>
    intro p
    constructor
    · intro h
      have e : 8 * v + (2 ^ ntm out - 1) = p := h
      have e1 : p / 8 = v := by omega
      have e2 : p % 8 = 2 ^ ntm out - 1 := by omega
      rw [e1, e2]
      refine ⟨by omega, sa v, 0, p1, by rw [Nat.add_zero]; exact rfl, ?_⟩
      rw [Nat.or_zero, Nat.or_comm]; exact sa v
    · rintro ⟨a1, a2, r, a3, a4, a5⟩
      have e : 8 * v = 8 * (p / 8) + r := a4
      have e1 : p / 8 = v := by omega
      have e2 : r = 0 := by omega
      rw [e2, Nat.or_zero, Nat.or_comm, ← e1, a2] at a5
      show 8 * v + (2 ^ ntm out - 1) = p
      omega
  | succ n ih =>
    intro p
    constructor
    · rintro ⟨z, h1, h2, h4, h5, h6⟩
      obtain ⟨b1, b2, r', b3, b4, b5⟩ := (ih z).mp h1
      have hfr := fw_sub h3 (show r' < 8 by omega) b4
      refine ⟨h4, h6, r' ||| Sx d X out (p / 8), Nat.or_lt_two_pow b3 (Sx_lt h3 _).1, ⟨8 * (z / 8) + r', b4, p / 8, ?_, ?_⟩, ?_⟩
      · rw [show (8 * (z / 8) + r') / 8 = z / 8 by omega]; exact h2
      · rw [show (8 * (z / 8) + r') % 8 = r' by omega]
      · rw [or_ac h6, ← or_ab hfr, h5]; exact b5
    · rintro ⟨a1, a2, r, a3, ⟨z, c1, w, c2, c3⟩, a5⟩
      have hz := fw_lt hX h3 hv c1
      have := or8 (show z % 8 < 8 by omega) (Sx_lt (d := d) (X := X) h3 w).2
      have ew : w = p / 8 := by omega
      have er : r = z % 8 ||| Sx d X out w := by omega
      have hfr := fw_sub (v := v) (n := n) (w := z / 8) (r := z % 8) h3 (by omega) (by rw [show 8 * (z / 8) + z % 8 = z by omega]; exact c1)
      have hol : p % 8 ||| Sx d X out (z / 8) < 2 ^ ntm out := Nat.or_lt_two_pow a1 (Sx_lt h3 _).1
      refine ⟨8 * (z / 8) + (p % 8 ||| Sx d X out (z / 8)), (ih _).mpr ?_, ?_⟩
      · rw [show (8 * (z / 8) + (p % 8 ||| Sx d X out (z / 8))) / 8 = z / 8 by omega, show (8 * (z / 8) + (p % 8 ||| Sx d X out (z / 8))) % 8 = p % 8 ||| Sx d X out (z / 8) by omega]
        refine ⟨hol, ?_, z % 8, hz.2, by rw [show 8 * (z / 8) + z % 8 = z by omega]; exact c1, ?_⟩
        · rw [Nat.or_comm (p % 8), ← Nat.or_assoc, Nat.or_self]
        · rw [or_ab hfr, ← a5, er, ew, or_ac a2]
      · refine ⟨?_, a1, ?_, a2⟩
        · rw [show (8 * (z / 8) + (p % 8 ||| Sx d X out (z / 8))) / 8 = z / 8 by omega, ← ew]; exact c2
        · rw [show (8 * (z / 8) + (p % 8 ||| Sx d X out (z / 8))) / 8 = z / 8 by omega, show (8 * (z / 8) + (p % 8 ||| Sx d X out (z / 8))) % 8 = p % 8 ||| Sx d X out (z / 8) by omega]
theorem R9x_lt {d : zD} {Q : zQ} {X : zG} {out : List zIt} (hX : XI d Q X) (h3 : ntm out ≤ 3) {p p' : Nat} (h : R9x d X out p p') : p' < 64 * gN X := by
  have := (Er_lt hX h3 h.1).1
  omega
theorem R9x_mono {d : zD} {X : zG} {out : List zIt} {p p' : Nat} (h : star (R9x d X out) p p') : p' % 8 ||| p % 8 = p % 8 :=
  h (fun q => q % 8 ||| p % 8 = p % 8) (Nat.or_self _) (fun a b c g => by
    rw [← c, ← g.2.2.1, ← Nat.or_assoc, ← Nat.or_assoc, Nat.or_self])
theorem R9x_bnd {d : zD} {Q : zQ} {X : zG} {out : List zIt} (hX : XI d Q X) (h3 : ntm out ≤ 3) {p n q : Nat} (hv : p < 64 * gN X) (h : pn (R9x d X out) n p q) (hmin : ∀ k, k < n → ¬ pn (R9x d X out) k p q) : n < 3072 := by
  have x1 := hX.1
  refine Nat.lt_of_lt_of_le (pn_bnd (M := 32 * gN X) h hmin (fun p => 4 * (p / 8) + popx (p % 8)) (fun z hz => ?_) (fun a b hab e => ?_)) (by omega)
  · have hz2 : z < 64 * gN X := hz (fun z => z < 64 * gN X) (by omega) (fun _ _ _ g => R9x_lt hX h3 g)
    show 4 * (z / 8) + popx (z % 8) < 32 * gN X
    unfold popx; omega
  · have hm := R9x_mono hab
    have e' : 4 * (a / 8) + popx (a % 8) = 4 * (b / 8) + popx (b % 8) := e
    have pa : popx (a % 8) < 4 := by unfold popx; omega
    have pb : popx (b % 8) < 4 := by unfold popx; omega
    have := popx_eq (b % 8) (by omega) (a % 8) (by omega) hm (by omega)
    omega
theorem not7 : ∀ h, h < 8 → ∀ b, b < 8 → (nI h &&& (nI b ^^^ -1) = 0 ↔ h ||| b = b) := by decide +kernel
end ZR8
