/-! The reference measures rounds: its queue. -/
section ZR9
variable {I9 : Nat → Int32} {J9 : Nat → Int64} {B9 : Nat → Nat → Int32} {D9 : Nat → Nat → Int64}
/-- the queue's rows: each place knows the next -/
def FQ (X : zG) (ds qu : Nat → Nat) (m : Nat) (B : Nat → Nat → Int32) : Prop := (∀ p, p < 64 * gN X → ds p = 0 → B 51 p = -1) ∧ (∀ a, a < m → B 51 (qu a) = nI ((if a + 1 < m then qu (a + 1) + 1 else 0) * 4096 + (ds (qu a) - 1))) ∧ (∀ p, ds p ≤ 3073)
theorem FQ.aw {R : Nat → Nat → Prop} {src : Nat → Prop} {X : zG} {ds qu : Nat → Nat} {m : Nat} {B : Nat → Nat → Int32} (h : FQ X ds qu m B) (hb : BQ R src (64 * gN X) ds qu m) (hN : gN X ≤ 96) : AW X ds B := by
  refine fun p hp => ⟨h.1 p hp, fun hd => ?_, h.2.2 p⟩
  obtain ⟨_, ⟨a, a1, a2⟩, _⟩ := hb.1 p hd
  have := h.2.1 a a1
  rw [a2] at this
  refine ⟨_, ?_, this⟩
  split
  · rename_i g
    have := (hb.1 _ (hb.2.1 (a + 1) g)).1
    omega
  · omega
theorem r_measure {Post : (Nat → Int32) → (Nat → Int64) → (Nat → Nat → Int32) → (Nat → Nat → Int64) → Prop} {mc : Nat} {d : zD} {Q : zQ} {X : zG} {out : List zIt} {q t : Nat} {x y : Int32} (hS : SV mc d Q X out I9 B9) (hx : x = nI q) (hy : y = nI t) (hq : q < gN X) (ht : t < 8)
    (h : ∀ ds B', MD (R9x d X out) (fun p => p = 8 * (8 * q + t) + (2 ^ ntm out - 1)) ds → AW X ds B' → (∀ k, k ≠ 51 → B' k = B9 k) → Post I9 J9 B' D9) : wp_LassoFinderModel_measure I9 J9 B9 D9 x y Post := by
  subst hx; subst hy
  have x1 := hS.1.1
  have x2 := hS.1.2.1
  have h3 := hS.2.1
  have p8 := p2_3 h3
  have p1 : 0 < 2 ^ ntm out := Nat.two_pow_pos _
  have i14 := hS.2.2.2.1
  have fr : ∀ B1 : Nat → Nat → Int32, (∀ k, k ≠ 51 → B1 k = B9 k) → SV mc d Q X out I9 B1 := fun B1 hB => hS.b (fun k hk => hB k (by omega))
  generalize hsrc : (fun p => p = 8 * (8 * q + t) + (2 ^ ntm out - 1)) = src at h
  have hv : 8 * q + t < 8 * gN X := by omega
  -- no place is far
  have bnd : ∀ i ds qu m, BQ (R9x d X out) src (64 * gN X) ds qu m → BPx (R9x d X out) ds qu i → i < m → ds (qu i) ≤ 3072 := by
    intro i ds qu m hb hp hi
    have hz := hb.2.1 i hi
    obtain ⟨s, hs, hn⟩ := (hb.1 _ hz).2.2
    have es : s = 8 * (8 * q + t) + (2 ^ ntm out - 1) := by rw [← hsrc] at hs; exact hs
    have := R9x_bnd hS.1 h3 (show s < 64 * gN X by omega) hn (fun k hk hf => by
      have := (B_lv hb hp hi ⟨s, hs, hf⟩ (show k + 1 ≤ ds (qu i) by omega)).2
      omega)
    omega
  -- the masks that may have been met before
  have inner2 : ∀ (K72 : Int32 → Int32 → Int32 → Int32 → (Nat → Int32) → (Nat → Int64) → (Nat → Nat → Int32) → (Nat → Nat → Int64) → Prop) (K120 : Int32 → Int32 → Int32 → Int32 → Int32 → Int32 → Int32 → Int32 → (Nat → Int32) → (Nat → Int64) → (Nat → Nat → Int32) → (Nat → Nat → Int64) → Prop) (i p : Nat) (lf own jj : Int32) (s tr w : Nat), p < 64 * gN X → own = nI (Sx d X out (p / 8)) → w < 8 * gN X → Er d X out (p / 8) w →
      ∀ u b ds qu m B1, b + u = 2 ^ ntm out → BQ (R9x d X out) src (64 * gN X) ds qu m → BL ds qu m i → BPx (R9x d X out) ds qu i → i < m → qu i = p → FQ X ds qu m B1 → (∀ k, k ≠ 51 → B1 k = B9 k) → (∀ b', b' < b → R9x d X out p (8 * w + b') → ¬ ds (8 * w + b') = 0 ∧ ds (8 * w + b') ≤ ds p + 1) →
      (∀ ds' qu' m' B', BQ (R9x d X out) src (64 * gN X) ds' qu' m' → BL ds' qu' m' i → EXx ds qu m ds' qu' m' → FQ X ds' qu' m' B' → (∀ k, k ≠ 51 → B' k = B9 k) → (∀ b', b' < 2 ^ ntm out → R9x d X out p (8 * w + b') → ¬ ds' (8 * w + b') = 0 ∧ ds' (8 * w + b') ≤ ds' p + 1) → K120 (nI (2 ^ ntm out - 1)) (nI (qu' (m' - 1))) lf (nI p) (nI s) (nI tr) own (jj + 1) I9 J9 B' D9) →
      wl_LassoFinderModel_measure_171 (nI q) (nI t) K72 K120 Post (u + 1) (nI (2 ^ ntm out - 1)) (nI (qu (m - 1))) lf (nI p) (nI s) (nI tr) own jj (nI (w / 8)) (nI (w % 8)) (nI (Sx d X out w)) (nI b) I9 J9 B1 D9 := by
    intro K72 K120 i p lf own jj s tr w hpl hown hwl hEr u
    have hsx := (Sx_lt (d := d) (X := X) h3 w).2
    have hsp := (Sx_lt (d := d) (X := X) h3 (p / 8)).2
    induction u with
    | zero =>
      intro b ds qu m B1 hb0 hb hl hp hi hqi hf hB hdone hK
      refine ⟨fun _ z3 e3 => ?_, fun z => absurd ((ltI (x := nI (2 ^ ntm out - 1)) rfl (y := nI b) rfl (by omega) (by omega)).mpr (by omega)) z⟩
      rw [e3]
      exact hK ds qu m B1 hb hl EXx.rf hf hB (fun b' hb' => hdone b' (by omega))
    | succ u ih =>
      intro b ds qu m B1 hb0 hb hl hp hi hqi hf hB hdone hK
      refine ⟨fun z => ?_, fun _ z4 e4 z5 e5 z6 e6 z7 e7 z8 e8 z9 e9 => ?_⟩
      · have := (ltI (x := nI (2 ^ ntm out - 1)) rfl (y := nI b) rfl (by omega) (by omega)).mp z; omega
      have n7 : z7 = nI (8 * w + b) := by
        rw [e7, e6, e4, e5, show (64 : Int32) = nI 64 from rfl, show (8 : Int32) = nI 8 from rfl, nI_mul, nI_mul, nI_add, nI_add]; congr 1; omega
      rw [hown, nI_or] at e8
      rw [an7] at e9
      have hol := or8 (show b < 8 by omega) hsp
      have q89 : z8 = z9 ↔ b ||| Sx d X out (p / 8) = p % 8 := eqI e8 e9 (by omega) (by omega)
      have hwb : (8 * w + b) / 8 = w ∧ (8 * w + b) % 8 = b := by omega
      have hiff : R9x d X out p (8 * w + b) ↔ (b ||| Sx d X out (p / 8) = p % 8 ∧ Sx d X out w ||| b = b) := by
        unfold R9x
        rw [hwb.1, hwb.2]
        exact ⟨fun y => y.2.2, fun y => ⟨hEr, by omega, y⟩⟩
      -- nothing new
      have skip : (R9x d X out p (8 * w + b) → ¬ ds (8 * w + b) = 0 ∧ ds (8 * w + b) ≤ ds p + 1) → wc_LassoFinderModel_measure_265 (nI q) (nI t) K72 K120 (wl_LassoFinderModel_measure_171 (nI q) (nI t) K72 K120 Post (u + 1)) Post (nI (2 ^ ntm out - 1)) (nI (qu (m - 1))) lf (nI p) (nI s) (nI tr) own jj (nI (w / 8)) (nI (w % 8)) (nI (Sx d X out w)) (nI b) I9 J9 B1 D9 := by
        intro hn z1 e1
        rw [inI rfl e1]
        refine ih (b + 1) ds qu m B1 (by omega) hb hl hp hi hqi hf hB (fun b' hb' => ?_) hK
        by_cases e : b' = b
        · subst e; exact hn
        · exact hdone b' (by omega)
      refine ⟨fun z => skip (fun y => absurd (q89.mpr (hiff.mp y).1) z), fun z z11 e11 z12 e12 => ?_⟩
      have q12 : z12 = 0 ↔ Sx d X out w ||| b = b := by rw [e12, e11]; exact not7 _ hsx _ (by omega)
      refine ⟨fun y => skip (fun g => absurd (q12.mpr (hiff.mp g).2) y), fun y => ?_⟩
      have hR : R9x d X out p (8 * w + b) := hiff.mpr ⟨q89.mp z, q12.mp y⟩
      have hkl : 8 * w + b < 64 * gN X := by omega
      refine ⟨vin2 n7 (by omega) (by omega), fun z14 e14 => ?_⟩
      rw [clI n7 (by omega)] at e14
      have haw := hf.aw hb x1
      obtain ⟨w1, w2, w3⟩ := haw (8 * w + b) hkl
      by_cases hd : ds (8 * w + b) = 0
      · refine ⟨fun _ => ?_, fun g => absurd (by rw [e14, w1 hd]; decide) g⟩
        obtain ⟨b1, b2, b3⟩ := BQ_add hb hl hi hd hkl (by rw [hqi]; exact hR)
        have hmN := BQ_lt hb hd hkl
        have hbn := bnd i ds qu m hb hp hi
        have hpz : ¬ ds p = 0 := by rw [← hqi]; exact hb.2.1 i hi
        refine r_away x1 haw hpl rfl (fun z17 e17 => ⟨vin2 n7 (by omega) (by omega), ?_⟩)
        have n17 : z17 = nI (ds p) := by
          rw [e17]
          generalize nI (ds p) = y
          grind
        have hlast := hf.2.1 (m - 1) (by omega)
        rw [if_neg (by omega), Nat.zero_mul, Nat.zero_add] at hlast
        have hlN : qu (m - 1) < 64 * gN X := (hb.1 _ (hb.2.1 (m - 1) (by omega))).1
        have hlne : ¬ qu (m - 1) = 8 * w + b := fun e => hb.2.1 (m - 1) (by omega) (by rw [e]; exact hd)
        refine ⟨vin2 rfl (by omega) (by omega), fun z18 e18 z19 e19 z20 e20 z21 e21 => ⟨vin2 rfl (by omega) (by omega), ?_⟩⟩
        rw [clI n7 (by omega), clI rfl (by omega)] at e18
        simp only [upd, hlne, if_false] at e18
        rw [hlast] at e18
        have n20 : z20 = nI ((8 * w + b + 1) * 4096) := by
          rw [e20, inI n7 e19]; exact nI_shl (k := 12) (by omega)
        have n21 : z21 = nI ((8 * w + b + 1) * 4096 + (ds (qu (m - 1)) - 1)) := by rw [e21, e18, n20, nI_add, Nat.add_comm]
        intro z1 e1
        rw [inI rfl e1, clI n7 (by omega), clI rfl (by omega), n7, n17, n21]
        have hqm : (upn qu m (8 * w + b)) (m + 1 - 1) = 8 * w + b := by rw [Nat.add_sub_cancel, upn_at]
        obtain ⟨f1, f2⟩ := b3.at hb.2.1 hi
        rw [f1, hqi] at f2
        have hdsi : ds (qu i) = ds p := by rw [hqi]
        rw [hdsi] at b1 b2 b3 hbn
        have hB1 : ∀ k, k ≠ 51 → va_up (va_up B1 51 (upd (B1 51) (8 * w + b) (nI (ds p)))) 51 (upd (upd (B1 51) (8 * w + b) (nI (ds p))) (qu (m - 1)) (nI ((8 * w + b + 1) * 4096 + (ds (qu (m - 1)) - 1)))) k = B9 k := fun k hk => by simp [va_up, hk]; exact hB k hk
        have h51 : va_up (va_up B1 51 (upd (B1 51) (8 * w + b) (nI (ds p)))) 51 (upd (upd (B1 51) (8 * w + b) (nI (ds p))) (qu (m - 1)) (nI ((8 * w + b + 1) * 4096 + (ds (qu (m - 1)) - 1)))) 51 = upd (upd (B1 51) (8 * w + b) (nI (ds p))) (qu (m - 1)) (nI ((8 * w + b + 1) * 4096 + (ds (qu (m - 1)) - 1))) := by simp [va_up]
        generalize va_up (va_up B1 51 (upd (B1 51) (8 * w + b) (nI (ds p)))) 51 (upd (upd (B1 51) (8 * w + b) (nI (ds p))) (qu (m - 1)) (nI ((8 * w + b + 1) * 4096 + (ds (qu (m - 1)) - 1)))) = B2 at hB1 h51
        have hf2 : FQ X (upn ds (8 * w + b) (ds p + 1)) (upn qu m (8 * w + b)) (m + 1) B2 := by
          refine ⟨fun p' hp' hz => ?_, fun a ha => ?_, fun p' => ?_⟩
          · have e1 : ¬ p' = 8 * w + b := fun e => by rw [e, upn_at] at hz; omega
            rw [upn_ne e1] at hz
            have e2 : ¬ p' = qu (m - 1) := fun e => hb.2.1 (m - 1) (by omega) (by rw [← e]; exact hz)
            rw [h51]
            simp only [upd, e1, e2, if_false]
            exact hf.1 p' hp' hz
          · by_cases ea : a = m
            · subst ea
              have e2 : ¬ 8 * w + b = qu (a - 1) := fun e => hlne e.symm
              rw [upn_at, upn_at, if_neg (by omega), h51]
              simp only [upd, e2, if_false, if_true]
              congr 1; omega
            · have e1 : ¬ qu a = 8 * w + b := fun e => hb.2.1 a (by omega) (by rw [e]; exact hd)
              rw [upn_ne ea, upn_ne e1, if_pos (by omega), h51]
              by_cases ea2 : a + 1 = m
              · have ea3 : a = m - 1 := by omega
                rw [ea2, upn_at]
                subst ea3
                simp [upd]
              · have e2 : ¬ qu a = qu (m - 1) := fun e => by
                  have := hf.2.1 a (by omega)
                  rw [e, hlast, if_pos (by omega)] at this
                  have hq1 := (hb.1 _ (hb.2.1 (a + 1) (by omega))).1
                  have d1 := hf.2.2 (qu (m - 1))
                  have := (nI_eq (by omega) (by omega)).mp this
                  omega
                rw [upn_ne ea2]
                simp only [upd, e1, e2, if_false]
                rw [hf.2.1 a (by omega), if_pos (by omega)]
          · by_cases e1 : p' = 8 * w + b
            · rw [e1, upn_at]; omega
            · rw [upn_ne e1]; exact hf.2.2 p'
        have hih := ih (b + 1) _ _ (m + 1) B2 (by omega) b1 b2 (hp.ex (by omega) hb.2.1 b3) (by omega) (f1.trans hqi) hf2 hB1 (fun b' hb' hr => ?_) (fun ds' qu' m' B' c1 c2 c3 c4 c5 c6 => hK ds' qu' m' B' c1 c2 (b3.tr c3) c4 c5 c6)
        · rw [hqm] at hih
          exact hih
        · by_cases e : b' = b
          · subst e; rw [f2, upn_at]; exact ⟨by omega, Nat.le_refl _⟩
          · obtain ⟨g1, g2⟩ := hdone b' (by omega) hr
            rw [b3.1 _ g1, f2]; exact ⟨g1, g2⟩
      · refine ⟨fun g => ?_, fun _ => skip (fun _ => ⟨hd, ?_⟩)⟩
        · obtain ⟨L, l1, l2⟩ := w2 hd
          rw [e14, l2] at g
          have : (0 : Int32) ≤ nI (L * 4096 + (ds (8 * w + b) - 1)) := nI_nn (by omega)
          rw [Int32.lt_iff_toInt_lt] at g
          rw [Int32.le_iff_toInt_le] at this
          omega
        · obtain ⟨_, ⟨a, a1, a2⟩, _⟩ := hb.1 _ hd
          have := hl hi a a1
          rw [a2, hqi] at this; exact this
  have lnk : ∀ (b : Bool) (c : Nat), (if b = true then nI (c + 1) else nI 0) - 1 = (if b = true then nI c else -1) := fun b c => by
    cases b
    · rfl
    · exact nI_pred c
  -- the steps into a state
  have inner1 : ∀ (K72 : Int32 → Int32 → Int32 → Int32 → (Nat → Int32) → (Nat → Int64) → (Nat → Nat → Int32) → (Nat → Nat → Int64) → Prop) (i p : Nat) (lf : Int32), p < 64 * gN X → (∀ ds qu m B1, BQ (R9x d X out) src (64 * gN X) ds qu m → BL ds qu m (i + 1) → BPx (R9x d X out) ds qu (i + 1) → FQ X ds qu m B1 → (∀ k, k ≠ 51 → B1 k = B9 k) → i + 1 ≤ m → K72 (nI (2 ^ ntm out - 1)) (nI (qu (m - 1))) lf (if i + 1 < m then nI (qu (i + 1)) else -1) I9 J9 B1 D9) →
      ∀ u k ds qu m B1, k + u = dgX X (p / 8) → BQ (R9x d X out) src (64 * gN X) ds qu m → BL ds qu m i → BPx (R9x d X out) ds qu i → i < m → qu i = p → (∀ k', k' < k → ∀ b, b < 2 ^ ntm out → R9x d X out p (8 * nbX d X out (p / 8) k' + b) → ¬ ds (8 * nbX d X out (p / 8) k' + b) = 0 ∧ ds (8 * nbX d X out (p / 8) k' + b) ≤ ds p + 1) → FQ X ds qu m B1 → (∀ k, k ≠ 51 → B1 k = B9 k) → wl_LassoFinderModel_measure_120 (nI q) (nI t) K72 Post (u + 1) (nI (2 ^ ntm out - 1)) (nI (qu (m - 1))) lf (nI p) (nI (p / 8 / 8)) (nI (p / 8 % 8)) (nI (Sx d X out (p / 8))) (nI (cq X (p / 8) + k)) I9 J9 B1 D9 := by
    intro K72 i p lf hpl hK u
    have hcl1 := cl_le (gT X) (p / 8 / 8 + 1) (gM X)
    have hcq := cl_q (f := gT X) (show p / 8 / 8 ≤ p / 8 / 8 + 1 by omega) (gM X)
    have hdg : dgX X (p / 8) = cl (gT X) (p / 8 / 8 + 1) (gM X) - cl (gT X) (p / 8 / 8) (gM X) := rfl
    have hcqv : cq X (p / 8) = cl (gT X) (p / 8 / 8) (gM X) := rfl
    induction u with
    | zero =>
      intro k ds qu m B1 hk hb hl hp hi hqi hdone hf hB z22 e22
      have hS1 := fr B1 hB
      have n22 := inI rfl e22
      refine ⟨vin2 n22 (by omega) (by omega), fun z23 e23 => ?_⟩
      rw [clI n22 (by omega), hS1.2.2.2.2.2.2.1.1 _ (by omega)] at e23
      refine ⟨fun _ => ⟨vin2 rfl (by omega) (by omega), fun z25 e25 z26 e26 z27 e27 => ?_⟩, fun z => absurd ((leI e23 (y := nI (cq X (p / 8) + k)) rfl (by omega) (by omega)).mpr (by omega)) z⟩
      have h51 := hf.2.1 i hi
      rw [hqi] at h51
      rw [clI rfl (by omega), h51] at e25
      have hd1 := hf.2.2 p
      have n26 : z26 = nI (if i + 1 < m then qu (i + 1) + 1 else 0) := by
        rw [e26, e25]
        have hlk : (if i + 1 < m then qu (i + 1) + 1 else 0) ≤ 6144 := by
          split
          · rename_i g
            have := (hb.1 _ (hb.2.1 (i + 1) g)).1
            omega
          · omega
        generalize (if i + 1 < m then qu (i + 1) + 1 else 0) = lk at hlk
        have := nI_shr (a := lk * 4096 + (ds p - 1)) (k := 12) (by omega) (by omega)
        rw [show (lk * 4096 + (ds p - 1)) / 2 ^ 12 = lk by omega] at this
        exact this
      have n27 : z27 = (if i + 1 < m then nI (qu (i + 1)) else -1) := by
        rw [e27, n26]
        by_cases g : i + 1 < m
        · rw [if_pos g, if_pos g]; exact nI_pred _
        · rw [if_neg g, if_neg g]; rfl
      rw [n27]
      refine hK ds qu m B1 hb (BL_next hb hl) (fun a ha w hw => ?_) hf hB hi
      by_cases e : a = i
      · subst e
        rw [hqi] at hw ⊢
        obtain ⟨⟨k', h1, h2⟩, h4⟩ := id hw
        have := hdone k' (by omega) (w % 8) h4.1
        rw [h2, show 8 * (w / 8) + w % 8 = w by omega] at this
        exact this hw
      · exact hp a (by omega) w hw
    | succ u ih =>
      intro k ds qu m B1 hk hb hl hp hi hqi hdone hf hB z22 e22
      have hS1 := fr B1 hB
      have n22 := inI rfl e22
      have hkl : k < dgX X (p / 8) := by omega
      refine ⟨vin2 n22 (by omega) (by omega), fun z23 e23 => ?_⟩
      rw [clI n22 (by omega), hS1.2.2.2.2.2.2.1.1 _ (by omega)] at e23
      refine ⟨fun z => ?_, fun _ => ⟨vin2 rfl (by omega) (by omega), fun z28 e28 => ?_⟩⟩
      · have := (leI e23 (y := nI (cq X (p / 8) + k)) rfl (by omega) (by omega)).mp z; omega
      obtain ⟨j1, j2, j3⟩ := jx_at (dg_k.mp hkl)
      rw [← hcqv] at j1 j2 j3
      rw [clI rfl (by omega), ← j3, hS1.2.2.2.2.2.2.1.2 _ j1] at e28
      refine ⟨vin2 e28 (by omega) (by omega), fun z29 e29 => ?_⟩
      rw [clI e28 (by omega), (hS1.2.2.2.2.2.2.2.2 _ j1).1] at e29
      have hs := (hS.1.2.2.2.2 _ j1).1
      obtain ⟨u1, u2, u3⟩ := nb_lt (d := d) (out := out) hS.1 h3 hkl
      have eu : nbX d X out (p / 8) k = 8 * gS X (jx X (cq X (p / 8) + k)) + bfx d X out (gS X (jx X (cq X (p / 8) + k))) (p / 8 % 8) := rfl
      have hbl := (bfx_lt (d := d) (X := X) (q := gS X (jx X (cq X (p / 8) + k))) (g := p / 8 % 8) h3).2
      have eu2 : nbX d X out (p / 8) k % 8 = bfx d X out (gS X (jx X (cq X (p / 8) + k))) (p / 8 % 8) := by omega
      refine r_bf hS1 e29 rfl hs (by omega) (r_stx hS1 e29 rfl hs hbl ?_)
      rw [← eu, ← eu2, e29, ← u2]
      refine ⟨2 ^ ntm out + 1, inner2 K72 _ i p lf _ _ (p / 8 / 8) (p / 8 % 8) (nbX d X out (p / 8) k) hpl rfl u1 ⟨k, hkl, rfl⟩ (2 ^ ntm out) 0 ds qu m B1 (by omega) hb hl hp hi hqi hf hB (fun b' hb' => by omega) (fun ds' qu' m' B' c1 c2 c3 c4 c5 c6 => ?_)⟩
      rw [show nI (cq X (p / 8) + k) + 1 = nI (cq X (p / 8) + (k + 1)) from inI rfl rfl]
      obtain ⟨f1, f2⟩ := c3.at hb.2.1 hi
      rw [f1, hqi] at f2
      refine ih (k + 1) ds' qu' m' B' (by omega) c1 c2 (hp.ex (by omega) hb.2.1 c3) (by have := c3.2.2; omega) (f1.trans hqi) (fun k' hk' b hb' hr => ?_) c4 c5
      by_cases e : k' = k
      · subst e; exact c6 b hb' hr
      · obtain ⟨g1, g2⟩ := hdone k' (by omega) b hb' hr
        rw [c3.1 _ g1, f2]; exact ⟨g1, g2⟩
  have outer : ∀ u i ds qu m B1, i + u = 64 * gN X → BQ (R9x d X out) src (64 * gN X) ds qu m → BL ds qu m i → BPx (R9x d X out) ds qu i → FQ X ds qu m B1 → (∀ k, k ≠ 51 → B1 k = B9 k) → i ≤ m → wl_LassoFinderModel_measure_72 (nI q) (nI t) Post (u + 1) (nI (2 ^ ntm out - 1)) (nI (qu (m - 1))) (nI u) (if i < m then nI (qu i) else -1) I9 J9 B1 D9 := by
    intro u
    induction u with
    | zero =>
      intro i ds qu m B1 hi hb hl hp hf hB him
      have hmN := BQ_m hb
      rw [if_neg (by omega)]
      exact ⟨fun _ => h ds B1 (B_end hb hp (by omega)) (hf.aw hb x1) hB, fun z => absurd (by decide) z⟩
    | succ u ih =>
      intro i ds qu m B1 hi hb hl hp hf hB him
      have hmN := BQ_m hb
      have hS1 := fr B1 hB
      by_cases g : i < m
      · rw [if_pos g]
        have hpl : qu i < 64 * gN X := (hb.1 _ (hb.2.1 i g)).1
        refine ⟨fun z => ?_, fun _ => ⟨fun z => ?_, fun _ z34 e34 z35 e35 z36 e36 z37 e37 => ?_⟩⟩
        · have := (ltI (x := nI (qu i)) rfl (y := 0) (b := 0) rfl (by omega) (by omega)).mp z; omega
        · have := (leI (x := nI (u + 1)) rfl (y := 0) (b := 0) rfl (by omega) (by omega)).mp z; omega
        have n34 := nI_dm rfl e34
        rw [sh6 (by omega)] at e35
        rw [sh3 (by omega)] at e36
        rw [e36, an7] at e37
        rw [show qu i / 64 = qu i / 8 / 8 by omega] at e35
        refine r_stx hS1 e35 e37 (by omega) (by omega) ⟨vin2 e35 (by omega) (by omega), fun z39 e39 => ?_⟩
        rw [clI e35 (by omega), hS1.2.2.2.2.2.2.1.1 _ (by omega)] at e39
        rw [n34, e35, e37, e39, show 8 * (qu i / 8 / 8) + qu i / 8 % 8 = qu i / 8 by omega]
        exact ⟨dgX X (qu i / 8) + 1, inner1 (wl_LassoFinderModel_measure_72 (nI q) (nI t) Post (u + 1)) i (qu i) (nI u) hpl (fun ds' qu' m' B' c1 c2 c3 c4 c5 c6 => ih (i + 1) ds' qu' m' B' (by omega) c1 c2 c3 c4 c5 c6) (dgX X (qu i / 8)) 0 ds qu m B1 (by omega) hb hl hp g rfl (fun k' hk' => by omega) hf hB⟩
      · rw [if_neg g]
        exact ⟨fun _ => h ds B1 (B_end hb hp (by omega)) (hf.aw hb x1) hB, fun z => absurd (by decide) z⟩
  have clr : ∀ u k B1, k + u = 64 * gN X → (∀ p, p < k → B1 51 p = -1) → (∀ k, k ≠ 51 → B1 k = B9 k) → wl_LassoFinderModel_measure_12 (nI q) (nI t) Post (u + 1) (nI q) (nI t) (nI (2 ^ ntm out - 1)) (nI k) I9 J9 B1 D9 := by
    intro u
    induction u with
    | zero =>
      intro k B1 hk hc hB z40 e40
      rw [i14, show (64 : Int32) = nI 64 from rfl, nI_mul] at e40
      refine ⟨fun _ z42 e42 z43 e43 z44 e44 z45 e45 => ?_, fun z => absurd ((leI e40 (y := nI k) rfl (by omega) (by omega)).mpr (by omega)) z⟩
      have n45 : z45 = nI (8 * (8 * q + t) + (2 ^ ntm out - 1)) := by
        rw [e45, e44, e42, e43, show (64 : Int32) = nI 64 from rfl, show (8 : Int32) = nI 8 from rfl, nI_mul, nI_mul, nI_add, nI_add]; congr 1; omega
      refine ⟨vin2 n45 (by omega) (by omega), fun z46 e46 => ?_⟩
      rw [i14, show (64 : Int32) = nI 64 from rfl, nI_mul] at e46
      rw [clI n45 (by omega), n45, e46]
      generalize hg0 : 8 * (8 * q + t) + (2 ^ ntm out - 1) = g0 at hsrc
      have hg0l : g0 < 64 * gN X := by omega
      have hcv : cv (upn (fun _ => 0) g0 (0 + 1)) (64 * gN X) = cv (fun _ => 0) (64 * gN X) + 1 := cv_up rfl _ hg0l
      have := outer (64 * gN X) 0 (upn (fun _ => 0) g0 1) (fun _ => g0) 1 (va_up B1 51 (upd (B1 51) g0 0)) (by omega) ⟨fun w hw => ?_, fun a ha => ?_, ?_, fun a b _ _ => Nat.le_refl _, fun w hw => ?_, fun a ha => ?_⟩ (fun _ b _ => by simp [upn]) (fun a ha => by omega) ⟨fun p hp hz => ?_, fun a ha => ?_, fun p => ?_⟩ (fun k hk => by simp [va_up, hk]; exact hB k hk) (by omega)
      · exact ⟨64 * gN X + 1, this⟩
      · have e : w = g0 := Classical.byContradiction (fun e => hw (by rw [upn_ne e]))
        subst e
        exact ⟨hg0l, ⟨0, by omega, rfl⟩, w, by rw [← hsrc], by rw [upn_at]; rfl⟩
      · show ¬ upn (fun _ => 0) g0 1 g0 = 0
        rw [upn_at]; omega
      · rw [Nat.zero_add] at hcv
        rw [hcv]; omega
      · rw [← hsrc] at hw
        rw [show w = g0 from hw, upn_at]
      · show upn (fun _ => 0) g0 1 g0 ≤ a + 1
        rw [upn_at]; omega
      · have e : ¬ p = g0 := fun e => by rw [e, upn_at] at hz; omega
        simp [va_up, upd, e]; exact hc p (by omega)
      · have : a = 0 := by omega
        subst this
        simp [va_up, upd, upn]; rfl
      · by_cases e : p = g0
        · subst e; rw [upn_at]; omega
        · rw [upn_ne e]; omega
    | succ u ih =>
      intro k B1 hk hc hB z40 e40
      rw [i14, show (64 : Int32) = nI 64 from rfl, nI_mul] at e40
      refine ⟨fun z => ?_, fun _ => ⟨vin2 rfl (by omega) (by omega), fun z47 e47 => ?_⟩⟩
      · have := (leI e40 (y := nI k) rfl (by omega) (by omega)).mp z; omega
      rw [inI rfl e47, clI rfl (by omega)]
      refine ih (k + 1) _ (by omega) (fun p hp => ?_) (fun k hk => by simp [va_up, hk]; exact hB k hk)
      by_cases e : p = k
      · subst e; simp [va_up, upd]
      · simp [va_up, upd, e]; exact hc p (by omega)
  intro z48 e48 z49 e49
  rw [tw hS] at e48
  have n49 : z49 = nI (2 ^ ntm out - 1) := deI (by rw [e48]; congr 1; omega) e49
  rw [n49]
  exact ⟨64 * gN X + 1, clr (64 * gN X) 0 B9 (by omega) (fun p hp => by omega) (fun _ _ => rfl)⟩
end ZR9
