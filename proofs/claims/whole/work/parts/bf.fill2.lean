/-! Formulas: the class fills all its rows of truths. -/
section ZP5
variable {I : Nat → Int32} {J : Nat → Int64} {B : Nat → Nat → Int32} {D : Nat → Nat → Int64}
def une (out : List zIt) : Nat := bN (fun t => decide (tk out t = 4) || decide (tk out t = 7)) (ntm out)
/-- the class keeps the truths -/
def TRU (d : zD) (X : zG) (m : Nat) (out : List zIt) (B : Nat → Nat → Int32) : Prop := ∀ q, q < m → ∀ g, g < 8 → B 47 (8 * q + g) = nI (bef (atv d (gK X q)) out g) ∧ B 48 (8 * q + g) = nI (stN (atv d (gK X q)) out g) ∧ B 49 (8 * q + g) = nI (b2n (sat (atv d (gK X q)) out g))
theorem KF9.cg {out : List zIt} {I' : Nat → Int32} {B' : Nat → Nat → Int32} (h : KF9 out I B) (hI : ∀ k, k ∈ [21, 22, 25] → I' k = I k) (hB : ∀ k, k ∈ [39, 40, 41, 42, 43] → B' k = B k) : KF9 out I' B' := by
  obtain ⟨k1, k2, k3, k4, k5⟩ := h
  refine ⟨by rw [hI 22 (by decide)]; exact k1, by rw [hI 21 (by decide)]; exact k2, by rw [hI 25 (by decide)]; exact k3, k4.cg (fun r hr j _ => by rw [hB r (by simp at hr ⊢; omega)]) (fun j _ => by rw [hB 43 (by decide)]), by rw [hB 42 (by decide)]; exact k5⟩
theorem q_fill {Post : (Nat → Int32) → (Nat → Int64) → (Nat → Nat → Int32) → (Nat → Nat → Int64) → Prop} {PX : String → (Nat → Int32) → (Nat → Int64) → (Nat → Nat → Int32) → (Nat → Nat → Int64) → Prop} {d : zD} {Q : zQ} {X : zG} {out : List zIt} (hN : NC d) (hW : QW d Q) (hX : XI d Q X) (hKX : KX d I B) (hG : CG d X I B D) (hO : FOK d.2.2.2.1 (qP Q) out) (hK : KF9 out I B)
    (h : ∀ I' B', TRU d X (gN X) out B' → I' 30 = nI (2 ^ ntm out) → I' 31 = nI (une out) → (∀ k, k ∉ [18, 30, 31] → I' k = I k) → (∀ k, k ∉ [29, 30, 31, 45, 46, 47, 48, 49] → B' k = B k) → Post I' J B' D) : wp_Truths_fill I J B D Post PX := by
  obtain ⟨o1, o2, o3, o4, o5, o6⟩ := id hO
  obtain ⟨k1, k2, k3, k4, k5⟩ := id hK
  obtain ⟨g19, g20, gk, gs⟩ := id hG
  have x1 := hX.1
  have fe : ∀ (I1 : Nat → Int32) (B1 : Nat → Nat → Int32), (∀ k, k ∉ [18, 30, 31] → I1 k = I k) → (∀ k, k ∉ [29, 30, 31, 45, 46, 47, 48, 49] → B1 k = B k) → KX d I1 B1 ∧ KF9 out I1 B1 := by
    intro I1 B1 hI hB
    refine ⟨⟨by rw [hI 7 (by decide)]; exact hKX.1, by rw [hI 8 (by decide)]; exact hKX.2.1, by rw [hB 4 (by decide)]; exact hKX.2.2.1, by rw [hB 5 (by decide)]; exact hKX.2.2.2⟩, hK.cg (fun k hk => hI k (by simp at hk ⊢; omega)) (fun k hk => hB k (by simp at hk ⊢; omega))⟩
  have l2 : ∀ (m q : Nat) (I1 : Nat → Int32) (B1 : Nat → Nat → Int32), q + m = gN X → TRU d X q out B1 → I1 30 = nI (2 ^ ntm out) → I1 31 = nI (une out) → (∀ k, k ∉ [18, 30, 31] → I1 k = I k) → (∀ k, k ∉ [29, 30, 31, 45, 46, 47, 48, 49] → B1 k = B k) → wl_Truths_fill_80 Post PX (m + 1) (nI q) I1 J B1 D := by
    intro m
    induction m with
    | zero =>
      intro q I1 B1 hq hT h30 h31 hI hB
      have e : q = gN X := by omega
      subst e
      have i19 : I1 19 = nI (gN X) := by rw [hI 19 (by decide)]; exact g19
      exact ⟨fun _ => h I1 B1 hT h30 h31 hI hB, fun z => absurd ((leI i19 (y := nI (gN X)) rfl (by omega) (by omega)).mpr (Nat.le_refl _)) z⟩
    | succ m ih =>
      intro q I1 B1 hq hT h30 h31 hI hB
      have i19 : I1 19 = nI (gN X) := by rw [hI 19 (by decide)]; exact g19
      refine ⟨fun z => ?_, fun _ => ⟨vin2 rfl (by omega) (by omega), fun z2 e2 => ?_⟩⟩
      · have := (leI i19 (y := nI q) rfl (by omega) (by omega)).mp z; omega
      have hC := hX.2.2.1 q (by omega)
      rw [clI rfl (by omega), gk q (by omega)] at e2
      rw [e2]
      refine q_unpack hN (fe I1 B1 hI hB).1 hC.1 hW.1 (fun I2 B2 s2 f2 => ?_)
      have hI2 : ∀ k, k ∉ [18, 30, 31] → I2 k = I k := fun k hk => (f2.1 k (by simp at hk; omega)).trans (hI k hk)
      have hB2 : ∀ k, k ∉ [29, 30, 31, 45, 46, 47, 48, 49] → B2 k = B k := fun k hk => (f2.2 k (by simp at hk ⊢; omega)).trans (hB k hk)
      refine q_fillBefore hN hW hC s2 hO (fe I2 B2 hI2 hB2).2 (by omega) (fun B3 a1 a2 a3 => ?_)
      have hB3 : ∀ k, k ∉ [29, 30, 31, 45, 46, 47, 48, 49] → B3 k = B k := fun k hk => (a3 k (by simp at hk ⊢; omega)).trans (hB2 k hk)
      have s3 : CS d (gK X q) I2 B3 := by unfold CS; rw [a3 29 (by decide), a3 30 (by decide), a3 31 (by decide)]; exact s2
      refine q_fillSettled hN hW hC s3 hO (fe I2 B3 hI2 hB3).2 (by omega) (fun B4 b1 b2 b3 z6 e6 => ?_)
      rw [inI rfl e6]
      refine ih (q + 1) I2 B4 (by omega) (fun q' hq' g hg => ?_) (by rw [f2.1 30 (by decide)]; exact h30) (by rw [f2.1 31 (by decide)]; exact h31) hI2 (fun k hk => (b3 k (by simp at hk ⊢; omega)).trans (hB3 k hk))
      by_cases e : q' = q
      · subst e
        rw [b3 47 (by decide)]
        exact ⟨a1 g hg, b1 g hg⟩
      · obtain ⟨t1, t2, t3⟩ := hT q' (by omega) g hg
        have no : ¬ (8 * q ≤ 8 * q' + g ∧ 8 * q' + g < 8 * q + 8) := by omega
        rw [b3 47 (by decide), a2 _ no, b2 48 (by decide) _ no, b2 49 (by decide) _ no, a3 48 (by decide), a3 49 (by decide), f2.2 47 (by decide), f2.2 48 (by decide), f2.2 49 (by decide)]
        exact ⟨t1, t2, t3⟩
  have l1 : ∀ (m t : Nat) (I1 : Nat → Int32), t + m = ntm out → I1 30 = nI (2 ^ ntm out) → I1 31 = nI (bN (fun t => decide (tk out t = 4) || decide (tk out t = 7)) t) → (∀ k, k ∉ [18, 30, 31] → I1 k = I k) → wl_Truths_fill_20 Post PX (m + 1) (nI t) I1 J B D := by
    intro m
    induction m with
    | zero =>
      intro t I1 ht h30 h31 hI
      have e : t = ntm out := by omega
      subst e
      have i21 : I1 21 = nI (ntm out) := by rw [hI 21 (by decide)]; exact k2
      exact ⟨fun _ => ⟨gN X + 1, l2 (gN X) 0 I1 B (by omega) (fun q hq => by omega) h30 h31 hI (fun _ _ => rfl)⟩, fun z => absurd ((leI i21 (y := nI (ntm out)) rfl (by omega) (by omega)).mpr (Nat.le_refl _)) z⟩
    | succ m ih =>
      intro t I1 ht h30 h31 hI
      have i21 : I1 21 = nI (ntm out) := by rw [hI 21 (by decide)]; exact k2
      refine ⟨fun z => ?_, fun _ => ⟨vin2 rfl (by omega) (by omega), fun z11 e11 => ?_⟩⟩
      · have := (leI i21 (y := nI t) rfl (by omega) (by omega)).mp z; omega
      obtain ⟨pre, x, l, ho, hx, hn, hr⟩ := tm_at out k5 t (by omega)
      have hll : l.length < out.length := by rw [ho]; simp; omega
      have etk : tk out t = x.1 := by
        have hnx : ntm (x :: l) = ntm l + 1 := by
          show ntm l + (if isT x.1 then 1 else 0) = _
          rw [if_pos hx]
        rw [ho, tk_suf pre (x :: l) t (by omega)]
        show (if isT x.1 ∧ ntm l = t then _ else _) = _
        rw [if_pos ⟨hx, hn⟩]
      have b39 : B 39 l.length = nI x.1 := (FO_app pre (x :: l) (by rw [← ho]; exact k4)).2.1
      rw [clI rfl (by omega), hr] at e11
      refine ⟨vin2 e11 (by omega) (by omega), fun z12 e12 => ?_⟩
      rw [clI e11 (by omega), b39] at e12
      have q4 : z12 = 4 ↔ x.1 = 4 := eqI e12 (y := 4) (b := 4) rfl (by omega) (by omega)
      have q7 : z12 = 7 ↔ x.1 = 7 := eqI e12 (y := 7) (b := 7) rfl (by omega) (by omega)
      have no : ¬ (x.1 = 4 ∨ x.1 = 7) → wc_Truths_fill_72 (wl_Truths_fill_20 Post PX (m + 1)) Post PX (nI t) I1 J B D := by
        intro g z7 e7
        rw [inI rfl e7]
        refine ih (t + 1) I1 (by omega) h30 ?_ hI
        rw [h31, bN_or, etk]
        have a : ¬ x.1 = 4 := fun e => g (Or.inl e)
        have b : ¬ x.1 = 7 := fun e => g (Or.inr e)
        simp [a, b, b2n]
      have yes : (x.1 = 4 ∨ x.1 = 7) → wc_Truths_fill_60 (wl_Truths_fill_20 Post PX (m + 1)) Post PX (nI t) I1 J B D := by
        intro g z8 e8 z9 e9 z7 e7
        have n8 : z8 = nI (1 * 2 ^ t) := by rw [e8]; exact nI_shl (a := 1) (by omega)
        rw [inI rfl e7]
        refine ih (t + 1) _ (by omega) (by simp [upd]; exact h30) ?_ (fun k hk => by rw [← hI k hk]; simp at hk; simp [upd, hk])
        simp only [upd, if_true]
        rw [e9, h31, n8, nI_or, bN_or, etk]
        have : (decide (x.1 = 4) || decide (x.1 = 7)) = true := by rcases g with w | w <;> simp [w]
        rw [this]; rfl
      exact ⟨fun g => yes (Or.inl (q4.mp g)), fun g => ⟨fun g2 => no (fun z => z.elim (fun e => g (q4.mpr e)) (fun e => g2 (q7.mpr e))), fun g2 => yes (Or.inr (q7.mp g2))⟩⟩
  intro z15 e15
  have n15 : z15 = nI (2 ^ ntm out) := by
    rw [e15, k2]
    have := nI_shl (a := 1) (k := ntm out) (by omega)
    rw [Nat.one_mul] at this
    exact this
  exact ⟨ntm out + 1, l1 (ntm out) 0 _ (by omega) (by simp [upd]; exact n15) (by simp [upd]; rfl) (fun k hk => by simp at hk; simp [upd, hk])⟩
end ZP5
