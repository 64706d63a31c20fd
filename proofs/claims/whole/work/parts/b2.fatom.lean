/-! Formulas: the class reads an atom. -/
section ZN3
variable {I : Nat → Int32} {J : Nat → Int64} {B : Nat → Nat → Int32} {D : Nat → Nat → Int64}
def okLP (LP : Nat → Int32) : Prop := ∀ j, j < 32 → LP j = -1 ∨ ∃ pt, pt ≤ 30 ∧ LP j = nI pt
theorem one_0 (a : Int32) (h : a = 48 ∨ a = 65 ∨ a = 97) : one 0 a 8 = -1 := by rcases h with rfl | rfl | rfl <;> decide
theorem q_readAtom {Post : Int32 → (Nat → Int32) → (Nat → Int64) → (Nat → Nat → Int32) → (Nat → Nat → Int64) → Prop} {PX : String → (Nat → Int32) → (Nat → Int64) → (Nat → Nat → Int32) → (Nat → Nat → Int64) → Prop} {f : Nat → Int32} {n : Nat} {kd : Nat → Int32} {np : Nat} {LP : Nat → Int32} {I0 : Nat → Int32} {B0 : Nat → Nat → Int32} {a : Nat} {st : List Nat} {out : List zIt} (hnp : np ≤ 4) (hLP : okLP LP) (hP : PI f n kd (1, a, st, out)) (hC : CF f n kd np LP (1, a, st, out) I B) (hF : FF I0 B0 I B) (hu : uop (tkn f n a) = 9) (hK : KW f n kd np LP I0 B0 J D PX (1, a, st, out))
    (h : ∀ a' x I' B', fst9 f n kd np LP (1, a, st, out) (2, a', st, x :: out) → 8 ≤ x.1 → CF f n kd np LP (2, a', st, x :: out) I' B' → FF I B I' B' → Post (nI out.length) I' J B' D) : wp_Formula_readAtom I J B D Post PX := by
  obtain ⟨c1, c2, c3, c4, c5, c6, c7, c8, c9, c10, c11⟩ := id hC
  obtain ⟨p1, p2, p3, p4, p5, p6, p7, p8, p9, p10, p11, p12⟩ := id hP
  dsimp only at c1 c2 c3 c4 c5 c6 c7 c8 p1 p2 p5 p9
  have hn := c1.2.2.2.1
  have q24 : I 24 = 8 ↔ natm out = 8 := eqI c5 (y := 8) (b := 8) rfl (by omega) (by omega)
  -- the counter and the sign
  have I1 : ∀ z12 : Int32, z12 = I 24 + 1 → z12 = nI (natm out + 1) := fun z e => inI c5 e
  refine q_ahead c1.tx ?_
  rw [c1.tk]
  refine ⟨fun g => ⟨fun g8 => ?_, fun g8 => ⟨fun w => absurd rfl w, fun _ => q_ahead c1.tx ?_⟩⟩, fun g => ⟨fun g8 => ?_, fun g8 => ⟨fun _ => ?_, fun w => absurd w (by decide)⟩⟩⟩
  · -- too many
    have n8 := q24.mp g8
    refine hK.at (q := a) ?_ hF c1.1
    by_cases e : tkn f n a = 64
    · exact ⟨a, st, out, Or.inr (Or.inr (Or.inl ⟨rfl, e, Or.inl ⟨rfl, by omega⟩⟩))⟩
    · exact ⟨a, st, out, Or.inr (Or.inr (Or.inr (Or.inl ⟨rfl, hu, g, e, rfl⟩)))⟩
  · rw [c1.tk]
    have n8 : natm out < 8 := by
      have : ¬ natm out = 8 := fun e => g8 (q24.mpr e)
      omega
    refine ⟨fun e64 => ?_, fun e64 => hK.at (q := a) ⟨a, st, out, Or.inr (Or.inr (Or.inr (Or.inl ⟨rfl, hu, g, e64, rfl⟩)))⟩ hF c1.1⟩
    -- a process that stands
    have han := tkn_lt e64 (by decide)
    intro z12 e12
    have n12 := I1 z12 e12
    have h5 : upd I 24 z12 5 = nI a := by simp [upd]; exact c1.1
    refine q_skip h5 ⟨fun _ => ?_, fun w => absurd rfl w⟩
    have hT1 : TY (B 1) f (upd (upd I 24 z12) 5 (nI (a + 1)) 5) (upd (upd I 24 z12) 5 (nI (a + 1)) 4) (a + 1) n := by
      have e4 : upd (upd I 24 z12) 5 (nI (a + 1)) 4 = I 4 := by simp [upd]
      rw [e4]; exact c1.up (by simp [upd]) (by omega)
    have F1 : FF I B (upd (upd I 24 z12) 5 (nI (a + 1))) B := ⟨fun k hk => by simp at hk; simp [upd, hk], fun _ _ => rfl⟩
    have i10 : upd (upd I 24 z12) 5 (nI (a + 1)) 10 = nI np := by simp [upd]; exact c10
    have i22 : upd (upd I 24 z12) 5 (nI (a + 1)) 22 = nI out.length := by simp [upd]; exact c2
    have i24 : upd (upd I 24 z12) 5 (nI (a + 1)) 24 = nI (natm out + 1) := by simp [upd]; exact n12
    have io : ∀ k, k ∈ [21, 23, 25] → upd (upd I 24 z12) 5 (nI (a + 1)) k = I k := fun k hk => by
      simp at hk; rcases hk with rfl | rfl | rfl <;> simp [upd]
    generalize upd (upd I 24 z12) 5 (nI (a + 1)) = I2 at hT1 F1 i10 i22 i24 io ⊢
    refine q_oneOf (Or.inl rfl) hT1.tx ?_
    rw [hT1.tk]
    have bad1 : (∀ p, p < np → ¬ one (tkn f n (a + 1)) 48 8 = nI p) → PX IAE (upd I2 6 (I2 5)) J B D := fun hb => hK.at (q := a + 1) ⟨a, st, out, Or.inr (Or.inr (Or.inl ⟨rfl, e64, Or.inr ⟨n8, Or.inl ⟨rfl, hb⟩⟩⟩))⟩ (hF.tr F1) hT1.1
    refine ⟨fun w => bad1 (fun p hp e => by rw [w] at e; exact nI_m1 (by omega) e.symm), fun w => ?_⟩
    have ep := nI_clamp_one w
    have hp8 := (one_lt w).1
    generalize (one (tkn f n (a + 1)) 48 8).toNatClampNeg = p at ep hp8
    rw [ep]
    have ha2 : a + 1 < n := by
      refine Classical.byContradiction (fun hh => ?_)
      have : tkn f n (a + 1) = 0 := by unfold tkn; rw [if_neg hh]
      rw [this, one_0 48 (Or.inl rfl)] at w
      exact w rfl
    have lt : nI p < I2 10 ↔ p < np := ltI rfl i10 (by omega) (by omega)
    refine ⟨fun g1 => ?_, fun g1 => bad1 (fun p' hp' e => ?_)⟩
    · have hp := lt.mp g1
      refine q_skip hT1.1 ?_
      have hT2 : TY (B 1) f (upd I2 5 (nI (a + 1 + 1)) 5) (upd I2 5 (nI (a + 1 + 1)) 4) (a + 2) n := by
        have e4 : upd I2 5 (nI (a + 1 + 1)) 4 = I2 4 := by simp [upd]
        rw [e4]; exact hT1.up (by simp [upd]) (by omega)
      have F2 : FF I B (upd I2 5 (nI (a + 1 + 1))) B := F1.tr ⟨fun k hk => by simp at hk; simp [upd, hk], fun _ _ => rfl⟩
      have j10 : upd I2 5 (nI (a + 1 + 1)) 10 = nI np := by simp [upd]; exact i10
      have j22 : upd I2 5 (nI (a + 1 + 1)) 22 = nI out.length := by simp [upd]; exact i22
      have j24 : upd I2 5 (nI (a + 1 + 1)) 24 = nI (natm out + 1) := by simp [upd]; exact i24
      have jo' : ∀ k, k ∈ [21, 23, 25] → upd I2 5 (nI (a + 1 + 1)) k = I k := fun k hk => by
        rw [← io k hk]; simp at hk; rcases hk with rfl | rfl | rfl <;> simp [upd]
      generalize upd I2 5 (nI (a + 1 + 1)) = I3 at hT2 F2 j10 j22 j24 jo' ⊢
      refine q_oneOf (Or.inr (Or.inl rfl)) hT2.tx ?_
      rw [hT2.tk]
      have bad2 : (one (tkn f n (a + 2)) 65 8 = -1 ∨ LP (8 * p + (one (tkn f n (a + 2)) 65 8).toNatClampNeg) = -1) → PX IAE (upd I3 6 (I3 5)) J B D := fun hb => hK.at (q := a + 2) ⟨a, st, out, Or.inr (Or.inr (Or.inl ⟨rfl, e64, Or.inr ⟨n8, Or.inr ⟨rfl, p, hp, ep, hb⟩⟩⟩))⟩ (hF.tr F2) hT2.1
      refine ⟨fun w2 z8 e8 z9 e9 => ?_, fun w2 => ⟨fun q => absurd rfl q, fun _ => bad2 (Or.inl w2)⟩⟩
      have el := nI_clamp_one w2
      have hl8 := (one_lt w2).1
      have n9 : z9 = nI (8 * p + (one (tkn f n (a + 2)) 65 8).toNatClampNeg) := by
        have e8' : z8 = nI (8 * p) := by rw [e8, show nI p * (8 : Int32) = nI p * nI 8 from rfl, nI_mul, Nat.mul_comm]
        rw [e9, e8']; exact (congrArg (fun x => nI (8 * p) + x) el).trans (nI_add _ _)
      refine ⟨vin2 n9 (by omega) (by omega), fun z10 e10 => ?_⟩
      rw [clI n9 (by omega), c11 _ (by omega)] at e10
      have ha3 : a + 2 < n := by
        refine Classical.byContradiction (fun hh => ?_)
        have : tkn f n (a + 2) = 0 := by unfold tkn; rw [if_neg hh]
        rw [this, one_0 65 (Or.inr (Or.inl rfl))] at w2
        exact w2 rfl
      refine ⟨fun g2 => ?_, fun g2 => bad2 (Or.inr (e10.symm.trans g2))⟩
      obtain ⟨pt, pt30, ept⟩ : ∃ pt, pt ≤ 30 ∧ LP (8 * p + (one (tkn f n (a + 2)) 65 8).toNatClampNeg) = nI pt := by
        rcases hLP (8 * p + (one (tkn f n (a + 2)) 65 8).toNatClampNeg) (by omega) with e | e
        · rw [e10] at g2; exact absurd e g2
        · exact e
      refine q_skip hT2.1 (q_fadd (s := out.length) (by simp [upd]; exact j22) (by omega) ?_)
      have hst : fst9 f n kd np LP (1, a, st, out) (2, a + 3, st, (9, p, pt, []) :: out) := ⟨a, st, out, Or.inr (Or.inr (Or.inl ⟨rfl, e64, n8, p, _, pt, ep, hp, el, hl8, ept, pt30, rfl⟩))⟩
      refine h (a + 3) (9, p, pt, []) _ _ hst (by dsimp only; omega) ⟨?_, ?_, ?_, ?_, ?_, ?_, ⟨c7.cg (fun r _ j hj => rows3 r j hj) (fun j _ => by simp [va_up]), by simp [va_up, upd]; rfl, fun z => absurd z (by dsimp only; omega), fun _ => ⟨by simp [va_up, upd], by simp [va_up, upd, e10, ept]⟩, fun z => absurd z (by dsimp only; omega), fun z => absurd z (by dsimp only; omega)⟩, ?_, ?_, ?_, ?_⟩ (F2.tr ⟨fun k hk => by simp at hk; simp [upd, hk], fun k hk => by simp at hk; simp [va_up, hk]⟩)
      all_goals try dsimp only
      · have e4 : upd (upd I3 5 (nI (a + 2 + 1))) 22 (nI (out.length + 1)) 4 = I3 4 := by simp [upd]
        have e5 : upd (upd I3 5 (nI (a + 2 + 1))) 22 (nI (out.length + 1)) 5 = nI (a + 3) := by simp [upd]
        have e1 : va_up (va_up (va_up B 39 (upd (B 39) out.length 9)) 40 (upd (B 40) out.length (nI p))) 41 (upd (B 41) out.length z10) 1 = B 1 := by simp [va_up]
        rw [e4, e5, e1]; exact hT2.up rfl (by omega)
      · simp [upd]
      · have : ntm ((9, p, pt, []) :: out) = ntm out := by
          show ntm out + (if isT 9 then 1 else 0) = ntm out
          rw [if_neg (by decide), Nat.add_zero]
        rw [this]; simp [upd]; rw [jo' 21 (by decide)]; exact c3
      · rw [metp_a (by dsimp only; omega)]; simp [upd]; rw [jo' 23 (by decide)]; exact c4
      · rw [natm_a (by dsimp only; omega)]; simp [upd]; exact j24
      · have : lnC ((9, p, pt, []) :: out) = lnC out := by
          show lnC out + (if (9 : Nat) = 8 then _ else 0) = lnC out
          rw [if_neg (by decide), Nat.add_zero]
        rw [this]; simp [upd]; rw [jo' 25 (by decide)]; exact c6
      · have : tms ((9, p, pt, []) :: out) = tms out := by
          show (if isT 9 then out.length :: tms out else tms out) = tms out
          rw [if_neg (by decide)]
        rw [this]; simpa [va_up] using c8
      · simpa [va_up] using c9
      · simp [upd]; exact j10
      · simpa [va_up] using c11
    · have : p = p' := nI_inj (by omega) (by omega) (ep.symm.trans e)
      exact g1 (lt.mpr (by omega))
  · have n8 := q24.mp g8
    exact hK.at (q := a) ⟨a, st, out, Or.inr (Or.inl ⟨rfl, g, Or.inl ⟨rfl, by omega⟩⟩)⟩ hF c1.1
  · -- an expression
    have n8 : natm out < 8 := by
      have : ¬ natm out = 8 := fun e => g8 (q24.mpr e)
      omega
    have han := tkn_lt g (by decide)
    intro z12 e12
    have n12 := I1 z12 e12
    have h5 : upd I 24 z12 5 = nI a := by simp [upd]; exact c1.1
    refine q_skip h5 ⟨fun w => absurd w (by decide), fun _ => ?_⟩
    have hT1 : TY (B 1) f (upd (upd I 24 z12) 5 (nI (a + 1)) 5) (upd (upd I 24 z12) 5 (nI (a + 1)) 4) (a + 1) n := by
      have e4 : upd (upd I 24 z12) 5 (nI (a + 1)) 4 = I 4 := by simp [upd]
      rw [e4]; exact c1.up (by simp [upd]) (by omega)
    have F1 : FF I B (upd (upd I 24 z12) 5 (nI (a + 1))) B := ⟨fun k hk => by simp at hk; simp [upd, hk], fun _ _ => rfl⟩
    have i24 : upd (upd I 24 z12) 5 (nI (a + 1)) 24 = nI (natm out + 1) := by simp [upd]; exact n12
    have io : ∀ k, k ∈ [10, 21, 22, 23, 25] → upd (upd I 24 z12) 5 (nI (a + 1)) k = I k := fun k hk => by
      simp at hk; rcases hk with rfl | rfl | rfl | rfl | rfl <;> simp [upd]
    generalize upd (upd I 24 z12) 5 (nI (a + 1)) = I2 at hT1 F1 i24 io ⊢
    refine q_read_B (f := f) (n := n) (b := lnC out) (ob := 0) (a := a + 1) (kd := kd) (by omega) (by omega) hT1 (by rw [io 25 (by decide)]; exact c6) c9 (fun I3 B3 a1 codes hE f3 hT3 l3 r3 => ?_) (fun I3 B3 a1 hE f3 h53 => ?_)
    · have F3 : FF I B I3 B3 := F1.tr ⟨fun k hk => f3.1 k (by simp at hk ⊢; omega), fun k hk => f3.2.1 k (by simp at hk ⊢; omega)⟩
      obtain ⟨f1, f2, f3', f4, f5, f6, f7⟩ := EXP.facts (by omega) (by omega) hE
      refine q_expect hT3 (fun g1 => ?_) (fun g1 => hK.at (q := a1) ⟨a, st, out, Or.inr (Or.inl ⟨rfl, g, Or.inr ⟨n8, Or.inr ⟨codes, hE, g1⟩⟩⟩)⟩ (hF.tr F3) hT3.1)
      have ha1 := tkn_lt g1 (by decide)
      have i22 : I3 22 = nI out.length := by rw [f3.1 22 (by decide), io 22 (by decide)]; exact c2
      refine q_fadd (s := out.length) (by simp [upd]; exact i22) (by omega) ?_
      have hst : fst9 f n kd np LP (1, a, st, out) (2, a1 + 1, st, (8, 0, 0, codes) :: out) := ⟨a, st, out, Or.inr (Or.inl ⟨rfl, g, n8, a1, codes, hE, g1, rfl⟩)⟩
      have c7' : FO B3 out := c7.cg (fun r hr j _ => by rw [f3.2.1 r (by simp at hr ⊢; omega)]) (fun j hj => f3.2.2 j hj)
      refine h (a1 + 1) (8, 0, 0, codes) _ _ hst (by dsimp only; omega) ⟨?_, ?_, ?_, ?_, ?_, ?_, ⟨c7'.cg (fun r _ j hj => rows3 r j hj) (fun j _ => by simp [va_up]), by simp [va_up, upd]; rfl, fun _ => ⟨by simp [va_up, upd], by simpa [va_up] using r3⟩, fun z => absurd z (by dsimp only; omega), fun z => absurd z (by dsimp only; omega), fun z => absurd z (by dsimp only; omega)⟩, ?_, ?_, ?_, ?_⟩ (F3.tr ⟨fun k hk => by simp at hk; simp [upd, hk], fun k hk => by simp at hk; simp [va_up, hk]⟩)
      all_goals try dsimp only
      · have e4 : upd (upd I3 5 (nI (a1 + 1))) 22 (nI (out.length + 1)) 4 = I3 4 := by simp [upd]
        have e5 : upd (upd I3 5 (nI (a1 + 1))) 22 (nI (out.length + 1)) 5 = nI (a1 + 1) := by simp [upd]
        have e1 : va_up (va_up (va_up B3 39 (upd (B3 39) out.length 8)) 40 (upd (B3 40) out.length (nI (lnC out)))) 41 (upd (B3 41) out.length (-1)) 1 = B3 1 := by simp [va_up]
        rw [e4, e5, e1]; exact hT3.up rfl (by omega)
      · simp [upd]
      · have : ntm ((8, 0, 0, codes) :: out) = ntm out := by
          show ntm out + (if isT 8 then 1 else 0) = ntm out
          rw [if_neg (by decide), Nat.add_zero]
        rw [this]; simp [upd]; rw [f3.1 21 (by decide), io 21 (by decide)]; exact c3
      · rw [metp_a (by dsimp only; omega)]; simp [upd]; rw [f3.1 23 (by decide), io 23 (by decide)]; exact c4
      · rw [natm_a (by dsimp only; omega)]; simp [upd]; rw [f3.1 24 (by decide)]; exact i24
      · have : lnC ((8, 0, 0, codes) :: out) = lnC out + codes.length + 1 := by
          show lnC out + (if (8 : Nat) = 8 then codes.length + 1 else 0) = _
          rw [if_pos rfl]; omega
        rw [this]; simp [upd]; exact l3
      · have : tms ((8, 0, 0, codes) :: out) = tms out := by
          show (if isT 8 then out.length :: tms out else tms out) = tms out
          rw [if_neg (by decide)]
        rw [this]; simp [va_up]; rw [f3.2.1 42 (by decide)]; exact c8
      · intro j hj; simp [va_up]; rw [f3.2.1 2 (by decide)]; exact c9 j hj
      · simp [upd]; rw [f3.1 10 (by decide), io 10 (by decide)]; exact c10
      · intro j hj; simp [va_up]; rw [f3.2.1 14 (by decide)]; exact c11 j hj
    · have F3 : FF I B I3 B3 := F1.tr ⟨fun k hk => f3.1 k (by simp at hk ⊢; omega), fun k hk => f3.2.1 k (by simp at hk ⊢; omega)⟩
      exact hK.at (q := a1) ⟨a, st, out, Or.inr (Or.inl ⟨rfl, g, Or.inr ⟨n8, Or.inl hE⟩⟩)⟩ (hF.tr F3) h53
end ZN3
