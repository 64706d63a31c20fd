/-! Formulas: the reference reads where a process stands. -/
section ZN9
variable {I9 : Nat → Int32} {J9 : Nat → Int64} {B9 : Nat → Nat → Int32} {D9 : Nat → Nat → Int64}
theorem one_np {c : Int32} {np : Nat} (h1 : 1 ≤ np) (h4 : np ≤ 4) : (∃ p, p < np ∧ one c 48 8 = nI p ∧ one c 48 (nI np) = nI p) ∨ ((∀ p, p < np → ¬ one c 48 8 = nI p) ∧ one c 48 (nI np) = -1) := by
  unfold one
  generalize c - 48 = y
  by_cases h0 : y < 0
  · rw [if_pos (Or.inl h0), if_pos (Or.inl h0)]
    exact Or.inr ⟨fun p hp e => nI_m1 (by omega) e.symm, rfl⟩
  · have h0' : 0 ≤ y := Int32.not_lt.mp h0
    have ey := nI_cl h0'
    have ti : y.toInt = (y.toNatClampNeg : Int) := by
      have := Int32.le_iff_toInt_le.mp h0'
      have e0 : (0 : Int32).toInt = 0 := rfl
      have e : y.toNatClampNeg = y.toInt.toNat := rfl
      omega
    have t31 := Int32.toInt_lt y
    have n8 : 8 ≤ y ↔ 8 ≤ y.toNatClampNeg := by
      rw [Int32.le_iff_toInt_le]
      have : (8 : Int32).toInt = 8 := rfl
      omega
    have nn : nI np ≤ y ↔ np ≤ y.toNatClampNeg := by
      rw [Int32.le_iff_toInt_le, nI_toInt (by omega)]; omega
    by_cases g8 : 8 ≤ y
    · rw [if_pos (Or.inr g8), if_pos (Or.inr (nn.mpr (by have := n8.mp g8; omega)))]
      exact Or.inr ⟨fun p hp e => nI_m1 (by omega) e.symm, rfl⟩
    · rw [if_neg (fun z => z.elim h0 g8)]
      by_cases gn : nI np ≤ y
      · rw [if_pos (Or.inr gn)]
        refine Or.inr ⟨fun p hp e => ?_, rfl⟩
        have := clI e (by omega)
        have := nn.mp gn
        omega
      · rw [if_neg (fun z => z.elim h0 gn)]
        refine Or.inl ⟨y.toNatClampNeg, ?_, ey.symm, ey.symm⟩
        have : ¬ np ≤ y.toNatClampNeg := fun e => gn (nn.mpr e)
        omega
theorem r_atom_s {Post : Int32 → (Nat → Int32) → (Nat → Int64) → (Nat → Nat → Int32) → (Nat → Nat → Int64) → Prop} {f : Nat → Int32} {n mc : Nat} {kd : Nat → Int32} {np : Nat} {LP : Nat → Int32} {a : Nat} {st : List Nat} {out : List zIt} {I0 : Nat → Int32} {B0 : Nat → Nat → Int32} (h1p : 1 ≤ np) (h4 : np ≤ 4) (hL : HLB np LP I0 J9 B0 D9) (hF0 : FF9 mc I0 B0 I9 B9) (h10 : I0 10 = nI np) (hP : PI f n kd (1, a, st, out)) (hR : RF9 f n mc (1, a, st, out) I9 B9) (g : tkn f n a = 64) (h8 : natm out < 8)
    (h : (∃ p l pt, one (tkn f n (a + 1)) 48 8 = nI p ∧ p < np ∧ one (tkn f n (a + 2)) 65 8 = nI l ∧ l < 8 ∧ LP (8 * p + l) = nI pt ∧ pt ≤ 30 ∧ ∀ I' B', RF9 f n mc (2, a + 3, st, (9, p, pt, []) :: out) I' B' → FF9 mc I9 B9 I' B' → Post 1 I' J9 B' D9) ∨ (∃ q, ((q = a + 1 ∧ ∀ p, p < np → ¬ one (tkn f n (a + 1)) 48 8 = nI p) ∨ (q = a + 2 ∧ ∃ p, p < np ∧ one (tkn f n (a + 1)) 48 8 = nI p ∧ (one (tkn f n (a + 2)) 65 8 = -1 ∨ LP (8 * p + (one (tkn f n (a + 2)) 65 8).toNatClampNeg) = -1))) ∧ ∀ I' B', FF9 mc I9 B9 I' B' → I' 3 = nI q → Post 0 I' J9 B' D9)) : wp_LassoFinderModel_atom I9 J9 B9 D9 Post := by
  obtain ⟨c1, c2, c3, c4, c5, c6, c7, c8, c9, c10⟩ := id hR
  obtain ⟨p1, p2, p3, p4, p5, p6, p7, p8, p9, p10, p11, p12⟩ := id hP
  dsimp only at c1 c2 c3 c4 c5 c6 c7 c8 c9 c10 p1 p2 p10
  have hn := c1.2.2.2.1
  have han := tkn_lt g (by decide)
  have q8 : I9 23 = 8 ↔ natm out = 8 := eqI c6 (y := 8) (b := 8) rfl (by omega) (by omega)
  refine ⟨fun _ => q_here c1.tx ?_, fun z => absurd (q8.mp z) (by omega)⟩
  rw [c1.tk]
  refine ⟨fun _ z17 e17 => ?_, fun z => absurd (g.symm.trans z) (by decide)⟩
  have n17 := inI c1.1 e17
  have i10 : I9 10 = nI np := by rw [hF0.1 10 (by decide)]; exact h10
  rw [n17, i10]
  have hT1 : TY (B9 0) f (upd I9 2 (nI (a + 1)) 2) (upd I9 2 (nI (a + 1)) 1) (a + 1) n := by
    have e1 : upd I9 2 (nI (a + 1)) 1 = I9 1 := by simp [upd]
    rw [e1]; exact c1.up (by simp [upd]) (by omega)
  have bad : ∀ (q : Nat) (I3 : Nat → Int32), ((q = a + 1 ∧ ∀ p, p < np → ¬ one (tkn f n (a + 1)) 48 8 = nI p) ∨ (q = a + 2 ∧ ∃ p, p < np ∧ one (tkn f n (a + 1)) 48 8 = nI p ∧ (one (tkn f n (a + 2)) 65 8 = -1 ∨ LP (8 * p + (one (tkn f n (a + 2)) 65 8).toNatClampNeg) = -1))) → (∀ k, k ∉ [2, 3] → I3 k = I9 k) → I3 2 = nI q → Post 0 (upd I3 3 (I3 2)) J9 B9 D9 := by
    intro q I3 hq i3 e2
    rcases h with ⟨p, l, pt, w1, w2, w3, w4, w5, w6, _⟩ | ⟨q', hq', hb⟩
    · exfalso
      rcases hq with ⟨_, hq⟩ | ⟨_, p', hp', ep', hq⟩
      · exact hq p w2 w1
      · have : p' = p := nI_inj (by omega) (by omega) (ep'.symm.trans w1)
        subst this
        rcases hq with hq | hq
        · rw [w3] at hq; exact nI_m1 (by omega) hq
        · rw [w3, clI rfl (by omega), w5] at hq; exact nI_m1 (by omega) hq
    · have : q' = q := by
        rcases hq with ⟨e, hq⟩ | ⟨e, p', hp', ep', hq⟩
        · rcases hq' with ⟨e', _⟩ | ⟨_, p2, hp2, ep2, _⟩
          · omega
          · exact absurd ep2 (hq p2 hp2)
        · rcases hq' with ⟨_, hq'⟩ | ⟨e', _⟩
          · exact absurd ep' (hq' p' hp')
          · omega
      subst this
      exact hb _ _ ⟨fun k hk => by rw [← i3 k (by simp at hk ⊢; omega)]; simp at hk; simp [upd, hk], fun _ _ => rfl, fun _ _ => rfl⟩ (by simp [upd]; exact e2)
  refine q_from (by rw [Int32.le_iff_toInt_le, nI_toInt (by omega)]; have : (1 : Int32).toInt = 1 := rfl; omega) hT1.tx ?_
  rw [hT1.tk]
  rcases one_np (c := tkn f n (a + 1)) h1p h4 with ⟨p, hp, ep, e⟩ | ⟨hnone, e⟩
  · rw [e]
    have ha2 : a + 1 < n := by
      refine Classical.byContradiction (fun hh => ?_)
      have : tkn f n (a + 1) = 0 := by unfold tkn; rw [if_neg hh]
      rw [this, one_0 48 (Or.inl rfl)] at ep
      exact nI_m1 (by omega) ep.symm
    refine ⟨fun _ z20 e20 => ?_, fun z => absurd (nI_pos' (by omega)) z⟩
    have e2' : upd I9 2 (nI (a + 1)) 2 = nI (a + 1) := by simp [upd]
    have n20 := inI e2' e20
    have hT2 : TY (B9 0) f (upd (upd I9 2 (nI (a + 1))) 2 z20 2) (upd (upd I9 2 (nI (a + 1))) 2 z20 1) (a + 2) n := by
      have e1 : upd (upd I9 2 (nI (a + 1))) 2 z20 1 = I9 1 := by simp [upd]
      rw [e1]; exact c1.up (by simp [upd]; exact n20) (by omega)
    have i3 : ∀ k, k ∉ [2, 3] → upd (upd I9 2 (nI (a + 1))) 2 z20 k = I9 k := fun k hk => by simp at hk; simp [upd, hk]
    generalize upd (upd I9 2 (nI (a + 1))) 2 z20 = I3 at hT2 i3 ⊢
    refine q_from (by decide) hT2.tx ?_
    rw [hT2.tk]
    by_cases gl : one (tkn f n (a + 2)) 65 8 = -1
    · rw [gl]
      exact ⟨fun _ => ⟨Or.inl rfl, bad (a + 2) I3 (Or.inr ⟨rfl, p, hp, ep, Or.inl gl⟩) i3 hT2.1⟩, fun z => absurd (by decide) z⟩
    · have el := nI_clamp_one gl
      have hl8 := (one_lt gl).1
      have bad2 : LP (8 * p + (one (tkn f n (a + 2)) 65 8).toNatClampNeg) = -1 → Post 0 (upd I3 3 (I3 2)) J9 B9 D9 := fun e => bad (a + 2) I3 (Or.inr ⟨rfl, p, hp, ep, Or.inr e⟩) i3 hT2.1
      generalize (one (tkn f n (a + 2)) 65 8).toNatClampNeg = l at el hl8 bad2
      rw [el]
      have ha3 : a + 2 < n := by
        refine Classical.byContradiction (fun hh => ?_)
        have : tkn f n (a + 2) = 0 := by unfold tkn; rw [if_neg hh]
        rw [this, one_0 65 (Or.inr (Or.inl rfl))] at gl
        exact gl rfl
      refine ⟨fun z => absurd ((ltI (x := nI l) rfl (y := 0) (b := 0) rfl (by omega) (by omega)).mp z) (by omega), fun _ z23 e23 z24 e24 => ?_⟩
      have n24 : z24 = nI (8 * p + l) := by rw [e24, e23, show (8 : Int32) = nI 8 from rfl, nI_mul, nI_add]
      refine ⟨vin2 n24 (by omega) (by omega), fun z25 e25 => ?_⟩
      rw [clI n24 (by omega)] at e25
      have row : ∀ k, k ∈ [5, 6, 7, 8, 9, 10, 11, 12, 16, 20, 22, 23] → va_up B9 44 (upd (B9 44) (natm out) (nI p)) k = B0 k := fun k hk => by
        have h1 : va_up B9 44 (upd (B9 44) (natm out) (nI p)) k = B9 k := by
          have : ¬ k = 44 := by simp at hk; omega
          simp [va_up, this]
        rw [h1]; exact hF0.2.1 k (by simp at hk ⊢; omega)
      have e22 : va_up B9 44 (upd (B9 44) (natm out) (nI p)) 22 = B9 22 := by simp [va_up]
      have hlb := hL p l hp hl8 I3 (va_up B9 44 (upd (B9 44) (natm out) (nI p))) (by rw [i3 8 (by decide)]; exact hF0.1 8 (by decide)) row
      rw [e22] at hlb
      rcases hlb with ⟨w1, w2⟩ | ⟨w1, pt, pt30, w2, w3⟩
      · rw [← e25] at w1
        exact ⟨fun z => absurd w1 (Int32.not_lt.mpr z), fun _ => ⟨Or.inl rfl, bad2 w2⟩⟩
      · rw [← e25] at w1
        refine ⟨fun _ => ?_, fun z => absurd (Int32.not_lt.mp w1) z⟩
        have i23 : I3 23 = nI (natm out) := by rw [i3 23 (by decide)]; exact c6
        refine ⟨vin2 i23 h8 (by omega), fun z27 e27 z28 e28 => ?_⟩
        have n28 : z28 = nI (8 * p + l) := by rw [e28, e27, show (8 : Int32) = nI 8 from rfl, nI_mul, nI_add]
        refine ⟨vin2 n28 (by omega) (by omega), fun z29 e29 => ?_⟩
        rw [clI n28 (by omega)] at e29
        rw [e29, clI i23 (by omega)]
        refine w3 _ ⟨vin2 i23 h8 (by omega), fun z32 e32 => ?_⟩
        have n32 := inI hT2.1 e32
        rcases h with ⟨p', l', pt', v1, v2, v3, v4, v5, v6, hok⟩ | ⟨q', hq', hb⟩
        · have ep' : p' = p := nI_inj (by omega) (by omega) (v1.symm.trans ep)
          subst ep'
          have el' : l' = l := nI_inj (by omega) (by omega) (v3.symm.trans el)
          subst el'
          have ept : pt' = pt := nI_inj (by omega) (by omega) (v5.symm.trans w2)
          subst ept
          have hlR : lnR ((9, p', pt', []) :: out) = lnR out := by
            show lnR out + (if (9 : Nat) = 8 then _ else 0) = lnR out
            rw [if_neg (by decide), Nat.add_zero]
          refine r_putA (f := f) (n := n) (mc := mc) (a := a + 3) (st := st) (out := out) (x := (9, p', pt', [])) (by dsimp only; omega) ?_ ?_ ?_ ?_ ?_ ?_ ?_ ?_ ?_ ⟨fun z => absurd z (by dsimp only; omega), fun _ => ⟨?_, ?_⟩⟩ ?_ (by omega) h8 (fun I5 B5 hR5 i5 f5 => hok I5 B5 hR5 ?_)
          · have e1 : upd I3 2 z32 1 = I9 1 := by simp [upd]; exact i3 1 (by decide)
            have e0 : va_up (va_up B9 44 (upd (B9 44) (natm out) (nI p'))) 45 (upd (va_up B9 44 (upd (B9 44) (natm out) (nI p')) 45) (natm out) (nI pt')) 0 = B9 0 := by simp [va_up]
            rw [e1, e0]; exact c1.up (by simp [upd]; exact n32) (by omega)
          · simp [upd]; rw [i3 13 (by decide)]; exact c2
          · simpa [va_up] using c3
          · simp [upd]; rw [i3 19 (by decide)]; exact c4
          · simp [upd]; rw [i3 20 (by decide)]; exact c5
          · simp [upd]; exact i23
          · simp [upd]; rw [i3 21 (by decide)]; exact c7
          · rw [hlR]; simp [upd]; rw [i3 11 (by decide)]; exact c8
          · refine c9.cg (fun j _ => by simp [va_up]) (fun r hr j hj => ?_) (fun j _ => by simp [va_up])
            have : ¬ j = natm out := by omega
            simp at hr; rcases hr with rfl | rfl | rfl | rfl <;> simp [va_up, upd, this]
          · simp [va_up, upd]
          · simp [va_up, upd]
          · simpa [va_up] using c10
          · exact ⟨fun k hk => by rw [i5 k (by simp at hk ⊢; omega), ← i3 k (by simp at hk ⊢; omega)]; simp at hk; simp [upd, hk], fun k hk => by rw [f5 k (by simp at hk; omega)]; simp at hk; simp [va_up, hk], fun k _ => by rw [f5 24 (by decide)]; simp [va_up]⟩
        · exfalso
          rcases hq' with ⟨_, hq'⟩ | ⟨_, p2, hp2, ep2, hq'⟩
          · exact hq' p hp ep
          · have : p2 = p := nI_inj (by omega) (by omega) (ep2.symm.trans ep)
            subst this
            rcases hq' with hq' | hq'
            · exact gl hq'
            · rw [el, clI rfl (by omega), w2] at hq'; exact nI_m1 (by omega) hq'
  · rw [e]
    exact ⟨fun z => absurd z (by decide), fun _ => ⟨Or.inl rfl, bad (a + 1) _ (Or.inl ⟨rfl, hnone⟩) (fun k hk => by simp at hk; simp [upd, hk]) (by simp [upd])⟩⟩
theorem r_atom_8 {Post : Int32 → (Nat → Int32) → (Nat → Int64) → (Nat → Nat → Int32) → (Nat → Nat → Int64) → Prop} {f : Nat → Int32} {n mc : Nat} {kd : Nat → Int32} {a : Nat} {st : List Nat} {out : List zIt} (hP : PI f n kd (1, a, st, out)) (hR : RF9 f n mc (1, a, st, out) I9 B9) (h8 : ¬ natm out < 8) (h : Post 0 (upd I9 3 (I9 2)) J9 B9 D9) : wp_LassoFinderModel_atom I9 J9 B9 D9 Post := by
  have c6 := hR.2.2.2.2.2.1
  have p5 := hP.2.2.2.2.1
  dsimp only at c6 p5
  have q8 : I9 23 = 8 ↔ natm out = 8 := eqI c6 (y := 8) (b := 8) rfl (by omega) (by omega)
  exact ⟨fun z => absurd (q8.mpr (by omega)) z, fun _ => ⟨Or.inl rfl, h⟩⟩
end ZN9
