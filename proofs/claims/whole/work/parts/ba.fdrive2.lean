/-! Formulas: the reference follows the steps. -/
section ZO2
variable {J9 : Nat → Int64} {D9 : Nat → Nat → Int64} {I0 : Nat → Int32} {B0 : Nat → Nat → Int32} {Post : Int32 → (Nat → Int32) → (Nat → Int64) → (Nat → Nat → Int32) → (Nat → Nat → Int64) → Prop} {f : Nat → Int32} {n mc : Nat} {kd : Nat → Int32} {np : Nat} {LP : Nat → Int32}
theorem npar_n {k : Nat} (h : ¬ k = 8) (st : List Nat) : npar (k :: st) = npar st := by
  show npar st + (if k = 8 then 1 else 0) = npar st
  rw [if_neg h, Nat.add_zero]
theorem npar_8 (st : List Nat) : npar (8 :: st) = npar st + 1 := rfl
/-- the loop's head, where a unit is wanted -/
theorem hd1 {I9 : Nat → Int32} {B9 : Nat → Nat → Int32} {a m op : Nat} (hT : TY (B9 0) f (I9 2) (I9 1) a n) (h : wc_LassoFinderModel_wholeFormula_116 (wl_LassoFinderModel_wholeFormula_47 Post m) Post (nI op) 1 (tkn f n a) (if uop (tkn f n a) = 9 then -1 else nI (rc (uop (tkn f n a)))) I9 J9 B9 D9) : wl_LassoFinderModel_wholeFormula_47 Post (m + 1) (nI op) 1 I9 J9 B9 D9 := by
  refine ⟨fun _ => q_here hT.tx ?_, fun z => absurd z (by decide)⟩
  rw [hT.tk]
  refine ⟨fun z => absurd z (by decide), fun _ => ⟨fun g33 => ⟨fun g71 => ⟨fun g70 => ⟨fun g40 => ?_, fun g40 => ?_⟩, fun g70 => ?_⟩, fun g71 => ?_⟩, fun g33 => ?_⟩⟩
  · have : uop (tkn f n a) = 9 := by unfold uop; simp [g33, g71, g70, g40]
    rw [if_pos this] at h; exact h
  · rw [g40] at h ⊢; exact h
  · rw [g70] at h ⊢; exact h
  · rw [g71] at h ⊢; exact h
  · rw [g33] at h ⊢; exact h
/-- a sign before one side, or a bracket -/
theorem w1_op {a : Nat} {st : List Nat} {out : List zIt} (hP : PI f n kd (1, a, st, out)) (hu : ¬ uop (tkn f n a) = 9) (h : (dpt st < 8 ∧ (isT (uop (tkn f n a)) → metp st out < 3) ∧ W1 J9 D9 I0 B0 Post f n mc (1, a + 1, uop (tkn f n a) :: st, out)) ∨ ((¬ dpt st < 8 ∨ (isT (uop (tkn f n a)) ∧ ¬ metp st out < 3)) ∧ ∀ I9 B9, FF9 mc I0 B0 I9 B9 → I9 2 = nI a → Post 0 (upd I9 3 (I9 2)) J9 B9 D9)) : W1 J9 D9 I0 B0 Post f n mc (1, a, st, out) := by
  obtain ⟨u1, u2⟩ := uop_c hu
  have han := tkn_lt rfl u1
  have hk8 : uop (tkn f n a) ≤ 8 := by omega
  have nk : ¬ uop (tkn f n a) = 1 ∧ ¬ uop (tkn f n a) = 2 := by omega
  have p2 := hP.2.1
  have p1 := hP.1
  dsimp only at p1 p2
  have np_le := npar_le st
  have r := rc_9 hk8
  have hex : ∃ m, ((dpt st < 8 ∧ (isT (uop (tkn f n a)) → metp st out < 3)) → ∀ I9 B9, RF9 f n mc (1, a + 1, uop (tkn f n a) :: st, out) I9 B9 → FF9 mc I0 B0 I9 B9 → wl_LassoFinderModel_wholeFormula_47 Post m (nI (npar (uop (tkn f n a) :: st))) 1 I9 J9 B9 D9) ∧ ((¬ dpt st < 8 ∨ (isT (uop (tkn f n a)) ∧ ¬ metp st out < 3)) → ∀ I9 B9, FF9 mc I0 B0 I9 B9 → I9 2 = nI a → Post 0 (upd I9 3 (I9 2)) J9 B9 D9) := by
    rcases h with ⟨h1, h2, m, hm⟩ | ⟨h1, h2⟩
    · exact ⟨m, fun _ => hm, fun z => by rcases z with z | z
                                         · exact absurd h1 z
                                         · exact absurd (h2 z.1) z.2⟩
    · exact ⟨0, fun z => by rcases h1 with w | w
                            · exact absurd z.1 w
                            · exact absurd (z.2 w.1) w.2, fun _ => h2⟩
  obtain ⟨m, hm1, hm0⟩ := hex
  refine ⟨m + 1, fun I9 B9 hR hF => ?_⟩
  have c1 := hR.1
  dsimp only at c1
  have hn := c1.2.2.2.1
  refine hd1 c1 ?_
  rw [if_neg hu]
  refine ⟨fun z => absurd ((ltI (x := nI (rc (uop (tkn f n a)))) rfl (y := 0) (b := 0) rfl (by omega) (by omega)).mp z) (by omega), fun _ => ?_⟩
  refine r_push hP hR hk8 han (fun hb => ⟨fun z => absurd rfl z, fun _ => hm0 (by omega) I9 B9 hF c1.1⟩) (fun hb I' B' hR' hF' => ⟨fun _ => ?_, fun z => absurd z (by decide)⟩)
  have q16 : nI (rc (uop (tkn f n a))) = 16 ↔ rc (uop (tkn f n a)) = 16 := rc_q hk8 rfl (by omega)
  have go := hm1 (by omega) I' B' hR' (hF.tr hF')
  refine ⟨fun g z13 e13 => ?_, fun g z13 e13 => ?_⟩
  · have n16 : ¬ rc (uop (tkn f n a)) = 16 := fun e => g (q16.mpr e)
    rw [npar_n (by omega)] at go
    have : z13 = nI (npar st) := by rw [e13]; grind
    rw [this]; exact go
  · have e16 := q16.mp g
    have e8 : uop (tkn f n a) = 8 := by omega
    rw [e8, npar_8] at go
    have : z13 = nI (npar st + 1) := inI rfl e13
    rw [this]; exact go
theorem w1_at {a : Nat} {st : List Nat} {out : List zIt} (hP : PI f n kd (1, a, st, out)) (hu : tkn f n a = 123 ∨ tkn f n a = 64) {m m2 : Nat} (h : ∀ I9 B9, RF9 f n mc (1, a, st, out) I9 B9 → FF9 mc I0 B0 I9 B9 → ∀ (P : Int32 → (Nat → Int32) → (Nat → Int64) → (Nat → Nat → Int32) → (Nat → Nat → Int64) → Prop), (∀ I' B', wl_LassoFinderModel_putAll_0 5 (fun I J B D => wl_LassoFinderModel_wholeFormula_47 Post m (nI (npar st)) 0 I J B D) m2 5 I' J9 B' D9 → P 1 I' J9 B' D9) → (∀ I' B', Post 0 I' J9 B' D9 → P 0 I' J9 B' D9) → wp_LassoFinderModel_atom I9 J9 B9 D9 P) : W1 J9 D9 I0 B0 Post f n mc (1, a, st, out) := by
  refine ⟨m + 1, fun I9 B9 hR hF => ?_⟩
  have c1 := hR.1
  dsimp only at c1
  refine hd1 c1 ?_
  have e9 : uop (tkn f n a) = 9 := by rcases hu with w | w <;> rw [w] <;> rfl
  rw [if_pos e9]
  have go : wc_LassoFinderModel_wholeFormula_169 (wl_LassoFinderModel_wholeFormula_47 Post m) Post (nI (npar st)) I9 J9 B9 D9 := h I9 B9 hR hF _ (fun I' B' hw => ⟨fun _ => ⟨m2, hw⟩, fun z => absurd z (by decide)⟩) (fun I' B' hw => ⟨fun z => absurd rfl z, fun _ => hw⟩)
  refine ⟨fun _ => ⟨fun _ => go, fun g => ⟨fun _ => go, fun g2 => absurd ?_ g2⟩⟩, fun z => absurd (by decide) z⟩
  exact hu.resolve_left g
/-- one step -/
theorem GW_step (h1p : 1 ≤ np) (h4 : np ≤ 4) (hmc : mc ≤ 240) (hL : HLB np LP I0 J9 B0 D9) (h10 : I0 10 = nI np) (hkn : kn9 B0 kd) {u v : zPs} (hP : PI f n kd u) (h : fst9 f n kd np LP u v) (hv : GW J9 D9 I0 B0 Post f n mc v) : GW J9 D9 I0 B0 Post f n mc u := by
  have hPv := PI_step hP h
  have kn : ∀ B9, (∀ k, k ∉ [24, 28, 41, 42, 43, 44, 45, 46, 47] → B9 k = B0 k) → kn9 B9 kd := fun B9 hB j hj => by
    rw [hB 1 (by decide), hB 2 (by decide)]; exact hkn j hj
  obtain ⟨a, st, out, h⟩ := h
  obtain ⟨v1, v2, v0⟩ := hv
  rcases h with ⟨rfl, g1, g2, g3, rfl⟩ | ⟨rfl, g1, g2, a1, codes, g3, g4, rfl⟩ | ⟨rfl, g1, g2, p, l, pt, g3, g4, g5, g6, g7, g8, rfl⟩ | ⟨k, st', rfl, rfl, g1, rfl⟩ | ⟨rfl, g1, rfl⟩ | ⟨k, st', rfl, rfl, g1, g2, rfl⟩ | ⟨rfl, g1, g2, g3, g4, rfl⟩ | ⟨st', rfl, rfl, g1, rfl⟩
  · exact ⟨fun _ => w1_op hP g1 (Or.inl ⟨g2, g3, v1 rfl⟩), fun z => absurd z (by dsimp only; omega), fun z => absurd z (by dsimp only; omega)⟩
  · obtain ⟨m, m2, hm⟩ := v2 rfl
    exact ⟨fun _ => w1_at hP (Or.inl g1) (m := m) (m2 := m2) (fun I9 B9 hR hF P k1 k0 => r_atom_e hP hR hmc (kn B9 hF.2.1) g1 g2 (Or.inl ⟨a1, codes, g3, g4, fun I' B' hR' hF' => k1 I' B' (hm I' B' hR' (hF.tr hF'))⟩)), fun z => absurd z (by dsimp only; omega), fun z => absurd z (by dsimp only; omega)⟩
  · obtain ⟨m, m2, hm⟩ := v2 rfl
    exact ⟨fun _ => w1_at hP (Or.inr g1) (m := m) (m2 := m2) (fun I9 B9 hR hF P k1 k0 => r_atom_s h1p h4 hL hF h10 hP hR g1 g2 (Or.inl ⟨p, l, pt, g3, g4, g5, g6, g7, g8, fun I' B' hR' hF' => k1 I' B' (hm I' B' hR' (hF.tr hF'))⟩)), fun z => absurd z (by dsimp only; omega), fun z => absurd z (by dsimp only; omega)⟩
  · obtain ⟨m, m2, hm⟩ := v2 rfl
    refine ⟨fun z => absurd z (by dsimp only; omega), fun _ => ⟨m, m2 + 1, fun I9 B9 hR hF => ?_⟩, fun z => absurd z (by dsimp only; omega)⟩
    have p2 := hP.2.1
    have p1 := hP.1
    have hn := hR.1.2.2.2.1
    dsimp only at p1 p2 hm ⊢
    simp only [List.length_cons] at p2
    rw [npar_n (by omega)]
    exact r_putAll_p (t := 5) (ph' := 2) hR (by omega) (by omega) (by omega) hP.2.2.2.2.2.1 (by rcases g1 with rfl | rfl | rfl <;> decide) (by omega) (fun I' B' hR' hF' => hm I' B' hR' (hF.tr hF'))
  · obtain ⟨m, hm⟩ := hd0 hPv (v0 rfl)
    refine ⟨fun z => absurd z (by dsimp only; omega), fun _ => ⟨m, 1, fun I9 B9 hR hF => ?_⟩, fun z => absurd z (by dsimp only; omega)⟩
    have p2 := hP.2.1
    have p1 := hP.1
    have hn := hR.1.2.2.2.1
    have p7 := hP.2.2.2.2.2.2.1
    dsimp only at p1 p2 p7
    refine r_putAll_n (t := 5) hR p7 (by omega) (by omega) ?_ (hm I9 B9 hR hF)
    cases st with
    | nil => trivial
    | cons k st =>
      have hk8 := p7 k (List.mem_cons_self ..)
      have gu : ¬ isU k := g1
      show bnd k < 5
      have : k = 1 ∨ k = 2 ∨ k = 3 ∨ k = 6 ∨ k = 7 ∨ k = 8 := by omega
      rcases this with rfl | rfl | rfl | rfl | rfl | rfl <;> decide
  · -- a sign between two sides is put
    obtain ⟨hb, hc, he, hj⟩ := v0 rfl
    dsimp only at hb hc he hj
    have p2 := hP.2.1
    have p1 := hP.1
    have p6 := hP.2.2.2.2.2.1
    have p7 := hP.2.2.2.2.2.2.1
    dsimp only at p1 p2 p6 p7
    simp only [List.length_cons] at p2
    have hk8 := p7 k (List.mem_cons_self ..)
    have hk7 : k ≤ 7 := by omega
    have hmem : 8 ∈ k :: st' ↔ 8 ∈ st' := by
      rw [List.mem_cons]; exact ⟨fun z => z.resolve_left (fun e => g1.1 e.symm), Or.inr⟩
    have hnp := npar_n g1.1 st'
    refine ⟨fun z => absurd z (by dsimp only; omega), fun z => absurd z (by dsimp only; omega), fun _ => ⟨fun hjo => ⟨fun h67 => ?_, fun h67 => ?_⟩, fun h41 h8 => ?_, fun han h8 => ?_, fun hjo q1 q2 => ?_⟩⟩
    · exfalso
      dsimp only at h67
      have e5 : thr (jo (tkn f n a)) = 5 := by rcases h67 with w | w <;> rw [w] <;> rfl
      rw [e5] at g2
      have : bnd k ≤ 4 := by
        have : k = 1 ∨ k = 2 ∨ k = 3 ∨ k = 6 ∨ k = 7 := by omega
        rcases this with rfl | rfl | rfl | rfl | rfl <;> decide
      omega
    · obtain ⟨m, m2, hm⟩ := (hb hjo).2 h67
      refine ⟨m, m2 + 1, fun I9 B9 hR hF => ?_⟩
      have hn := hR.1.2.2.2.1
      dsimp only at hm ⊢
      rw [hnp]
      refine r_putAll_p (ph' := 0) hR hk7 (by omega) (by omega) p6 g2 ?_ (fun I' B' hR' hF' => hm I' B' hR' (hF.tr hF'))
      have hj5 := (jo_c hjo).2
      dsimp only at hj5
      rcases hj5 with w | w | w | w | w <;> rw [w] <;> decide
    · dsimp only at h41 h8
      have t1 : thr (jo (tkn f n a)) = 1 := by rw [h41]; rfl
      obtain ⟨m, m2, hm⟩ := hc h41 (hmem.mp h8)
      refine ⟨m, m2 + 1, fun I9 B9 hR hF => ?_⟩
      have hn := hR.1.2.2.2.1
      dsimp only at hm ⊢
      rw [hnp]
      exact r_putAll_p (t := 1) (ph' := 0) hR hk7 (by omega) (by omega) p6 (by omega) (by omega) (fun I' B' hR' hF' => hm I' B' hR' (hF.tr hF'))
    · dsimp only at han h8
      have t1 : thr (jo (tkn f n a)) = 1 := by
        have : tkn f n a = 0 := by unfold tkn; rw [if_neg han]
        rw [this]; rfl
      obtain ⟨m2, hm⟩ := he han (fun e => h8 (hmem.mpr e))
      refine ⟨m2 + 1, fun I9 B9 hR hF => ?_⟩
      have hn := hR.1.2.2.2.1
      exact r_putAll_p (t := 1) (ph' := 0) hR hk7 (by omega) (by omega) p6 (by omega) (by omega) (fun I' B' hR' hF' => hm I' B' hR' (hF.tr hF'))
    · dsimp only at hjo q1 q2
      exact hj hjo (fun z => q1 ⟨z.1, hmem.mpr z.2⟩) (fun z => q2 ⟨z.1, fun e => z.2 (hmem.mp e)⟩)
  · -- a sign between two sides is met
    obtain ⟨m, hm⟩ := v1 rfl
    obtain ⟨u1, u2⟩ := jo_c g1
    have han := tkn_lt rfl u1
    have p2 := hP.2.1
    have p1 := hP.1
    have p7 := hP.2.2.2.2.2.2.1
    dsimp only at p1 p2 p7 hm
    rw [npar_n (by omega)] at hm
    have go : ∀ I9 B9, RF9 f n mc (0, a, st, out) I9 B9 → FF9 mc I0 B0 I9 B9 → wc_LassoFinderModel_wholeFormula_336 (wl_LassoFinderModel_wholeFormula_47 Post m) Post (nI (npar st)) (nI (rc (jo (tkn f n a)))) I9 J9 B9 D9 := fun I9 B9 hR hF => r_push hP hR (by omega) han (fun hb => absurd hb (by
        rintro (w | w)
        · exact absurd (g3 w.1) w.2
        · omega)) (fun hb I' B' hR' hF' => ⟨fun _ => hm I' B' hR' (hF.tr hF'), fun z => absurd z (by decide)⟩)
    have ne41 : ¬ tkn f n a = 41 := fun e => g1 (by rw [e]; rfl)
    refine ⟨fun z => absurd z (by dsimp only; omega), fun z => absurd z (by dsimp only; omega), fun _ => ⟨fun _ => ⟨fun _ => ⟨m, go⟩, fun _ => ⟨m, 1, fun I9 B9 hR hF => ?_⟩⟩, fun z => absurd z ne41, fun z => absurd han z, fun z => absurd z g1⟩⟩
    have hn := hR.1.2.2.2.1
    refine r_putAll_n hR p7 (by omega) ?_ g2 (go I9 B9 hR hF)
    rcases u2 with w | w | w | w | w <;> rw [w] <;> decide
  · -- a bracket is closed
    obtain ⟨m, m2, hm⟩ := v2 rfl
    have p2 := hP.2.1
    have p1 := hP.1
    have p7 := hP.2.2.2.2.2.2.1
    dsimp only at p1 p2 p7 hm
    simp only [List.length_cons] at p2
    have han := tkn_lt g1 (by decide)
    have j9 : jo (tkn f n a) = 9 := by rw [g1]; rfl
    refine ⟨fun z => absurd z (by dsimp only; omega), fun z => absurd z (by dsimp only; omega), fun _ => ⟨fun z => absurd j9 z, fun _ _ => ⟨m, 1, fun I9 B9 hR hF => ?_⟩, fun z => absurd han z, fun _ z => absurd ⟨g1, List.mem_cons_self ..⟩ z⟩⟩
    have hn := hR.1.2.2.2.1
    obtain ⟨c1, c2, c3, c4, c5, c6, c7, c8, c9, c10⟩ := id hR
    dsimp only at c1 c2 c3 c4 c5 c6 c7 c8 c9 c10
    simp only [List.length_cons] at c2
    refine r_putAll_n (t := 1) hR p7 (by simp; omega) (by omega) (by show bnd 8 < 1; decide) (fun z31 e31 z32 e32 z33 e33 => ?_)
    have n31 := deI c2 e31
    have n33 := inI c1.1 e33
    have np_le := npar_le st'
    have n32 : z32 = nI (npar st') := by
      rw [e32]; dsimp only; rw [npar_8, ← nI_1]; grind
    rw [n32, n31, n33]
    refine ⟨m2, hm _ _ ⟨?_, ?_, ?_, ?_, ?_, ?_, ?_, ?_, c9, c10⟩ (hF.tr ⟨fun k hk => by simp at hk; simp [upd, hk], fun _ _ => rfl, fun _ _ => rfl⟩)⟩
    all_goals try dsimp only
    · have a1 : upd (upd I9 13 (nI st'.length)) 2 (nI (a + 1)) 1 = I9 1 := by simp [upd]
      rw [a1]; exact c1.up (by simp [upd]) (by omega)
    · simp [upd]
    · exact c3.2
    · simp [upd]; exact c4
    · simp [upd]; exact c5
    · simp [upd]; exact c6
    · have : metp (8 :: st') out = metp st' out := by rw [metp_p, if_neg (by decide), Nat.add_zero]
      rw [this] at c7; simp [upd]; exact c7
    · simp [upd]; exact c8
theorem GW_star (h1p : 1 ≤ np) (h4 : np ≤ 4) (hmc : mc ≤ 240) (hL : HLB np LP I0 J9 B0 D9) (h10 : I0 10 = nI np) (hkn : kn9 B0 kd) {u v : zPs} (hP : PI f n kd u) (h : star (fst9 f n kd np LP) u v) (hv : GW J9 D9 I0 B0 Post f n mc v) : GW J9 D9 I0 B0 Post f n mc u :=
  (h (fun w => PI f n kd w ∧ (GW J9 D9 I0 B0 Post f n mc w → GW J9 D9 I0 B0 Post f n mc u)) ⟨hP, fun z => z⟩ (fun x y c g => ⟨PI_step c.1 g, fun z => c.2 (GW_step h1p h4 hmc hL h10 hkn c.1 g z)⟩)).2 hv
/-- the end -/
theorem GW_end {out : List zIt} (hn240 : n ≤ 240) (h : ∀ I9 B9, RF9 f n mc (0, n, [], out) I9 B9 → FF9 mc I0 B0 I9 B9 → Post 1 I9 J9 B9 D9) : GW J9 D9 I0 B0 Post f n mc (0, n, [], out) := by
  have e0 : tkn f n n = 0 := by unfold tkn; rw [if_neg (by omega)]
  refine ⟨fun z => absurd z (by dsimp only; omega), fun z => absurd z (by dsimp only; omega), fun _ => ⟨fun z => absurd (by dsimp only; rw [e0]; rfl) z, fun z => ?_, fun _ _ => ⟨1, fun I9 B9 hR hF => ?_⟩, fun _ _ z => absurd ⟨by dsimp only; omega, by simp⟩ z⟩⟩
  · dsimp only at z; rw [e0] at z; exact absurd z (by decide)
  · exact r_putAll_n (t := 1) hR (fun k hk => by simp at hk) (by simp) (by omega) trivial (h I9 B9 hR hF)
/-- wrong -/
theorem GW_bad (h1p : 1 ≤ np) (h4 : np ≤ 4) (hmc : mc ≤ 240) (hL : HLB np LP I0 J9 B0 D9) (h10 : I0 10 = nI np) (hkn : kn9 B0 kd) {u : zPs} {q : Nat} (hP : PI f n kd u) (h : ffail f n kd np LP u q) (hb : ∀ I9 B9, FF9 mc I0 B0 I9 B9 → I9 3 = nI q → Post 0 I9 J9 B9 D9) : GW J9 D9 I0 B0 Post f n mc u := by
  have kn : ∀ B9, (∀ k, k ∉ [24, 28, 41, 42, 43, 44, 45, 46, 47] → B9 k = B0 k) → kn9 B9 kd := fun B9 hB j hj => by
    rw [hB 1 (by decide), hB 2 (by decide)]; exact hkn j hj
  have at3 : ∀ (I9 : Nat → Int32) (B9 : Nat → Nat → Int32), FF9 mc I0 B0 I9 B9 → I9 2 = nI q → Post 0 (upd I9 3 (I9 2)) J9 B9 D9 := fun I9 B9 hF e => hb _ _ (hF.tr ⟨fun k hk => by simp at hk; simp [upd, hk], fun _ _ => rfl, fun _ _ => rfl⟩) (by simp [upd]; exact e)
  obtain ⟨a, st, out, h⟩ := h
  rcases h with ⟨rfl, g1, rfl, g2⟩ | ⟨rfl, g1, g2⟩ | ⟨rfl, g1, g2⟩ | ⟨rfl, g1, g2, g3, rfl⟩ | ⟨rfl, g1, g2, rfl, g3⟩ | ⟨rfl, g1, rfl, g2⟩
  · exact ⟨fun _ => w1_op hP g1 (Or.inr ⟨g2, at3⟩), fun z => absurd z (by dsimp only; omega), fun z => absurd z (by dsimp only; omega)⟩
  · refine ⟨fun _ => w1_at hP (Or.inl g1) (m := 0) (m2 := 0) (fun I9 B9 hR hF P k1 k0 => ?_), fun z => absurd z (by dsimp only; omega), fun z => absurd z (by dsimp only; omega)⟩
    rcases g2 with ⟨rfl, g3⟩ | ⟨g3, g4⟩
    · exact r_atom_8 hP hR g3 (k0 _ _ (at3 I9 B9 hF hR.1.1))
    · exact r_atom_e hP hR hmc (kn B9 hF.2.1) g1 g3 (Or.inr ⟨q, g4, fun I' B' hF' e => k0 _ _ (hb I' B' (hF.tr hF') e)⟩)
  · refine ⟨fun _ => w1_at hP (Or.inr g1) (m := 0) (m2 := 0) (fun I9 B9 hR hF P k1 k0 => ?_), fun z => absurd z (by dsimp only; omega), fun z => absurd z (by dsimp only; omega)⟩
    rcases g2 with ⟨rfl, g3⟩ | ⟨g3, g4⟩
    · exact r_atom_8 hP hR g3 (k0 _ _ (at3 I9 B9 hF hR.1.1))
    · exact r_atom_s h1p h4 hL hF h10 hP hR g1 g3 (Or.inr ⟨q, g4, fun I' B' hF' e => k0 _ _ (hb I' B' (hF.tr hF') e)⟩)
  · refine ⟨fun _ => ⟨1, fun I9 B9 hR hF => ?_⟩, fun z => absurd z (by dsimp only; omega), fun z => absurd z (by dsimp only; omega)⟩
    have c1 := hR.1
    dsimp only at c1
    refine hd1 c1 ?_
    rw [if_pos g1]
    exact ⟨fun _ => ⟨fun z => absurd z g2, fun _ => ⟨fun z => absurd z g3, fun _ => ⟨Or.inl rfl, at3 I9 B9 hF c1.1⟩⟩⟩, fun z => absurd (by decide) z⟩
  · obtain ⟨u1, u2⟩ := jo_c g1
    have han := tkn_lt rfl u1
    have p2 := hP.2.1
    have p1 := hP.1
    have p7 := hP.2.2.2.2.2.2.1
    dsimp only at p1 p2 p7
    have go : ∀ I9 B9, RF9 f n mc (0, q, st, out) I9 B9 → FF9 mc I0 B0 I9 B9 → wc_LassoFinderModel_wholeFormula_336 (wl_LassoFinderModel_wholeFormula_47 Post 0) Post (nI (npar st)) (nI (rc (jo (tkn f n q)))) I9 J9 B9 D9 := fun I9 B9 hR hF => r_push hP hR (by omega) han (fun _ => ⟨fun z => absurd rfl z, fun _ => at3 I9 B9 hF hR.1.1⟩) (fun hb2 => absurd g3 hb2)
    have ne41 : ¬ tkn f n q = 41 := fun e => g1 (by rw [e]; rfl)
    refine ⟨fun z => absurd z (by dsimp only; omega), fun z => absurd z (by dsimp only; omega), fun _ => ⟨fun _ => ⟨fun _ => ⟨0, go⟩, fun _ => ⟨0, 1, fun I9 B9 hR hF => ?_⟩⟩, fun z => absurd z ne41, fun z => absurd han z, fun z => absurd z g1⟩⟩
    have hn := hR.1.2.2.2.1
    refine r_putAll_n hR p7 (by omega) ?_ g2 (go I9 B9 hR hF)
    rcases u2 with w | w | w | w | w <;> rw [w] <;> decide
  · refine ⟨fun z => absurd z (by dsimp only; omega), fun z => absurd z (by dsimp only; omega), fun _ => ⟨fun z => absurd g1 z, fun h41 h8 => ?_, fun han h8 => ?_, fun _ _ _ I9 B9 hT hF => at3 I9 B9 hF hT.1⟩⟩
    · dsimp only at h41 h8
      rcases g2 with ⟨st', rfl, g2⟩ | ⟨rfl, _⟩
      · exact absurd h41 g2
      · simp at h8
    · dsimp only at han h8
      rcases g2 with ⟨st', rfl, g2⟩ | ⟨_, g2⟩
      · exact absurd (List.mem_cons_self ..) h8
      · exact absurd g2 han
/-- the whole formula, right or wrong -/
theorem r_wholeFormula {I9 : Nat → Int32} {B9 : Nat → Nat → Int32} (h1p : 1 ≤ np) (h4 : np ≤ 4) (hmc : mc ≤ 240) (hL : HLB np LP I9 J9 B9 D9) (h10 : I9 10 = nI np) (hkn : kn9 B9 kd) (h22 : I9 22 = nI mc) (hn240 : n ≤ 240) (h1 : I9 1 = nI n) (h0 : ∀ k, k < n → B9 0 k = f k) (hok : okC f n)
    (h : (∃ out, star (fst9 f n kd np LP) (1, 0, [], []) (0, n, [], out) ∧ ∀ I' B', RF9 f n mc (0, n, [], out) I' B' → FF9 mc I9 B9 I' B' → Post 1 I' J9 B' D9) ∨ (∃ s1 q, star (fst9 f n kd np LP) (1, 0, [], []) s1 ∧ ffail f n kd np LP s1 q ∧ ∀ I' B', FF9 mc I9 B9 I' B' → I' 3 = nI q → Post 0 I' J9 B' D9)) : wp_LassoFinderModel_wholeFormula I9 J9 B9 D9 Post := by
  have F0 : FF9 mc I9 B9 (upd (upd (upd (upd (upd (upd (upd (upd I9 2 0) 3 (-1)) 11 (I9 22)) 19 0) 20 0) 23 0) 21 0) 13 0) B9 := ⟨fun k hk => by simp at hk; simp [upd, hk], fun _ _ => rfl, fun _ _ => rfl⟩
  have R0 : RF9 f n mc (1, 0, [], []) (upd (upd (upd (upd (upd (upd (upd (upd I9 2 0) 3 (-1)) 11 (I9 22)) 19 0) 20 0) 23 0) 21 0) 13 0) B9 := by
    refine ⟨⟨?_, ?_, Nat.zero_le _, hn240, h0, hok⟩, ?_, trivial, ?_, ?_, ?_, ?_, ?_, trivial, trivial⟩
    · simp [upd]; rfl
    · simp [upd]; exact h1
    · simp [upd]; rfl
    · simp [upd]; rfl
    · simp [upd]; rfl
    · simp [upd]; rfl
    · simp [upd]; rfl
    · simp [upd]; exact h22
  have hG : GW J9 D9 I9 B9 Post f n mc (1, 0, [], []) := by
    rcases h with ⟨out, hs, hk⟩ | ⟨s1, q, hs, hf, hk⟩
    · exact GW_star h1p h4 hmc hL h10 hkn PI_0 hs (GW_end hn240 hk)
    · exact GW_star h1p h4 hmc hL h10 hkn PI_0 hs (GW_bad h1p h4 hmc hL h10 hkn (PI_star PI_0 hs) hf hk)
  obtain ⟨m, hm⟩ := hG.1 rfl
  exact ⟨m, hm _ _ R0 F0⟩
end ZO2
