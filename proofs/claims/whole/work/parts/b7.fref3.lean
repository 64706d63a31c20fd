/-! Formulas: the reference reads an atom. -/
section ZN8
variable {I9 : Nat → Int32} {J9 : Nat → Int64} {B9 : Nat → Nat → Int32} {D9 : Nat → Nat → Int64}
/-- where labels lead -/
def HLB (np : Nat) (LP : Nat → Int32) (I0 : Nat → Int32) (J9 : Nat → Int64) (B0 : Nat → Nat → Int32) (D9 : Nat → Nat → Int64) : Prop := ∀ p l, p < np → l < 8 → ∀ (I1 : Nat → Int32) (B1 : Nat → Nat → Int32), I1 8 = I0 8 → (∀ k, k ∈ [5, 6, 7, 8, 9, 10, 11, 12, 16, 20, 22, 23] → B1 k = B0 k) → ((B1 22 (8 * p + l) < 0 ∧ LP (8 * p + l) = -1) ∨ (¬ B1 22 (8 * p + l) < 0 ∧ ∃ pt, pt ≤ 30 ∧ LP (8 * p + l) = nI pt ∧ ∀ (P : Int32 → (Nat → Int32) → (Nat → Int64) → (Nat → Nat → Int32) → (Nat → Nat → Int64) → Prop), P (nI pt) I1 J9 B1 D9 → wp_LassoFinderModel_instead I1 J9 B1 D9 (B1 22 (8 * p + l)) (fun r I J B D => wp_LassoFinderModel_pointOf I J B D (nI p) r P)))
/-- the expression of an atom: before it, the waiting signs are kept -/
theorem r_keep {Post : Int32 → (Nat → Int32) → (Nat → Int64) → (Nat → Nat → Int32) → (Nat → Nat → Int64) → Prop} {len : Nat} (hl : len ≤ 240) (h : ∀ B2, (∀ j, j < len → B2 42 j = B9 28 j) → (∀ r, r ≠ 42 → B2 r = B9 r) → wp_LassoFinderModel_expression I9 J9 B2 D9 0 (fun r11 I11 J11 B11 D11 => ∃ n : Nat, wl_LassoFinderModel_atom_94 Post n (nI len) r11 0 I11 J11 B11 D11)) : ∃ n, wl_LassoFinderModel_atom_63 Post n (nI len) 0 I9 J9 B9 D9 := by
  have lp : ∀ (m k : Nat) (B1 : Nat → Nat → Int32), k + m = len → (∀ j, j < k → B1 42 j = B9 28 j) → (∀ r, r ≠ 42 → B1 r = B9 r) → wl_LassoFinderModel_atom_63 Post (m + 1) (nI len) (nI k) I9 J9 B1 D9 := by
    intro m
    induction m with
    | zero =>
      intro k B1 hk a1 a2
      have e : k = len := by omega
      subst e
      exact ⟨fun _ => h B1 a1 a2, fun z => absurd ((leI (x := nI k) rfl (y := nI k) rfl (by omega) (by omega)).mpr (Nat.le_refl _)) z⟩
    | succ m ih =>
      intro k B1 hk a1 a2
      refine ⟨fun z => ?_, fun _ => ⟨vin2 rfl (by omega) (by omega), fun z12 e12 => ⟨vin2 rfl (by omega) (by omega), fun z13 e13 => ?_⟩⟩⟩
      · have := (leI (x := nI len) rfl (y := nI k) rfl (by omega) (by omega)).mp z; omega
      rw [clI rfl (by omega), a2 28 (by decide)] at e12
      rw [inI rfl e13, clI (x := nI k) rfl (by omega)]
      refine ih (k + 1) _ (by omega) (fun j hj => ?_) (fun r hr => by simp [va_up, hr]; exact a2 r hr)
      by_cases e : j = k
      · subst e; simp [va_up, upd, e12]
      · simp [va_up, upd, e]; exact a1 j (by omega)
  exact ⟨len + 1, lp len 0 B9 (by omega) (fun j hj => by omega) (fun _ _ => rfl)⟩
/-- .. and behind it they come back -/
theorem r_back {Post : Int32 → (Nat → Int32) → (Nat → Int64) → (Nat → Nat → Int32) → (Nat → Nat → Int64) → Prop} {len na : Nat} {x2 : Int32} (hl : len ≤ 240) (h23 : I9 23 = nI na) (hna : na < 8) (h : ∀ B2, (∀ j, j < len → B2 28 j = B9 42 j) → (∀ r, r ≠ 28 → B2 r = B9 r) → ((x2 = 0 → Post 0 (upd I9 13 (nI len)) J9 (va_up B2 47 (upd (B2 47) na (I9 11))) D9) ∧ (¬ x2 = 0 → wp_LassoFinderModel_takes (upd I9 13 (nI len)) J9 (va_up B2 47 (upd (B2 47) na (I9 11))) D9 125 (fun r6 I6 J6 B6 D6 => ((¬ r6 = 0 → wc_LassoFinderModel_atom_274 Post I6 J6 B6 D6) ∧ (r6 = 0 → wc_LassoFinderModel_atom_148 Post I6 J6 B6 D6)))))) : ∃ n, wl_LassoFinderModel_atom_94 Post n (nI len) x2 0 I9 J9 B9 D9 := by
  have lp : ∀ (m k : Nat) (B1 : Nat → Nat → Int32), k + m = len → (∀ j, j < k → B1 28 j = B9 42 j) → (∀ r, r ≠ 28 → B1 r = B9 r) → wl_LassoFinderModel_atom_94 Post (m + 1) (nI len) x2 (nI k) I9 J9 B1 D9 := by
    intro m
    induction m with
    | zero =>
      intro k B1 hk a1 a2
      have e : k = len := by omega
      subst e
      refine ⟨fun _ => ⟨vin2 h23 hna (by omega), ?_⟩, fun z => absurd ((leI (x := nI k) rfl (y := nI k) rfl (by omega) (by omega)).mpr (Nat.le_refl _)) z⟩
      rw [clI h23 (by omega)]
      exact h B1 a1 a2
    | succ m ih =>
      intro k B1 hk a1 a2
      refine ⟨fun z => ?_, fun _ => ⟨vin2 rfl (by omega) (by omega), fun z8 e8 => ⟨vin2 rfl (by omega) (by omega), fun z9 e9 => ?_⟩⟩⟩
      · have := (leI (x := nI len) rfl (y := nI k) rfl (by omega) (by omega)).mp z; omega
      rw [clI rfl (by omega), a2 42 (by decide)] at e8
      rw [inI rfl e9, clI (x := nI k) rfl (by omega)]
      refine ih (k + 1) _ (by omega) (fun j hj => ?_) (fun r hr => by simp [va_up, hr]; exact a2 r hr)
      by_cases e : j = k
      · subst e; simp [va_up, upd, e8]
      · simp [va_up, upd, e]; exact a1 j (by omega)
  exact ⟨len + 1, lp len 0 B9 (by omega) (fun j hj => by omega) (fun _ _ => rfl)⟩
section
variable {Post : Int32 → (Nat → Int32) → (Nat → Int64) → (Nat → Nat → Int32) → (Nat → Nat → Int64) → Prop} {f : Nat → Int32} {n mc : Nat} {kd : Nat → Int32} {np : Nat} {LP : Nat → Int32} {a : Nat} {st : List Nat} {out : List zIt}
/-- an expression, right or wrong -/
theorem r_atom_e (hP : PI f n kd (1, a, st, out)) (hR : RF9 f n mc (1, a, st, out) I9 B9) (hmc : mc ≤ 240) (hk : kn9 B9 kd) (g : tkn f n a = 123) (h8 : natm out < 8)
    (h : (∃ a1 codes, EXP f n kd 0 (a + 1) a1 codes ∧ tkn f n a1 = 125 ∧ ∀ I' B', RF9 f n mc (2, a1 + 1, st, (8, 0, 0, codes) :: out) I' B' → FF9 mc I9 B9 I' B' → Post 1 I' J9 B' D9) ∨ (∃ q, (EXPF f n kd 0 (a + 1) q ∨ ∃ codes, EXP f n kd 0 (a + 1) q codes ∧ ¬ tkn f n q = 125) ∧ ∀ I' B', FF9 mc I9 B9 I' B' → I' 3 = nI q → Post 0 I' J9 B' D9)) : wp_LassoFinderModel_atom I9 J9 B9 D9 Post := by
  obtain ⟨c1, c2, c3, c4, c5, c6, c7, c8, c9, c10⟩ := id hR
  obtain ⟨p1, p2, p3, p4, p5, p6, p7, p8, p9, p10, p11, p12⟩ := id hP
  dsimp only at c1 c2 c3 c4 c5 c6 c7 c8 c9 c10 p1 p2 p10
  have hn := c1.2.2.2.1
  have han := tkn_lt g (by decide)
  have q8 : I9 23 = 8 ↔ natm out = 8 := eqI c6 (y := 8) (b := 8) rfl (by omega) (by omega)
  refine ⟨fun _ => q_here c1.tx ?_, fun z => absurd (q8.mp z) (by omega)⟩
  rw [c1.tk]
  refine ⟨fun z => absurd g z, fun _ z34 e34 => ⟨vin2 c6 h8 (by omega), vin2 c6 h8 (by omega), ?_⟩⟩
  have n34 := inI c1.1 e34
  rw [clI c6 (by omega), c2, n34, c8]
  -- the rows before the expression
  have b0 : va_up (va_up B9 44 (upd (B9 44) (natm out) (-1))) 46 (upd (B9 46) (natm out) (nI (mc + lnR out))) 44 (natm out) = -1 := by simp [va_up, upd]
  have b1 : va_up (va_up B9 44 (upd (B9 44) (natm out) (-1))) 46 (upd (B9 46) (natm out) (nI (mc + lnR out))) 46 (natm out) = nI (mc + lnR out) := by simp [va_up, upd]
  have b2 : ∀ r, r ∈ [44, 46] → ∀ j, j < natm out → va_up (va_up B9 44 (upd (B9 44) (natm out) (-1))) 46 (upd (B9 46) (natm out) (nI (mc + lnR out))) r j = B9 r j := by
    intro r hr j hj
    have : ¬ j = natm out := by omega
    simp at hr; rcases hr with rfl | rfl <;> simp [va_up, upd, this]
  have b3 : ∀ r, r ∉ [44, 46] → va_up (va_up B9 44 (upd (B9 44) (natm out) (-1))) 46 (upd (B9 46) (natm out) (nI (mc + lnR out))) r = B9 r := fun r hr => by simp at hr; simp [va_up, hr]
  generalize va_up (va_up B9 44 (upd (B9 44) (natm out) (-1))) 46 (upd (B9 46) (natm out) (nI (mc + lnR out))) = Bx at b0 b1 b2 b3
  refine r_keep (by omega) (fun B2 k1 k2 => ?_)
  have hT2 : TY (B2 0) f (upd I9 2 (nI (a + 1)) 2) (upd I9 2 (nI (a + 1)) 1) (a + 1) n := by
    have e1 : upd I9 2 (nI (a + 1)) 1 = I9 1 := by simp [upd]
    rw [e1, k2 0 (by decide), b3 0 (by decide)]; exact c1.up (by simp [upd]) (by omega)
  have i11 : upd I9 2 (nI (a + 1)) 11 = nI (mc + lnR out) := by simp [upd]; exact c8
  have hk2 : kn9 B2 kd := by
    intro j hj
    rw [k2 1 (by decide), k2 2 (by decide), b3 1 (by decide), b3 2 (by decide)]; exact hk j hj
  -- behind it
  have bk : ∀ (x2 : Int32) (I3 : Nat → Int32) (B3 : Nat → Nat → Int32), (∀ k, k ∉ [2, 3, 11, 13] → I3 k = I9 k) → (∀ k, k ∉ [24, 28] → B3 k = B2 k) → (∀ k, k < mc + lnR out → B3 24 k = B9 24 k) → (∀ B4, (∀ j, j < st.length → B4 28 j = B9 28 j) → (∀ r, r ∉ [28, 42, 44, 46, 47] → B4 r = B3 r) → B4 44 (natm out) = -1 → B4 46 (natm out) = nI (mc + lnR out) → B4 47 (natm out) = I3 11 → (∀ r, r ∈ [44, 46, 47] → ∀ j, j < natm out → B4 r j = B9 r j) → ((x2 = 0 → Post 0 (upd I3 13 (nI st.length)) J9 B4 D9) ∧ (¬ x2 = 0 → wp_LassoFinderModel_takes (upd I3 13 (nI st.length)) J9 B4 D9 125 (fun r6 I6 J6 B6 D6 => ((¬ r6 = 0 → wc_LassoFinderModel_atom_274 Post I6 J6 B6 D6) ∧ (r6 = 0 → wc_LassoFinderModel_atom_148 Post I6 J6 B6 D6)))))) → ∃ n, wl_LassoFinderModel_atom_94 Post n (nI st.length) x2 0 I3 J9 B3 D9 := by
    intro x2 I3 B3 i3 f3 f24 hh
    refine r_back (by omega) (by rw [i3 23 (by decide)]; exact c6) h8 (fun B4 m1 m2 => ?_)
    refine hh _ (fun j hj => ?_) (fun r hr => ?_) ?_ ?_ ?_ (fun r hr j hj => ?_)
    · have : va_up B4 47 (upd (B4 47) (natm out) (I3 11)) 28 = B4 28 := by simp [va_up]
      rw [this, m1 j hj, f3 42 (by decide), k1 j hj, b3 28 (by decide)]
    · have : va_up B4 47 (upd (B4 47) (natm out) (I3 11)) r = B4 r := by simp at hr; simp [va_up, hr]
      rw [this, m2 r (by simp at hr; omega)]
    · have : va_up B4 47 (upd (B4 47) (natm out) (I3 11)) 44 = B4 44 := by simp [va_up]
      rw [this, m2 44 (by decide), f3 44 (by decide), k2 44 (by decide)]; exact b0
    · have : va_up B4 47 (upd (B4 47) (natm out) (I3 11)) 46 = B4 46 := by simp [va_up]
      rw [this, m2 46 (by decide), f3 46 (by decide), k2 46 (by decide)]; exact b1
    · simp [va_up, upd]
    · simp at hr
      rcases hr with rfl | rfl | rfl
      · have : va_up B4 47 (upd (B4 47) (natm out) (I3 11)) 44 = B4 44 := by simp [va_up]
        rw [this, m2 44 (by decide), f3 44 (by decide), k2 44 (by decide)]; exact b2 44 (by decide) j hj
      · have : va_up B4 47 (upd (B4 47) (natm out) (I3 11)) 46 = B4 46 := by simp [va_up]
        rw [this, m2 46 (by decide), f3 46 (by decide), k2 46 (by decide)]; exact b2 46 (by decide) j hj
      · have : ¬ j = natm out := by omega
        simp [va_up, upd, this]
        rw [m2 47 (by decide), f3 47 (by decide), k2 47 (by decide), b3 47 (by decide)]
  have ff : ∀ (I3 : Nat → Int32) (B3 B4 : Nat → Nat → Int32), (∀ k, k ∉ [2, 3, 11, 13] → I3 k = I9 k) → (∀ k, k ∉ [24, 28] → B3 k = B2 k) → (∀ k, k < mc + lnR out → B3 24 k = B9 24 k) → (∀ r, r ∉ [28, 42, 44, 46, 47] → B4 r = B3 r) → ∀ I4 : Nat → Int32, (∀ k, k ∉ [2, 3, 11, 13, 19, 23] → I4 k = I3 k) → FF9 mc I9 B9 I4 B4 := by
    intro I3 B3 B4 i3 f3 f24 f4 I4 i4
    refine ⟨fun k hk => (i4 k (by simp at hk ⊢; omega)).trans (i3 k (by simp at hk ⊢; omega)), fun k hk => ?_, fun k hk => ?_⟩
    · rw [f4 k (by simp at hk ⊢; omega), f3 k (by simp at hk ⊢; omega), k2 k (by simp at hk; omega), b3 k (by simp at hk ⊢; omega)]
    · rw [f4 24 (by decide), f24 k (by omega)]
  have fm24 : ∀ (I3 : Nat → Int32) (B3 : Nat → Nat → Int32), FM (mc + lnR out) (upd I9 2 (nI (a + 1))) B2 I3 B3 → (∀ k, k ∉ [2, 3, 11, 13] → I3 k = I9 k) ∧ (∀ k, k ∉ [24, 28] → B3 k = B2 k) ∧ (∀ k, k < mc + lnR out → B3 24 k = B9 24 k) := by
    intro I3 B3 hm
    refine ⟨fun k hk => ?_, hm.2.1, fun k hk => ?_⟩
    · rw [hm.1 k (by simp at hk ⊢; omega)]; simp at hk; simp [upd, hk]
    · rw [hm.2.2 k hk, k2 24 (by decide), b3 24 (by decide)]
  rcases h with ⟨a1, codes, hE, g1, hok⟩ | ⟨q, hq, hbad⟩
  · have ha1 := tkn_lt g1 (by decide)
    refine q_expr_ok (b := mc + lnR out) (ob := 0) (by omega) (by omega) hT2 i11 hk2 hE (fun hsg I3 B3 hm hT3 l3 r3 => ?_) (fun hsg => absurd (by rw [g1]; decide) hsg)
    obtain ⟨i3, f3, f24⟩ := fm24 I3 B3 hm
    refine bk 1 I3 B3 i3 f3 f24 (fun B4 w1 w2 w3 w4 w5 w6 => ⟨fun z => absurd z (by decide), fun _ => ?_⟩)
    have hT4 : TY (B4 0) f (upd I3 13 (nI st.length) 2) (upd I3 13 (nI st.length) 1) a1 n := by
      have e1 : upd I3 13 (nI st.length) 1 = I3 1 := by simp [upd]
      have e2 : upd I3 13 (nI st.length) 2 = I3 2 := by simp [upd]
      rw [e1, e2, w2 0 (by decide)]; exact hT3
    refine q_takes hT4 (fun _ => ⟨fun _ => ?_, fun z => absurd z (by decide)⟩) (fun z => absurd g1 z)
    have hlR : lnR ((8, 0, 0, codes) :: out) = lnR out + codes.length := by
      show lnR out + (if (8 : Nat) = 8 then codes.length else 0) = _
      rw [if_pos rfl]
    refine r_putA (f := f) (n := n) (mc := mc) (a := a1 + 1) (st := st) (out := out) (x := (8, 0, 0, codes)) (by dsimp only; omega) ?_ ?_ ?_ ?_ ?_ ?_ ?_ ?_ ?_ ⟨fun _ => ⟨w3, w4, ?_, ?_⟩, fun z => absurd z (by dsimp only; omega)⟩ ?_ (by omega) h8 (fun I5 B5 hR5 i5 f5 => hok I5 B5 hR5 ?_)
    · have e1 : upd (upd I3 13 (nI st.length)) 2 (nI (a1 + 1)) 1 = I3 1 := by simp [upd]
      rw [e1, w2 0 (by decide)]; exact hT3.up (by simp [upd]) (by omega)
    · simp [upd]
    · exact rep_eq c3 (fun j hj => by simp at hj; exact w1 j hj)
    · simp [upd]; rw [i3 19 (by decide)]; exact c4
    · simp [upd]; rw [i3 20 (by decide)]; exact c5
    · simp [upd]; rw [i3 23 (by decide)]; exact c6
    · simp [upd]; rw [i3 21 (by decide)]; exact c7
    · rw [hlR, ← Nat.add_assoc]; simp [upd]; exact l3
    · refine c9.cg (fun j _ => by rw [w2 41 (by decide), f3 41 (by decide), k2 41 (by decide), b3 41 (by decide)]) (fun r hr j hj => ?_) (fun j hj => by rw [w2 24 (by decide)]; exact f24 j hj)
      simp at hr
      rcases hr with rfl | rfl | rfl | rfl
      · exact w6 44 (by decide) j hj
      · rw [w2 45 (by decide), f3 45 (by decide), k2 45 (by decide), b3 45 (by decide)]
      · exact w6 46 (by decide) j hj
      · exact w6 47 (by decide) j hj
    · rw [w5]; exact l3
    · rw [w2 24 (by decide)]; exact r3
    · rw [w2 43 (by decide), f3 43 (by decide), k2 43 (by decide), b3 43 (by decide)]; exact c10
    · have := ff I3 B3 B4 i3 f3 f24 w2 (upd (upd I3 13 (nI st.length)) 2 (nI (a1 + 1))) (fun k hk => by simp at hk; simp [upd, hk])
      exact this.tr ⟨fun k hk => i5 k (by simp at hk ⊢; omega), fun k hk => f5 k (by simp at hk; omega), fun k _ => by rw [f5 24 (by decide)]⟩
  · -- wrong
    have bad0 : ∀ (I3 : Nat → Int32) (B3 : Nat → Nat → Int32), FM (mc + lnR out) (upd I9 2 (nI (a + 1))) B2 I3 B3 → I3 2 = nI q → ∃ n, wl_LassoFinderModel_atom_94 Post n (nI st.length) 0 0 (upd I3 3 (I3 2)) J9 B3 D9 := by
      intro I3 B3 hm e2
      obtain ⟨i3, f3, f24⟩ := fm24 I3 B3 hm
      have i3' : ∀ k, k ∉ [2, 3, 11, 13] → upd I3 3 (I3 2) k = I9 k := fun k hk => by rw [← i3 k hk]; simp at hk; simp [upd, hk]
      refine bk 0 (upd I3 3 (I3 2)) B3 i3' f3 f24 (fun B4 w1 w2 w3 w4 w5 w6 => ⟨fun _ => hbad _ _ (ff (upd I3 3 (I3 2)) B3 B4 i3' f3 f24 w2 _ (fun k hk => by simp at hk; simp [upd, hk])) ?_, fun z => absurd rfl z⟩)
      simp [upd]; exact e2
    rcases hq with hE | ⟨codes, hE, g1⟩
    · exact q_expr_bad (b := mc + lnR out) (ob := 0) (by omega) (by omega) hT2 i11 hk2 hE (fun I3 B3 hm e2 => bad0 I3 B3 hm e2)
    · refine q_expr_ok (b := mc + lnR out) (ob := 0) (by omega) (by omega) hT2 i11 hk2 hE (fun hsg I3 B3 hm hT3 l3 r3 => ?_) (fun hsg I3 B3 hm e2 => bad0 I3 B3 hm e2)
      obtain ⟨i3, f3, f24⟩ := fm24 I3 B3 hm
      refine bk 1 I3 B3 i3 f3 f24 (fun B4 w1 w2 w3 w4 w5 w6 => ⟨fun z => absurd z (by decide), fun _ => ?_⟩)
      have hT4 : TY (B4 0) f (upd I3 13 (nI st.length) 2) (upd I3 13 (nI st.length) 1) q n := by
        have e1 : upd I3 13 (nI st.length) 1 = I3 1 := by simp [upd]
        have e2 : upd I3 13 (nI st.length) 2 = I3 2 := by simp [upd]
        rw [e1, e2, w2 0 (by decide)]; exact hT3
      refine q_takes hT4 (fun z => absurd z g1) (fun _ => ⟨fun z => absurd rfl z, fun _ => hbad _ _ (ff I3 B3 B4 i3 f3 f24 w2 _ (fun k hk => by simp at hk; simp [upd, hk])) ?_⟩)
      simp [upd]; exact hT3.1
end
end ZN8
