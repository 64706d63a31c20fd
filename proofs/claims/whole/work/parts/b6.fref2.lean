/-! Formulas: the reference pushes a sign, and reads an atom. -/
section ZN7
variable {I9 : Nat → Int32} {J9 : Nat → Int64} {B9 : Nat → Nat → Int32} {D9 : Nat → Nat → Int64}
theorem r_depth {Post : Int32 → (Nat → Int32) → (Nat → Int64) → (Nat → Nat → Int32) → (Nat → Nat → Int64) → Prop} {st : List Nat} (h13 : I9 13 = nI st.length) (hr : rep (B9 28) 0 (st.map (fun k => nI (rc k)))) (h8 : ∀ k ∈ st, k ≤ 8) (hl : st.length ≤ 240) (h : Post (nI (dpt st)) I9 J9 B9 D9) : wp_LassoFinderModel_depth I9 J9 B9 D9 Post := by
  have lp : ∀ (rem suf : List Nat), st = rem.reverse ++ suf → wl_LassoFinderModel_depth_4 Post (rem.length + 1) (nI (dpt suf)) (nI suf.length) I9 J9 B9 D9 := by
    intro rem
    induction rem with
    | nil =>
      intro suf e
      simp at e
      subst e
      exact ⟨fun _ => h, fun z => absurd ((leI h13 (y := nI st.length) rfl (by omega) (by omega)).mpr (Nat.le_refl _)) z⟩
    | cons k rem ih =>
      intro suf e
      have e' : st = rem.reverse ++ (k :: suf) := by rw [e]; simp
      have hlen : st.length = rem.length + suf.length + 1 := by rw [e']; simp; omega
      have hk : k ≤ 8 := h8 k (by rw [e']; simp)
      have hrk : rep (B9 28) 0 ((k :: suf).map (fun k => nI (rc k))) := by
        rw [e', List.map_append] at hr; exact rep_app hr
      have e28 : B9 28 suf.length = nI (rc k) := by have := hrk.1; simpa using this
      have hdl : dpt suf ≤ suf.length := by
        clear ih hrk e' hlen e e28
        induction suf with
        | nil => exact Nat.le_refl _
        | cons j suf ih2 =>
          have := (dpt_le j suf).2
          rw [List.length_cons]; omega
      have r := rc_9 hk
      refine ⟨fun z => ?_, fun _ => ⟨vin2 rfl (by omega) (by omega), fun z4 e4 => ?_⟩⟩
      · have := (leI h13 (y := nI suf.length) rfl (by omega) (by omega)).mp z; omega
      rw [clI rfl (by omega), e28] at e4
      have q9 : z4 = 9 ↔ rc k = 9 := by rw [e4]; exact rc_q hk rfl (by omega)
      have nx : ∀ (z1 : Int32) (dl : Nat), z1 = nI (dpt suf) + nI dl → dpt (k :: suf) = dpt suf + dl → ∀ z2 : Int32, z2 = nI suf.length + 1 → wl_LassoFinderModel_depth_4 Post (rem.length + 1) z1 z2 I9 J9 B9 D9 := by
        intro z1 dl e1 ed z2 e2
        rw [e1, nI_add, ← ed, inI rfl e2]
        exact ih (k :: suf) e'
      refine ⟨fun g z1 e1 z2 e2 => nx z1 0 e1 ?_ z2 e2, fun g => ⟨vin2 rfl (by omega) (by omega), fun z6 e6 => ?_⟩⟩
      · have := q9.mp g
        rw [dpt_0 (by omega), Nat.add_zero]
      rw [clI rfl (by omega), e28] at e6
      have q10 : z6 = 10 ↔ rc k = 10 := by rw [e6]; exact rc_q hk rfl (by omega)
      have n9 : ¬ rc k = 9 := fun e => g (q9.mpr e)
      refine ⟨fun g2 z1 e1 z2 e2 => nx z1 1 e1 ?_ z2 e2, fun g2 z1 e1 z2 e2 => nx z1 0 e1 ?_ z2 e2⟩
      · have : ¬ rc k = 10 := fun e => g2 (q10.mpr e)
        rw [dpt_1 (by omega)]
      · have := q10.mp g2
        rw [dpt_0 (by omega), Nat.add_zero]
  have := lp st.reverse [] (by simp)
  exact ⟨st.reverse.length + 1, this⟩
theorem r_push {Post : Int32 → (Nat → Int32) → (Nat → Int64) → (Nat → Nat → Int32) → (Nat → Nat → Int64) → Prop} {f : Nat → Int32} {n mc : Nat} {kd : Nat → Int32} {ph a k : Nat} {st : List Nat} {out : List zIt} (hP : PI f n kd (ph, a, st, out)) (hR : RF9 f n mc (ph, a, st, out) I9 B9) (hk : k ≤ 8) (han : a < n) (h0 : ((isT k ∧ ¬ metp st out < 3) ∨ (¬ k = 1 ∧ ¬ k = 2 ∧ ¬ dpt st < 8)) → Post 0 (upd I9 3 (I9 2)) J9 B9 D9) (h1 : ¬ ((isT k ∧ ¬ metp st out < 3) ∨ (¬ k = 1 ∧ ¬ k = 2 ∧ ¬ dpt st < 8)) → ∀ I' B', RF9 f n mc (1, a + 1, k :: st, out) I' B' → FF9 mc I9 B9 I' B' → Post 1 I' J9 B' D9) : wp_LassoFinderModel_push I9 J9 B9 D9 (nI (rc k)) Post := by
  obtain ⟨c1, c2, c3, c4, c5, c6, c7, c8, c9, c10⟩ := id hR
  obtain ⟨p1, p2, p3, p4, p5, p6, p7, p8, p9, p10, p11, p12⟩ := id hP
  dsimp only at c1 c2 c3 c4 c5 c6 c7 c8 c9 c10 p1 p2 p4 p6 p7
  have hn := c1.2.2.2.1
  have r := rc_9 hk
  have l12 : nI (rc k) < 12 ↔ rc k < 12 := rc_l hk rfl (by omega)
  have l15 : (15 : Int32) < nI (rc k) ↔ 15 < rc k := rc_g hk (m := 15) rfl (by omega)
  have q21 : I9 21 = 3 ↔ metp st out = 3 := eqI c7 (y := 3) (b := 3) rfl (by omega) (by omega)
  have p50 : ¬ ((isT k ∧ ¬ metp st out < 3) ∨ (¬ k = 1 ∧ ¬ k = 2 ∧ ¬ dpt st < 8)) → wc_LassoFinderModel_push_50 (nI (rc k)) Post (nI (rc k)) I9 J9 B9 D9 := by
    intro hok
    have en : ∀ (y0 y1 : Int32) (dl : Nat), y0 = nI dl → y1 = I9 21 → metp (k :: st) out = metp st out + dl → wc_LassoFinderModel_push_72 (nI (rc k)) Post (nI (rc k)) y0 y1 I9 J9 B9 D9 := by
      intro y0 y1 dl hy0 hy1 hm z1 e1
      have n1 : z1 = nI (metp (k :: st) out) := by rw [e1, hy0, hy1, c7, nI_add, hm]
      refine ⟨vin2 c2 (by omega) (by omega), fun z2 e2 z3 e3 => ?_⟩
      have n2 := inI c2 e2
      have n3 := inI c1.1 e3
      rw [clI c2 (by omega)]
      refine h1 hok _ _ ⟨?_, ?_, ?_, ?_, ?_, ?_, ?_, ?_, c9.cg (fun j _ => by simp [va_up]) (fun r hr j _ => by simp at hr; rcases hr with rfl | rfl | rfl | rfl <;> simp [va_up]) (fun j _ => by simp [va_up]), ?_⟩ ⟨fun j hj => by simp at hj; simp [upd, hj], fun j hj => by simp at hj; simp [va_up, hj], fun j _ => by simp [va_up]⟩
      all_goals try dsimp only
      · have a1 : upd (upd (upd I9 21 z1) 13 z2) 2 z3 1 = I9 1 := by simp [upd]
        have a2 : va_up B9 28 (upd (B9 28) st.length (nI (rc k))) 0 = B9 0 := by simp [va_up]
        rw [a1, a2]; exact c1.up (by simp [upd]; exact n3) (by omega)
      · simp [upd]; exact n2
      · have := rep_push c3 (nI (rc k)) (k := st.length) (by simp)
        simpa [va_up] using this
      · simp [upd]; exact c4
      · simp [upd]; exact c5
      · simp [upd]; exact c6
      · simp [upd]; exact n1
      · simp [upd]; exact c8
      · simp [va_up]; exact c10
    have m0 : ¬ isT k → metp (k :: st) out = metp st out + 0 := fun e => by rw [metp_p, if_neg e]
    refine ⟨fun g => en 0 _ 0 rfl rfl (m0 (by have := l12.mp g; omega)), fun g => ⟨fun g2 => en 0 _ 0 rfl rfl (m0 (by have := l15.mp g2; omega)), fun g2 => en 1 _ 1 rfl rfl ?_⟩⟩
    have n12 : ¬ rc k < 12 := fun e => g (l12.mpr e)
    have n15 : ¬ 15 < rc k := fun e => g2 (l15.mpr e)
    rw [metp_p, if_pos (by omega)]
  have p20 : ¬ (isT k ∧ ¬ metp st out < 3) → wc_LassoFinderModel_push_20 (nI (rc k)) Post (nI (rc k)) I9 J9 B9 D9 := by
    intro hT
    have b5 : bnd k ≤ 5 := by unfold bnd; split <;> (try omega); split <;> (try omega); split <;> (try omega); split <;> (try omega); split <;> omega
    have q2 : nI (bnd k) = 2 ↔ bnd k = 2 := eqI rfl (y := 2) (b := 2) rfl (by omega) (by omega)
    have q3 : nI (bnd k) = 3 ↔ bnd k = 3 := eqI rfl (y := 3) (b := 3) rfl (by omega) (by omega)
    have kb : (bnd k = 2 → k = 2) ∧ (bnd k = 3 → k = 1) ∧ (k = 1 → bnd k = 3) ∧ (k = 2 → bnd k = 2) := by
      have : k = 0 ∨ k = 1 ∨ k = 2 ∨ k = 3 ∨ k = 4 ∨ k = 5 ∨ k = 6 ∨ k = 7 ∨ k = 8 := by omega
      rcases this with rfl | rfl | rfl | rfl | rfl | rfl | rfl | rfl | rfl <;> decide
    refine r_binds hk ⟨fun g => p50 ?_, fun g => r_binds hk ⟨fun g2 => p50 ?_, fun g2 => r_depth c2 c3 p7 (by omega) ?_⟩⟩
    · have := kb.1 (q2.mp g); omega
    · have := kb.2.1 (q3.mp g2); omega
    · have k1 : ¬ k = 1 := fun e => g2 (q3.mpr (kb.2.2.1 e))
      have k2 : ¬ k = 2 := fun e => g (q2.mpr (kb.2.2.2 e))
      have q8 : nI (dpt st) = 8 ↔ dpt st = 8 := eqI rfl (y := 8) (b := 8) rfl (by omega) (by omega)
      refine ⟨fun g3 => p50 ?_, fun g3 => ⟨Or.inl rfl, h0 (Or.inr ⟨k1, k2, ?_⟩)⟩⟩
      · have : ¬ dpt st = 8 := fun e => g3 (q8.mpr e)
        omega
      · have := q8.mp g3; omega
  refine ⟨fun g => p20 ?_, fun g => ⟨fun g2 => p20 ?_, fun g2 => ⟨fun g3 => ⟨Or.inl rfl, h0 (Or.inl ?_)⟩, fun g3 => p20 ?_⟩⟩⟩
  · have := l12.mp g; omega
  · have := l15.mp g2; omega
  · have n12 : ¬ rc k < 12 := fun e => g (l12.mpr e)
    have n15 : ¬ 15 < rc k := fun e => g2 (l15.mpr e)
    have := q21.mp g3
    exact ⟨by omega, by omega⟩
  · have : ¬ metp st out = 3 := fun e => g3 (q21.mpr e)
    omega
/-- an atom is put -/
theorem r_putA {Post : Int32 → (Nat → Int32) → (Nat → Int64) → (Nat → Nat → Int32) → (Nat → Nat → Int64) → Prop} {f : Nat → Int32} {n mc a : Nat} {st : List Nat} {out : List zIt} {x : zIt} (hx : 8 ≤ x.1) (hT : TY (B9 0) f (I9 2) (I9 1) a n) (h13 : I9 13 = nI st.length) (h28 : rep (B9 28) 0 (st.map (fun k => nI (rc k)))) (h19 : I9 19 = nI out.length) (h20 : I9 20 = nI (ntm out)) (h23 : I9 23 = nI (natm out)) (h21 : I9 21 = nI (metp st out)) (h11 : I9 11 = nI (mc + lnR (x :: out))) (hG : GO mc B9 out) (hX : (x.1 = 8 → B9 44 (natm out) = -1 ∧ B9 46 (natm out) = nI (mc + lnR out) ∧ B9 47 (natm out) = nI (mc + lnR out + x.2.2.2.length) ∧ rep (B9 24) (mc + lnR out) (x.2.2.2.map om)) ∧ (x.1 = 9 → B9 44 (natm out) = nI x.2.1 ∧ B9 45 (natm out) = nI x.2.2.1)) (h43 : rep (B9 43) 0 ((tms out).map nI)) (hl : out.length < 240) (hna : natm out < 8)
    (h : ∀ I' B', RF9 f n mc (2, a, st, x :: out) I' B' → (∀ k, k ∉ [19, 23] → I' k = I9 k) → (∀ k, k ≠ 41 → B' k = B9 k) → Post 1 I' J9 B' D9) : wc_LassoFinderModel_atom_274 Post I9 J9 B9 D9 := by
  have lt : I9 23 < 12 := (ltI h23 (y := 12) (b := 12) rfl (by omega) (by omega)).mpr (by omega)
  have fin : wc_LassoFinderModel_put_35 (I9 23) (fun I2 J2 B2 D2 => ∀ z3 : Int32, z3 = (I2 23) + 1 → Post 1 (upd I2 23 z3) J2 B2 D2) (I9 23) I9 J9 B9 D9 := by
    refine ⟨vin2 h19 hl (by omega), fun z1 e1 z3 e3 => ?_⟩
    have n1 := inI h19 e1
    have e23 : upd I9 19 z1 23 = nI (natm out) := by simp [upd]; exact h23
    have n3 := inI e23 e3
    rw [clI h19 (by omega)]
    refine h _ _ ⟨?_, ?_, ?_, ?_, ?_, ?_, ?_, ?_, ⟨hG.cg (fun j hj => ?_) (fun r hr j _ => by simp at hr; rcases hr with rfl | rfl | rfl | rfl <;> simp [va_up]) (fun j _ => by simp [va_up]), fun z => absurd z (by omega), fun _ => ?_, fun g => ?_, fun g => ?_⟩, ?_⟩ (fun j hj => by simp at hj; simp [upd, hj]) (fun j hj => by simp [va_up, hj])
    all_goals try dsimp only
    · have a1 : upd (upd I9 19 z1) 23 z3 2 = I9 2 := by simp [upd]
      have a2 : upd (upd I9 19 z1) 23 z3 1 = I9 1 := by simp [upd]
      have a3 : va_up B9 41 (upd (B9 41) out.length (I9 23)) 0 = B9 0 := by simp [va_up]
      rw [a1, a2, a3]; exact hT
    · simp [upd]; exact h13
    · simpa [va_up] using h28
    · simp [upd]; exact n1
    · have : ntm (x :: out) = ntm out := by
        show ntm out + (if isT x.1 then 1 else 0) = ntm out
        rw [if_neg (by omega), Nat.add_zero]
      rw [this]; simp [upd]; exact h20
    · rw [natm_a hx]; simp [upd]; exact n3
    · rw [metp_a hx]; simp [upd]; exact h21
    · simp [upd]; exact h11
    · have : ¬ j = out.length := by omega
      simp [va_up, upd, this]
    · simp [va_up, upd]; exact h23
    · simpa [va_up] using hX.1 g
    · simpa [va_up] using hX.2 g
    · have : tms (x :: out) = tms out := by
        show (if isT x.1 then out.length :: tms out else tms out) = tms out
        rw [if_neg (by omega)]
      rw [this]; simpa [va_up] using h43
  exact ⟨fun _ => fin, fun z => absurd lt z⟩
end ZN7
