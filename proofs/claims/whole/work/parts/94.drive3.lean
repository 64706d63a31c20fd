/-! Statements: a process is read by the reference. -/
section ZG3
variable {I : Nat → Int32} {J : Nat → Int64} {B : Nat → Nat → Int32} {D : Nat → Nat → Int64} {I9 : Nat → Int32} {J9 : Nat → Int64} {B9 : Nat → Nat → Int32} {D9 : Nat → Nat → Int64}
theorem GB_bad {Post : Int32 → (Nat → Int32) → (Nat → Int64) → (Nat → Nat → Int32) → (Nat → Nat → Int64) → Prop} {f : Nat → Int32} {n : Nat} {kd : Nat → Int32} {base p q bs0 : Nat} {I90 : Nat → Int32} {B90 : Nat → Nat → Int32} {u : zBo} (hB : BI f n kd u) (h : bfail f n kd u q) (kf : ∀ I9' B9', FW I90 B90 I9' B9' → I9' 3 = nI q → Post 0 I9' J9 B9' D9) : GB J9 D9 Post f n kd base p bs0 I90 B90 u := by
  obtain ⟨a, bk, nd, lt, fr, I, J, B, D, ⟨ha, ha1⟩, h⟩ := h
  rcases h with ⟨rfl, h⟩ | ⟨rfl, hq, h1, h2, h3, h4⟩
  · refine ⟨0, fun _ => ⟨1, fun I9 B9 t a2 ea ha2 ht hR hF hI => ?_⟩, fun z => absurd (show (0 : Nat) = 1 from z) (by decide), fun z => absurd (show (0 : Nat) = 1 from z) (by decide)⟩
    obtain ⟨a3, sz3, pt3, bs3, ln3, cl3, hG⟩ := hR.get hB
    have e3 : a3 = a := nI_inj (by have := hG.2.2.1.2.2.2.2; omega) (by omega) (hG.1.1.symm.trans ha)
    subst e3
    have hTy := hG.2.1.1
    refine q_here hTy.tx ?_
    rw [hTy.tk]
    rcases h with ⟨w1, w2, w3⟩ | h
    · refine ⟨fun z => absurd w1 z, fun _ => r_label_bad hG w1 w3 ?_⟩
      intro I9' B9' k1 k2
      exact ⟨fun z => absurd rfl z, fun _ => kf I9' B9' (k1.of hI hF) (by rw [k2, w2])⟩
    · have h58 : ¬ tkn f n a3 = 58 := by
        rcases h with w | w | w | w | w | w
        · rw [w.1]; decide
        · rw [w.1]; decide
        · rw [w.1]; decide
        · rw [w.1]; decide
        · rw [w.1]; decide
        · exact w.1
      refine ⟨fun _ => r_stmt_bad hG h ?_, fun z => absurd z h58⟩
      intro I9' B9' k1 k2
      exact ⟨fun z => absurd rfl z, fun _ => kf I9' B9' (k1.of hI hF) k2⟩
  · refine ⟨0, fun z => absurd (show (1 : Nat) = 0 from z) (by decide), fun _ => ⟨2, fun I9 B9 t a2 ea ha2 ht hR hF hI => ?_⟩, fun _ a2 ea ha2 z I9' B9' k1 k2 => ?_⟩
    · obtain ⟨a3, sz3, pt3, bs3, ln3, cl3, hG⟩ := hR.get hB
      have e3 : a3 = a := nI_inj (by have := hG.2.2.1.2.2.2.2; omega) (by omega) (hG.1.1.symm.trans ha)
      subst e3
      have hTy := hG.2.1.1
      refine r_turn hG (fun z => absurd z h1) (fun _ => ?_)
      refine r_turn2 hG (fun z => absurd z h2) (fun z1 z2 => absurd ⟨z1, z2⟩ h3) (fun z1 z2 => absurd ⟨z1, z2⟩ h4) (fun _ _ _ => ?_)
      exact kf _ _ (FW.of hI hF FW.rf3) (by simp [upd, hTy.1, hq])
    · have e2 : a2 = a := nI_inj (by omega) (by omega) (ea.symm.trans ha)
      exact kf I9' B9' k1 (by rw [k2, e2, hq])
theorem GB_ok {Post : Int32 → (Nat → Int32) → (Nat → Int64) → (Nat → Nat → Int32) → (Nat → Nat → Int64) → Prop} {f : Nat → Int32} {n : Nat} {kd : Nat → Int32} {base p a bk bs0 : Nat} {nd lt : Int32} {I90 : Nat → Int32} {B90 : Nat → Nat → Int32} (hB : BI f n kd (1, [(bk, nd, lt)], I, J, B, D)) (ha : I 5 = nI a) (ha1 : a ≤ 1000) (h125 : tkn f n a = 125)
    (ke : ∀ I9 B9, RB f n kd base p (1, [(bk, nd, lt)], I, J, B, D) I9 B9 → FB base p bs0 B90 B9 → FI I90 I9 → wp_LassoFinderModel_jumps (upd I9 2 (nI (a + 1))) J9 B9 D9 (nI base) (fun r I J B D => (r = 0 ∨ r = 1) ∧ Post r I J B D)) : GB J9 D9 Post f n kd base p bs0 I90 B90 (1, [(bk, nd, lt)], I, J, B, D) := by
  refine ⟨0, fun z => absurd (show (1 : Nat) = 0 from z) (by decide), fun _ => ⟨2, fun I9 B9 t a2 ea ha2 ht hR hF hI => ?_⟩, fun _ a2 ea ha2 z => ?_⟩
  · obtain ⟨a3, sz3, pt3, bs3, ln3, cl3, hG⟩ := hR.get hB
    have e3 : a3 = a := nI_inj (by have := hG.2.2.1.2.2.2.2; omega) (by omega) (hG.1.1.symm.trans ha)
    subst e3
    refine r_turn hG (fun z => ?_) (fun _ => ?_)
    · rcases z with z | z <;> (rw [h125] at z; exact absurd z.1 (by decide))
    · refine r_turn2 hG (fun z => by rw [h125] at z; exact absurd z (by decide)) (fun z => by rw [h125] at z; exact absurd z (by decide)) (fun _ _ => ke I9 B9 hR hF hI) (fun _ _ z => absurd ⟨h125, rfl⟩ z)
  · have e2 : a2 = a := nI_inj (by omega) (by omega) (ea.symm.trans ha)
    rw [e2, h125] at z; exact absurd (by decide) z
theorem GB_star {Post : Int32 → (Nat → Int32) → (Nat → Int64) → (Nat → Nat → Int32) → (Nat → Nat → Int64) → Prop} {f : Nat → Int32} {n : Nat} {kd : Nat → Int32} {base p bs0 : Nat} {I90 : Nat → Int32} {B90 : Nat → Nat → Int32} {P : zBo → Prop} {u v : zBo} (hPs : ∀ x y, BI f n kd x → bst f n kd x y → P x → P y) (hPb : ∀ x, P x → ∀ bs, x.2.2.1 9 = nI bs → bs ≤ 1000 → bs0 ≤ bs) (hB : BI f n kd u) (hP : P u) (h : star (bst f n kd) u v) (hv : GB J9 D9 Post f n kd base p bs0 I90 B90 v) : GB J9 D9 Post f n kd base p bs0 I90 B90 u := by
  have := h (fun v => (BI f n kd v ∧ P v) ∧ (GB J9 D9 Post f n kd base p bs0 I90 B90 v → GB J9 D9 Post f n kd base p bs0 I90 B90 u)) ⟨⟨hB, hP⟩, fun z => z⟩ (fun x y c g => ⟨⟨BI_step c.1.1 g, hPs x y c.1.1 g c.1.2⟩, fun z => c.2 (GB_step c.1.1 g (hPb x c.1.2) z)⟩)
  exact this.2 hv
/-- the reference reads a process as the class has -/
theorem r_body {Post : Int32 → (Nat → Int32) → (Nat → Int64) → (Nat → Nat → Int32) → (Nat → Nat → Int64) → Prop} {f : Nat → Int32} {n : Nat} {kd : Nat → Int32} {base p a bs0 : Nat} (hB : BI f n kd (0, [(0, -1, -1)], I, J, B, D)) (ha : I 5 = nI a) (ha1 : a ≤ 1000) (h8 : I9 8 = nI base) (h10 : I9 10 = nI p) (hp : p < 4)
    (hR : ∀ I9' B9', I9' 12 = nI 0 → (∀ j, j ≠ 12 → I9' j = I9 j) → B9' 25 = upd (B9 25) 0 0 → B9' 26 = upd (B9 26) 0 (-1) → B9' 27 = upd (B9 27) 0 (-1) → B9' 20 = upd (B9 20) p 0 → B9' 21 = upd (B9 21) p (nI base) → (∀ j, j ∉ [20, 21, 25, 26, 27] → B9' j = B9 j) → RB f n kd base p (0, [(0, -1, -1)], I, J, B, D) I9' B9')
    (hG : ∀ I9' B9', I9' 12 = nI 0 → (∀ j, j ≠ 12 → I9' j = I9 j) → B9' 21 = upd (B9 21) p (nI base) → B9' 20 = upd (B9 20) p 0 → (∀ j, j ∉ [20, 21, 25, 26, 27] → B9' j = B9 j) → GB J9 D9 Post f n kd base p bs0 I9' B9' (0, [(0, -1, -1)], I, J, B, D)) : wp_LassoFinderModel_body I9 J9 B9 D9 Post := by
  have hv : vp_in 0 8 := vin2 (k := 0) rfl (by omega) (by omega)
  have hv10 : vp_in (I9 10) 5 := vin2 h10 (by omega) (by omega)
  have hc : (0 : Int32).toNatClampNeg = 0 := rfl
  have hc10 : (I9 10).toNatClampNeg = p := clI h10 (by omega)
  refine ⟨hv, hv, hv, hv10, hv10, ?_⟩
  rw [hc, hc10, h8]
  generalize hBe : (va_up (va_up (va_up (va_up (va_up B9 25 (upd (B9 25) 0 0)) 26 (upd (B9 26) 0 (-1))) 27 (upd (B9 27) 0 (-1))) 20 (upd (B9 20) p 0)) 21 (upd (B9 21) p (nI base))) = B9'
  have e25 : B9' 25 = upd (B9 25) 0 0 := by rw [← hBe]; simp [va_up]
  have e26 : B9' 26 = upd (B9 26) 0 (-1) := by rw [← hBe]; simp [va_up]
  have e27 : B9' 27 = upd (B9 27) 0 (-1) := by rw [← hBe]; simp [va_up]
  have e20 : B9' 20 = upd (B9 20) p 0 := by rw [← hBe]; simp [va_up]
  have e21 : B9' 21 = upd (B9 21) p (nI base) := by rw [← hBe]; simp [va_up]
  have ek : ∀ j, j ∉ [20, 21, 25, 26, 27] → B9' j = B9 j := by intro j hj; simp at hj; rw [← hBe]; simp [va_up, hj]
  have i12 : (upd I9 12 0) 12 = nI 0 := by simp [upd]; rfl
  have ik : ∀ j, j ≠ 12 → (upd I9 12 0) j = I9 j := by intro j hj; simp [upd, hj]
  have hR' := hR (upd I9 12 0) B9' i12 ik e25 e26 e27 e20 e21 ek
  obtain ⟨m, h0, _⟩ := hG (upd I9 12 0) B9' i12 ik e21 e20 ek
  obtain ⟨m64, hw⟩ := h0 rfl
  obtain ⟨a3, sz3, pt3, bs3, ln3, cl3, hGG⟩ := hR'.get hB
  have hTy := hGG.2.1.1
  refine ⟨m + 1, fun z => ?_, fun _ => ⟨m64, hw _ B9' 0 a ha ha1 (by omega) hR' FB.rf (fun _ _ => rfl)⟩⟩
  have := (ltI hTy.2.1 (y := 0) (b := 0) rfl (by have := hTy.2.2; omega) (by omega)).mp z; omega
end ZG3
