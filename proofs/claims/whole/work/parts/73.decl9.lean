/-! Declarations: the reference's. -/
section ZD2
variable {I : Nat → Int32} {J : Nat → Int64} {B : Nat → Nat → Int32} {D : Nat → Nat → Int64}
theorem one_4 {c : Int32} : (one c 48 4 = -1 ↔ (one c 48 8 = -1 ∨ ¬ one c 48 8 ≤ 3)) ∧ (¬ one c 48 4 = -1 → one c 48 4 = one c 48 8) := by
  unfold one
  constructor
  · constructor
    · intro h
      split at h <;> grind
    · intro h
      split <;> grind
  · intro h
    split at h
    · exact absurd rfl h
    · split <;> grind
/-- the names, as the reference keeps them -/
def NR (B : Nat → Nat → Int32) (nv nc : Nat) (kd dg vn cn : Nat → Int32) : Prop :=
  (∀ j, j < 8 → (kd j = 0 ∨ kd j = 1 ∨ kd j = 2) ∧ (kd j = 1 → 0 ≤ dg j ∧ dg j < 8) ∧ (kd j = 2 → 0 ≤ dg j ∧ dg j ≤ 3)) ∧
  (∀ v, v < nv → ∃ j, j < 8 ∧ vn v = nI j ∧ kd j = 1 ∧ B 1 j = nI v ∧ B 3 v = dg j) ∧
  (∀ j, j < 8 → kd j = 1 → ∃ v, v < nv ∧ vn v = nI j ∧ B 1 j = nI v) ∧
  (∀ j, j < 8 → ¬ kd j = 1 → B 1 j = -1) ∧
  (∀ v, v < nc → ∃ j, j < 8 ∧ cn v = nI j ∧ kd j = 2 ∧ B 2 j = nI v ∧ B 4 v = dg j) ∧
  (∀ j, j < 8 → kd j = 2 → ∃ v, v < nc ∧ cn v = nI j ∧ B 2 j = nI v) ∧
  (∀ j, j < 8 → ¬ kd j = 2 → B 2 j = -1)
def DM (f : Nat → Int32) (n : Nat) (I : Nat → Int32) (B : Nat → Nat → Int32) (s : zD) : Prop := TY (B 0) f (I 2) (I 1) s.1 n ∧ I 6 = nI s.2.1 ∧ I 7 = nI s.2.2.1 ∧ s.2.1 ≤ 6 ∧ s.2.2.1 ≤ 2 ∧ NR B s.2.1 s.2.2.1 s.2.2.2.1 s.2.2.2.2.1 s.2.2.2.2.2.1 s.2.2.2.2.2.2
def FD9 (I : Nat → Int32) (B : Nat → Nat → Int32) (I' : Nat → Int32) (B' : Nat → Nat → Int32) : Prop := (∀ k, k ∉ [2, 6, 7] → I' k = I k) ∧ (∀ k, k ∉ [1, 2, 3, 4] → B' k = B k)
theorem NR.kn {B : Nat → Nat → Int32} {nv nc : Nat} {kd dg vn cn : Nat → Int32} (h : NR B nv nc kd dg vn cn) (h1 : nv ≤ 6) (h2 : nc ≤ 2) {j : Nat} (hj : j < 8) : (0 ≤ B 1 j ↔ kd j = 1) ∧ (0 ≤ B 2 j ↔ kd j = 2) := by
  obtain ⟨r0, r1, r2, r3, r4, r5, r6⟩ := h
  constructor
  · by_cases g : kd j = 1
    · obtain ⟨v, hv, _, e⟩ := r2 j hj g
      rw [e]; exact ⟨fun _ => g, fun _ => nI_pos' (by omega)⟩
    · rw [r3 j hj g]; exact ⟨fun w => absurd w (by decide), fun w => absurd w g⟩
  · by_cases g : kd j = 2
    · obtain ⟨v, hv, _, e⟩ := r5 j hj g
      rw [e]; exact ⟨fun _ => g, fun _ => nI_pos' (by omega)⟩
    · rw [r6 j hj g]; exact ⟨fun w => absurd w (by decide), fun w => absurd w g⟩
theorem NR.kn9 {B : Nat → Nat → Int32} {nv nc : Nat} {kd dg vn cn : Nat → Int32} (h : NR B nv nc kd dg vn cn) (h1 : nv ≤ 6) (h2 : nc ≤ 2) : kn9 B kd := by
  intro j hj
  have := h.kn h1 h2 hj
  rw [this.1, this.2]
  have h0 := (h.1 j hj).1
  constructor
  · rintro (w | w) <;> rw [w] <;> decide
  · intro w; exact h0.resolve_left w
theorem nI_clamp_one {c a : Int32} (h : ¬ one c a 8 = -1) : one c a 8 = nI (one c a 8).toNatClampNeg := by
  have h8 := one_in h
  have e : (one c a 8).toNatClampNeg = (one c a 8).toInt.toNat := rfl
  have := (one_lt h).1
  rw [← Int32.toInt_inj, nI_toInt (by omega)]
  have := Int32.le_iff_toInt_le.mp h8.1
  have e0 : (0 : Int32).toInt = 0 := rfl
  omega
/-- a variable more -/
theorem NR.var {B : Nat → Nat → Int32} {nv nc : Nat} {kd dg vn cn : Nat → Int32} (h : NR B nv nc kd dg vn cn) {j : Nat} (hj : j < 8) (h0 : kd j = 0) {d : Int32} (hd : 0 ≤ d ∧ d < 8) {B' : Nat → Nat → Int32} (e1 : B' 1 = upd (B 1) j (nI nv)) (e2 : B' 2 = B 2) (e3 : B' 3 = upd (B 3) nv d) (e4 : B' 4 = B 4) : NR B' (nv + 1) nc (upd kd j 1) (upd dg j d) (upd vn nv (nI j)) cn := by
  obtain ⟨r0, r1, r2, r3, r4, r5, r6⟩ := h
  refine ⟨fun i hi => ?_, fun v hv => ?_, fun i hi g => ?_, fun i hi g => ?_, fun v hv => ?_, fun i hi g => ?_, fun i hi g => ?_⟩
  · by_cases e : i = j
    · subst e
      have u1 : upd kd i 1 i = 1 := by simp [upd]
      have u2 : upd dg i d i = d := by simp [upd]
      rw [u1, u2]
      exact ⟨Or.inr (Or.inl rfl), fun _ => hd, fun w => absurd w (by decide)⟩
    · simp only [upd, e, if_false]; exact r0 i hi
  · by_cases e : v = nv
    · subst e
      exact ⟨j, hj, by simp [upd], by simp [upd], by rw [e1]; simp [upd], by rw [e3]; simp [upd]⟩
    · obtain ⟨i, hi, q1, q2, q3, q4⟩ := r1 v (by omega)
      have hij : ¬ i = j := fun z => by rw [z, h0] at q2; exact absurd q2 (by decide)
      refine ⟨i, hi, by simp only [upd, e, if_false]; exact q1, by simp only [upd, hij, if_false]; exact q2, by rw [e1]; simp only [upd, hij, if_false]; exact q3, by rw [e3]; simp only [upd, e, hij, if_false]; exact q4⟩
  · by_cases e : i = j
    · subst e
      exact ⟨nv, by omega, by simp [upd], by rw [e1]; simp [upd]⟩
    · simp only [upd, e, if_false] at g
      obtain ⟨v, hv, q1, q2⟩ := r2 i hi g
      have hvn : ¬ v = nv := by omega
      exact ⟨v, by omega, by simp only [upd, hvn, if_false]; exact q1, by rw [e1]; simp only [upd, e, if_false]; exact q2⟩
  · by_cases e : i = j
    · subst e; exact absurd (by simp [upd]) g
    · simp only [upd, e, if_false] at g
      rw [e1]; simp only [upd, e, if_false]; exact r3 i hi g
  · obtain ⟨i, hi, q1, q2, q3, q4⟩ := r4 v hv
    have hij : ¬ i = j := fun z => by rw [z, h0] at q2; exact absurd q2 (by decide)
    exact ⟨i, hi, q1, by simp only [upd, hij, if_false]; exact q2, by rw [e2]; exact q3, by rw [e4]; simp only [upd, hij, if_false]; exact q4⟩
  · have hij : ¬ i = j := fun z => by rw [z] at g; simp [upd] at g
    simp only [upd, hij, if_false] at g
    rw [e2]; exact r5 i hi g
  · rw [e2]
    by_cases hij : i = j
    · refine r6 i hi (fun z => ?_)
      rw [hij, h0] at z; exact absurd z (by decide)
    · simp only [upd, hij, if_false] at g; exact r6 i hi g
theorem NR.chan {B : Nat → Nat → Int32} {nv nc : Nat} {kd dg vn cn : Nat → Int32} (h : NR B nv nc kd dg vn cn) {j : Nat} (hj : j < 8) (h0 : kd j = 0) {d : Int32} (hd : 0 ≤ d ∧ d ≤ 3) {B' : Nat → Nat → Int32} (e1 : B' 1 = B 1) (e2 : B' 2 = upd (B 2) j (nI nc)) (e3 : B' 3 = B 3) (e4 : B' 4 = upd (B 4) nc d) : NR B' nv (nc + 1) (upd kd j 2) (upd dg j d) vn (upd cn nc (nI j)) := by
  obtain ⟨r0, r1, r2, r3, r4, r5, r6⟩ := h
  refine ⟨fun i hi => ?_, fun v hv => ?_, fun i hi g => ?_, fun i hi g => ?_, fun v hv => ?_, fun i hi g => ?_, fun i hi g => ?_⟩
  · by_cases e : i = j
    · subst e
      have u1 : upd kd i 2 i = 2 := by simp [upd]
      have u2 : upd dg i d i = d := by simp [upd]
      rw [u1, u2]
      exact ⟨Or.inr (Or.inr rfl), fun w => absurd w (by decide), fun _ => hd⟩
    · simp only [upd, e, if_false]; exact r0 i hi
  · obtain ⟨i, hi, q1, q2, q3, q4⟩ := r1 v hv
    have hij : ¬ i = j := fun z => by rw [z, h0] at q2; exact absurd q2 (by decide)
    exact ⟨i, hi, q1, by simp only [upd, hij, if_false]; exact q2, by rw [e1]; exact q3, by rw [e3]; simp only [upd, hij, if_false]; exact q4⟩
  · have hij : ¬ i = j := fun z => by rw [z] at g; simp [upd] at g
    simp only [upd, hij, if_false] at g
    rw [e1]; exact r2 i hi g
  · rw [e1]
    by_cases hij : i = j
    · refine r3 i hi (fun z => ?_)
      rw [hij, h0] at z; exact absurd z (by decide)
    · simp only [upd, hij, if_false] at g; exact r3 i hi g
  · by_cases e : v = nc
    · subst e
      exact ⟨j, hj, by simp [upd], by simp [upd], by rw [e2]; simp [upd], by rw [e4]; simp [upd]⟩
    · obtain ⟨i, hi, q1, q2, q3, q4⟩ := r4 v (by omega)
      have hij : ¬ i = j := fun z => by rw [z, h0] at q2; exact absurd q2 (by decide)
      refine ⟨i, hi, by simp only [upd, e, if_false]; exact q1, by simp only [upd, hij, if_false]; exact q2, by rw [e2]; simp only [upd, hij, if_false]; exact q3, by rw [e4]; simp only [upd, e, hij, if_false]; exact q4⟩
  · by_cases e : i = j
    · subst e
      exact ⟨nc, by omega, by simp [upd], by rw [e2]; simp [upd]⟩
    · simp only [upd, e, if_false] at g
      obtain ⟨v, hv, q1, q2⟩ := r5 i hi g
      have hvn : ¬ v = nc := by omega
      exact ⟨v, by omega, by simp only [upd, hvn, if_false]; exact q1, by rw [e2]; simp only [upd, e, if_false]; exact q2⟩
  · by_cases e : i = j
    · subst e; exact absurd (by simp [upd]) g
    · simp only [upd, e, if_false] at g
      rw [e2]; simp only [upd, e, if_false]; exact r6 i hi g
theorem q_decl9 {Post : Int32 → (Nat → Int32) → (Nat → Int64) → (Nat → Nat → Int32) → (Nat → Nat → Int64) → Prop} {f : Nat → Int32} {n : Nat} {s : zD} (hD : DM f n I B s)
    (kok : ∀ I' B' t, dst f n s t → FD9 I B I' B' → DM f n I' B' t → Post 1 I' J B' D)
    (kf : ∀ I' B' q, dfail f n s q → FD9 I B I' B' → I' 2 = nI q → Post 0 (upd I' 3 (I' 2)) J B' D) : wp_LassoFinderModel_declaration I J B D Post := by
  obtain ⟨a, nv, nc, kd, dg, vn, cn⟩ := s
  obtain ⟨hT, h6, h7, l6, l2, hR⟩ := hD
  dsimp only at hT h6 h7 l6 l2 hR
  have main : ∀ (ch : Int32) (I1 : Nat → Int32), (ch = 1 ∧ tkn f n a = 35) ∨ (ch = 0 ∧ ¬ tkn f n a = 35) → (∀ k, k ∉ [2] → I1 k = I k) → TY (B 0) f (I1 2) (I1 1) (dpl f n a) n → wc_LassoFinderModel_declaration_29 Post ch I1 J B D := by
    intro ch I1 hch hI hT1
    generalize hp : dpl f n a = p at hT1
    have fd : ∀ (I' : Nat → Int32), (∀ k, k ∉ [2, 6, 7] → I' k = I1 k) → ∀ (B' : Nat → Nat → Int32), (∀ k, k ∉ [1, 2, 3, 4] → B' k = B k) → FD9 I B I' B' := by
      intro I' h B' h2
      refine ⟨fun k hk => (h k hk).trans (hI k ?_), h2⟩
      simp at hk ⊢; exact hk.1
    have i6 : I1 6 = nI nv := by rw [hI 6 (by decide)]; exact h6
    have i7 : I1 7 = nI nc := by rw [hI 7 (by decide)]; exact h7
    refine q_from (by decide) hT1.tx ?_
    rw [hT1.tk]
    have bad : (one (tkn f n p) 97 8 = -1 ∨ ¬ kd (one (tkn f n p) 97 8).toNatClampNeg = 0 ∨ (tkn f n a = 35 ∧ 2 ≤ nc) ∨ (¬ tkn f n a = 35 ∧ 6 ≤ nv)) → wc_LassoFinderModel_declaration_84 Post I1 J B D := by
      intro w
      refine ⟨Or.inl rfl, kf I1 B p (Or.inl ⟨hp.symm, ?_⟩) (fd I1 (fun _ _ => rfl) B (fun _ _ => rfl)) hT1.1⟩
      dsimp only; rw [hp]; exact w
    refine ⟨fun g => bad (Or.inl (one_neg.mp g)), fun g => ?_⟩
    have g : ¬ one (tkn f n p) 97 8 = -1 := fun z => g (one_neg.mpr z)
    obtain ⟨gl, gv⟩ := one_lt g
    have hnI := nI_clamp_one g
    have hpn : p + 1 ≤ n := one_tk (Or.inr (Or.inr rfl)) g
    have hkn := hR.kn l6 l2 gl
    have hk0 := (hR.1 _ gl).1
    generalize hnm : one (tkn f n p) 97 8 = nm at *
    refine ⟨gv, fun z22 e22 => ⟨fun w => bad (Or.inr (Or.inl ?_)), fun w => ⟨gv, fun z24 e24 => ⟨fun w2 => bad (Or.inr (Or.inl ?_)), fun w2 => ?_⟩⟩⟩⟩
    · rw [e22] at w; rw [hkn.1.mp w]; decide
    · rw [e24] at w2; rw [hkn.2.mp w2]; decide
    have g2 : kd nm.toNatClampNeg = 0 := by
      rw [e22] at w; rw [e24] at w2
      rcases hk0 with z | z | z
      · exact z
      · exact absurd (hkn.1.mpr z) w
      · exact absurd (hkn.2.mpr z) w2
    -- behind the name
    have hroom : ((ch = 1 ∧ nc < 2) ∨ (ch = 0 ∧ nv < 6)) → wc_LassoFinderModel_declaration_89 Post ch nm I1 J B D := by
      intro hr z4 e4
      have n4 : z4 = nI (p + 1) := inI hT1.1 e4
      subst n4
      have hT2 : TY (B 0) f (upd I1 2 (nI (p + 1)) 2) (upd I1 2 (nI (p + 1)) 1) (p + 1) n := hT1.up rfl hpn
      refine ⟨fun gc => ?_, fun gc => ?_⟩
      · have hc : ch = 0 ∧ ¬ tkn f n a = 35 := hch.resolve_left (fun z => by rw [z.1] at gc; exact absurd gc (by decide))
        have hv : nv < 6 := hr.elim (fun z => by rw [z.1] at gc; exact absurd gc (by decide)) (fun z => z.2)
        refine ⟨gv, vin2 i6 hv (by omega), ?_⟩
        rw [clI i6 (by omega)]
        -- ";" of a variable
        have w249 : ∀ (dgt : Int32) (I3 : Nat → Int32) (B3 : Nat → Nat → Int32) (p3 : Nat), 0 ≤ dgt ∧ dgt < 8 → (∀ k, k ∉ [2] → I3 k = I1 k) → B3 1 = upd (B 1) nm.toNatClampNeg (nI nv) → B3 3 = upd (B 3) nv dgt → (∀ k, k ∉ [1, 3] → B3 k = B k) → TY (B3 0) f (I3 2) (I3 1) p3 n → (tkn f n p3 = 59 → dst f n (a, nv, nc, kd, dg, vn, cn) (p3 + 1, nv + 1, nc, upd kd nm.toNatClampNeg 1, upd dg nm.toNatClampNeg dgt, upd vn nv nm, cn)) → (¬ tkn f n p3 = 59 → dfail f n (a, nv, nc, kd, dg, vn, cn) p3) → wc_LassoFinderModel_declaration_249 Post I3 J B3 D := by
          intro dgt I3 B3 p3 hdg hI3 b1 b3 hB3 hT3 hd hf z3 e3
          have i63 : I3 6 = nI nv := by rw [hI3 6 (by decide)]; exact i6
          have n3 := inI i63 e3
          refine q_takes (f := f) (a := p3) (n := n) ?_ (fun w => ⟨Or.inr rfl, ?_⟩) (fun w => ⟨Or.inl rfl, ?_⟩)
          · exact hT3
          · refine kok _ _ _ (hd w) (fd _ (fun k hk => ?_) _ (fun k hk => ?_)) ⟨?_, ?_, ?_, ?_, ?_, ?_⟩
            · simp at hk; simp only [upd, hk, if_false]; exact hI3 k (by simp [hk])
            · exact hB3 k (by simp at hk ⊢; omega)
            · exact hT3.up rfl (tkn_le w (by decide))
            · simp [upd, n3]
            · show I3 7 = _
              rw [hI3 7 (by decide)]; exact i7
            · dsimp only; omega
            · exact l2
            · dsimp only
              have hnr := NR.var (d := dgt) hR gl g2 hdg b1 (hB3 2 (by decide)) b3 (hB3 4 (by decide))
              rw [← hnI] at hnr; exact hnr
          · refine kf _ _ p3 (hf w) (fd _ (fun k hk => ?_) _ (fun k hk => ?_)) hT3.1
            · simp at hk; simp only [upd, hk, if_false]; exact hI3 k (by simp [hk])
            · exact hB3 k (by simp at hk ⊢; omega)
        have hT2' : TY ((va_up (va_up B 1 (upd (B 1) nm.toNatClampNeg (I1 6))) 3 (upd (B 3) nv 0)) 0) f (upd I1 2 (nI (p + 1)) 2) (upd I1 2 (nI (p + 1)) 1) (p + 1) n := hT2
        have hI2 : ∀ k, k ∉ [2] → (upd I1 2 (nI (p + 1))) k = I1 k := by
          intro k hk
          have : ¬ k = 2 := by simpa using hk
          simp [upd, this]
        refine q_here hT2'.tx ?_
        rw [hT2'.tk]
        refine ⟨fun w3 => ?_, fun w3 => ?_⟩
        · refine w249 0 _ _ (p + 1) (by decide) hI2 (by simp [va_up, i6]) (by simp [va_up]) (fun k hk => by simp at hk; simp [va_up, hk]) hT2' (fun w4 => ?_) (fun w4 => ?_)
          · refine ⟨by dsimp only; rw [hp, hnm]; exact g, by dsimp only; rw [hp, hnm]; exact g2, Or.inr (Or.inr ?_)⟩
            dsimp only; rw [hp, hnm]
            exact ⟨hc.2, hv, w4, rfl⟩
          · right; right
            dsimp only; rw [hp, hnm]
            exact ⟨g, g2, hc.2, hv, Or.inr ⟨rfl, w3, w4⟩⟩
        · intro z8 e8
          have n8 : z8 = nI (p + 2) := inI (k := p + 1) rfl e8
          subst n8
          have hT3 : TY ((va_up (va_up B 1 (upd (B 1) nm.toNatClampNeg (I1 6))) 3 (upd (B 3) nv 0)) 0) f (upd (upd I1 2 (nI (p + 1))) 2 (nI (p + 2)) 2) (upd (upd I1 2 (nI (p + 1))) 2 (nI (p + 2)) 1) (p + 2) n := hT2'.up rfl (tkn_le w3 (by decide))
          have hI3 : ∀ k, k ∉ [2] → (upd (upd I1 2 (nI (p + 1))) 2 (nI (p + 2))) k = I1 k := by
            intro k hk
            have : ¬ k = 2 := by simpa using hk
            simp [upd, this]
          refine q_from (by decide) hT3.tx ?_
          rw [hT3.tk]
          refine ⟨fun w4 => ?_, fun w4 => ⟨Or.inl rfl, ?_⟩⟩
          · have w5 : ¬ one (tkn f n (p + 2)) 48 8 = -1 := fun z => by rw [z] at w4; exact absurd w4 (by decide)
            refine q_from (by decide) hT3.tx ?_
            rw [hT3.tk]
            have i63 : (upd (upd I1 2 (nI (p + 1))) 2 (nI (p + 2))) 6 = nI nv := i6
            refine ⟨vin2 i63 hv (by omega), fun z12 e12 => ?_⟩
            have n12 : z12 = nI (p + 3) := inI (k := p + 2) rfl e12
            subst n12
            rw [clI i63 (by omega)]
            refine w249 (one (tkn f n (p + 2)) 48 8) _ _ (p + 3) (one_in w5) (fun k hk => ?_) (by simp [va_up, i6]) ?_ (fun k hk => by simp at hk; simp [va_up, hk]) (hT3.up rfl (one_tk (Or.inl rfl) w5)) (fun w6 => ?_) (fun w6 => ?_)
            · have : ¬ k = 2 := by simpa using hk
              simp [upd, this]
            · simp only [va_up, if_true]
              funext k
              by_cases e : k = nv <;> simp [upd, e]
            · refine ⟨by dsimp only; rw [hp, hnm]; exact g, by dsimp only; rw [hp, hnm]; exact g2, Or.inr (Or.inl ?_)⟩
              dsimp only; rw [hp, hnm]
              exact ⟨hc.2, hv, w3, w5, w6, rfl⟩
            · right; right
              dsimp only; rw [hp, hnm]
              exact ⟨g, g2, hc.2, hv, Or.inl ⟨w3, Or.inr ⟨rfl, w5, w6⟩⟩⟩
          · have w5 : one (tkn f n (p + 2)) 48 8 = -1 := by
              rcases @one_m (tkn f n (p + 2)) 48 8 with z | z
              · exact z
              · exact absurd z.1 w4
            refine kf _ _ (p + 2) ?_ (fd _ (fun k hk => hI3 k (by simp at hk ⊢; exact hk.1)) _ (fun k hk => ?_)) rfl
            · right; right
              dsimp only; rw [hp, hnm]
              exact ⟨g, g2, hc.2, hv, Or.inl ⟨w3, Or.inl ⟨rfl, w5⟩⟩⟩
            · simp at hk; simp [va_up, hk]
      · have hc : ch = 1 ∧ tkn f n a = 35 := hch.resolve_right (fun z => gc z.1)
        have hv : nc < 2 := hr.elim (fun z => z.2) (fun z => absurd z.1 gc)
        have hI2 : ∀ k, k ∉ [2] → (upd I1 2 (nI (p + 1))) k = I1 k := by
          intro k hk
          have : ¬ k = 2 := by simpa using hk
          simp [upd, this]
        refine q_from (by decide) hT2.tx ?_
        rw [hT2.tk]
        have h4 := @one_4 (tkn f n (p + 1))
        refine ⟨fun w3 => ⟨gv, ?_⟩, fun w3 => ⟨Or.inl rfl, ?_⟩⟩
        · have w4 : ¬ one (tkn f n (p + 1)) 48 4 = -1 := fun z => by rw [z] at w3; exact absurd w3 (by decide)
          have w5 : ¬ one (tkn f n (p + 1)) 48 8 = -1 := fun z => w4 (h4.1.mpr (Or.inl z))
          have w6 : one (tkn f n (p + 1)) 48 8 ≤ 3 := Decidable.byContradiction (fun z => w4 (h4.1.mpr (Or.inr z)))
          have i72 : (upd I1 2 (nI (p + 1))) 7 = nI nc := i7
          have hT2' : TY ((va_up B 2 (upd (B 2) nm.toNatClampNeg (upd I1 2 (nI (p + 1)) 7))) 0) f (upd I1 2 (nI (p + 1)) 2) (upd I1 2 (nI (p + 1)) 1) (p + 1) n := hT2
          refine q_from (by decide) hT2'.tx ?_
          rw [hT2'.tk, h4.2 w4]
          refine ⟨vin2 i72 hv (by omega), fun z17 e17 z18 e18 => ?_⟩
          have n17 := inI i72 e17
          have n18 : z18 = nI (p + 2) := inI (k := p + 1) rfl e18
          rw [clI i72 (by omega)]
          have hT3 : TY ((va_up (va_up B 2 (upd (B 2) nm.toNatClampNeg (upd I1 2 (nI (p + 1)) 7))) 4 (upd (va_up B 2 (upd (B 2) nm.toNatClampNeg (upd I1 2 (nI (p + 1)) 7)) 4) nc (one (tkn f n (p + 1)) 48 8))) 0) f (upd (upd (upd I1 2 (nI (p + 1))) 7 z17) 2 z18 2) (upd (upd (upd I1 2 (nI (p + 1))) 7 z17) 2 z18 1) (p + 2) n := hT2.up n18 (one_tk (Or.inl rfl) w5)
          refine q_takes hT3 (fun w => ⟨Or.inr rfl, ?_⟩) (fun w => ⟨Or.inl rfl, ?_⟩)
          · refine kok _ _ (p + 3, nv, nc + 1, upd kd nm.toNatClampNeg 2, upd dg nm.toNatClampNeg (one (tkn f n (p + 1)) 48 8), vn, upd cn nc nm) ?_ (fd _ (fun k hk => ?_) _ (fun k hk => ?_)) ⟨?_, ?_, ?_, ?_, ?_, ?_⟩
            · refine ⟨by dsimp only; rw [hp, hnm]; exact g, by dsimp only; rw [hp, hnm]; exact g2, Or.inl ?_⟩
              dsimp only; rw [hp, hnm]
              exact ⟨hc.2, hv, w5, w6, w, rfl⟩
            · simp at hk; simp [upd, hk]
            · simp at hk; simp [va_up, hk]
            · exact hT3.up rfl (tkn_le w (by decide))
            · simpa [upd] using i6
            · simp [upd, n17]
            · exact l6
            · dsimp only; omega
            · dsimp only
              have hnr := NR.chan (d := one (tkn f n (p + 1)) 48 8) (B' := (va_up (va_up B 2 (upd (B 2) nm.toNatClampNeg (upd I1 2 (nI (p + 1)) 7))) 4 (upd (va_up B 2 (upd (B 2) nm.toNatClampNeg (upd I1 2 (nI (p + 1)) 7)) 4) nc (one (tkn f n (p + 1)) 48 8)))) hR gl g2 ⟨(one_in w5).1, w6⟩ (by simp [va_up]) (by simp [va_up, upd, i7]) (by simp [va_up]) (by simp [va_up])
              rw [← hnI] at hnr; exact hnr
          · refine kf _ _ (p + 2) ?_ (fd _ (fun k hk => ?_) _ (fun k hk => ?_)) n18
            · right; left
              dsimp only; rw [hp, hnm]
              exact ⟨g, g2, hc.2, hv, Or.inr ⟨rfl, w5, w6, w⟩⟩
            · simp at hk; simp [upd, hk]
            · simp at hk; simp [va_up, hk]
        · have w4 : one (tkn f n (p + 1)) 48 4 = -1 := by
            rcases @one_m (tkn f n (p + 1)) 48 4 with z | z
            · exact z
            · exact absurd z.1 w3
          refine kf _ _ (p + 1) ?_ (fd _ (fun k hk => hI2 k (by simp at hk ⊢; exact hk.1)) _ (fun _ _ => rfl)) rfl
          right; left
          dsimp only; rw [hp, hnm]
          exact ⟨g, g2, hc.2, hv, Or.inl ⟨rfl, h4.1.mp w4⟩⟩
    have e6 : I1 6 = 6 ↔ nv = 6 := eqI i6 (y := 6) (b := 6) rfl (by omega) (by omega)
    have e7 : I1 7 = 2 ↔ nc = 2 := eqI i7 (y := 2) (b := 2) rfl (by omega) (by omega)
    refine ⟨fun gc => ?_, fun gc => ?_⟩
    · have hc := hch.resolve_left (fun z => by rw [z.1] at gc; exact absurd gc (by decide))
      refine ⟨fun w => hroom (Or.inr ⟨hc.1, ?_⟩), fun w => bad (Or.inr (Or.inr (Or.inr ⟨hc.2, by have := e6.mp w; omega⟩)))⟩
      have : ¬ nv = 6 := fun z => w (e6.mpr z)
      omega
    · have hc := hch.resolve_right (fun z => gc z.1)
      refine ⟨fun w => hroom (Or.inl ⟨hc.1, ?_⟩), fun w => bad (Or.inr (Or.inr (Or.inl ⟨hc.2, by have := e7.mp w; omega⟩)))⟩
      have : ¬ nc = 2 := fun z => w (e7.mpr z)
      omega
  refine q_here hT.tx ?_
  rw [hT.tk]
  refine ⟨fun g => ⟨fun _ => ?_, fun z => absurd rfl z⟩, fun g => ⟨fun z => absurd z (by decide), fun _ z30 e30 => ?_⟩⟩
  · refine main 0 I (Or.inr ⟨rfl, g⟩) (fun _ _ => rfl) ?_
    unfold dpl; rw [if_neg g]; exact hT
  · have n30 : z30 = nI (a + 1) := inI hT.1 e30
    refine main 1 _ (Or.inl ⟨rfl, g⟩) (fun k hk => ?_) ?_
    · have : ¬ k = 2 := by simpa using hk
      simp [upd, this]
    · unfold dpl; rw [if_pos g]; exact hT.up n30 (tkn_le g (by decide))
end ZD2
