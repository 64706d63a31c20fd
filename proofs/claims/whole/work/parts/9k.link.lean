/-! The reference's ways: link. -/
section ZI7
variable {I : Nat → Int32} {J : Nat → Int64} {B : Nat → Nat → Int32} {D : Nat → Nat → Int64} {I9 : Nat → Int32} {J9 : Nat → Int64} {B9 : Nat → Nat → Int32} {D9 : Nat → Nat → Int64}
theorem RT_cg {base q pt sz : Nat} {Bq B9' : Nat → Nat → Int32} (h : RT base q pt sz Bq B9) (e : ∀ k, k ∈ [5, 6, 7, 8, 9, 10, 11, 12, 16, 20, 22, 23] → B9' k = B9 k) : RT base q pt sz Bq B9' := by
  unfold RT TR at *
  rw [e 5 (by decide), e 6 (by decide), e 7 (by decide), e 8 (by decide), e 9 (by decide), e 10 (by decide), e 11 (by decide), e 12 (by decide), e 16 (by decide), e 20 (by decide), e 22 (by decide), e 23 (by decide)]
  exact h
theorem ins_neg {base sz : Nat} {v : Int32} (hz : sz ≤ 140) (hb : base ≤ 1000) (h : v = -4 ∨ v = -3 ∨ v = -2 ∨ ∃ k, k < sz ∧ v = nI k ∧ (B 18 k = 0 ∨ B 18 k = 1 ∨ B 18 k = 2)) : (0 ≤ ins base v ↔ ¬ v < 0) := by
  rcases h with rfl | rfl | rfl | ⟨k, hk, rfl, _⟩
  · exact ⟨fun z => absurd z (by rw [show ins base (-4) = -3 from rfl]; decide), fun z => absurd (by decide) z⟩
  · exact ⟨fun z => absurd z (by rw [show ins base (-3) = -2 from rfl]; decide), fun z => absurd (by decide) z⟩
  · exact ⟨fun z => absurd z (by rw [show ins base (-2) = -1 from rfl]; decide), fun z => absurd (by decide) z⟩
  · rw [ins_n (by omega)]
    exact ⟨fun _ => nI_pos (by omega), fun _ => Int32.not_lt.mp (nI_pos (by omega))⟩
theorem q_pointOf {Post : Int32 → (Nat → Int32) → (Nat → Int64) → (Nat → Nat → Int32) → (Nat → Nat → Int64) → Prop} {x : Int32} {base p pt sz : Nat} (hR : RT base p pt sz B B9) (hT : TT sz B) (hx : okX x sz) (h : Post (pnt B (nI pt) (stl B sz x)) I9 J9 B9 D9) : wp_LassoFinderModel_pointOf I9 J9 B9 D9 (nI p) (ins base (stl B sz x)) Post := by
  have hz := hT.1
  have hb := hR.2.2.2.2.1
  have hp := hR.2.2.2.2.2.1
  have hok := stl_ok hT hx
  have hneg := ins_neg (base := base) hz (by omega) hok
  unfold pnt at h
  refine ⟨fun g => ?_, fun g => ⟨vin2 rfl (by omega) (by omega), fun z3 e3 => ?_⟩⟩
  · have g' := hneg.mp g
    rw [if_neg g'] at h
    obtain ⟨k, hk, ek, _⟩ := (hok.resolve_left (fun z => g' (by rw [z]; decide))).resolve_left (fun z => g' (by rw [z]; decide)) |>.resolve_left (fun z => g' (by rw [z]; decide))
    rw [ek, ins_n (by omega)]
    refine ⟨vin2 rfl (by omega) (by omega), fun z2 e2 => ?_⟩
    rw [clI (x := nI (base + k)) rfl (by omega), (hR.1 k hk).2.2.2.2.1] at e2
    rw [ek, clI (x := nI k) rfl (by omega)] at h
    rw [e2]; exact h
  · have g' : stl B sz x < 0 := Classical.not_not.mp (fun z => g (hneg.mpr z))
    rw [if_pos g'] at h
    rw [clI (x := nI p) rfl (by omega), hR.2.2.2.1] at e3
    rw [e3]; exact h
/-- up through the statements that it leads -/
theorem q_link_l {K23 : Int32 → (Nat → Int32) → (Nat → Int64) → (Nat → Nat → Int32) → (Nat → Nat → Int64) → Prop} {Post : (Nat → Int32) → (Nat → Int64) → (Nat → Nat → Int32) → (Nat → Nat → Int64) → Prop} {base q pt sz b k0 : Nat} {Bq : Nat → Nat → Int32} {dp : Nat → Nat} (hR : RT base q pt sz Bq B9) (hTT : TT sz Bq) (hT : ∀ k, k < sz → T1 Bq sz dp k) (hk0 : k0 < sz) : ∀ (m k : Nat) (D9 : Nat → Nat → Int64), k < sz → dp k ≤ m →
    (∀ D9', (∀ j, D9' 0 j = cuv Bq q (bitL b) m (if Bq 22 k = 0 then -1 else Bq 19 k) j (D9 0 j)) → (∀ r, r ≠ 0 → D9' r = D9 r) → K23 (nI (b + 1)) I9 J9 B9 D9') → wl_LassoFinderModel_link_92 K23 Post (m + 1) (nI b) (nI (base + k0)) (nI (base + k)) I9 J9 B9 D9 := by
  have hz := hTT.1
  have hb := hR.2.2.2.2.1
  have hp := hR.2.2.2.2.2.1
  have hpt := hR.2.2.2.2.2.2
  intro m
  induction m with
  | zero =>
    intro k D9 hk hd h
    have hv : vp_in (nI (base + k)) 140 := vin2 rfl (by omega) (by omega)
    have hc : (nI (base + k)).toNatClampNeg = base + k := clI rfl (by omega)
    obtain ⟨r1, r2, r3, r4, r5, r6⟩ := hR.1 k hk
    have t1 := (hT k hk).1
    have e19 : Bq 19 k = -1 := by
      rcases t1 with w | ⟨j, hj, ej, ed, _⟩
      · exact w.1
      · omega
    have fin : K23 (nI (b + 1)) I9 J9 B9 D9 := h D9 (fun j => rfl) (fun _ _ => rfl)
    refine ⟨hv, fun z2 e2 => ⟨fun _ z1 e1 => by rw [inI rfl e1]; exact fin, fun _ => ⟨hv, fun z4 e4 => ⟨fun _ z1 e1 => by rw [inI rfl e1]; exact fin, fun z => absurd ?_ z⟩⟩⟩⟩
    rw [e4, hc, r1, e19, off_m]; decide
  | succ m ih =>
    intro k D9 hk hd h
    have hv : vp_in (nI (base + k)) 140 := vin2 rfl (by omega) (by omega)
    have hc : (nI (base + k)).toNatClampNeg = base + k := clI rfl (by omega)
    have hv0 : vp_in (nI (base + k0)) 140 := vin2 rfl (by omega) (by omega)
    have hc0 : (nI (base + k0)).toNatClampNeg = base + k0 := clI rfl (by omega)
    obtain ⟨r1, r2, r3, r4, r5, r6⟩ := hR.1 k hk
    have t1 := (hT k hk).1
    have fin : (if Bq 22 k = 0 then -1 else Bq 19 k) = -1 → wc_LassoFinderModel_link_158 K23 Post (nI b) I9 J9 B9 D9 := by
      intro g z1 e1
      rw [inI rfl e1]
      refine h D9 (fun j => ?_) (fun _ _ => rfl)
      rw [g, cuv, if_pos rfl]
    refine ⟨hv, fun z2 e2 => ⟨fun g => fin ?_, fun g => ⟨hv, fun z4 e4 => ⟨fun g2 => fin ?_, fun g2 => ⟨hv, fun z6 e6 => ?_⟩⟩⟩⟩⟩
    · rw [e2, hc, r3] at g; rw [if_pos g]
    · rw [e2, hc, r3] at g; rw [if_neg g]
      rw [e4, hc, r1] at g2
      exact ((off_neg (base := base) ((hT k hk).okI19 hk) (by omega) (by omega)).1).mp g2
    · rw [e2, hc, r3] at g
      rw [e4, hc, r1] at g2
      rw [hc, r1] at e6
      rcases t1 with w | ⟨j, hj, ej, ed, hkd⟩
      · exact absurd (by rw [w.1, off_m]; decide) g2
      · have e6' : z6 = nI (base + j) := by rw [e6, ej, off_n (by omega)]
        rw [e6']
        have hcj : (nI (base + j)).toNatClampNeg = base + j := clI rfl (by omega)
        have hvj : vp_in (nI (base + j)) 140 := vin2 rfl (by omega) (by omega)
        have hcx : (nI j).toNatClampNeg = j := clI rfl (by omega)
        have hne : ¬ nI j = -1 := nI_m1 (by omega)
        rw [if_neg g, ej] at h
        simp only [cuv, hne, if_false, hcx] at h
        obtain ⟨s1, s2, s3, s4, s5⟩ := hR.2.1 j (by omega)
        have k8 : B9 5 (base + j) = 8 ↔ Bq 18 j = 3 := hR.kd hTT (by omega) (c := 3) (i := 3) rfl (by omega) (by omega)
        refine ⟨hvj, fun z7 e7 => ⟨fun g3 => ?_, fun g3 => ⟨hv0, fun z9 e9 z10 e10 => ⟨hvj, fun z11 e11 z12 e12 => ?_⟩⟩⟩⟩
        · rw [e7, hcj, k8] at g3
          have e25 : Bq 25 j = -1 := s5 (by rw [g3]; decide)
          refine ih j D9 (by omega) (by omega) (fun D9' h1 h2 => h D9' (fun i => ?_) h2)
          rw [h1 i, e25]; simp
        · rw [e7, hcj, k8] at g3
          have h12 : ¬ 2 < Bq 18 j := by
            rcases hkd with z | z | z
            · rw [z]; decide
            · rw [z]; decide
            · exact absurd z g3
          obtain ⟨i, hi, ei, _⟩ := s4 h12
          have n12 : z12 = nI (31 * q + i) := by
            have q31 : (31 : Int32) = nI 31 := rfl
            rw [e12, e10, e9, hc0, (hR.1 k0 hk0).2.2.2.2.2, e11, hcj, (hR.1 j (by omega)).2.2.2.2.1, ei, q31, nI_mul, nI_add]
          have hv12 : vp_in z12 124 := vin2 n12 (by omega) (by omega)
          have hc12 : z12.toNatClampNeg = 31 * q + i := clI n12 (by omega)
          have hci : (Bq 25 j).toNatClampNeg = i := clI ei (by omega)
          refine ⟨hv12, fun z13 e13 z14 e14 z15 e15 => ⟨hv12, ih j _ (by omega) (by omega) (fun D9' h1 h2 => h D9' (fun y => ?_) (fun r hr => ?_))⟩⟩
          · rw [h1 y, hci, hc12]
            congr 1
            have hb15 : z15 = D9 0 (31 * q + i) ||| bitL b := by rw [e15, e13, e14, hc12]; rfl
            by_cases ey : y = 31 * q + i
            · rw [if_pos ⟨by rw [ei]; exact nI_m1 (by omega), ey⟩, ey]; simp [va_up, vp_updL, hb15]
            · rw [if_neg (fun z => ey z.2)]; simp [va_up, vp_updL, ey]
          · rw [h2 r hr]; simp [va_up, hr]
theorem q_link_b {Post : (Nat → Int32) → (Nat → Int64) → (Nat → Nat → Int32) → (Nat → Nat → Int64) → Prop} {P N bs : Nat} {cv : Nat → Nat → Int64 → Int64} (h9 : I9 9 = nI bs) (hbs : bs ≤ 48) (h8 : I9 8 = nI N) (hN : N ≤ 140) (hPB : ∀ b, b < bs → PB P N B B9 cv b) (hJ : ∀ b b', b < bs → b' < bs → B9 18 b = B9 18 b' → b = b')
    (k : ∀ B9' D9', (∀ b m, b < bs → B9 18 b = nI m → m ≤ 1000 → B9' 17 m = B 11 b) → (∀ j, j < 124 → D9' 0 j = fdv cv bs j) → (∀ r, r ≠ 17 → B9' r = B9 r) → (∀ r, r ≠ 0 → D9' r = D9 r) → Post I9 J9 B9' D9') : ∀ (m b : Nat) (B1 : Nat → Nat → Int32) (D1 : Nat → Nat → Int64), b + m = bs → (∀ b1 m, b1 < b → B9 18 b1 = nI m → m ≤ 1000 → B1 17 m = B 11 b1) → (∀ j, j < 124 → D1 0 j = fdv cv b j) → (∀ r, r ≠ 17 → B1 r = B9 r) → (∀ r, r ≠ 0 → D1 r = D9 r) → wl_LassoFinderModel_link_23 Post (m + 1) (nI b) I9 J9 B1 D1 := by
  intro m
  induction m with
  | zero =>
    intro b B1 D1 hm a1 a2 a3 a4
    have e : b = bs := by omega
    subst e
    refine ⟨fun _ => k B1 D1 a1 a2 a3 a4, fun z => absurd ?_ z⟩
    rw [leI h9 (y := nI b) rfl (by omega) (by omega)]; omega
  | succ m ih =>
    intro b B1 D1 hm a1 a2 a3 a4
    obtain ⟨q, base, pt, sz, Bq, k0, u1, u2, u3, u4, u5, u6, u7, u8, u9, u10⟩ := hPB b (by omega)
    have hR1 : RT base q pt sz Bq B1 := RT_cg u3 (fun r hr => a3 r (by intro z; subst z; simp at hr))
    have hz := u2.1
    have hq := u3.2.2.2.2.2.1
    have hpt := u3.2.2.2.2.2.2
    have hc : (nI b).toNatClampNeg = b := clI rfl (by omega)
    refine ⟨fun z => ?_, fun _ => ⟨vin2 rfl (by omega) (by omega), fun z17 e17 => ?_⟩⟩
    · rw [leI h9 (y := nI b) rfl (by omega) (by omega)] at z; omega
    · have n17 : z17 = nI (base + k0) := by rw [e17, hc, a3 18 (by decide)]; exact u7
      have hv : vp_in z17 140 := vin2 n17 (by omega) (by omega)
      have hc17 : z17.toNatClampNeg = base + k0 := clI n17 (by omega)
      refine ⟨hv, fun z18 e18 => ?_⟩
      have n18 : z18 = nI q := by rw [e18, hc17]; exact (hR1.1 k0 u5).2.2.2.2.2
      have eo : z17 = off base (nI k0) := by rw [n17, off_n (by omega)]
      have hbx := beh_okX u2 u5
      have hb3 : ¬ beh Bq (nI k0) = -3 := by
        intro z
        rcases beh_ok u2 (x := nI k0) (Or.inr ⟨k0, u5, rfl⟩) with w | ⟨i, hi, w⟩
        · rw [w] at z; exact absurd z (by decide)
        · rw [w] at z; have := nI_pos (n := i) (by omega); rw [z] at this; exact this (by decide)
      rw [n18]
      rw [show wp_LassoFinderModel_next I9 J9 B1 D1 z17 = wp_LassoFinderModel_next I9 J9 B1 D1 (off base (nI k0)) from by rw [← eo]]
      refine q_next hR1 u2 (Or.inr ⟨k0, u5, rfl⟩) ?_
      refine q_instead hR1 u2 h8 hN (by omega) hbx hb3 ?_
      refine q_pointOf hR1 u2 hbx ⟨hv, hv, fun z22 e22 z23 e23 => ⟨hv, fun z24 e24 z25 e25 => ?_⟩⟩
      obtain ⟨s1, s2, s3, s4, s5⟩ := hR1.2.1 k0 u5
      obtain ⟨i, hi, ei, _⟩ := s4 (by rw [u6]; decide)
      have n25 : z25 = nI (31 * q + i) := by
        have q31 : (31 : Int32) = nI 31 := rfl
        rw [e25, e23, e22, hc17, (hR1.1 k0 u5).2.2.2.2.2, e24, hc17, (hR1.1 k0 u5).2.2.2.2.1, ei, q31, nI_mul, nI_add]
      have hv25 : vp_in z25 124 := vin2 n25 (by omega) (by omega)
      have hc25 : z25.toNatClampNeg = 31 * q + i := clI n25 (by omega)
      refine ⟨hv25, fun z26 e26 z27 e27 z28 e28 => ⟨hv25, 7, ?_⟩⟩
      rw [hc17, hc25, n17]
      obtain ⟨_, dp, hTk, _⟩ := id u2
      have hb28 : z28 = D1 0 (31 * q + i) ||| bitL b := by rw [e28, e26, e27, hc25]; rfl
      have hci : (Bq 25 k0).toNatClampNeg = i := clI ei (by omega)
      refine q_link_l (k0 := k0) (b := b) (dp := dp) (RT_cg hR1 (fun r hr => ?_)) u2 (fun k hk => (hTk k hk).1) u5 6 k0 _ u5 (hTk k0 u5).1.2.1 (fun D2 d1 d2 => ?_)
      · have : ¬ r = 17 := by intro z; subst z; simp at hr
        simp [va_up, this]
      · refine ih (b + 1) _ D2 (by omega) (fun b1 mm hb1 hx hx1 => ?_) (fun j hj => ?_) (fun r hr => ?_) (fun r hr => ?_)
        · by_cases e : b1 = b
          · subst e
            have : mm = base + k0 := nI_inj (by omega) (by omega) (hx.symm.trans u7)
            rw [this, u8]; simp [va_up, upd]
          · have : ¬ mm = base + k0 := by
              intro z
              exact e (hJ b1 b (by omega) (by omega) (by rw [hx, u7, z]))
            simp [va_up, upd, this]; exact a1 b1 mm (by omega) hx hx1
        · have hne : ¬ nI k0 = -1 := nI_m1 (by omega)
          have e7 : ∀ v, cuv Bq q (bitL b) 7 (nI k0) j v = cuv Bq q (bitL b) 6 (if Bq 22 k0 = 0 then -1 else Bq 19 k0) j (if ¬ Bq 25 k0 = -1 ∧ j = 31 * q + i then v ||| bitL b else v) := by
            intro v
            rw [cuv, if_neg hne, clI (x := nI k0) rfl (by omega), hci]
          rw [d1 j, fdv, u10, ← a2 j hj]
          refine Eq.trans ?_ (e7 (D1 0 j)).symm
          congr 1
          by_cases ey : j = 31 * q + i
          · rw [if_pos ⟨by rw [ei]; exact nI_m1 (by omega), ey⟩, ey]; simp [va_up, vp_updL, hb28]
          · rw [if_neg (fun z => ey z.2)]; simp [va_up, vp_updL, ey]
        · rw [← a3 r hr]; simp [va_up, hr]
        · rw [d2 r hr, ← a4 r hr]; simp [va_up, hr]
theorem q_link {Post : (Nat → Int32) → (Nat → Int64) → (Nat → Nat → Int32) → (Nat → Nat → Int64) → Prop} {P N bs : Nat} {cv : Nat → Nat → Int64 → Int64} (h9 : I9 9 = nI bs) (hbs : bs ≤ 48) (h8 : I9 8 = nI N) (hN : N ≤ 140) (hPB : ∀ b, b < bs → PB P N B B9 cv b) (hJ : ∀ b b', b < bs → b' < bs → B9 18 b = B9 18 b' → b = b')
    (k : ∀ B9' D9', (∀ b m, b < bs → B9 18 b = nI m → m ≤ 1000 → B9' 17 m = B 11 b) → (∀ j, j < 124 → D9' 0 j = fdv cv bs j) → (∀ r, r ≠ 17 → B9' r = B9 r) → (∀ r, r ≠ 0 → D9' r = D9 r) → Post I9 J9 B9' D9') : wp_LassoFinderModel_link I9 J9 B9 D9 Post := by
  suffices key : ∀ (c j : Nat) (D1 : Nat → Nat → Int64), j + c = 124 → (∀ i, i < j → D1 0 i = 0) → (∀ r, r ≠ 0 → D1 r = D9 r) → wl_LassoFinderModel_link_2 Post (c + 1) (nI j) I9 J9 B9 D1 by
    exact ⟨125, key 124 0 D9 (by omega) (fun i hi => by omega) (fun _ _ => rfl)⟩
  intro c
  induction c with
  | zero =>
    intro j D1 hj a1 a2
    refine ⟨fun _ => ⟨bs + 1, q_link_b (b := 0) (D9 := D1) h9 hbs h8 hN hPB hJ (fun B9' D9' k1 k2 k3 k4 => k B9' D9' k1 k2 k3 (fun r hr => (k4 r hr).trans (a2 r hr))) bs B9 D1 (by omega) (fun b1 m hb1 => by omega) (fun i hi => a1 i (by omega)) (fun _ _ => rfl) (fun _ _ => rfl)⟩, fun z => absurd ?_ z⟩
    exact (leI (x := 124) (a := 124) rfl (y := nI j) rfl (by omega) (by omega)).mpr (by omega)
  | succ c ih =>
    intro j D1 hj a1 a2
    refine ⟨fun z => ?_, fun _ => ⟨vin2 rfl (by omega) (by omega), fun z17 e17 => ?_⟩⟩
    · have := (leI (x := 124) (a := 124) rfl (y := nI j) rfl (by omega) (by omega)).mp z; omega
    · rw [inI rfl e17, clI (x := nI j) rfl (by omega)]
      refine ih (j + 1) _ (by omega) (fun i hi => ?_) (fun r hr => by rw [← a2 r hr]; simp [va_up, hr])
      by_cases e : i = j
      · simp [va_up, vp_updL, e]
      · simp [va_up, vp_updL, e]; exact a1 i (by omega)
end ZI7
