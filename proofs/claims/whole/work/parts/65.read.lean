/-! Expressions: the class reads them by those steps. -/
section ZW
variable {I : Nat → Int32} {J : Nat → Int64} {B : Nat → Nat → Int32} {D : Nat → Nat → Int64}
theorem shl1 {k : Nat} (h : k < 64) : nI k <<< (1 &&& 31) = nI (2 * k) := by
  have : ∀ k : Nat, k < 64 → nI k <<< (1 &&& 31) = nI (2 * k) := by decide +kernel
  exact this k h
theorem shr1 {k : Nat} (h : k < 64) : nI k >>> (1 &&& 31) = nI (k / 2) := by
  have : ∀ k : Nat, k < 64 → nI k >>> (1 &&& 31) = nI (k / 2) := by decide +kernel
  exact this k h
theorem or1 {k : Nat} (h : k < 64) (h2 : k % 2 = 0) : nI k ||| 1 = nI (k + 1) := by
  have : ∀ k : Nat, k < 64 → k % 2 = 0 → nI k ||| 1 = nI (k + 1) := by decide +kernel
  exact this k h h2
theorem and1 {k : Nat} (h : k < 64) : nI k &&& 1 = nI (k % 2) := by
  have : ∀ k : Nat, k < 64 → nI k &&& 1 = nI (k % 2) := by decide +kernel
  exact this k h
theorem pow_64 {k : Nat} (h : k ≤ 4) : 2 ^ (k + 1) ≤ 32 := by
  have : ∀ k : Nat, k < 5 → 2 ^ (k + 1) ≤ 32 := by decide
  exact this k (by omega)
theorem NI_cb {n ob a0 : Nat} {s : zN} (h : NI n ob a0 s) : cb s.2.2.1 < 32 := by
  have h1 := (cb_lt h.1).1
  have h2 := h.2.1; have h3 := h.2.2.1
  exact Nat.lt_of_lt_of_le h1 (pow_64 (by omega))
theorem NI_len {n ob a0 : Nat} {s : zN} (h : NI n ob a0 s) : s.2.2.1.length ≤ 4 * (s.2.2.2.2.2 - ob) + hd s.2.2.1 := by
  have h1 := okst_len h.1
  have h2 := h.2.1
  have : nop s.2.2.1 = s.2.2.2.2.2 - ob := by omega
  rw [this] at h1; exact h1
abbrev IAE : String := "java/lang/IllegalArgumentException"
def FCA (b : Nat) (I : Nat → Int32) (B : Nat → Nat → Int32) (I' : Nat → Int32) (B' : Nat → Nat → Int32) : Prop := (∀ k, k ∉ [5, 11, 12, 13, 14, 15] → I' k = I k) ∧ (∀ k, k ∉ [15, 16] → B' k = B k) ∧ (∀ k, k < b → B' 15 k = B 15 k)
theorem FCA.rf {b : Nat} : FCA b I B I B := ⟨fun _ _ => rfl, fun _ _ => rfl, fun _ _ => rfl⟩
theorem FCA.tr {b : Nat} {I1 I2 : Nat → Int32} {B1 B2 : Nat → Nat → Int32} (h : FCA b I B I1 B1) (g : FCA b I1 B1 I2 B2) : FCA b I B I2 B2 := ⟨fun k hk => (g.1 k hk).trans (h.1 k hk), fun k hk => (g.2.1 k hk).trans (h.2.1 k hk), fun k hk => (g.2.2 k hk).trans (h.2.2 k hk)⟩
def CEA (f : Nat → Int32) (n b : Nat) (I : Nat → Int32) (B : Nat → Nat → Int32) (s : zN) : Prop := TY (B 1) f (I 5) (I 4) s.2.1 n ∧ TSA I B b s.2.2.1 s.2.2.2.1 ∧ I 13 = nI s.2.2.2.2.1 ∧ I 14 = nI s.2.2.2.2.2 ∧ I 15 = nI (cb s.2.2.1)
theorem q_openings_A {Post : (Nat → Int32) → (Nat → Int64) → (Nat → Nat → Int32) → (Nat → Nat → Int64) → Prop} {PX : String → (Nat → Int32) → (Nat → Int64) → (Nat → Nat → Int32) → (Nat → Nat → Int64) → Prop} {f : Nat → Int32} {n b ob a0 : Nat} {kd : Nat → Int32} (hb : b ≤ 2 * a0) : ∀ (d a : Nat) (st out : List Int32) (q o c : Nat) (I : Nat → Int32) (B : Nat → Nat → Int32), n - a ≤ d → c ≤ a → NI n ob a0 (1, a, st, out, q, o) → CEA f n b I B (1, a, st, out, q, o) →
    (∀ I' B' a' st' o', star (est f n kd ob) (1, a, st, out, q, o) (1, a', st', out, q, o') → tkn f n a' ≠ 40 → FCA b I B I' B' → CEA f n b I' B' (1, a', st', out, q, o') → Post I' J B' D) →
    (∀ I' B' s', star (est f n kd ob) (1, a, st, out, q, o) s' → efail f n kd s' → FCA b I B I' B' → I' 5 = nI s'.2.1 → PX IAE (upd I' 6 (I' 5)) J B' D) →
    wl_Terms_readOpenings_A_2 Post PX (d + 1) (nI c) I J B D := by
  intro d
  induction d with
  | zero =>
    intro a st out q o c I B hd hc hN hE kok kf
    have hE1 := hE.1
    have hne : tkn f n a ≠ 40 := by
      intro e
      have := tkn_lt e (by decide); omega
    have hp : Post I J B D := kok I B a st o (star.refl _) hne FCA.rf hE
    refine ⟨fun _ => hp, fun _ => q_ahead hE1.tx ?_⟩
    refine ⟨fun _ => hp, fun g => ?_⟩
    rw [hE1.tk] at g
    exact absurd g hne
  | succ d ih =>
    intro a st out q o c I B hd hc hN hE kok kf
    have hE1 := hE.1
    refine ⟨fun g => ?_, fun _ => q_ahead hE1.tx ?_⟩
    · have g := (leI (x := 240) (a := 240) rfl rfl (by omega) (by have := hN.2.2.2.2.2.2.2.2.1; have := hE1.2.2.2.1; dsimp only at *; omega)).mp g
      refine kok I B a st o (star.refl _) (fun e => ?_) FCA.rf hE
      have := tkn_lt e (by decide); have := hE1.2.2.2.1; omega
    refine ⟨fun g => ?_, fun g => ?_⟩
    · rw [hE1.tk] at g
      exact kok I B a st o (star.refl _) g FCA.rf hE
    rw [hE1.tk] at g
    have ha := tkn_lt g (by decide)
    obtain ⟨_, ⟨t1, t2, t3, t4⟩, hP, hO, hM⟩ := hE
    dsimp only at t1 t2 t3 t4 hP hO hM
    have ho4 : o ≤ 4 := hN.2.2.1
    have hcb := NI_cb hN
    have hln := NI_len hN
    dsimp only at hcb hln
    have hd3 := hd_le st
    have hno := hN.2.1
    dsimp only at hno
    refine ⟨fun g4 => ?_, fun g4 => ?_⟩
    · have o4 : o ≠ 4 := fun e => g4 (by show I 14 = 4; rw [hO, e]; rfl)
      intro z1 e1 z2 e2 z3 e3
      have n1 : z1 = nI (a + 1) := inI hE1.1 e1
      have n2 : z2 = nI (o + 1) := inI hO e2
      have n3 : z3 = nI (2 * cb st) := by
        rw [e3]; show I 15 <<< (1 &&& 31) = _
        rw [hM]; exact shl1 (by omega)
      refine ⟨vin2 (k := st.length) t1 (by omega) (by omega), fun z4 e4 z5 e5 => ?_⟩
      have n4 : z4 = nI (st.length + 1) := inI t1 e4
      have n5 : z5 = nI (c + 1) := inI rfl e5
      have e6 : (upd (upd (upd I 5 z1) 14 z2) 15 z3 12).toNatClampNeg = st.length := clI t1 (by omega)
      rw [e6, n5]
      have hs : est f n kd ob (1, a, st, out, q, o) (1, a + 1, 21 :: st, out, q, o + 1) := Or.inl ⟨rfl, g, o4, rfl⟩
      have hF : FCA b I B (upd (upd (upd (upd I 5 z1) 14 z2) 15 z3) 12 z4) (va_up B 16 (upd (B 16) st.length 21)) := by
        refine ⟨fun k hk => ?_, fun k hk => ?_, fun k hk => ?_⟩
        · simp at hk; simp [upd, hk]
        · simp at hk; simp [va_up, hk]
        · simp [va_up]
      refine ih (a + 1) (21 :: st) out q (o + 1) (c + 1) _ _ (by omega) (by omega) (NI_step hN hs) ⟨?_, ⟨?_, ?_, ?_, ?_⟩, ?_, ?_, ?_⟩ ?_ ?_
      · obtain ⟨y1, y2, y3, y4, y5, y6⟩ := hE1
        exact ⟨n1, y2, ha, y4, y5, y6⟩
      · simp [upd, n4]
      · simp only [va_up, if_true]; exact rep_push t2 21 (by simp)
      · simpa [upd] using t3
      · simpa [va_up] using t4
      · simpa [upd] using hP
      · simp [upd, n2]
      · simp [upd, n3, cb]
      · intro I' B' a' st' o' k1 k2 k3 k4
        exact kok I' B' a' st' o' (star.head hs k1) k2 (hF.tr k3) k4
      · intro I' B' s' k1 k2 k3 k4
        exact kf I' B' s' (star.head hs k1) k2 (hF.tr k3) k4
    · have o4 : o = 4 := by
        have g4 : I 14 = 4 := g4
        rw [hO] at g4
        exact (eqI rfl (y := 4) (b := 4) rfl (by omega) (by omega)).mp g4
      exact kf I B _ (star.refl _) ⟨rfl, Or.inl ⟨g, o4⟩⟩ FCA.rf hE1.1
def FCB (b : Nat) (I : Nat → Int32) (B : Nat → Nat → Int32) (I' : Nat → Int32) (B' : Nat → Nat → Int32) : Prop := (∀ k, k ∉ [5, 25, 26, 27, 28, 29] → I' k = I k) ∧ (∀ k, k ∉ [43, 44] → B' k = B k) ∧ (∀ k, k < b → B' 43 k = B 43 k)
theorem FCB.rf {b : Nat} : FCB b I B I B := ⟨fun _ _ => rfl, fun _ _ => rfl, fun _ _ => rfl⟩
theorem FCB.tr {b : Nat} {I1 I2 : Nat → Int32} {B1 B2 : Nat → Nat → Int32} (h : FCB b I B I1 B1) (g : FCB b I1 B1 I2 B2) : FCB b I B I2 B2 := ⟨fun k hk => (g.1 k hk).trans (h.1 k hk), fun k hk => (g.2.1 k hk).trans (h.2.1 k hk), fun k hk => (g.2.2 k hk).trans (h.2.2 k hk)⟩
def CEB (f : Nat → Int32) (n b : Nat) (I : Nat → Int32) (B : Nat → Nat → Int32) (s : zN) : Prop := TY (B 1) f (I 5) (I 4) s.2.1 n ∧ TSB I B b s.2.2.1 s.2.2.2.1 ∧ I 27 = nI s.2.2.2.2.1 ∧ I 28 = nI s.2.2.2.2.2 ∧ I 29 = nI (cb s.2.2.1)
theorem q_openings_B {Post : (Nat → Int32) → (Nat → Int64) → (Nat → Nat → Int32) → (Nat → Nat → Int64) → Prop} {PX : String → (Nat → Int32) → (Nat → Int64) → (Nat → Nat → Int32) → (Nat → Nat → Int64) → Prop} {f : Nat → Int32} {n b ob a0 : Nat} {kd : Nat → Int32} (hb : b ≤ 2 * a0) : ∀ (d a : Nat) (st out : List Int32) (q o c : Nat) (I : Nat → Int32) (B : Nat → Nat → Int32), n - a ≤ d → c ≤ a → NI n ob a0 (1, a, st, out, q, o) → CEB f n b I B (1, a, st, out, q, o) →
    (∀ I' B' a' st' o', star (est f n kd ob) (1, a, st, out, q, o) (1, a', st', out, q, o') → tkn f n a' ≠ 40 → FCB b I B I' B' → CEB f n b I' B' (1, a', st', out, q, o') → Post I' J B' D) →
    (∀ I' B' s', star (est f n kd ob) (1, a, st, out, q, o) s' → efail f n kd s' → FCB b I B I' B' → I' 5 = nI s'.2.1 → PX IAE (upd I' 6 (I' 5)) J B' D) →
    wl_Terms_readOpenings_B_2 Post PX (d + 1) (nI c) I J B D := by
  intro d
  induction d with
  | zero =>
    intro a st out q o c I B hd hc hN hE kok kf
    have hE1 := hE.1
    have hne : tkn f n a ≠ 40 := by
      intro e
      have := tkn_lt e (by decide); omega
    have hp : Post I J B D := kok I B a st o (star.refl _) hne FCB.rf hE
    refine ⟨fun _ => hp, fun _ => q_ahead hE1.tx ?_⟩
    refine ⟨fun _ => hp, fun g => ?_⟩
    rw [hE1.tk] at g
    exact absurd g hne
  | succ d ih =>
    intro a st out q o c I B hd hc hN hE kok kf
    have hE1 := hE.1
    refine ⟨fun g => ?_, fun _ => q_ahead hE1.tx ?_⟩
    · have g := (leI (x := 240) (a := 240) rfl rfl (by omega) (by have := hN.2.2.2.2.2.2.2.2.1; have := hE1.2.2.2.1; dsimp only at *; omega)).mp g
      refine kok I B a st o (star.refl _) (fun e => ?_) FCB.rf hE
      have := tkn_lt e (by decide); have := hE1.2.2.2.1; omega
    refine ⟨fun g => ?_, fun g => ?_⟩
    · rw [hE1.tk] at g
      exact kok I B a st o (star.refl _) g FCB.rf hE
    rw [hE1.tk] at g
    have ha := tkn_lt g (by decide)
    obtain ⟨_, ⟨t1, t2, t3, t4⟩, hP, hO, hM⟩ := hE
    dsimp only at t1 t2 t3 t4 hP hO hM
    have ho4 : o ≤ 4 := hN.2.2.1
    have hcb := NI_cb hN
    have hln := NI_len hN
    dsimp only at hcb hln
    have hd3 := hd_le st
    have hno := hN.2.1
    dsimp only at hno
    refine ⟨fun g4 => ?_, fun g4 => ?_⟩
    · have o4 : o ≠ 4 := fun e => g4 (by show I 28 = 4; rw [hO, e]; rfl)
      intro z1 e1 z2 e2 z3 e3
      have n1 : z1 = nI (a + 1) := inI hE1.1 e1
      have n2 : z2 = nI (o + 1) := inI hO e2
      have n3 : z3 = nI (2 * cb st) := by
        rw [e3]; show I 29 <<< (1 &&& 31) = _
        rw [hM]; exact shl1 (by omega)
      refine ⟨vin2 (k := st.length) t1 (by omega) (by omega), fun z4 e4 z5 e5 => ?_⟩
      have n4 : z4 = nI (st.length + 1) := inI t1 e4
      have n5 : z5 = nI (c + 1) := inI rfl e5
      have e6 : (upd (upd (upd I 5 z1) 28 z2) 29 z3 26).toNatClampNeg = st.length := clI t1 (by omega)
      rw [e6, n5]
      have hs : est f n kd ob (1, a, st, out, q, o) (1, a + 1, 21 :: st, out, q, o + 1) := Or.inl ⟨rfl, g, o4, rfl⟩
      have hF : FCB b I B (upd (upd (upd (upd I 5 z1) 28 z2) 29 z3) 26 z4) (va_up B 44 (upd (B 44) st.length 21)) := by
        refine ⟨fun k hk => ?_, fun k hk => ?_, fun k hk => ?_⟩
        · simp at hk; simp [upd, hk]
        · simp at hk; simp [va_up, hk]
        · simp [va_up]
      refine ih (a + 1) (21 :: st) out q (o + 1) (c + 1) _ _ (by omega) (by omega) (NI_step hN hs) ⟨?_, ⟨?_, ?_, ?_, ?_⟩, ?_, ?_, ?_⟩ ?_ ?_
      · obtain ⟨y1, y2, y3, y4, y5, y6⟩ := hE1
        exact ⟨n1, y2, ha, y4, y5, y6⟩
      · simp [upd, n4]
      · simp only [va_up, if_true]; exact rep_push t2 21 (by simp)
      · simpa [upd] using t3
      · simpa [va_up] using t4
      · simpa [upd] using hP
      · simp [upd, n2]
      · simp [upd, n3, cb]
      · intro I' B' a' st' o' k1 k2 k3 k4
        exact kok I' B' a' st' o' (star.head hs k1) k2 (hF.tr k3) k4
      · intro I' B' s' k1 k2 k3 k4
        exact kf I' B' s' (star.head hs k1) k2 (hF.tr k3) k4
    · have o4 : o = 4 := by
        have g4 : I 28 = 4 := g4
        rw [hO] at g4
        exact (eqI rfl (y := 4) (b := 4) rfl (by omega) (by omega)).mp g4
      exact kf I B _ (star.refl _) ⟨rfl, Or.inl ⟨g, o4⟩⟩ FCB.rf hE1.1
end ZW
