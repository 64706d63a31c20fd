/-! The class turns the steps round. -/
section ZK6
variable {I : Nat → Int32} {J : Nat → Int64} {B : Nat → Nat → Int32} {D : Nat → Nat → Int64}
/-- how many are below q, how many are q -/
def cl (f : Nat → Nat) (q : Nat) : Nat → Nat
  | 0 => 0
  | m + 1 => cl f q m + (if f m < q then 1 else 0)
def ce (f : Nat → Nat) (q : Nat) : Nat → Nat
  | 0 => 0
  | m + 1 => ce f q m + (if f m = q then 1 else 0)
def ps (f : Nat → Nat) (m j : Nat) : Nat := cl f (f j) m + ce f (f j) j
theorem cl_s (f : Nat → Nat) (q : Nat) : ∀ m, cl f (q + 1) m = cl f q m + ce f q m := by
  intro m
  induction m with
  | zero => rfl
  | succ m ih =>
    unfold cl ce
    rw [ih]
    by_cases e : f m = q
    · rw [if_pos e, if_pos (by omega), if_neg (by omega)]; omega
    · by_cases e2 : f m < q
      · rw [if_neg e, if_pos (by omega), if_pos e2]; omega
      · rw [if_neg e, if_neg (by omega), if_neg e2]; omega
theorem cl_q {f : Nat → Nat} {q q' : Nat} (h : q ≤ q') : ∀ m, cl f q m ≤ cl f q' m := by
  intro m
  induction m with
  | zero => exact Nat.le_refl _
  | succ m ih =>
    unfold cl
    split
    · rw [if_pos (by omega)]; omega
    · omega
theorem cl_le (f : Nat → Nat) (q : Nat) : ∀ m, cl f q m ≤ m := by
  intro m
  induction m with
  | zero => exact Nat.le_refl _
  | succ m ih => unfold cl; split <;> omega
theorem cl_all {f : Nat → Nat} {q : Nat} : ∀ m, (∀ j, j < m → f j < q) → cl f q m = m := by
  intro m
  induction m with
  | zero => intro _; rfl
  | succ m ih => intro h; unfold cl; rw [ih (fun j hj => h j (by omega)), if_pos (h m (by omega))]
theorem cl_0 (f : Nat → Nat) : ∀ m, cl f 0 m = 0 := by
  intro m
  induction m with
  | zero => rfl
  | succ m ih => unfold cl; rw [ih, if_neg (by omega)]
theorem ce_m {f : Nat → Nat} {q : Nat} {a : Nat} : ∀ b, a ≤ b → ce f q a ≤ ce f q b := by
  intro b
  induction b with
  | zero => intro h; have : a = 0 := by omega
            subst this; exact Nat.le_refl _
  | succ b ih =>
    intro h
    by_cases e : a = b + 1
    · subst e; exact Nat.le_refl _
    · have := ih (by omega)
      have e2 : ce f q (b + 1) = ce f q b + (if f b = q then 1 else 0) := rfl
      omega
theorem ce_lt {f : Nat → Nat} {j m : Nat} (h : j < m) : ce f (f j) j < ce f (f j) m := by
  have h1 : ce f (f j) (j + 1) = ce f (f j) j + 1 := by simp [ce]
  have := ce_m (f := f) (q := f j) m (show j + 1 ≤ m by omega)
  omega
theorem ps_lt {f : Nat → Nat} {j m : Nat} (h : j < m) : ps f m j < cl f (f j + 1) m ∧ ps f m j < m := by
  have h1 := ce_lt (f := f) h
  have h2 := cl_s f (f j) m
  have h3 := cl_le f (f j + 1) m
  unfold ps
  omega
theorem ps_inj {f : Nat → Nat} {i j m : Nat} (hi : i < m) (hj : j < m) (h : ps f m i = ps f m j) : i = j := by
  have key : ∀ a b, a < m → b < m → f a < f b → ps f m a < ps f m b := by
    intro a b ha hb hl
    have h1 := (ps_lt (f := f) ha).1
    have h2 := cl_q (f := f) (show f a + 1 ≤ f b by omega) m
    unfold ps at h1 ⊢; omega
  have k2 : ∀ a b, f a = f b → a < b → ps f m a < ps f m b := by
    intro a b he hl
    have := ce_lt (f := f) hl
    unfold ps; rw [← he]; omega
  rcases Nat.lt_trichotomy (f i) (f j) with e | e | e
  · have := key i j hi hj e; omega
  · rcases Nat.lt_trichotomy i j with e2 | e2 | e2
    · have := k2 i j e e2; omega
    · exact e2
    · have := k2 j i e.symm e2; omega
  · have := key j i hj hi e; omega
/-- the class keeps the steps turned round -/
def CT (X : zG) (B : Nat → Nat → Int32) : Prop := (∀ q, q ≤ gN X → B 37 q = nI (cl (gT X) q (gM X))) ∧ (∀ j, j < gM X → B 38 (ps (gT X) (gM X) j) = nI (gS X j))
theorem q_turnRound {Post : (Nat → Int32) → (Nat → Int64) → (Nat → Nat → Int32) → (Nat → Nat → Int64) → Prop} {d : zD} {Q : zQ} {X : zG} (hX : XI d Q X) (hG : CG d X I B D) (h : ∀ B', CT X B' → (∀ k, k ∉ [37, 38] → B' k = B k) → Post I J B' D) : wp_Graph_turnRound I J B D Post := by
  obtain ⟨x1, x2, x3, x4, x5⟩ := hX
  obtain ⟨g19, g20, gk, gs⟩ := hG
  have l3 : ∀ (i : Nat) (B1 : Nat → Nat → Int32), i ≤ gM X → (∀ q, q < gN X → B1 37 q = nI (cl (gT X) q (gM X) + ce (gT X) q i)) → B1 37 (gN X) = nI (gM X) → (∀ j, i ≤ j → j < gM X → B1 38 (ps (gT X) (gM X) j) = nI (gS X j)) → (∀ k, k ∉ [37, 38] → B1 k = B k) → wl_Graph_turnRound_79 Post (i + 1) (nI i - 1) I J B1 D := by
    intro i
    induction i with
    | zero =>
      intro B1 hi a1 a2 a3 a4
      refine ⟨fun _ => h B1 ⟨fun q hq => ?_, fun j hj => a3 j (Nat.zero_le _) hj⟩ a4, fun z => absurd (by decide) z⟩
      by_cases e : q = gN X
      · subst e; rw [a2, cl_all (gM X) (fun j hj => (x5 j hj).2)]
      · have := a1 q (by omega)
        simpa [ce] using this
    | succ i ih =>
      intro B1 hi a1 a2 a3 a4
      have ei : nI (i + 1) - 1 = nI i := nI_pred i
      rw [ei]
      refine ⟨fun z => ?_, fun _ => ⟨vin2 rfl (by omega) (by omega), fun z2 e2 => ?_⟩⟩
      · have := (ltI (x := nI i) rfl (y := 0) (b := 0) rfl (by omega) (by omega)).mp z; omega
      have ht := (x5 i (by omega))
      rw [clI rfl (by omega), a4 34 (by decide), (gs i (by omega)).2.1] at e2
      refine ⟨vin2 e2 (by omega) (by omega), fun z3 e3 z4 e4 => ⟨vin2 e2 (by omega) (by omega), vin2 e2 (by omega) (by omega), fun z5 e5 => ⟨vin2 rfl (by omega) (by omega), fun z6 e6 => ?_⟩⟩⟩
      have hce : ce (gT X) (gT X i) (i + 1) = ce (gT X) (gT X i) i + 1 := by simp [ce]
      rw [clI e2 (by omega), a1 _ ht.2, hce, ← Nat.add_assoc] at e3
      have n4 : z4 = nI (ps (gT X) (gM X) i) := deI e3 e4
      have n5 : z5 = nI (ps (gT X) (gM X) i) := by rw [e5, n4]; simp [upd]
      have hps := ps_lt (f := gT X) (show i < gM X by omega)
      rw [clI rfl (by omega), a4 33 (by decide), (gs i (by omega)).1] at e6
      refine ⟨vin2 n5 (by omega) (by omega), fun z7 e7 => ?_⟩
      have n7 : z7 = nI i - 1 := by rw [e7]; grind
      rw [n7, clI e2 (by omega), clI n5 (by omega)]
      refine ih _ (by omega) (fun q hq => ?_) ?_ (fun j h1 h2 => ?_) (fun k hk => by rw [← a4 k hk]; simp at hk; simp [va_up, hk])
      · by_cases e : q = gT X i
        · subst e; simp [va_up, upd, n4, ps]
        · have c2 : ce (gT X) q (i + 1) = ce (gT X) q i := by
            have : ¬ gT X i = q := fun w => e w.symm
            simp [ce, this]
          simp [va_up, upd, e]; rw [a1 q hq, c2]
      · have : ¬ gN X = gT X i := by omega
        simp [va_up, upd, this]; exact a2
      · by_cases e : j = i
        · subst e; simp [va_up, upd, e6]
        · have : ¬ ps (gT X) (gM X) j = ps (gT X) (gM X) i := fun w => e (ps_inj h2 (by omega) w)
          simp [va_up, upd, this]; exact a3 j (by omega) h2
  have l2 : ∀ (m q : Nat) (B1 : Nat → Nat → Int32), q + m = gN X → (∀ j, j ≤ q → B1 37 j = nI (cl (gT X) (j + 1) (gM X))) → (∀ j, q < j → j ≤ gN X → B1 37 j = nI (ce (gT X) j (gM X))) → (∀ k, k ∉ [37, 38] → B1 k = B k) → wl_Graph_turnRound_41 Post (m + 1) (nI (q + 1)) I J B1 D := by
    intro m
    induction m with
    | zero =>
      intro q B1 hq a1 a2 a4
      have e : q = gN X := by omega
      subst e
      refine ⟨fun _ z9 e9 => ⟨gM X + 1, ?_⟩, fun z => absurd ((ltI g19 (y := nI (gN X + 1)) rfl (by omega) (by omega)).mpr (by omega)) z⟩
      rw [e9, g20]
      refine l3 (gM X) B1 (Nat.le_refl _) (fun q hq => ?_) ?_ (fun j h1 h2 => by omega) a4
      · rw [a1 q (by omega), cl_s]
      · rw [a1 _ (Nat.le_refl _), cl_all (gM X) (fun j hj => by have := (x5 j hj).2; omega)]
    | succ m ih =>
      intro q B1 hq a1 a2 a4
      refine ⟨fun z => ?_, fun _ => ⟨vin2 rfl (by omega) (by omega), fun z10 e10 z11 e11 => ?_⟩⟩
      · have := (ltI g19 (y := nI (q + 1)) rfl (by omega) (by omega)).mp z; omega
      have n11 : z11 = nI q := deI rfl e11
      refine ⟨vin2 n11 (by omega) (by omega), fun z12 e12 z13 e13 => ⟨vin2 rfl (by omega) (by omega), fun z14 e14 => ?_⟩⟩
      rw [clI rfl (by omega), a2 (q + 1) (by omega) (by omega)] at e10
      rw [clI n11 (by omega), a1 q (Nat.le_refl _)] at e12
      have n13 : z13 = nI (cl (gT X) (q + 1 + 1) (gM X)) := by rw [e13, e10, e12, nI_add, cl_s (gT X) (q + 1), Nat.add_comm]
      rw [inI rfl e14, clI (x := nI (q + 1)) rfl (by omega)]
      refine ih (q + 1) _ (by omega) (fun j hj => ?_) (fun j h1 h2 => ?_) (fun k hk => by rw [← a4 k hk]; simp at hk; simp [va_up, hk])
      · by_cases e : j = q + 1
        · subst e; simp [va_up, upd, n13]
        · simp [va_up, upd, e]; exact a1 j (by omega)
      · have : ¬ j = q + 1 := by omega
        simp [va_up, upd, this]; exact a2 j (by omega) h2
  have l1 : ∀ (m i : Nat) (B1 : Nat → Nat → Int32), i + m = gM X → (∀ q, q ≤ gN X → B1 37 q = nI (ce (gT X) q i)) → (∀ k, k ∉ [37, 38] → B1 k = B k) → wl_Graph_turnRound_10 Post (m + 1) (nI i) I J B1 D := by
    intro m
    induction m with
    | zero =>
      intro i B1 hi a1 a4
      have e : i = gM X := by omega
      subst e
      refine ⟨fun _ => ⟨gN X + 1, l2 (gN X) 0 B1 (by omega) (fun j hj => ?_) (fun j _ h2 => a1 j h2) a4⟩, fun z => absurd ((leI g20 (y := nI (gM X)) rfl (by omega) (by omega)).mpr (Nat.le_refl _)) z⟩
      have : j = 0 := by omega
      subst this
      rw [a1 0 (Nat.zero_le _), cl_s, cl_0, Nat.zero_add]
    | succ m ih =>
      intro i B1 hi a1 a4
      refine ⟨fun z => ?_, fun _ => ⟨vin2 rfl (by omega) (by omega), fun z16 e16 => ?_⟩⟩
      · have := (leI g20 (y := nI i) rfl (by omega) (by omega)).mp z; omega
      have ht := (x5 i (by omega))
      rw [clI rfl (by omega), a4 34 (by decide), (gs i (by omega)).2.1] at e16
      refine ⟨vin2 e16 (by omega) (by omega), fun z17 e17 z18 e18 => ⟨vin2 e16 (by omega) (by omega), fun z19 e19 => ?_⟩⟩
      rw [clI e16 (by omega), a1 _ (by omega)] at e17
      have n18 := inI e17 e18
      rw [inI rfl e19, clI e16 (by omega)]
      refine ih (i + 1) _ (by omega) (fun q hq => ?_) (fun k hk => by rw [← a4 k hk]; simp at hk; simp [va_up, hk])
      by_cases e : q = gT X i
      · subst e; simp [va_up, upd, n18, ce]
      · have c2 : ce (gT X) q (i + 1) = ce (gT X) q i := by
          have : ¬ gT X i = q := fun w => e w.symm
          simp [ce, this]
        simp [va_up, upd, e]; rw [a1 q hq, c2]
  refine ⟨gM X + 1, l1 (gM X) 0 _ (by omega) (fun q hq => ?_) (fun k hk => by simp at hk; simp [va_up, hk])⟩
  have : q < 97 := by omega
  simp [va_up, zFill, this, ce]; rfl
end ZK6
