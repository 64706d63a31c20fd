/-! Formulas: the class reads a whole one; the reference's rows at a step, its signs. -/
section ZN6
variable {I : Nat → Int32} {J : Nat → Int64} {B : Nat → Nat → Int32} {D : Nat → Nat → Int64} {I9 : Nat → Int32} {J9 : Nat → Int64} {B9 : Nat → Nat → Int32} {D9 : Nat → Nat → Int64}
theorem PI_0 {f : Nat → Int32} {n : Nat} {kd : Nat → Int32} : PI f n kd (1, 0, [], []) := ⟨Nat.zero_le _, Nat.le_refl _, Or.inl rfl, Nat.zero_le _, Nat.zero_le _, Nat.zero_le _, fun k hk => by simp at hk, rfl, Nat.zero_le _, Nat.zero_le _, by dsimp only; omega, fun x hx => by simp at hx⟩
theorem q_freadAll {Post : (Nat → Int32) → (Nat → Int64) → (Nat → Nat → Int32) → (Nat → Nat → Int64) → Prop} {PX : String → (Nat → Int32) → (Nat → Int64) → (Nat → Nat → Int32) → (Nat → Nat → Int64) → Prop} {f : Nat → Int32} {n : Nat} {kd : Nat → Int32} {np : Nat} {LP : Nat → Int32} (hnp : np ≤ 4) (hLP : okLP LP) (hT : TY (B 1) f (I 5) (I 4) 0 n) (hk : ∀ j, j < 8 → B 2 j = kd j) (h10 : I 10 = nI np) (h14 : ∀ j, j < 32 → B 14 j = LP j)
    (kok : ∀ out I' B', star (fst9 f n kd np LP) (1, 0, [], []) (0, n, [], out) → CF f n kd np LP (0, n, [], out) I' B' → FF I B I' B' → Post I' J B' D)
    (kf : KW f n kd np LP I B J D PX (1, 0, [], [])) : wp_Formula_readAll I J B D Post PX := by
  have F0 : FF I B (upd (upd (upd (upd (upd I 25 0) 22 0) 21 0) 23 0) 24 0) B := ⟨fun j hj => by simp at hj; simp [upd, hj], fun _ _ => rfl⟩
  have C0 : CF f n kd np LP (1, 0, [], []) (upd (upd (upd (upd (upd I 25 0) 22 0) 21 0) 23 0) 24 0) B := by
    refine ⟨?_, ?_, ?_, ?_, ?_, ?_, trivial, trivial, hk, ?_, h14⟩
    · simpa [upd] using hT
    · simp [upd]; rfl
    · simp [upd]; rfl
    · simp [upd]; rfl
    · simp [upd]; rfl
    · simp [upd]; rfl
    · simpa [upd] using h10
  refine (gf_all (f := f) (n := n) (kd := kd) (I0 := I) (B0 := B) hnp hLP 100).1 0 0 (by omega) (Or.inl rfl) (by omega) _ J B D 0 [] [] _ PX rfl rfl PI_0 C0 F0 kf (fun a' out' r I' B' hs hj hr hC' hF' => ?_)
  have c1 := hC'.1
  dsimp only at c1
  have hn := c1.2.2.2.1
  have han := c1.2.2.1
  have hj9 : jo (tkn f n a') = 9 := hj.resolve_right (by omega)
  have lt : I' 5 < I' 4 ↔ a' < n := ltI c1.1 c1.2.1 (by omega) (by omega)
  refine ⟨fun g => ⟨Or.inl rfl, fun z => absurd rfl z, fun _ => ?_⟩, fun g => ⟨Or.inr rfl, fun _ => ?_, fun z => absurd z (by decide)⟩⟩
  · exact (kf.mono hs).at (q := a') ⟨a', [], out', Or.inr (Or.inr (Or.inr (Or.inr (Or.inr ⟨rfl, hj9, rfl, Or.inr ⟨rfl, lt.mp g⟩⟩))))⟩ hF' c1.1
  · have e : a' = n := by
      have : ¬ a' < n := fun e => g (lt.mpr e)
      omega
    subst e
    exact kok out' I' B' hs hC' hF'
def rc (k : Nat) : Nat := if k = 4 then 14 else if k = 5 then 15 else if k = 6 then 12 else if k = 7 then 13 else if k = 8 then 16 else k + 8
theorem rc_9 {k : Nat} (h : k ≤ 8) : (k = 0 ∧ rc k = 8) ∨ (k = 1 ∧ rc k = 9) ∨ (k = 2 ∧ rc k = 10) ∨ (k = 3 ∧ rc k = 11) ∨ (k = 6 ∧ rc k = 12) ∨ (k = 7 ∧ rc k = 13) ∨ (k = 4 ∧ rc k = 14) ∨ (k = 5 ∧ rc k = 15) ∨ (k = 8 ∧ rc k = 16) := by
  have : k = 0 ∨ k = 1 ∨ k = 2 ∨ k = 3 ∨ k = 4 ∨ k = 5 ∨ k = 6 ∨ k = 7 ∨ k = 8 := by omega
  rcases this with rfl | rfl | rfl | rfl | rfl | rfl | rfl | rfl | rfl <;> decide
theorem rc_q {k : Nat} (h : k ≤ 8) {m : Nat} {x : Int32} (hx : x = nI m) (hm : m ≤ 100) : nI (rc k) = x ↔ rc k = m := eqI rfl hx (by have := rc_9 h; omega) (by omega)
theorem rc_l {k : Nat} (h : k ≤ 8) {m : Nat} {x : Int32} (hx : x = nI m) (hm : m ≤ 100) : nI (rc k) < x ↔ rc k < m := ltI rfl hx (by have := rc_9 h; omega) (by omega)
theorem rc_g {k : Nat} (h : k ≤ 8) {m : Nat} {x : Int32} (hx : x = nI m) (hm : m ≤ 100) : x < nI (rc k) ↔ m < rc k := ltI hx rfl (by omega) (by have := rc_9 h; omega)
def npar : List Nat → Nat
  | [] => 0
  | k :: l => npar l + (if k = 8 then 1 else 0)
theorem npar_m : ∀ st : List Nat, 8 ∈ st ↔ 0 < npar st := by
  intro st
  induction st with
  | nil => simp [npar]
  | cons k st ih =>
    show 8 ∈ k :: st ↔ 0 < npar st + (if k = 8 then 1 else 0)
    rw [List.mem_cons]
    by_cases e : k = 8
    · rw [if_pos e]; exact ⟨fun _ => by omega, fun _ => Or.inl e.symm⟩
    · rw [if_neg e, Nat.add_zero, ← ih]
      exact ⟨fun h => h.resolve_left (fun w => e w.symm), Or.inr⟩
theorem npar_le : ∀ st : List Nat, npar st ≤ st.length := by
  intro st
  induction st with
  | nil => exact Nat.le_refl _
  | cons k st ih =>
    show npar st + (if k = 8 then 1 else 0) ≤ (k :: st).length
    rw [List.length_cons]; split <;> omega
theorem r_binds {Post : Int32 → (Nat → Int32) → (Nat → Int64) → (Nat → Nat → Int32) → (Nat → Nat → Int64) → Prop} {k : Nat} (hk : k ≤ 8) (h : Post (nI (bnd k)) I9 J9 B9 D9) : wp_LassoFinderModel_binds I9 J9 B9 D9 (nI (rc k)) Post := by
  have r := rc_9 hk
  have q : ∀ (m : Nat) (x : Int32), x = nI m → m ≤ 100 → (nI (rc k) = x ↔ rc k = m) := fun m x hx hm => rc_q hk hx hm
  have v : ∀ m b, rc k = m → (m = 16 ∧ b = 0) ∨ (m = 11 ∧ b = 1) ∨ (m = 10 ∧ b = 2) ∨ (m = 9 ∧ b = 3) ∨ ((m = 12 ∨ m = 13) ∧ b = 4) → bnd k = b := by
    intro m b e hm
    rcases r with ⟨rfl, e2⟩ | ⟨rfl, e2⟩ | ⟨rfl, e2⟩ | ⟨rfl, e2⟩ | ⟨rfl, e2⟩ | ⟨rfl, e2⟩ | ⟨rfl, e2⟩ | ⟨rfl, e2⟩ | ⟨rfl, e2⟩
    · omega
    · have : b = 3 := by omega
      rw [this]; rfl
    · have : b = 2 := by omega
      rw [this]; rfl
    · have : b = 1 := by omega
      rw [this]; rfl
    · have : b = 4 := by omega
      rw [this]; rfl
    · have : b = 4 := by omega
      rw [this]; rfl
    · omega
    · omega
    · have : b = 0 := by omega
      rw [this]; rfl
  refine ⟨fun g16 => ⟨fun g11 => ⟨fun g10 => ⟨fun g9 => ⟨fun e12 => ?_, fun g12 => ⟨fun g13 => ?_, fun e13 => ?_⟩⟩, fun e9 => ?_⟩, fun e10 => ?_⟩, fun e11 => ?_⟩, fun e16 => ?_⟩
  · rw [v 12 4 ((q 12 12 rfl (by omega)).mp e12) (by omega)] at h; exact h
  · have n16 : ¬ rc k = 16 := fun e => g16 ((q 16 16 rfl (by omega)).mpr e)
    have n11 : ¬ rc k = 11 := fun e => g11 ((q 11 11 rfl (by omega)).mpr e)
    have n10 : ¬ rc k = 10 := fun e => g10 ((q 10 10 rfl (by omega)).mpr e)
    have n9 : ¬ rc k = 9 := fun e => g9 ((q 9 9 rfl (by omega)).mpr e)
    have n12 : ¬ rc k = 12 := fun e => g12 ((q 12 12 rfl (by omega)).mpr e)
    have n13 : ¬ rc k = 13 := fun e => g13 ((q 13 13 rfl (by omega)).mpr e)
    have : bnd k = 5 := by
      have : k = 0 ∨ k = 4 ∨ k = 5 := by omega
      rcases this with rfl | rfl | rfl <;> rfl
    rw [this] at h; exact h
  · rw [v 13 4 ((q 13 13 rfl (by omega)).mp e13) (by omega)] at h; exact h
  · rw [v 9 3 ((q 9 9 rfl (by omega)).mp e9) (by omega)] at h; exact h
  · rw [v 10 2 ((q 10 10 rfl (by omega)).mp e10) (by omega)] at h; exact h
  · rw [v 11 1 ((q 11 11 rfl (by omega)).mp e11) (by omega)] at h; exact h
  · rw [v 16 0 ((q 16 16 rfl (by omega)).mp e16) (by omega)] at h; exact h
def GO (mc : Nat) (B9 : Nat → Nat → Int32) : List zIt → Prop
  | [] => True
  | x :: l => GO mc B9 l ∧ (x.1 ≤ 7 → B9 41 l.length = nI (rc x.1)) ∧ (8 ≤ x.1 → B9 41 l.length = nI (natm l)) ∧ (x.1 = 8 → B9 44 (natm l) = -1 ∧ B9 46 (natm l) = nI (mc + lnR l) ∧ B9 47 (natm l) = nI (mc + lnR l + x.2.2.2.length) ∧ rep (B9 24) (mc + lnR l) (x.2.2.2.map om)) ∧ (x.1 = 9 → B9 44 (natm l) = nI x.2.1 ∧ B9 45 (natm l) = nI x.2.2.1)
theorem GO.cg {mc : Nat} {B' : Nat → Nat → Int32} : ∀ {l : List zIt}, GO mc B9 l → (∀ k, k < l.length → B' 41 k = B9 41 k) → (∀ r, r ∈ [44, 45, 46, 47] → ∀ k, k < natm l → B' r k = B9 r k) → (∀ k, k < mc + lnR l → B' 24 k = B9 24 k) → GO mc B' l := by
  intro l
  induction l with
  | nil => intro _ _ _ _; trivial
  | cons x l ih =>
    intro h h1 h2 h3
    obtain ⟨a1, a2, a3, a4, a5⟩ := h
    have hl : lnR l ≤ lnR (x :: l) := Nat.le_add_right _ _
    have hm : natm l ≤ natm (x :: l) := Nat.le_add_right _ _
    have e41 : B' 41 l.length = B9 41 l.length := h1 _ (by simp)
    refine ⟨ih a1 (fun k hk => h1 k (by simp; omega)) (fun r hr k hk => h2 r hr k (by omega)) (fun k hk => h3 k (by omega)), fun g => ?_, fun g => ?_, fun g => ?_, fun g => ?_⟩
    · rw [e41]; exact a2 g
    · rw [e41]; exact a3 g
    · have hn : natm l < natm (x :: l) := by rw [natm_a (by omega)]; omega
      have hR : lnR (x :: l) = lnR l + x.2.2.2.length := by
        show lnR l + (if x.1 = 8 then x.2.2.2.length else 0) = _
        rw [if_pos g]
      obtain ⟨b1, b2, b3, b4⟩ := a4 g
      exact ⟨by rw [h2 44 (by decide) _ hn]; exact b1, by rw [h2 46 (by decide) _ hn]; exact b2, by rw [h2 47 (by decide) _ hn]; exact b3, rep_eq b4 (fun k hk => h3 k (by simp at hk; omega))⟩
    · have hn : natm l < natm (x :: l) := by rw [natm_a (by omega)]; omega
      rw [h2 44 (by decide) _ hn, h2 45 (by decide) _ hn]; exact a5 g
def FF9 (mc : Nat) (I9 : Nat → Int32) (B9 : Nat → Nat → Int32) (I9' : Nat → Int32) (B9' : Nat → Nat → Int32) : Prop := (∀ k, k ∉ [2, 3, 11, 13, 19, 20, 21, 23] → I9' k = I9 k) ∧ (∀ k, k ∉ [24, 28, 41, 42, 43, 44, 45, 46, 47] → B9' k = B9 k) ∧ (∀ k, k < mc → B9' 24 k = B9 24 k)
theorem FF9.rf {mc : Nat} : FF9 mc I9 B9 I9 B9 := ⟨fun _ _ => rfl, fun _ _ => rfl, fun _ _ => rfl⟩
theorem FF9.tr {mc : Nat} {I1 I2 : Nat → Int32} {B1 B2 : Nat → Nat → Int32} (h : FF9 mc I9 B9 I1 B1) (g : FF9 mc I1 B1 I2 B2) : FF9 mc I9 B9 I2 B2 := ⟨fun k hk => (g.1 k hk).trans (h.1 k hk), fun k hk => (g.2.1 k hk).trans (h.2.1 k hk), fun k hk => (g.2.2 k hk).trans (h.2.2 k hk)⟩
def RF9 (f : Nat → Int32) (n mc : Nat) (u : zPs) (I9 : Nat → Int32) (B9 : Nat → Nat → Int32) : Prop := TY (B9 0) f (I9 2) (I9 1) u.2.1 n ∧ I9 13 = nI u.2.2.1.length ∧ rep (B9 28) 0 (u.2.2.1.map (fun k => nI (rc k))) ∧ I9 19 = nI u.2.2.2.length ∧ I9 20 = nI (ntm u.2.2.2) ∧ I9 23 = nI (natm u.2.2.2) ∧ I9 21 = nI (metp u.2.2.1 u.2.2.2) ∧ I9 11 = nI (mc + lnR u.2.2.2) ∧ GO mc B9 u.2.2.2 ∧ rep (B9 43) 0 ((tms u.2.2.2).map nI)
/-- a sign of the waiting ones is put -/
theorem r_pop {Post : (Nat → Int32) → (Nat → Int64) → (Nat → Nat → Int32) → (Nat → Nat → Int64) → Prop} {f : Nat → Int32} {n mc : Nat} {ph ph' a k : Nat} {st : List Nat} {out : List zIt} (hR : RF9 f n mc (ph, a, k :: st, out) I9 B9) (hk : k ≤ 7) (hl : out.length < 240) (hm : metp (k :: st) out ≤ 3) (h : ∀ I' B', RF9 f n mc (ph', a, st, opI k :: out) I' B' → FF9 mc I9 B9 I' B' → Post I' J9 B' D9) : wp_LassoFinderModel_put (upd I9 13 (nI st.length)) J9 B9 D9 (nI (rc k)) Post := by
  obtain ⟨c1, c2, c3, c4, c5, c6, c7, c8, c9, c10⟩ := hR
  dsimp only at c1 c2 c3 c4 c5 c6 c7 c8 c9 c10
  have r := rc_9 (k := k) (by omega)
  have l12 : nI (rc k) < 12 ↔ rc k < 12 := rc_l (by omega) rfl (by omega)
  have l15 : (15 : Int32) < nI (rc k) ↔ 15 < rc k := rc_g (by omega) (m := 15) rfl (by omega)
  have fin : ∀ (I2 : Nat → Int32) (B2 : Nat → Nat → Int32), I2 13 = nI st.length → (∀ j, j ∉ [13, 20] → I2 j = I9 j) → I2 20 = nI (ntm (opI k :: out)) → (∀ j, j ≠ 43 → B2 j = B9 j) → rep (B2 43) 0 ((tms (opI k :: out)).map nI) → wc_LassoFinderModel_put_35 (nI (rc k)) Post (nI (rc k)) I2 J9 B2 D9 := by
    intro I2 B2 e13 eI e20 eB e43
    have e19 : I2 19 = nI out.length := by rw [eI 19 (by decide)]; exact c4
    refine ⟨vin2 e19 hl (by omega), fun z1 e1 => ?_⟩
    have n1 := inI e19 e1
    rw [clI e19 (by omega)]
    refine h _ _ ⟨?_, ?_, ?_, ?_, ?_, ?_, ?_, ?_, ⟨c9.cg (fun j hj => ?_) (fun r hr j _ => ?_) (fun j _ => ?_), fun _ => ?_, fun z => absurd z (by show ¬ 8 ≤ k; omega), fun z => absurd z (by show ¬ k = 8; omega), fun z => absurd z (by show ¬ k = 9; omega)⟩, ?_⟩ ⟨fun j hj => ?_, fun j hj => ?_, fun j _ => ?_⟩
    all_goals try dsimp only
    · have a1 : upd I2 19 z1 2 = I9 2 := by simp [upd]; exact eI 2 (by decide)
      have a2 : upd I2 19 z1 1 = I9 1 := by simp [upd]; exact eI 1 (by decide)
      have a3 : va_up B2 41 (upd (B2 41) out.length (nI (rc k))) 0 = B9 0 := by simp [va_up]; exact eB 0 (by decide)
      rw [a1, a2, a3]; exact c1
    · simp [upd]; exact e13
    · have a3 : va_up B2 41 (upd (B2 41) out.length (nI (rc k))) 28 = B9 28 := by simp [va_up]; exact eB 28 (by decide)
      rw [a3]; exact c3.2
    · simp [upd]; exact n1
    · simp [upd]; exact e20
    · rw [natm_o hk]; simp [upd]; rw [eI 23 (by decide)]; exact c6
    · rw [metp_o]; simp [upd]; rw [eI 21 (by decide)]; exact c7
    · rw [lnR_o hk]; simp [upd]; rw [eI 11 (by decide)]; exact c8
    · have : ¬ j = out.length := by omega
      simp [va_up, upd, this]; rw [eB 41 (by decide)]
    · simp at hr; rcases hr with rfl | rfl | rfl | rfl <;> simp [va_up] <;> rw [eB _ (by decide)]
    · simp [va_up]; rw [eB 24 (by decide)]
    · simp [va_up, upd]; rfl
    · simp [va_up]; exact e43
    · have := eI j (by simp at hj ⊢; omega)
      rw [← this]; simp at hj; simp [upd, hj]
    · have := eB j (by simp at hj; omega)
      rw [← this]; simp at hj; simp [va_up, hj]
    · simp [va_up]; rw [eB 24 (by decide)]
  by_cases hT : isT k
  · have hrc : 12 ≤ rc k ∧ rc k ≤ 15 := by omega
    refine ⟨fun z => absurd (l12.mp z) (by omega), fun _ => ⟨fun z => absurd (l15.mp z) (by omega), fun _ => ?_⟩⟩
    have en : ntm (opI k :: out) = ntm out + 1 := by
      show ntm out + (if isT k then 1 else 0) = ntm out + 1
      rw [if_pos hT]
    have hn : ntm out < 3 := by
      rw [← metp_o] at hm
      have : ntm (opI k :: out) + nts st ≤ 3 := hm
      omega
    have e20 : upd I9 13 (nI st.length) 20 = nI (ntm out) := by simp [upd]; exact c5
    have e19 : upd I9 13 (nI st.length) 19 = nI out.length := by simp [upd]; exact c4
    refine ⟨vin2 e20 (by omega) (by omega), fun z4 e4 => ?_⟩
    have n4 := inI e20 e4
    rw [clI e20 (by omega), e19]
    refine fin _ _ (by simp [upd]) (fun j hj => by simp at hj; simp [upd, hj]) (by rw [en]; simp [upd]; exact n4) (fun j hj => by simp [va_up, hj]) ?_
    have : tms (opI k :: out) = out.length :: tms out := by
      show (if isT k then out.length :: tms out else tms out) = _
      rw [if_pos hT]
    rw [this, List.map_cons]
    have := rep_push c10 (nI out.length) (k := ntm out) (by rw [List.length_map, tms_len]; omega)
    simpa [va_up] using this
  · have en : ntm (opI k :: out) = ntm out := by
      show ntm out + (if isT k then 1 else 0) = ntm out
      rw [if_neg hT, Nat.add_zero]
    have et : tms (opI k :: out) = tms out := by
      show (if isT k then out.length :: tms out else tms out) = tms out
      rw [if_neg hT]
    have go := fin (upd I9 13 (nI st.length)) B9 (by simp [upd]) (fun j hj => by simp at hj; simp [upd, hj]) (by rw [en]; simp [upd]; exact c5) (fun _ _ => rfl) (by rw [et]; exact c10)
    exact ⟨fun _ => go, fun _ => ⟨fun _ => go, fun z => absurd (l15.mpr (by
      have : ¬ rc k < 12 := fun e => (by assumption : ¬ nI (rc k) < 12) (l12.mpr e)
      omega)) z⟩⟩
/-- putAll: a sign is put, and on -/
theorem r_putAll_p {Post : (Nat → Int32) → (Nat → Int64) → (Nat → Nat → Int32) → (Nat → Nat → Int64) → Prop} {f : Nat → Int32} {n mc t : Nat} {ph ph' a k : Nat} {st : List Nat} {out : List zIt} (hR : RF9 f n mc (ph, a, k :: st, out) I9 B9) (hk : k ≤ 7) (hl : out.length < 240) (hs : st.length < 240) (hm : metp (k :: st) out ≤ 3) (ht : t ≤ bnd k) (ht5 : t ≤ 5) {m : Nat} (h : ∀ I' B', RF9 f n mc (ph', a, st, opI k :: out) I' B' → FF9 mc I9 B9 I' B' → wl_LassoFinderModel_putAll_0 (nI t) Post m (nI t) I' J9 B' D9) : wl_LassoFinderModel_putAll_0 (nI t) Post (m + 1) (nI t) I9 J9 B9 D9 := by
  obtain ⟨c1, c2, c3, _⟩ := id hR
  dsimp only at c2 c3
  simp only [List.length_cons] at c2
  refine ⟨fun z => ?_, fun _ z2 e2 => ?_⟩
  · have := (leI c2 (y := 0) (b := 0) rfl (by omega) (by omega)).mp z; omega
  have n2 := deI c2 e2
  have e28 : B9 28 st.length = nI (rc k) := by have := c3.1; simpa using this
  refine ⟨vin2 n2 hs (by omega), fun z3 e3 => ?_⟩
  rw [clI n2 (by omega), e28] at e3
  rw [e3]
  refine r_binds (by omega) ⟨fun z => ?_, fun _ z6 e6 => ?_⟩
  · have hb : bnd k ≤ 5 := by unfold bnd; split <;> (try omega); split <;> (try omega); split <;> (try omega); split <;> (try omega); split <;> omega
    have := (ltI (x := nI (bnd k)) rfl (y := nI t) rfl (by omega) (by omega)).mp z; omega
  have n6 := deI c2 e6
  refine ⟨vin2 n6 hs (by omega), fun z7 e7 => ?_⟩
  rw [clI n6 (by omega), e28] at e7
  rw [e7, n6]
  exact r_pop hR hk hl hm h
/-- .. or none is -/
theorem r_putAll_n {Post : (Nat → Int32) → (Nat → Int64) → (Nat → Nat → Int32) → (Nat → Nat → Int64) → Prop} {f : Nat → Int32} {n mc t : Nat} {ph a : Nat} {st : List Nat} {out : List zIt} (hR : RF9 f n mc (ph, a, st, out) I9 B9) (h8 : ∀ k ∈ st, k ≤ 8) (hs : st.length ≤ 240) (ht5 : t ≤ 5) (hn : noP t st) (h : Post I9 J9 B9 D9) : wl_LassoFinderModel_putAll_0 (nI t) Post 1 (nI t) I9 J9 B9 D9 := by
  obtain ⟨c1, c2, c3, _⟩ := id hR
  dsimp only at c2 c3
  cases st with
  | nil =>
    exact ⟨fun _ => h, fun z => absurd ((leI c2 (y := 0) (b := 0) rfl (by simp) (by omega)).mpr (by simp)) z⟩
  | cons k st =>
    simp only [List.length_cons] at c2 hs
    have hk := h8 k (List.mem_cons_self ..)
    have e28 : B9 28 st.length = nI (rc k) := by have := c3.1; simpa using this
    refine ⟨fun _ => h, fun _ z2 e2 => ?_⟩
    have n2 := deI c2 e2
    refine ⟨vin2 n2 (by omega) (by omega), fun z3 e3 => ?_⟩
    rw [clI n2 (by omega), e28] at e3
    rw [e3]
    have hb : bnd k < t := hn
    exact r_binds hk ⟨fun _ => h, fun z => absurd ((ltI (x := nI (bnd k)) rfl (y := nI t) rfl (by omega) (by omega)).mpr hb) z⟩
end ZN6
