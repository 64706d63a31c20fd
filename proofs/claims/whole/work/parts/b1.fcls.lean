/-! Formulas: the class's rows at a step; signs and atoms. -/
section ZN2
variable {I : Nat → Int32} {J : Nat → Int64} {B : Nat → Nat → Int32} {D : Nat → Nat → Int64}
def FO (B : Nat → Nat → Int32) : List zIt → Prop
  | [] => True
  | x :: l => FO B l ∧ B 39 l.length = nI x.1 ∧ (x.1 = 8 → B 40 l.length = nI (lnC l) ∧ rep (B 43) (lnC l) (22 :: x.2.2.2)) ∧ (x.1 = 9 → B 40 l.length = nI x.2.1 ∧ B 41 l.length = nI x.2.2.1) ∧ (isU x.1 → ∃ r R, rts l = r :: R ∧ B 40 l.length = nI r) ∧ (x.1 ≤ 7 → ¬ isU x.1 → ∃ r2 r1 R, rts l = r2 :: r1 :: R ∧ B 40 l.length = nI r1 ∧ B 41 l.length = nI r2)
theorem FO.cg {B' : Nat → Nat → Int32} : ∀ {l : List zIt}, FO B l → (∀ r, r ∈ [39, 40, 41] → ∀ k, k < l.length → B' r k = B r k) → (∀ k, k < lnC l → B' 43 k = B 43 k) → FO B' l := by
  intro l
  induction l with
  | nil => intro _ _ _; trivial
  | cons x l ih =>
    intro h h1 h2
    obtain ⟨a1, a2, a3, a4, a5, a6⟩ := h
    have hl : lnC l ≤ lnC (x :: l) := Nat.le_add_right _ _
    have e : ∀ r, r ∈ [39, 40, 41] → B' r l.length = B r l.length := fun r hr => h1 r hr _ (by simp)
    refine ⟨ih a1 (fun r hr k hk => h1 r hr k (by simp; omega)) (fun k hk => h2 k (by omega)), ?_, fun g => ?_, fun g => ?_, fun g => ?_, fun g g2 => ?_⟩
    · rw [e 39 (by decide)]; exact a2
    · obtain ⟨b1, b2⟩ := a3 g
      refine ⟨by rw [e 40 (by decide)]; exact b1, rep_eq b2 (fun k hk => h2 k ?_)⟩
      have : lnC (x :: l) = lnC l + (x.2.2.2.length + 1) := by
        show lnC l + (if x.1 = 8 then x.2.2.2.length + 1 else 0) = _
        rw [if_pos g]
      simp at hk; omega
    · rw [e 40 (by decide), e 41 (by decide)]; exact a4 g
    · rw [e 40 (by decide)]; exact a5 g
    · rw [e 40 (by decide), e 41 (by decide)]; exact a6 g g2
def FF (I : Nat → Int32) (B : Nat → Nat → Int32) (I' : Nat → Int32) (B' : Nat → Nat → Int32) : Prop := (∀ k, k ∉ [5, 21, 22, 23, 24, 25, 26, 27, 28, 29] → I' k = I k) ∧ (∀ k, k ∉ [39, 40, 41, 42, 43, 44] → B' k = B k)
theorem FF.rf : FF I B I B := ⟨fun _ _ => rfl, fun _ _ => rfl⟩
theorem FF.tr {I1 I2 : Nat → Int32} {B1 B2 : Nat → Nat → Int32} (h : FF I B I1 B1) (g : FF I1 B1 I2 B2) : FF I B I2 B2 := ⟨fun k hk => (g.1 k hk).trans (h.1 k hk), fun k hk => (g.2 k hk).trans (h.2 k hk)⟩
def CF (f : Nat → Int32) (n : Nat) (kd : Nat → Int32) (np : Nat) (LP : Nat → Int32) (u : zPs) (I : Nat → Int32) (B : Nat → Nat → Int32) : Prop := TY (B 1) f (I 5) (I 4) u.2.1 n ∧ I 22 = nI u.2.2.2.length ∧ I 21 = nI (ntm u.2.2.2) ∧ I 23 = nI (metp u.2.2.1 u.2.2.2) ∧ I 24 = nI (natm u.2.2.2) ∧ I 25 = nI (lnC u.2.2.2) ∧ FO B u.2.2.2 ∧ rep (B 42) 0 ((tms u.2.2.2).map nI) ∧ (∀ j, j < 8 → B 2 j = kd j) ∧ I 10 = nI np ∧ (∀ j, j < 32 → B 14 j = LP j)
theorem tms_len : ∀ l : List zIt, (tms l).length = ntm l := by
  intro l
  induction l with
  | nil => rfl
  | cons x l ih =>
    unfold tms ntm
    split
    · rw [List.length_cons, ih]
    · rw [ih]; rfl
/-- a part more -/
theorem q_fadd {Post : Int32 → (Nat → Int32) → (Nat → Int64) → (Nat → Nat → Int32) → (Nat → Nat → Int64) → Prop} {s : Nat} {k x y : Int32} (h22 : I 22 = nI s) (hs : s < 240) (h : Post (nI s) (upd I 22 (nI (s + 1))) J (va_up (va_up (va_up B 39 (upd (B 39) s k)) 40 (upd (B 40) s x)) 41 (upd (B 41) s y)) D) : wp_Formula_add I J B D k x y Post := by
  have v := vin2 (n := 240) h22 hs (by omega)
  refine ⟨v, v, v, fun z1 e1 z2 e2 => ?_⟩
  have n1 := inI h22 e1
  rw [deI n1 e2, n1, clI h22 (by omega)]; exact h
theorem rows3 {s : Nat} {k x y : Int32} : ∀ (r j : Nat), j < s → va_up (va_up (va_up B 39 (upd (B 39) s k)) 40 (upd (B 40) s x)) 41 (upd (B 41) s y) r j = B r j := by
  intro r j hj
  have : ¬ j = s := by omega
  unfold va_up
  by_cases h1 : r = 41
  · subst h1; simp [upd, this]
  · by_cases h2 : r = 40
    · subst h2; simp [upd, this]
    · by_cases h3 : r = 39
      · subst h3; simp [upd, this]
      · simp [h1, h2, h3]
/-- a sign is put -/
theorem FO_o {k : Nat} {out : List zIt} {x y : Int32} (hF : FO B out) (hk : k ≤ 7) (hu : isU k → ∃ r R, rts out = r :: R ∧ x = nI r) (hb : ¬ isU k → ∃ r2 r1 R, rts out = r2 :: r1 :: R ∧ x = nI r1 ∧ y = nI r2) : FO (va_up (va_up (va_up B 39 (upd (B 39) out.length (nI k))) 40 (upd (B 40) out.length x)) 41 (upd (B 41) out.length y)) (opI k :: out) := by
  refine ⟨hF.cg (fun r _ j hj => rows3 r j hj) (fun j _ => by simp [va_up]), by simp [va_up, upd, opI], fun g => ?_, fun g => ?_, fun g => ?_, fun g g2 => ?_⟩
  · have : k = 8 := g
    omega
  · have : k = 9 := g
    omega
  · obtain ⟨r, R, e1, e2⟩ := hu g
    exact ⟨r, R, e1, by simp [va_up, upd, e2]⟩
  · obtain ⟨r2, r1, R, e1, e2, e3⟩ := hb g2
    exact ⟨r2, r1, R, e1, by simp [va_up, upd, e2], by simp [va_up, upd, e3]⟩
theorem q_popn {Post : Int32 → (Nat → Int32) → (Nat → Int64) → (Nat → Nat → Int32) → (Nat → Nat → Int64) → Prop} {f : Nat → Int32} {n : Nat} {kd : Nat → Int32} {np : Nat} {LP : Nat → Int32} {ph ph' a k : Nat} {st : List Nat} {out : List zIt} {x y : Int32} (hC : CF f n kd np LP (ph, a, k :: st, out) I B) (hl : out.length < 240) (hk : k ≤ 7) (hT : ¬ isT k) (hu : isU k → ∃ r R, rts out = r :: R ∧ x = nI r) (hb : ¬ isU k → ∃ r2 r1 R, rts out = r2 :: r1 :: R ∧ x = nI r1 ∧ y = nI r2)
    (h : ∀ I' B', CF f n kd np LP (ph', a, st, opI k :: out) I' B' → FF I B I' B' → Post (nI out.length) I' J B' D) : wp_Formula_add I J B D (nI k) x y Post := by
  obtain ⟨c1, c2, c3, c4, c5, c6, c7, c8, c9, c10, c11⟩ := hC
  dsimp only at c1 c2 c3 c4 c5 c6 c7 c8
  refine q_fadd c2 hl (h _ _ ⟨?_, ?_, ?_, ?_, ?_, ?_, FO_o c7 hk hu hb, ?_, ?_, ?_, ?_⟩ ⟨fun j hj => by simp at hj; simp [upd, hj], fun j hj => by simp at hj; simp [va_up, hj]⟩)
  all_goals try dsimp only
  · simpa [upd, va_up] using c1
  · simp [upd]
  · have : ntm (opI k :: out) = ntm out := by
      show ntm out + (if isT k then 1 else 0) = ntm out
      rw [if_neg hT, Nat.add_zero]
    rw [this]; simpa [upd] using c3
  · rw [metp_o]; simpa [upd] using c4
  · rw [natm_o hk]; simpa [upd] using c5
  · rw [lnC_o hk]; simpa [upd] using c6
  · have : tms (opI k :: out) = tms out := by
      show (if isT k then out.length :: tms out else tms out) = tms out
      rw [if_neg hT]
    rw [this]; simpa [va_up] using c8
  · simpa [va_up] using c9
  · simpa [upd] using c10
  · simpa [va_up] using c11
theorem q_popt {Post : Int32 → (Nat → Int32) → (Nat → Int64) → (Nat → Nat → Int32) → (Nat → Nat → Int64) → Prop} {f : Nat → Int32} {n : Nat} {kd : Nat → Int32} {np : Nat} {LP : Nat → Int32} {ph ph' a k : Nat} {st : List Nat} {out : List zIt} {x y : Int32} (hC : CF f n kd np LP (ph, a, k :: st, out) I B) (hl : out.length < 240) (hm : metp (k :: st) out ≤ 3) (hk : k ≤ 7) (hT : isT k) (hu : isU k → ∃ r R, rts out = r :: R ∧ x = nI r) (hb : ¬ isU k → ∃ r2 r1 R, rts out = r2 :: r1 :: R ∧ x = nI r1 ∧ y = nI r2)
    (h : ∀ I' B', CF f n kd np LP (ph', a, st, opI k :: out) I' B' → FF I B I' B' → Post (nI out.length) I' J B' D) : wp_Formula_addTemporal I J B D (nI k) x y Post := by
  obtain ⟨c1, c2, c3, c4, c5, c6, c7, c8, c9, c10, c11⟩ := hC
  dsimp only at c1 c2 c3 c4 c5 c6 c7 c8
  have en : ntm (opI k :: out) = ntm out + 1 := by
    show ntm out + (if isT k then 1 else 0) = ntm out + 1
    rw [if_pos hT]
  have hn : ntm out < 3 := by
    rw [← metp_o] at hm
    have : ntm (opI k :: out) + nts st ≤ 3 := hm
    omega
  have e21 : upd I 22 (nI (out.length + 1)) 21 = nI (ntm out) := by simpa [upd] using c3
  refine q_fadd c2 hl ⟨vin2 e21 (by omega) (by omega), fun z2 e2 => ?_⟩
  have n2 := inI e21 e2
  rw [clI e21 (by omega)]
  refine h _ _ ⟨?_, ?_, ?_, ?_, ?_, ?_, ?_, ?_, ?_, ?_, ?_⟩ ⟨fun j hj => by simp at hj; simp [upd, hj], fun j hj => by simp at hj; simp [va_up, hj]⟩
  all_goals try dsimp only
  · simpa [upd, va_up] using c1
  · simp [upd]
  · rw [en]; simp [upd, n2]
  · rw [metp_o]; simpa [upd] using c4
  · rw [natm_o hk]; simpa [upd] using c5
  · rw [lnC_o hk]; simpa [upd] using c6
  · exact (FO_o c7 hk hu hb).cg (fun r hr j _ => by simp at hr; rcases hr with rfl | rfl | rfl <;> simp [va_up]) (fun j _ => by simp [va_up])
  · have : tms (opI k :: out) = out.length :: tms out := by
      show (if isT k then out.length :: tms out else tms out) = _
      rw [if_pos hT]
    rw [this, List.map_cons]
    have e42 : va_up (va_up (va_up B 39 (upd (B 39) out.length (nI k))) 40 (upd (B 40) out.length x)) 41 (upd (B 41) out.length y) 42 = B 42 := by simp [va_up]
    have := rep_push c8 (nI out.length) (k := ntm out) (by rw [List.length_map, tms_len]; omega)
    simpa [va_up] using this
  · simpa [va_up] using c9
  · simpa [upd] using c10
  · simpa [va_up] using c11
theorem q_goDeeper {Post : (Nat → Int32) → (Nat → Int64) → (Nat → Nat → Int32) → (Nat → Nat → Int64) → Prop} {PX : String → (Nat → Int32) → (Nat → Int64) → (Nat → Nat → Int32) → (Nat → Nat → Int64) → Prop} {a d : Nat} (h5 : I 5 = nI a) (hd : d ≤ 1000) (h1 : d < 8 → Post (upd I 5 (nI (a + 1))) J B D) (h0 : ¬ d < 8 → PX IAE (upd I 6 (I 5)) J B D) : wp_Formula_goDeeper I J B D (nI d) Post PX := by
  have lt : nI d < 8 ↔ d < 8 := ltI rfl (y := 8) (b := 8) rfl (by omega) (by omega)
  exact ⟨fun g => q_skip h5 (h1 (lt.mp g)), fun g => h0 (fun e => g (lt.mpr e))⟩
/-- what happens where the text is wrong -/
def KW (f : Nat → Int32) (n : Nat) (kd : Nat → Int32) (np : Nat) (LP : Nat → Int32) (I0 : Nat → Int32) (B0 : Nat → Nat → Int32) (J : Nat → Int64) (D : Nat → Nat → Int64) (PX : String → (Nat → Int32) → (Nat → Int64) → (Nat → Nat → Int32) → (Nat → Nat → Int64) → Prop) (u : zPs) : Prop := ∀ s1 q I' B', star (fst9 f n kd np LP) u s1 → ffail f n kd np LP s1 q → (∀ k, k ∉ [5, 6, 21, 22, 23, 24, 25, 26, 27, 28, 29] → I' k = I0 k) → (∀ k, k ∉ [39, 40, 41, 42, 43, 44] → B' k = B0 k) → I' 6 = nI q → PX IAE I' J B' D
theorem KW.mono {f : Nat → Int32} {n : Nat} {kd : Nat → Int32} {np : Nat} {LP : Nat → Int32} {I0 : Nat → Int32} {B0 : Nat → Nat → Int32} {PX : String → (Nat → Int32) → (Nat → Int64) → (Nat → Nat → Int32) → (Nat → Nat → Int64) → Prop} {u v : zPs} (h : KW f n kd np LP I0 B0 J D PX u) (g : star (fst9 f n kd np LP) u v) : KW f n kd np LP I0 B0 J D PX v := fun s1 q I' B' k1 k2 k3 k4 k5 => h s1 q I' B' (g.trans k1) k2 k3 k4 k5
theorem KW.at {f : Nat → Int32} {n : Nat} {kd : Nat → Int32} {np : Nat} {LP : Nat → Int32} {I0 : Nat → Int32} {B0 : Nat → Nat → Int32} {PX : String → (Nat → Int32) → (Nat → Int64) → (Nat → Nat → Int32) → (Nat → Nat → Int64) → Prop} {u : zPs} {q : Nat} (h : KW f n kd np LP I0 B0 J D PX u) (hf : ffail f n kd np LP u q) (hF : FF I0 B0 I B) (h5 : I 5 = nI q) : PX IAE (upd I 6 (I 5)) J B D :=
  h u q _ _ (star.refl u) hf (fun k hk => by rw [← hF.1 k (by simp at hk ⊢; omega)]; simp at hk; simp [upd, hk]) hF.2 (by simp [upd]; exact h5)
end ZN2
