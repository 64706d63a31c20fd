/-! Formulas: the class reckons the parts. -/
section ZP2
variable {I : Nat → Int32} {J : Nat → Int64} {B : Nat → Nat → Int32} {D : Nat → Nat → Int64}
/-- an atom's truth in a state -/
def atv (d : zD) (c : zCf) (x : zIt) : Bool := if x.1 = 8 then !decide ((ev (amf d c) x.2.2.2).headD 0 = 0) else decide (c.2.2.2.1 x.2.1 = x.2.2.1)
/-- a formula that is right -/
def FOK (kd : Nat → Int32) (np : Nat) (out : List zIt) : Prop := out.length ≤ 240 ∧ ntm out ≤ 3 ∧ lnC out ≤ 480 ∧ natm out ≤ 8 ∧ (∀ x ∈ out, x.1 ≤ 9 ∧ (x.1 = 8 → okR x.2.2.2 ∧ ht x.2.2.2 = 1 ∧ nod x.2.2.2 ≤ 12 ∧ KN kd x.2.2.2 ∧ 1 ≤ x.2.2.2.length) ∧ (x.1 = 9 → x.2.1 < np ∧ x.2.2.1 ≤ 30)) ∧ (rts out).length = 1
/-- the class keeps a formula -/
def KF9 (out : List zIt) (I : Nat → Int32) (B : Nat → Nat → Int32) : Prop := I 22 = nI out.length ∧ I 21 = nI (ntm out) ∧ I 25 = nI (lnC out) ∧ FO B out ∧ rep (B 42) 0 ((tms out).map nI)
theorem FO_app : ∀ (pre l : List zIt), FO B (pre ++ l) → FO B l := by
  intro pre
  induction pre with
  | nil => intro l h; exact h
  | cons x pre ih => intro l h; exact ih l h.1
theorem lnC_app : ∀ (pre l : List zIt), lnC l ≤ lnC (pre ++ l) := by
  intro pre l
  induction pre with
  | nil => exact Nat.le_refl _
  | cons y pre ih => exact Nat.le_trans ih (Nat.le_add_right _ _)
def PM (R : Nat → Int32) (av : zIt → Bool) (T : Nat → Nat → Bool) : List zIt → Prop
  | [] => True
  | x :: l => PM R av T l ∧ ∃ w, w < 256 ∧ R l.length = nI w ∧ ∀ g, g < 8 → w.testBit g = (evl av (T g) (x :: l)).headD false
theorem PM.cg {R R' : Nat → Int32} {av : zIt → Bool} {T : Nat → Nat → Bool} : ∀ {l : List zIt}, PM R av T l → (∀ k, k < l.length → R' k = R k) → PM R' av T l := by
  intro l
  induction l with
  | nil => intro _ _; trivial
  | cons x l ih =>
    intro h e
    obtain ⟨h1, w, w1, w2, w3⟩ := h
    exact ⟨ih h1 (fun k hk => e k (by simp; omega)), w, w1, by rw [e _ (by simp)]; exact w2, w3⟩
theorem PM_r {R : Nat → Int32} {av : zIt → Bool} {T : Nat → Nat → Bool} : ∀ {l : List zIt}, PM R av T l → ∀ (k r : Nat), (rts l)[k]? = some r → r < l.length ∧ ∃ w, w < 256 ∧ R r = nI w ∧ ∀ g, g < 8 → w.testBit g = ((evl av (T g) l)[k]?).getD false := by
  intro l
  induction l with
  | nil => intro _ k r h; simp [rts] at h
  | cons x l ih =>
    intro h k r hr
    obtain ⟨h1, w, w1, w2, w3⟩ := h
    cases k with
    | zero =>
      have er : r = l.length := by
        unfold rts at hr; simp at hr; exact hr.symm
      subst er
      refine ⟨by simp, w, w1, w2, fun g hg => ?_⟩
      rw [w3 g hg]
      cases he : evl av (T g) (x :: l) with
      | nil => rfl
      | cons b rest => rfl
    | succ k =>
      have tl : ∀ (f : Nat → List Bool → List Bool) (k' : Nat), (rts l)[k']? = some r → (∀ g, (evl av (T g) (x :: l))[k + 1]? = (evl av (T g) l)[k']?) → r < (x :: l).length ∧ ∃ w, w < 256 ∧ R r = nI w ∧ ∀ g, g < 8 → w.testBit g = ((evl av (T g) (x :: l))[k + 1]?).getD false := by
        intro _ k' hk' he
        obtain ⟨a1, w', b1, b2, b3⟩ := ih h1 k' r hk'
        exact ⟨by simp; omega, w', b1, b2, fun g hg => by rw [he g]; exact b3 g hg⟩
      by_cases g8 : 8 ≤ x.1
      · rw [rts_a g8] at hr
        refine tl (fun _ l => l) k (by simpa using hr) (fun g => ?_)
        have : evl av (T g) (x :: l) = av x :: evl av (T g) l := by
          show (if 8 ≤ x.1 then _ else _) = _
          rw [if_pos g8]
        rw [this]; simp
      · by_cases gu : isU x.1
        · have e1 : rts (x :: l) = l.length :: (rts l).tail := by
            show l.length :: (if 8 ≤ x.1 then rts l else if isU x.1 then (rts l).tail else (rts l).tail.tail) = _
            rw [if_neg g8, if_pos gu]
          rw [e1] at hr
          refine tl (fun _ l => l) (k + 1) (by simpa using hr) (fun g => ?_)
          have : evl av (T g) (x :: l) = (if x.1 = 0 then !(evl av (T g) l).headD false else T g (ntm l)) :: (evl av (T g) l).tail := by
            show (if 8 ≤ x.1 then _ else _) = _
            rw [if_neg g8, if_pos gu]
          rw [this]; simp
        · have e1 : rts (x :: l) = l.length :: (rts l).tail.tail := by
            show l.length :: (if 8 ≤ x.1 then rts l else if isU x.1 then (rts l).tail else (rts l).tail.tail) = _
            rw [if_neg g8, if_neg gu]
          rw [e1] at hr
          refine tl (fun _ l => l) (k + 2) (by simpa using hr) (fun g => ?_)
          have : evl av (T g) (x :: l) = (if x.1 = 1 then (evl av (T g) l).tail.headD false && (evl av (T g) l).headD false else if x.1 = 2 then (evl av (T g) l).tail.headD false || (evl av (T g) l).headD false else if x.1 = 3 then !(evl av (T g) l).tail.headD false || (evl av (T g) l).headD false else T g (ntm l)) :: (evl av (T g) l).tail.tail := by
            show (if 8 ≤ x.1 then _ else _) = _
            rw [if_neg g8, if_neg gu]
          rw [this]; simp
theorem hd_0 (l : List Bool) : l.headD false = (l[0]?).getD false := by cases l <;> rfl
theorem hd_1 (l : List Bool) : l.tail.headD false = (l[1]?).getD false := by
  cases l with
  | nil => rfl
  | cons b l => cases l <;> rfl
theorem PM_1 {R : Nat → Int32} {av : zIt → Bool} {T : Nat → Nat → Bool} {l : List zIt} {r : Nat} {Q : List Nat} (h : PM R av T l) (e : rts l = r :: Q) : r < l.length ∧ ∃ w, w < 256 ∧ R r = nI w ∧ ∀ g, g < 8 → w.testBit g = (evl av (T g) l).headD false := by
  obtain ⟨a, w, b1, b2, b3⟩ := PM_r h 0 r (by rw [e]; rfl)
  exact ⟨a, w, b1, b2, fun g hg => by rw [hd_0]; exact b3 g hg⟩
theorem PM_2 {R : Nat → Int32} {av : zIt → Bool} {T : Nat → Nat → Bool} {l : List zIt} {r q : Nat} {Q : List Nat} (h : PM R av T l) (e : rts l = r :: q :: Q) : q < l.length ∧ ∃ w, w < 256 ∧ R q = nI w ∧ ∀ g, g < 8 → w.testBit g = (evl av (T g) l).tail.headD false := by
  obtain ⟨a, w, b1, b2, b3⟩ := PM_r h 1 q (by rw [e]; rfl)
  exact ⟨a, w, b1, b2, fun g hg => by rw [hd_1]; exact b3 g hg⟩
theorem b255 : ∀ g, g < 8 → Nat.testBit 255 g = true := by decide
theorem x255 {w g : Nat} (hg : g < 8) : (w ^^^ 255).testBit g = !w.testBit g := by rw [Nat.testBit_xor, b255 g hg]; simp
theorem gue_b : ∀ t, t < 3 → ∃ w, w < 256 ∧ zGue t = nI w ∧ ∀ g, g < 8 → w.testBit g = g.testBit t := by
  intro t ht
  have : t = 0 ∨ t = 1 ∨ t = 2 := by omega
  rcases this with rfl | rfl | rfl
  · exact ⟨170, by omega, rfl, by decide⟩
  · exact ⟨204, by omega, rfl, by decide⟩
  · exact ⟨240, by omega, rfl, by decide⟩
theorem q_atomHolds {Post : Int32 → (Nat → Int32) → (Nat → Int64) → (Nat → Nat → Int32) → (Nat → Nat → Int64) → Prop} {d : zD} {Q : zQ} {c : zCf} {x : zIt} {l : List zIt} {L : Nat} (hN : NC d) (hW : QW d Q) (hC : WC d Q c) (hS : CS d c I B) (hx8 : 8 ≤ x.1) (hx9 : x.1 ≤ 9) (hx : (x.1 = 8 → okR x.2.2.2 ∧ ht x.2.2.2 = 1 ∧ nod x.2.2.2 ≤ 12 ∧ KN d.2.2.2.1 x.2.2.2 ∧ 1 ≤ x.2.2.2.length) ∧ (x.1 = 9 → x.2.1 < qP Q ∧ x.2.2.1 ≤ 30)) (h25 : I 25 = nI L) (hL : lnC (x :: l) ≤ L) (hL8 : L ≤ 480) (hF : FO B (x :: l)) (hl : l.length < 240) (h : ∀ B', (∀ k, k ≠ 45 → B' k = B k) → Post (if atv d c x = true then 1 else 0) I J B' D) : wp_Truths_atomHolds I J B D (nI l.length) Post := by
  obtain ⟨f1, f2, f3, f4, _⟩ := hF
  have hP4 := hW.1
  have vl' : vp_in (nI l.length) 240 := vin2 rfl hl (by omega)
  have cl' : (nI l.length).toNatClampNeg = l.length := clI rfl (by omega)
  refine ⟨vl', fun z1 e1 => ⟨vl', fun z2 e2 => ?_⟩⟩
  rw [cl'] at e1 e2
  rw [f2] at e2
  have q8 : z2 = 8 ↔ x.1 = 8 := eqI e2 (y := 8) (b := 8) rfl (by omega) (by omega)
  refine ⟨fun g => ?_, fun g => ?_⟩
  · have x9 : x.1 = 9 := by
      have : ¬ x.1 = 8 := fun e => g (q8.mpr e)
      omega
    obtain ⟨b40, b41⟩ := f4 x9
    obtain ⟨p1, p2⟩ := hx.2 x9
    rw [b40] at e1
    refine ⟨vin2 e1 (by omega) (by omega), fun z4 e4 => ⟨vl', fun z5 e5 => ?_⟩⟩
    rw [clI e1 (by omega), hS.2.2.2.1 _ (by omega)] at e4
    rw [cl', b41] at e5
    have hs := hC.2 x.2.1
    have q : z4 = z5 ↔ c.2.2.2.1 x.2.1 = x.2.2.1 := eqI e4 e5 (by omega) (by omega)
    have ea : atv d c x = decide (c.2.2.2.1 x.2.1 = x.2.2.1) := by unfold atv; rw [if_neg (by omega)]
    have h0 := h B (fun _ _ => rfl)
    refine ⟨fun w => ⟨Or.inl rfl, ?_⟩, fun w => ⟨Or.inr rfl, ?_⟩⟩
    · rw [if_neg (by rw [ea]; have : ¬ c.2.2.2.1 x.2.1 = x.2.2.1 := fun e => w (q.mpr e)
                     simp [this])] at h0; exact h0
    · rw [if_pos (by rw [ea]; simp [q.mp w])] at h0; exact h0
  · have x8 := q8.mp g
    obtain ⟨b40, b43⟩ := f3 x8
    obtain ⟨t1, t2, t3, t4, t5⟩ := hx.1 x8
    rw [b40] at e1
    rw [e1]
    have hln : lnC (x :: l) = lnC l + (x.2.2.2.length + 1) := by
      show lnC l + (if x.1 = 8 then x.2.2.2.length + 1 else 0) = _
      rw [if_pos x8]
    refine q_reckon_B h25 (by omega) hL8 t1 t2 t3 b43 (fun _ _ => rfl) (fun B' hB' => ?_)
    rw [CS_am hN hW hS t1 t4]
    have ea : atv d c x = !decide ((ev (amf d c) x.2.2.2).headD 0 = 0) := by unfold atv; rw [if_pos x8]
    have h0 := h B' hB'
    refine ⟨fun w => ⟨Or.inl rfl, ?_⟩, fun w => ⟨Or.inr rfl, ?_⟩⟩
    · rw [if_neg (by rw [ea, decide_eq_true w]; decide)] at h0; exact h0
    · rw [if_pos (by rw [ea, decide_eq_false w]; rfl)] at h0; exact h0
end ZP2
