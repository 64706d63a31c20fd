/-! Formulas: the reference looks at a state. -/
section ZP6
variable {I9 : Nat → Int32} {J9 : Nat → Int64} {B9 : Nat → Nat → Int32} {D9 : Nat → Nat → Int64}
def OKA : List zIt → Prop
  | [] => True
  | x :: l => OKA l ∧ (isU x.1 → 1 ≤ (rts l).length) ∧ (x.1 ≤ 7 → ¬ isU x.1 → 2 ≤ (rts l).length)
theorem FO_A {B : Nat → Nat → Int32} : ∀ {l : List zIt}, FO B l → OKA l := by
  intro l
  induction l with
  | nil => intro _; trivial
  | cons x l ih =>
    intro h
    refine ⟨ih h.1, fun g => ?_, fun g1 g2 => ?_⟩
    · obtain ⟨r, R, e, _⟩ := h.2.2.2.2.1 g
      rw [e]; simp
    · obtain ⟨r2, r1, R, e, _⟩ := h.2.2.2.2.2 g1 g2
      rw [e]; simp
theorem OKA_app : ∀ (pre l : List zIt), OKA (pre ++ l) → OKA l := by
  intro pre
  induction pre with
  | nil => intro l h; exact h
  | cons x pre ih => intro l h; exact ih l h.1
theorem rts_le : ∀ l : List zIt, (rts l).length ≤ l.length := by
  intro l
  induction l with
  | nil => exact Nat.le_refl _
  | cons x l ih =>
    show (l.length :: (if 8 ≤ x.1 then rts l else if isU x.1 then (rts l).tail else (rts l).tail.tail)).length ≤ (x :: l).length
    rw [List.length_cons, List.length_cons]
    split
    · omega
    · split
      · rw [List.length_tail]; omega
      · rw [List.length_tail, List.length_tail]; omega
def avat (av : zIt → Bool) : List zIt → Nat → Bool
  | [], _ => false
  | x :: l, j => if 8 ≤ x.1 ∧ natm l = j then av x else avat av l j
theorem natm_app : ∀ (pre l : List zIt), natm l ≤ natm (pre ++ l) := by
  intro pre l
  induction pre with
  | nil => exact Nat.le_refl _
  | cons y pre ih => exact Nat.le_trans ih (Nat.le_add_right _ _)
theorem avat_suf (av : zIt → Bool) : ∀ (pre l : List zIt) (t : Nat), t < natm l → avat av (pre ++ l) t = avat av l t := by
  intro pre
  induction pre with
  | nil => intro l t _; rfl
  | cons x pre ih =>
    intro l t ht
    have hle := natm_app pre l
    show (if 8 ≤ x.1 ∧ natm (pre ++ l) = t then _ else avat av (pre ++ l) t) = _
    rw [if_neg (fun z => by have := z.2; omega)]
    exact ih l t ht
theorem at_at (mc : Nat) : ∀ (out : List zIt), GO mc B9 out → ∀ j, j < natm out → ∃ pre x l, out = pre ++ x :: l ∧ 8 ≤ x.1 ∧ natm l = j ∧ GO mc B9 (x :: l) := by
  intro out
  induction out with
  | nil => intro _ t ht; exact absurd ht (Nat.not_lt_zero t)
  | cons x l ih =>
    intro h t ht
    have hn : natm (x :: l) = natm l + (if 8 ≤ x.1 then 1 else 0) := rfl
    by_cases g : 8 ≤ x.1
    · rw [if_pos g] at hn
      by_cases e : t = natm l
      · exact ⟨[], x, l, rfl, g, e.symm, h⟩
      · obtain ⟨pre, y, l', h1, h2, h3, h4⟩ := ih h.1 t (by omega)
        exact ⟨x :: pre, y, l', by rw [h1]; rfl, h2, h3, h4⟩
    · rw [if_neg g] at hn
      obtain ⟨pre, y, l', h1, h2, h3, h4⟩ := ih h.1 t (by omega)
      exact ⟨x :: pre, y, l', by rw [h1]; rfl, h2, h3, h4⟩
/-- the reference keeps a formula -/
def RK (mc : Nat) (out : List zIt) (I9 : Nat → Int32) (B9 : Nat → Nat → Int32) : Prop := I9 19 = nI out.length ∧ I9 20 = nI (ntm out) ∧ I9 23 = nI (natm out) ∧ GO mc B9 out ∧ rep (B9 43) 0 ((tms out).map nI)
theorem r_holdsAt {Post : Int32 → (Nat → Int32) → (Nat → Int64) → (Nat → Nat → Int32) → (Nat → Nat → Int64) → Prop} {d : zD} {Q : zQ} {c : zCf} {mc j : Nat} {out : List zIt} (hW : QW d Q) (hP : PR d Q I9 B9 D9) (hS : RS d (qP Q) c I9 B9) (hC : WC d Q c) (hO : FOK d.2.2.2.1 (qP Q) out) (hG : GO mc B9 out) (hmc : mc + lnR out ≤ 480) (hj : j < natm out) (h : ∀ B', (∀ k, k ≠ 40 → B' k = B9 k) → Post (nI (b2n (avat (atv d c) out j))) I9 J9 B' D9) : wp_LassoFinderModel_holdsAt I9 J9 B9 D9 (nI j) Post := by
  obtain ⟨pre, x, l, ho, hx8, hn, g1, g2, g3, g4, g5⟩ := at_at mc out hG j hj
  have hP4 := hW.1
  have hj8 : j < 8 := by have := hO.2.2.2.1; omega
  have hx := hO.2.2.2.2.1 x (by rw [ho]; simp)
  have hav : avat (atv d c) out j = atv d c x := by
    rw [ho, avat_suf _ pre (x :: l) j (by rw [natm_a hx8]; omega)]
    show (if 8 ≤ x.1 ∧ natm l = j then _ else _) = _
    rw [if_pos ⟨hx8, hn⟩]
  have vj : vp_in (nI j) 8 := vin2 rfl hj8 (by omega)
  have cj : (nI j).toNatClampNeg = j := clI rfl (by omega)
  rw [hn] at g4 g5
  refine ⟨vj, fun z1 e1 => ?_⟩
  rw [cj] at e1
  by_cases e8 : x.1 = 8
  · obtain ⟨w1, w2, w3, w4⟩ := g4 e8
    obtain ⟨t1, t2, t3, t4, t5⟩ := hx.2.1 e8
    rw [w1] at e1
    refine ⟨fun _ => ⟨vj, fun z3 e3 => ⟨vj, fun z4 e4 => ?_⟩⟩, fun z => absurd (by rw [e1]; decide) z⟩
    rw [cj, w2] at e3
    rw [cj, w3] at e4
    rw [e3, e4]
    have hlr : lnR (x :: l) = lnR l + x.2.2.2.length := by
      show lnR l + (if x.1 = 8 then x.2.2.2.length else 0) = _
      rw [if_pos e8]
    have hla : lnR (x :: l) ≤ lnR out := by
      rw [ho]
      clear hO hG hmc hj h hav ho
      induction pre with
      | nil => exact Nat.le_refl _
      | cons y pre ih => exact Nat.le_trans ih (Nat.le_add_right _ _)
    refine q_worth (by omega) t1 t2 t3 t4 w4 (RS_nm hP hS) (fun B' hB' => ?_)
    have ea : atv d c x = !decide ((ev (amf d c) x.2.2.2).headD 0 = 0) := by unfold atv; rw [if_pos e8]
    have h0 := h B' hB'
    rw [hav] at h0
    refine ⟨fun w => ⟨Or.inl rfl, ?_⟩, fun w => ⟨Or.inr rfl, ?_⟩⟩
    · rw [ea, decide_eq_true w] at h0; exact h0
    · rw [ea, decide_eq_false w] at h0; exact h0
  · have e9 : x.1 = 9 := by have := hx.1; omega
    obtain ⟨w1, w2⟩ := g5 e9
    obtain ⟨p1, p2⟩ := hx.2.2 e9
    rw [w1] at e1
    refine ⟨fun z => absurd ((ltI e1 (y := 0) (b := 0) rfl (by omega) (by omega)).mp z) (by omega), fun _ => ⟨vj, fun z7 e7 => ?_⟩⟩
    rw [cj, w1] at e7
    refine ⟨vin2 e7 (by omega) (by omega), fun z8 e8' => ⟨vj, fun z9 e9' => ?_⟩⟩
    rw [clI e7 (by omega), hS.2.2.2.1 _ p1] at e8'
    rw [cj, w2] at e9'
    have hs := hC.2 x.2.1
    have q : z8 = z9 ↔ c.2.2.2.1 x.2.1 = x.2.2.1 := eqI e8' e9' (by omega) (by omega)
    have ea : atv d c x = decide (c.2.2.2.1 x.2.1 = x.2.2.1) := by unfold atv; rw [if_neg e8]
    have h0 := h B9 (fun _ _ => rfl)
    rw [hav, ea] at h0
    refine ⟨fun w => ⟨Or.inl rfl, ?_⟩, fun w => ⟨Or.inr rfl, ?_⟩⟩
    · rw [decide_eq_false (fun e => w (q.mpr e))] at h0; exact h0
    · rw [decide_eq_true (q.mp w)] at h0; exact h0
/-- what a look tells -/
def F2 (av : zIt → Bool) (out : List zIt) (g : Nat) (i : Nat) : Bool := if i % 2 = 0 then (ag av (fun t => g.testBit t) out (i / 2)).1 else (ag av (fun t => g.testBit t) out (i / 2)).2
def lkN (av : zIt → Bool) (out : List zIt) (g : Nat) : Nat := bN (F2 av out g) (2 * ntm out) ||| b2n (sat av out g) * 2 ^ 6
theorem nI_not (b : Bool) : (1 : Int32) - nI (b2n b) = nI (b2n (!b)) := by cases b <;> rfl
theorem b2_and (a b : Bool) : b2n a &&& b2n b = b2n (a && b) := by cases a <;> cases b <;> rfl
theorem b2_or (a b : Bool) : b2n a ||| b2n b = b2n (a || b) := by cases a <;> cases b <;> rfl
theorem r_looked {Post : Int32 → (Nat → Int32) → (Nat → Int64) → (Nat → Nat → Int32) → (Nat → Nat → Int64) → Prop} {av : zIt → Bool} {mc g : Nat} {out : List zIt} (hg : g < 8) (hR : RK mc out I9 B9) (hA : OKA out) (h1 : (rts out).length = 1) (h240 : out.length ≤ 240) (h3 : ntm out ≤ 3) (h8 : natm out ≤ 8) (hx9 : ∀ x ∈ out, x.1 ≤ 9) (h : ∀ B', (∀ k, k ≠ 40 → B' k = B9 k) → Post (nI (lkN av out g)) I9 J9 B' D9) : wp_LassoFinderModel_looked I9 J9 B9 D9 (nI (bN (avat av out) (natm out))) (nI g) Post := by
  obtain ⟨k19, k20, k23, hG, h43⟩ := hR
  have hgv := bN_lt (avat av out) (natm out)
  have hgv8 : bN (avat av out) (natm out) < 2 ^ 31 := Nat.lt_of_lt_of_le hgv (Nat.pow_le_pow_right (by omega) (by omega))
  have lp : ∀ (rem suf : List zIt) (B1 : Nat → Nat → Int32), out = rem.reverse ++ suf → rep (B1 40) 0 ((evl av (fun t => g.testBit t) suf).map (fun b => nI (b2n b))) → (∀ k, k ≠ 40 → B1 k = B9 k) → wl_LassoFinderModel_looked_11 (nI (bN (avat av out) (natm out))) (nI g) Post (rem.length + 1) (nI (bN (avat av out) (natm out))) (nI g) (nI (rts suf).length) (nI (bN (F2 av out g) (2 * ntm suf))) (nI (ntm suf)) (nI suf.length) I9 J9 B1 D9 := by
    intro rem
    induction rem with
    | nil =>
      intro suf B1 e hr hB1
      simp at e
      subst e
      refine ⟨fun _ => ⟨vin2 (k := 0) rfl (by omega) (by omega), fun z12 e12 z13 e13 z14 e14 => ?_⟩, fun z => absurd ((leI k19 (y := nI out.length) rfl (by omega) (by omega)).mpr (Nat.le_refl _)) z⟩
      have hl := evl_len av (fun t => g.testBit t) out
      rw [h1] at hl
      obtain ⟨b, eb⟩ : ∃ b, evl av (fun t => g.testBit t) out = [b] := by
        cases he : evl av (fun t => g.testBit t) out with
        | nil => rw [he] at hl; simp at hl
        | cons b r =>
          cases r with
          | nil => exact ⟨b, rfl⟩
          | cons b' r => rw [he] at hl; simp at hl
      rw [eb] at hr
      have e0 : (0 : Int32).toNatClampNeg = 0 := by decide
      have hr0 : B1 40 0 = nI (b2n b) := by have := hr.1; simpa using this
      rw [e0, hr0] at e12
      have n13 : z13 = nI (b2n b * 2 ^ 6) := by rw [e13, e12]; exact nI_shl (k := 6) (by omega)
      have n14 : z14 = nI (lkN av out g) := by
        rw [e14, n13, nI_or]
        unfold lkN sat
        rw [eb]; rfl
      rw [n14]
      exact h B1 hB1
    | cons x rem ih =>
      intro suf B1 e hr hB1
      have e' : out = rem.reverse ++ (x :: suf) := by rw [e]; simp
      have e'' : out = (rem.reverse ++ [x]) ++ suf := by rw [e]; simp
      have hlen : out.length = rem.length + suf.length + 1 := by rw [e']; simp; omega
      obtain ⟨hAs, hA1, hA2⟩ := OKA_app rem.reverse (x :: suf) (by rw [← e']; exact hA)
      have hGx : GO mc B9 (x :: suf) := by
        have : ∀ (pre l : List zIt), GO mc B9 (pre ++ l) → GO mc B9 l := by
          intro pre
          induction pre with
          | nil => intro l h; exact h
          | cons y pre ih2 => intro l h; exact ih2 l h.1
        exact this rem.reverse _ (by rw [← e']; exact hG)
      have hx := hx9 x (by rw [e']; simp)
      have hrl := rts_le suf
      have hrlx := rts_le (x :: suf)
      have hel := evl_len av (fun t => g.testBit t) suf
      have hnt : ntm (x :: suf) ≤ ntm out := by rw [e']; exact ntm_app _ _
      have hnx : ntm (x :: suf) = ntm suf + (if isT x.1 then 1 else 0) := rfl
      simp only [List.length_cons] at hrlx
      have b41a : x.1 ≤ 7 → B1 41 suf.length = nI (rc x.1) := fun g7 => by rw [hB1 41 (by decide)]; exact hGx.2.1 g7
      have b41b : 8 ≤ x.1 → B1 41 suf.length = nI (natm suf) := fun g8 => by rw [hB1 41 (by decide)]; exact hGx.2.2.1 g8
      have vs : vp_in (nI suf.length) 240 := vin2 rfl (by omega) (by omega)
      have cs : (nI suf.length).toNatClampNeg = suf.length := clI rfl (by omega)
      -- on
      have nx : ∀ (B2 : Nat → Nat → Int32) (x3 x4 x5 : Int32), rep (B2 40) 0 ((evl av (fun t => g.testBit t) (x :: suf)).map (fun b => nI (b2n b))) → (∀ k, k ≠ 40 → B2 k = B9 k) → x3 = nI (rts (x :: suf)).length → x4 = nI (bN (F2 av out g) (2 * ntm (x :: suf))) → x5 = nI (ntm (x :: suf)) → ∀ z1 : Int32, z1 = nI suf.length + 1 → wl_LassoFinderModel_looked_11 (nI (bN (avat av out) (natm out))) (nI g) Post (rem.length + 1) (nI (bN (avat av out) (natm out))) (nI g) x3 x4 x5 z1 I9 J9 B2 D9 := by
        intro B2 x3 x4 x5 r1 r2 r3 r4 r5 z1 e1
        rw [r3, r4, r5, inI rfl e1]
        exact ih (x :: suf) B2 e' r1 r2
      have r40 : ∀ (v : Bool) (rest : List Bool), (∃ top, evl av (fun t => g.testBit t) suf = top ++ rest) → evl av (fun t => g.testBit t) (x :: suf) = v :: rest → rep (upd (B1 40) rest.length (nI (b2n v))) 0 ((evl av (fun t => g.testBit t) (x :: suf)).map (fun b => nI (b2n b))) := by
        intro v rest ⟨top, ht⟩ he
        rw [he, List.map_cons]
        refine rep_push ?_ _ (by simp)
        rw [ht, List.map_append] at hr
        exact rep_app hr
      have up2 : ∀ (j : Nat) (y : Int32) (k : Nat), k ≠ 40 → va_up B1 40 (upd (B1 40) j y) k = B9 k := fun j y k hk => by simp [va_up, hk]; exact hB1 k hk
      refine ⟨fun z => ?_, fun _ => ⟨vs, fun z15 e15 => ?_⟩⟩
      · have := (leI k19 (y := nI suf.length) rfl (by omega) (by omega)).mp z; omega
      rw [cs] at e15
      by_cases g8 : 8 ≤ x.1
      · -- an atom
        rw [b41b g8] at e15
        have hna : natm (x :: suf) ≤ natm out := by rw [e']; exact natm_app _ _
        rw [natm_a g8] at hna
        have lt8 : ¬ (8 : Int32) ≤ z15 := fun z => by
          have := (leI (x := 8) (a := 8) rfl e15 (by omega) (by omega)).mp z; omega
        refine ⟨fun z => absurd z lt8, fun _ z47 e47 z48 e48 => ?_⟩
        have n48 : z48 = nI (b2n (av x)) := by
          rw [e48, e47, e15, nI_bit hgv8 (by omega), bN_bit]
          have : avat av out (natm suf) = av x := by
            rw [e', avat_suf av rem.reverse (x :: suf) _ (by rw [natm_a g8]; omega)]
            show (if 8 ≤ x.1 ∧ natm suf = natm suf then _ else _) = _
            rw [if_pos ⟨g8, rfl⟩]
          have lt : natm suf < natm out := by omega
          rw [this]; simp [lt]
        refine ⟨vin2 rfl (by omega) (by omega), fun z49 e49 z1 e1 => ?_⟩
        rw [clI (x := nI (rts suf).length) rfl (by omega), n48]
        have ee : evl av (fun t => g.testBit t) (x :: suf) = av x :: evl av (fun t => g.testBit t) suf := by
          show (if 8 ≤ x.1 then _ else _) = _
          rw [if_pos g8]
        rw [if_neg (by omega), Nat.add_zero] at hnx
        refine nx _ z49 _ _ ?_ (up2 _ _) ?_ (by rw [hnx]) (by rw [hnx]) z1 e1
        · have := r40 (av x) (evl av (fun t => g.testBit t) suf) ⟨[], rfl⟩ ee
          rw [hel] at this
          simpa [va_up] using this
        · rw [rts_a g8]; exact inI rfl e49
      · -- a sign
        have g7 : x.1 ≤ 7 := by omega
        rw [b41a g7] at e15
        have r := rc_9 (k := x.1) (by omega)
        have le8 : (8 : Int32) ≤ z15 := (leI (x := 8) (a := 8) rfl e15 (by omega) (by omega)).mpr (by omega)
        have q : ∀ (m : Nat) (y : Int32), y = nI m → m ≤ 100 → (z15 = y ↔ rc x.1 = m) := fun m y hy hm => eqI e15 hy (by omega) (by omega)
        have l12 : z15 < 12 ↔ rc x.1 < 12 := ltI e15 (y := 12) (b := 12) rfl (by omega) (by omega)
        refine ⟨fun _ => ?_, fun z => absurd le8 z⟩
        -- two times i
        have tw : ∀ z : Int32, z = 2 * nI (ntm suf) → z = nI (2 * ntm suf) := fun z e => by rw [e, show (2 : Int32) = nI 2 from rfl, nI_mul]
        by_cases gu : isU x.1
        · have hp1 := hA1 gu
          obtain ⟨b, rest, eb⟩ : ∃ b rest, evl av (fun t => g.testBit t) suf = b :: rest := by
            cases he : evl av (fun t => g.testBit t) suf with
            | nil => rw [he] at hel; simp at hel; omega
            | cons b rest => exact ⟨b, rest, rfl⟩
          have hrl' : (rts suf).length = rest.length + 1 := by rw [← hel, eb]; rfl
          have top : B1 40 rest.length = nI (b2n b) := by rw [eb] at hr; have := hr.1; simpa using this
          have ert : (rts (x :: suf)).length = rest.length + 1 := by
            have : rts (x :: suf) = suf.length :: (rts suf).tail := by
              show suf.length :: (if 8 ≤ x.1 then rts suf else if isU x.1 then (rts suf).tail else (rts suf).tail.tail) = _
              rw [if_neg g8, if_pos gu]
            rw [this, List.length_cons, List.length_tail, hrl']; omega
          have ee : evl av (fun t => g.testBit t) (x :: suf) = (if x.1 = 0 then !b else g.testBit (ntm suf)) :: rest := by
            have : evl av (fun t => g.testBit t) (x :: suf) = (if x.1 = 0 then !(evl av (fun t => g.testBit t) suf).headD false else g.testBit (ntm suf)) :: (evl av (fun t => g.testBit t) suf).tail := by
              show (if 8 ≤ x.1 then _ else _) = _
              rw [if_neg g8, if_pos gu]
            rw [this, eb]; rfl
          have n1 : ∀ z : Int32, z = nI (rts suf).length - 1 → z = nI rest.length := fun z e => by rw [hrl'] at e; exact deI rfl e
          -- G or F
          have w96 : isT x.1 → wc_LassoFinderModel_looked_96 (nI (bN (avat av out) (natm out))) (nI g) (wl_LassoFinderModel_looked_11 (nI (bN (avat av out) (natm out))) (nI g) Post (rem.length + 1)) Post (nI (bN (avat av out) (natm out))) (nI g) (nI (rts suf).length) (nI (bN (F2 av out g) (2 * ntm suf))) (nI (ntm suf)) (nI suf.length) I9 J9 B1 D9 := by
            intro ht z2 e2
            rw [if_pos ht] at hnx
            have m2 := n1 z2 e2
            refine ⟨vin2 m2 (by omega) (by omega), fun z3 e3 z4 e4 z5 e5 z6 e6 z7 e7 z8 e8 z9 e9 => ?_⟩
            rw [clI m2 (by omega), top] at e3
            have m7 := n1 z7 e7
            have m5 : z5 = nI (b2n b * 2 ^ (2 * ntm suf)) := by rw [e5, e3, tw z4 e4]; exact nI_shl (by omega)
            have m9 : z9 = nI (b2n (g.testBit (ntm suf))) := by rw [e9, e8]; exact nI_bit (by omega) (by omega)
            refine ⟨vin2 m7 (by omega) (by omega), fun z10 e10 z1 e1 => ?_⟩
            rw [clI m7 (by omega), m9]
            have hag : ag av (fun t => g.testBit t) out (ntm suf) = (b, false) := by
              rw [e', ag_suf av _ rem.reverse (x :: suf) _ (by omega)]
              show (if isT x.1 ∧ ntm suf = ntm suf then (if isU x.1 then ((evl av (fun t => g.testBit t) suf).headD false, false) else _) else _) = _
              rw [if_pos ⟨ht, rfl⟩, if_pos gu, eb]; rfl
            refine nx _ _ z6 z10 ?_ (up2 _ _) (by rw [ert, hrl']) ?_ (by rw [hnx]; exact inI rfl e10) z1 e1
            · rw [if_neg (by omega)] at ee
              have := r40 (g.testBit (ntm suf)) rest ⟨[b], eb⟩ ee
              simpa [va_up] using this
            · rw [e6, m5, nI_or, hnx]
              congr 1
              rw [show 2 * (ntm suf + 1) = 2 * ntm suf + 1 + 1 by omega, bN_or, bN_or]
              have f0 : F2 av out g (2 * ntm suf) = b := by
                unfold F2
                rw [if_pos (by omega), show 2 * ntm suf / 2 = ntm suf by omega, hag]
              have f1 : F2 av out g (2 * ntm suf + 1) = false := by
                unfold F2
                rw [if_neg (by omega), show (2 * ntm suf + 1) / 2 = ntm suf by omega, hag]
              rw [f0, f1]; simp [b2n]
          refine ⟨fun n8 => ⟨fun e14 => w96 (by have := (q 14 14 rfl (by omega)).mp e14; omega), fun n14 => ⟨fun n15 => ?_, fun e15' => w96 (by have := (q 15 15 rfl (by omega)).mp e15'; omega)⟩⟩, fun e8 z43 e43 z44 e44 => ?_⟩
          · exfalso
            have a8 : ¬ rc x.1 = 8 := fun e => n8 ((q 8 8 rfl (by omega)).mpr e)
            have a14 : ¬ rc x.1 = 14 := fun e => n14 ((q 14 14 rfl (by omega)).mpr e)
            have a15 : ¬ rc x.1 = 15 := fun e => n15 ((q 15 15 rfl (by omega)).mpr e)
            omega
          · have k0 : x.1 = 0 := by have := (q 8 8 rfl (by omega)).mp e8; omega
            rw [if_neg (by omega), Nat.add_zero] at hnx
            have m43 := n1 z43 e43
            have m44 := n1 z44 e44
            refine ⟨vin2 m44 (by omega) (by omega), fun z45 e45 z46 e46 => ⟨vin2 m43 (by omega) (by omega), fun z1 e1 => ?_⟩⟩
            rw [clI m44 (by omega), top] at e45
            have m46 : z46 = nI (b2n (!b)) := by rw [e46, e45]; exact nI_not b
            rw [clI m43 (by omega), m46]
            refine nx _ _ _ _ ?_ (up2 _ _) (by rw [ert, hrl']) (by rw [hnx]) (by rw [hnx]) z1 e1
            rw [if_pos k0] at ee
            have := r40 (!b) rest ⟨[b], eb⟩ ee
            simpa [va_up] using this
        · have hp2 := hA2 g7 gu
          obtain ⟨b, a, rest, eb⟩ : ∃ b a rest, evl av (fun t => g.testBit t) suf = b :: a :: rest := by
            cases he : evl av (fun t => g.testBit t) suf with
            | nil => rw [he] at hel; simp at hel; omega
            | cons b r1 =>
              cases r1 with
              | nil => rw [he] at hel; simp at hel; omega
              | cons a rest => exact ⟨b, a, rest, rfl⟩
          have hrl' : (rts suf).length = rest.length + 1 + 1 := by rw [← hel, eb]; rfl
          have tb : B1 40 (rest.length + 1) = nI (b2n b) := by rw [eb] at hr; have := hr.1; simpa using this
          have ta : B1 40 rest.length = nI (b2n a) := by rw [eb] at hr; have := hr.2.1; simpa using this
          have ert : (rts (x :: suf)).length = rest.length + 1 := by
            have : rts (x :: suf) = suf.length :: (rts suf).tail.tail := by
              show suf.length :: (if 8 ≤ x.1 then rts suf else if isU x.1 then (rts suf).tail else (rts suf).tail.tail) = _
              rw [if_neg g8, if_neg gu]
            rw [this, List.length_cons, List.length_tail, List.length_tail, hrl']; omega
          have ee : evl av (fun t => g.testBit t) (x :: suf) = (if x.1 = 1 then a && b else if x.1 = 2 then a || b else if x.1 = 3 then !a || b else g.testBit (ntm suf)) :: rest := by
            have : evl av (fun t => g.testBit t) (x :: suf) = (if x.1 = 1 then (evl av (fun t => g.testBit t) suf).tail.headD false && (evl av (fun t => g.testBit t) suf).headD false else if x.1 = 2 then (evl av (fun t => g.testBit t) suf).tail.headD false || (evl av (fun t => g.testBit t) suf).headD false else if x.1 = 3 then !(evl av (fun t => g.testBit t) suf).tail.headD false || (evl av (fun t => g.testBit t) suf).headD false else g.testBit (ntm suf)) :: (evl av (fun t => g.testBit t) suf).tail.tail := by
              show (if 8 ≤ x.1 then _ else _) = _
              rw [if_neg g8, if_neg gu]
            rw [this, eb]; rfl
          refine ⟨fun n8 => ⟨fun e14 => absurd ((q 14 14 rfl (by omega)).mp e14) (by omega), fun n14 => ⟨fun n15 z20 e20 z21 e21 => ?_, fun e15' => absurd ((q 15 15 rfl (by omega)).mp e15') (by omega)⟩⟩, fun e8 => absurd ((q 8 8 rfl (by omega)).mp e8) (by omega)⟩
          have m20 : z20 = nI (rest.length + 1) := by rw [hrl'] at e20; exact deM rfl e20
          have m21 : z21 = nI rest.length := deI m20 e21
          refine ⟨vin2 m21 (by omega) (by omega), fun z22 e22 => ⟨vin2 m20 (by omega) (by omega), fun z23 e23 => ?_⟩⟩
          rw [clI m21 (by omega), ta] at e22
          rw [clI m20 (by omega), tb] at e23
          refine ⟨fun lt12 z25 e25 => ?_, fun nlt z32 e32 z33 e33 z34 e34 z35 e35 z36 e36 z37 e37 z38 e38 z39 e39 z40 e40 z41 e41 => ?_⟩
          · -- & | >
            have k123 : x.1 = 1 ∨ x.1 = 2 ∨ x.1 = 3 := by have := l12.mp lt12; omega
            rw [if_neg (by omega), Nat.add_zero] at hnx
            have m25 : z25 = nI rest.length := deI m20 e25
            have w248 : ∀ (y0 : Int32) (v : Bool), y0 = nI (b2n v) → (if x.1 = 1 then a && b else if x.1 = 2 then a || b else if x.1 = 3 then !a || b else g.testBit (ntm suf)) = v → wc_LassoFinderModel_looked_248 (nI (bN (avat av out) (natm out))) (nI g) (wl_LassoFinderModel_looked_11 (nI (bN (avat av out) (natm out))) (nI g) Post (rem.length + 1)) Post (nI (bN (avat av out) (natm out))) (nI g) z20 (nI (bN (F2 av out g) (2 * ntm suf))) (nI (ntm suf)) (nI suf.length) y0 z25 I9 J9 B1 D9 := by
              intro y0 v hy hv
              refine ⟨vin2 m25 (by omega) (by omega), fun z1 e1 => ?_⟩
              rw [clI m25 (by omega), hy]
              refine nx _ _ _ _ ?_ (up2 _ _) (by rw [ert, m20]) (by rw [hnx]) (by rw [hnx]) z1 e1
              rw [hv] at ee
              have := r40 v rest ⟨[b, a], eb⟩ ee
              simpa [va_up] using this
            refine ⟨fun n9 => ⟨fun n10 z28 e28 z29 e29 => w248 z29 (!a || b) ?_ ?_, fun e10 z30 e30 => w248 z30 (a || b) ?_ ?_⟩, fun e9 z31 e31 => w248 z31 (a && b) ?_ ?_⟩
            · rw [e29, e28, e22, e23, nI_not, nI_or, b2_or]
            · have a9 : ¬ rc x.1 = 9 := fun e => n9 ((q 9 9 rfl (by omega)).mpr e)
              have a10 : ¬ rc x.1 = 10 := fun e => n10 ((q 10 10 rfl (by omega)).mpr e)
              rw [if_neg (by omega), if_neg (by omega), if_pos (by omega)]
            · rw [e30, e22, e23, nI_or, b2_or]
            · have := (q 10 10 rfl (by omega)).mp e10
              rw [if_neg (by omega), if_pos (by omega)]
            · rw [e31, e22, e23, nI_and, b2_and]
            · have := (q 9 9 rfl (by omega)).mp e9
              rw [if_pos (by omega)]
          · -- U or R
            have n12 : ¬ rc x.1 < 12 := fun e => nlt (l12.mpr e)
            have ht : isT x.1 := by omega
            rw [if_pos ht] at hnx
            have m39 : z39 = nI rest.length := deI m20 e39
            have m33 : z33 = nI (b2n a * 2 ^ (2 * ntm suf)) := by rw [e33, e22, tw z32 e32]; exact nI_shl (by omega)
            have m35 : z35 = nI (2 * ntm suf + 1) := by rw [e35, tw z34 e34, nI_1]
            have m36 : z36 = nI (b2n b * 2 ^ (2 * ntm suf + 1)) := by rw [e36, e23, m35]; exact nI_shl (by omega)
            have m41 : z41 = nI (b2n (g.testBit (ntm suf))) := by rw [e41, e40]; exact nI_bit (by omega) (by omega)
            refine ⟨vin2 m39 (by omega) (by omega), fun z42 e42 z1 e1 => ?_⟩
            rw [clI m39 (by omega), m41]
            have hag : ag av (fun t => g.testBit t) out (ntm suf) = (a, b) := by
              rw [e', ag_suf av _ rem.reverse (x :: suf) _ (by omega)]
              show (if isT x.1 ∧ ntm suf = ntm suf then (if isU x.1 then _ else ((evl av (fun t => g.testBit t) suf).tail.headD false, (evl av (fun t => g.testBit t) suf).headD false)) else _) = _
              rw [if_pos ⟨ht, rfl⟩, if_neg gu, eb]; rfl
            refine nx _ _ z38 z42 ?_ (up2 _ _) (by rw [ert, m20]) ?_ (by rw [hnx]; exact inI rfl e42) z1 e1
            · rw [if_neg (by omega), if_neg (by omega), if_neg (by omega)] at ee
              have := r40 (g.testBit (ntm suf)) rest ⟨[b, a], eb⟩ ee
              simpa [va_up] using this
            · rw [e38, e37, m33, m36, nI_or, nI_or, hnx]
              congr 1
              rw [show 2 * (ntm suf + 1) = 2 * ntm suf + 1 + 1 by omega, bN_or, bN_or]
              have f0 : F2 av out g (2 * ntm suf) = a := by
                unfold F2
                rw [if_pos (by omega), show 2 * ntm suf / 2 = ntm suf by omega, hag]
              have f1 : F2 av out g (2 * ntm suf + 1) = b := by
                unfold F2
                rw [if_neg (by omega), show (2 * ntm suf + 1) / 2 = ntm suf by omega, hag]
              rw [f0, f1, Nat.or_assoc]
  have := lp out.reverse [] B9 (by simp) trivial (fun _ _ => rfl)
  exact ⟨out.reverse.length + 1, this⟩
end ZP6
