/-! Formulas: the class reckons all parts. -/
section ZP3
variable {I : Nat → Int32} {J : Nat → Int64} {B : Nat → Nat → Int32} {D : Nat → Nat → Int64}
theorem evl_a {av : zIt → Bool} {T : Nat → Bool} {x : zIt} {l : List zIt} (h : 8 ≤ x.1) : (evl av T (x :: l)).headD false = av x := by
  have : evl av T (x :: l) = av x :: evl av T l := by
    show (if 8 ≤ x.1 then _ else _) = _
    rw [if_pos h]
  rw [this]; rfl
theorem evl_n {av : zIt → Bool} {T : Nat → Bool} {x : zIt} {l : List zIt} (h : x.1 = 0) : (evl av T (x :: l)).headD false = !(evl av T l).headD false := by
  have : evl av T (x :: l) = (!(evl av T l).headD false) :: (evl av T l).tail := by
    show (if 8 ≤ x.1 then _ else if isU x.1 then (if x.1 = 0 then _ else _) :: _ else _) = _
    rw [if_neg (by omega), if_pos (Or.inl h), if_pos h]
  rw [this]; rfl
theorem evl_t {av : zIt → Bool} {T : Nat → Bool} {x : zIt} {l : List zIt} (h : isT x.1) : (evl av T (x :: l)).headD false = T (ntm l) := by
  by_cases gu : isU x.1
  · have : evl av T (x :: l) = T (ntm l) :: (evl av T l).tail := by
      show (if 8 ≤ x.1 then _ else if isU x.1 then (if x.1 = 0 then _ else _) :: _ else _) = _
      rw [if_neg (by omega), if_pos gu, if_neg (by omega)]
    rw [this]; rfl
  · have : evl av T (x :: l) = T (ntm l) :: (evl av T l).tail.tail := by
      show (if 8 ≤ x.1 then _ else if isU x.1 then _ else (if x.1 = 1 then _ else if x.1 = 2 then _ else if x.1 = 3 then _ else _) :: _) = _
      rw [if_neg (by omega), if_neg gu, if_neg (by omega), if_neg (by omega), if_neg (by omega)]
    rw [this]; rfl
theorem evl_b {av : zIt → Bool} {T : Nat → Bool} {x : zIt} {l : List zIt} (h : x.1 = 1 ∨ x.1 = 2 ∨ x.1 = 3) : (evl av T (x :: l)).headD false = if x.1 = 1 then (evl av T l).tail.headD false && (evl av T l).headD false else if x.1 = 2 then (evl av T l).tail.headD false || (evl av T l).headD false else !(evl av T l).tail.headD false || (evl av T l).headD false := by
  have : evl av T (x :: l) = (if x.1 = 1 then (evl av T l).tail.headD false && (evl av T l).headD false else if x.1 = 2 then (evl av T l).tail.headD false || (evl av T l).headD false else if x.1 = 3 then !(evl av T l).tail.headD false || (evl av T l).headD false else T (ntm l)) :: (evl av T l).tail.tail := by
    show (if 8 ≤ x.1 then _ else if isU x.1 then _ else _) = _
    rw [if_neg (by omega), if_neg (by omega)]
  rw [this]
  show (if x.1 = 1 then _ else if x.1 = 2 then _ else if x.1 = 3 then _ else _) = _
  by_cases e1 : x.1 = 1
  · rw [if_pos e1, if_pos e1]
  · rw [if_neg e1, if_neg e1]
    by_cases e2 : x.1 = 2
    · rw [if_pos e2, if_pos e2]
    · rw [if_neg e2, if_neg e2, if_pos (by omega)]
theorem cT_h {av : zIt → Bool} {nx : Nat → Bool} {x : zIt} {l : List zIt} (h : isT x.1) : cT av nx (x :: l) (ntm l) = car x.1 (if isU x.1 then (evl av (cT av nx l) l).headD false else (evl av (cT av nx l) l).tail.headD false) (if isU x.1 then false else (evl av (cT av nx l) l).headD false) (nx (ntm l)) := by
  have e : cT av nx (x :: l) (ntm l) = if isT x.1 ∧ ntm l = ntm l then car x.1 (if isU x.1 then (evl av (cT av nx l) l).headD false else (evl av (cT av nx l) l).tail.headD false) (if isU x.1 then false else (evl av (cT av nx l) l).headD false) (nx (ntm l)) else cT av nx l (ntm l) := rfl
  rw [e, if_pos ⟨h, rfl⟩]
theorem q_fjoined {Post : Int32 → (Nat → Int32) → (Nat → Int64) → (Nat → Nat → Int32) → (Nat → Nat → Int64) → Prop} {av : zIt → Bool} {T : Nat → Nat → Bool} {x : zIt} {l : List zIt} (hx : x.1 ≤ 3) (hF : FO B (x :: l)) (hM : PM (B 46) av T l) (hl : l.length < 240) (h : ∀ w, w < 256 → (∀ g, g < 8 → w.testBit g = (evl av (T g) (x :: l)).headD false) → Post (nI w) I J B D) : wp_Truths_joined I J B D (nI l.length) Post := by
  obtain ⟨f1, f2, f3, f4, f5, f6⟩ := hF
  have vl' : vp_in (nI l.length) 240 := vin2 rfl hl (by omega)
  have cl' : (nI l.length).toNatClampNeg = l.length := clI rfl (by omega)
  have q : ∀ (z : Int32) (m : Nat) (y : Int32), z = nI x.1 → y = nI m → m ≤ 9 → (z = y ↔ x.1 = m) := fun z m y hz hy hm => eqI hz hy (by omega) (by omega)
  by_cases e0 : x.1 = 0
  · obtain ⟨r, R, er, b40⟩ := f5 (Or.inl e0)
    obtain ⟨hr, w, w1, w2, w3⟩ := PM_1 hM er
    refine ⟨vl', fun z1 e1 => ?_⟩
    rw [cl', b40] at e1
    refine ⟨vin2 e1 (by omega) (by omega), fun z2 e2 => ⟨vl', fun z3 e3 => ?_⟩⟩
    rw [clI e1 (by omega), w2] at e2
    rw [cl', f2] at e3
    refine ⟨fun _ z5 e5 => ?_, fun z => absurd ((q z3 1 1 e3 rfl (by omega)).mp z) (by omega), fun z => absurd ((q z3 2 2 e3 rfl (by omega)).mp z) (by omega), fun z => absurd ((q z3 0 0 e3 rfl (by omega)).mpr e0) z⟩
    have n5 : z5 = nI (w ^^^ 255) := by rw [e5, e2, show (255 : Int32) = nI 255 from rfl, nI_xor]
    rw [n5]
    exact h _ (Nat.xor_lt_two_pow (n := 8) w1 (by omega)) (fun g hg => by rw [x255 hg, w3 g hg, evl_n e0])
  · obtain ⟨r2, r1, R, er, b40, b41⟩ := f6 (by omega) (by omega)
    obtain ⟨hr2, w, w1, w2, w3⟩ := PM_1 hM er
    obtain ⟨hr1, v, v1, v2, v3⟩ := PM_2 hM er
    refine ⟨vl', fun z1 e1 => ?_⟩
    rw [cl', b40] at e1
    refine ⟨vin2 e1 (by omega) (by omega), fun z2 e2 => ⟨vl', fun z3 e3 => ?_⟩⟩
    rw [clI e1 (by omega), v2] at e2
    rw [cl', f2] at e3
    have sec : ∀ z7 : Int32, z7 = B 41 (nI l.length).toNatClampNeg → vp_in z7 240 ∧ B 46 z7.toNatClampNeg = nI w := fun z7 e7 => by
      rw [cl', b41] at e7
      exact ⟨vin2 e7 (by omega) (by omega), by rw [clI e7 (by omega)]; exact w2⟩
    refine ⟨fun z => absurd ((q z3 0 0 e3 rfl (by omega)).mp z) e0, fun z => ⟨vl', fun z7 e7 => ⟨(sec z7 e7).1, fun z8 e8 z9 e9 => ?_⟩⟩, fun z => ⟨vl', fun z7 e7 => ⟨(sec z7 e7).1, fun z8 e8 z9 e9 => ?_⟩⟩, fun _ g1 g2 z14 e14 => ⟨vl', fun z7 e7 => ⟨(sec z7 e7).1, fun z8 e8 z9 e9 => ?_⟩⟩⟩
    · have k1 := (q z3 1 1 e3 rfl (by omega)).mp z
      rw [(sec z7 e7).2] at e8
      rw [e9, e2, e8, nI_and]
      refine h _ (Nat.lt_of_le_of_lt Nat.and_le_left v1) (fun g hg => ?_)
      rw [Nat.testBit_and, v3 g hg, w3 g hg, evl_b (Or.inl k1), if_pos k1]
    · have k2 := (q z3 2 2 e3 rfl (by omega)).mp z
      rw [(sec z7 e7).2] at e8
      rw [e9, e2, e8, nI_or]
      refine h _ (or_lt (k := 8) v1 w1) (fun g hg => ?_)
      rw [Nat.testBit_or, v3 g hg, w3 g hg, evl_b (Or.inr (Or.inl k2)), if_neg (by omega), if_pos k2]
    · have k1 : ¬ x.1 = 1 := fun e => g1 ((q z3 1 1 e3 rfl (by omega)).mpr e)
      have k2 : ¬ x.1 = 2 := fun e => g2 ((q z3 2 2 e3 rfl (by omega)).mpr e)
      rw [(sec z7 e7).2] at e8
      rw [e9, e14, e2, e8, show (255 : Int32) = nI 255 from rfl, nI_xor, nI_or]
      refine h _ (or_lt (k := 8) (Nat.xor_lt_two_pow (n := 8) v1 (by omega)) w1) (fun g hg => ?_)
      rw [Nat.testBit_or, x255 hg, v3 g hg, w3 g hg, evl_b (by omega), if_neg k1, if_neg k2]
theorem q_carried {Post : Int32 → (Nat → Int32) → (Nat → Int64) → (Nat → Nat → Int32) → (Nat → Nat → Int64) → Prop} {av : zIt → Bool} {T : Nat → Nat → Bool} {x : zIt} {l : List zIt} {u : Nat} {nx : Nat → Bool} (hx : isT x.1) (hF : FO B (x :: l)) (hM : PM (B 46) av T l) (hl : l.length < 240) (hu : u < 256) (hun : ∀ g, g < 8 → u.testBit g = nx g) (h : ∀ w, w < 256 → (∀ g, g < 8 → w.testBit g = car x.1 (if isU x.1 then (evl av (T g) l).headD false else (evl av (T g) l).tail.headD false) (if isU x.1 then false else (evl av (T g) l).headD false) (nx g)) → Post (nI w) I J B D) : wp_Truths_carried I J B D (nI l.length) (nI u) Post := by
  obtain ⟨f1, f2, f3, f4, f5, f6⟩ := hF
  have vl' : vp_in (nI l.length) 240 := vin2 rfl hl (by omega)
  have cl' : (nI l.length).toNatClampNeg = l.length := clI rfl (by omega)
  have q : ∀ (z : Int32) (m : Nat) (y : Int32), z = nI x.1 → y = nI m → m ≤ 9 → (z = y ↔ x.1 = m) := fun z m y hz hy hm => eqI hz hy (by omega) (by omega)
  by_cases gu : isU x.1
  · obtain ⟨r, R, er, b40⟩ := f5 gu
    obtain ⟨hr, w, w1, w2, w3⟩ := PM_1 hM er
    refine ⟨vl', fun z1 e1 => ?_⟩
    rw [cl', b40] at e1
    refine ⟨vin2 e1 (by omega) (by omega), fun z2 e2 => ⟨vl', fun z3 e3 => ?_⟩⟩
    rw [clI e1 (by omega), w2] at e2
    rw [cl', f2] at e3
    refine ⟨fun z z5 e5 => ?_, fun z z5 e5 => ?_, fun z => absurd ((q z3 6 6 e3 rfl (by omega)).mp z) (by omega), fun g4 g5 _ => ?_⟩
    · have k4 := (q z3 4 4 e3 rfl (by omega)).mp z
      rw [e5, e2, nI_and]
      refine h _ (Nat.lt_of_le_of_lt Nat.and_le_left w1) (fun g hg => ?_)
      rw [Nat.testBit_and, w3 g hg, hun g hg, if_pos gu]
      unfold car; rw [if_pos k4]
    · have k5 := (q z3 5 5 e3 rfl (by omega)).mp z
      rw [e5, e2, nI_or]
      refine h _ (or_lt (k := 8) w1 hu) (fun g hg => ?_)
      rw [Nat.testBit_or, w3 g hg, hun g hg, if_pos gu]
      unfold car; rw [if_neg (by omega), if_pos k5]
    · have k4 : ¬ x.1 = 4 := fun e => g4 ((q z3 4 4 e3 rfl (by omega)).mpr e)
      have k5 : ¬ x.1 = 5 := fun e => g5 ((q z3 5 5 e3 rfl (by omega)).mpr e)
      omega
  · obtain ⟨r2, r1, R, er, b40, b41⟩ := f6 (by omega) gu
    obtain ⟨hr2, w, w1, w2, w3⟩ := PM_1 hM er
    obtain ⟨hr1, v, v1, v2, v3⟩ := PM_2 hM er
    refine ⟨vl', fun z1 e1 => ?_⟩
    rw [cl', b40] at e1
    refine ⟨vin2 e1 (by omega) (by omega), fun z2 e2 => ⟨vl', fun z3 e3 => ?_⟩⟩
    rw [clI e1 (by omega), v2] at e2
    rw [cl', f2] at e3
    have sec : ∀ z7 : Int32, z7 = B 41 (nI l.length).toNatClampNeg → vp_in z7 240 ∧ B 46 z7.toNatClampNeg = nI w := fun z7 e7 => by
      rw [cl', b41] at e7
      exact ⟨vin2 e7 (by omega) (by omega), by rw [clI e7 (by omega)]; exact w2⟩
    refine ⟨fun z => absurd ((q z3 4 4 e3 rfl (by omega)).mp z) (by omega), fun z => absurd ((q z3 5 5 e3 rfl (by omega)).mp z) (by omega), fun z => ⟨vl', fun z7 e7 => ⟨(sec z7 e7).1, fun z8 e8 z9 e9 z10 e10 => ?_⟩⟩, fun _ _ g6 => ⟨vl', fun z7 e7 => ⟨(sec z7 e7).1, fun z8 e8 z9 e9 z10 e10 => ?_⟩⟩⟩
    · have k6 := (q z3 6 6 e3 rfl (by omega)).mp z
      rw [(sec z7 e7).2] at e8
      rw [e10, e9, e2, e8, nI_and, nI_or]
      refine h _ (or_lt (k := 8) w1 (Nat.lt_of_le_of_lt Nat.and_le_left v1)) (fun g hg => ?_)
      rw [Nat.testBit_or, Nat.testBit_and, v3 g hg, w3 g hg, hun g hg, if_neg gu, if_neg gu]
      unfold car; rw [if_neg (by omega), if_neg (by omega), if_pos k6]
    · have k6 : ¬ x.1 = 6 := fun e => g6 ((q z3 6 6 e3 rfl (by omega)).mpr e)
      rw [(sec z7 e7).2] at e8
      rw [e10, e9, e2, e8, nI_or, nI_and]
      refine h _ (Nat.lt_of_le_of_lt Nat.and_le_left w1) (fun g hg => ?_)
      rw [Nat.testBit_and, Nat.testBit_or, v3 g hg, w3 g hg, hun g hg, if_neg gu, if_neg gu]
      unfold car; rw [if_neg (by omega), if_neg (by omega), if_neg k6]
/-- the worths of U, R, G, F for each guess: there, or at the next state -/
def Tm (av : zIt → Bool) (md : Int32) (out : List zIt) (g : Nat) : Nat → Bool := if md = 0 then (fun t => g.testBit t) else cT av (fun t => g.testBit t) out
theorem q_reckonParts {Post : (Nat → Int32) → (Nat → Int64) → (Nat → Nat → Int32) → (Nat → Nat → Int64) → Prop} {PX : String → (Nat → Int32) → (Nat → Int64) → (Nat → Nat → Int32) → (Nat → Nat → Int64) → Prop} {d : zD} {Q : zQ} {c : zCf} {out : List zIt} {md : Int32} (hN : NC d) (hW : QW d Q) (hC : WC d Q c) (hS : CS d c I B) (hO : FOK d.2.2.2.1 (qP Q) out) (hK : KF9 out I B) (h : ∀ B', PM (B' 46) (atv d c) (Tm (atv d c) md out) out → (∀ k, k ≠ 45 → k ≠ 46 → B' k = B k) → Post I J B' D) : wp_Truths_reckonParts I J B D md Post PX := by
  obtain ⟨o1, o2, o3, o4, o5, o6⟩ := hO
  obtain ⟨k1, k2, k3, k4, k5⟩ := hK
  have lp : ∀ (rem suf : List zIt) (B1 : Nat → Nat → Int32), out = rem.reverse ++ suf → PM (B1 46) (atv d c) (Tm (atv d c) md out) suf → (∀ k, k ≠ 45 → k ≠ 46 → B1 k = B k) → wl_Truths_reckonParts_4 md Post PX (rem.length + 1) md (nI (ntm suf)) (nI suf.length) I J B1 D := by
    intro rem
    induction rem with
    | nil =>
      intro suf B1 e hM hB1
      simp at e
      subst e
      exact ⟨fun _ => h B1 hM hB1, fun z => absurd ((leI k1 (y := nI out.length) rfl (by omega) (by omega)).mpr (Nat.le_refl _)) z⟩
    | cons x rem ih =>
      intro suf B1 e hM hB1
      have e' : out = rem.reverse ++ (x :: suf) := by rw [e]; simp
      have hlen : out.length = rem.length + suf.length + 1 := by rw [e']; simp; omega
      have hx := o5 x (by rw [e']; simp)
      have hF0 : FO B (x :: suf) := FO_app rem.reverse _ (by rw [← e']; exact k4)
      have hF : FO B1 (x :: suf) := hF0.cg (fun r hr k _ => by rw [hB1 r (by simp at hr; omega) (by simp at hr; omega)]) (fun k _ => by rw [hB1 43 (by decide) (by decide)])
      have hln : lnC (x :: suf) ≤ lnC out := by rw [e']; exact lnC_app _ _
      have hnt : ntm (x :: suf) ≤ ntm out := by rw [e']; exact ntm_app _ _
      have hnx : ntm (x :: suf) = ntm suf + (if isT x.1 then 1 else 0) := rfl
      have hS1 : CS d c I B1 := by
        unfold CS; rw [hB1 29 (by decide) (by decide), hB1 30 (by decide) (by decide), hB1 31 (by decide) (by decide)]; exact hS
      have b39 : B1 39 suf.length = nI x.1 := hF.2.1
      have vs : vp_in (nI suf.length) 240 := vin2 rfl (by omega) (by omega)
      have cs : (nI suf.length).toNatClampNeg = suf.length := clI rfl (by omega)
      -- on to the next
      have nx : ∀ (w : Nat) (B2 : Nat → Nat → Int32) (x2 : Int32), w < 256 → (∀ g, g < 8 → w.testBit g = (evl (atv d c) (Tm (atv d c) md out g) (x :: suf)).headD false) → PM (B2 46) (atv d c) (Tm (atv d c) md out) suf → (∀ k, k ≠ 45 → k ≠ 46 → B2 k = B k) → x2 = nI (ntm (x :: suf)) → ∀ z1 : Int32, z1 = nI suf.length + 1 → wl_Truths_reckonParts_4 md Post PX (rem.length + 1) md x2 z1 I J (va_up B2 46 (upd (B2 46) suf.length (nI w))) D := by
        intro w B2 x2 hw hb hM2 hB2 hx2 z1 e1
        rw [hx2, inI rfl e1]
        refine ih (x :: suf) _ e' ⟨?_, w, hw, by simp [va_up, upd], hb⟩ (fun k h1 h2 => by simp [va_up, h2]; exact hB2 k h1 h2)
        have : va_up B2 46 (upd (B2 46) suf.length (nI w)) 46 = upd (B2 46) suf.length (nI w) := by simp [va_up]
        rw [this]
        refine hM2.cg (fun k hk => ?_)
        have : ¬ k = suf.length := by omega
        simp [upd, this]
      refine ⟨fun z => ?_, fun _ => ⟨vs, fun z4 e4 => ?_⟩⟩
      · have := (leI k1 (y := nI suf.length) rfl (by omega) (by omega)).mp z; omega
      rw [cs, b39] at e4
      have lt8 : z4 < 8 ↔ x.1 < 8 := ltI e4 (y := 8) (b := 8) rfl (by omega) (by omega)
      have le4 : (4 : Int32) ≤ z4 ↔ 4 ≤ x.1 := leI (x := 4) (a := 4) rfl e4 (by omega) (by omega)
      refine ⟨fun g8 => ⟨fun g4 => ?_, fun g4 => ?_⟩, fun g8 => ?_⟩
      · -- U, R, G or F
        have ht : isT x.1 := ⟨le4.mp g4, by have := lt8.mp g8; omega⟩
        rw [if_pos ht] at hnx
        obtain ⟨u, u1, u2, u3⟩ := gue_b (ntm suf) (by omega)
        have ct : (nI (ntm suf)).toNatClampNeg = ntm suf := clI rfl (by omega)
        have vt : vp_in (nI (ntm suf)) 3 := vin2 rfl (by omega) (by omega)
        refine ⟨fun m0 => ⟨vt, fun z9 e9 => ⟨vs, fun z2 e2 z1 e1 => ?_⟩⟩, fun m0 => ⟨vt, fun z11 e11 => ?_⟩⟩
        · rw [ct, u2] at e9
          rw [e9, cs]
          refine nx u B1 z2 u1 (fun g hg => ?_) hM hB1 (by rw [hnx]; exact inI rfl e2) z1 e1
          rw [evl_t ht, u3 g hg]; unfold Tm; rw [if_pos m0]
        · rw [ct, u2] at e11
          rw [e11]
          refine q_carried (nx := fun g => g.testBit (ntm suf)) ht hF hM (by omega) u1 u3 (fun w w1 w2 => ⟨vs, fun z2 e2 z1 e1 => ?_⟩)
          rw [cs]
          refine nx w B1 z2 w1 (fun g hg => ?_) hM hB1 (by rw [hnx]; exact inI rfl e2) z1 e1
          rw [w2 g hg, evl_t ht]
          have eT : Tm (atv d c) md out g = cT (atv d c) (fun t => g.testBit t) out := by unfold Tm; rw [if_neg m0]
          rw [eT]
          have ee : evl (atv d c) (cT (atv d c) (fun t => g.testBit t) out) suf = evl (atv d c) (cT (atv d c) (fun t => g.testBit t) suf) suf := evl_cg _ suf (fun i hi => by
            have : out = (rem.reverse ++ [x]) ++ suf := by rw [e']; simp
            rw [this]; exact cT_suf _ _ _ _ _ hi)
          have ec : cT (atv d c) (fun t => g.testBit t) out (ntm suf) = cT (atv d c) (fun t => g.testBit t) (x :: suf) (ntm suf) := by
            rw [e']; exact cT_suf _ _ _ _ _ (by omega)
          rw [ee, ec, cT_h ht]
      · -- another sign
        have hx3 : x.1 ≤ 3 := by
          have : ¬ 4 ≤ x.1 := fun e => g4 (le4.mpr e)
          omega
        rw [if_neg (by omega), Nat.add_zero] at hnx
        refine q_fjoined hx3 hF hM (by omega) (fun w w1 w2 => ⟨vs, fun z1 e1 => ?_⟩)
        rw [cs]
        exact nx w B1 _ w1 w2 hM hB1 (by rw [hnx]) z1 e1
      · -- an atom
        have hx8 : 8 ≤ x.1 := by
          have : ¬ x.1 < 8 := fun e => g8 (lt8.mpr e)
          omega
        rw [if_neg (by omega), Nat.add_zero] at hnx
        refine q_atomHolds (l := suf) hN hW hC hS1 hx8 hx.1 hx.2 k3 hln o3 hF (by omega) (fun B2 hB2 => ?_)
        have hM2 : PM (B2 46) (atv d c) (Tm (atv d c) md out) suf := by rw [hB2 46 (by decide)]; exact hM
        have hB3 : ∀ k, k ≠ 45 → k ≠ 46 → B2 k = B k := fun k h1 h2 => (hB2 k h1).trans (hB1 k h1 h2)
        refine ⟨fun z => ⟨vs, fun z1 e1 => ?_⟩, fun z => ⟨vs, fun z1 e1 => ?_⟩⟩
        · have hf : atv d c x = false := by
            cases e : atv d c x
            · rfl
            · rw [if_pos e] at z; exact absurd z (by decide)
          rw [cs]
          exact nx 0 B2 _ (by omega) (fun g _ => by rw [evl_a hx8, hf]; simp) hM2 hB3 (by rw [hnx]) z1 e1
        · have hf : atv d c x = true := by
            cases e : atv d c x
            · rw [if_neg (by rw [e]; decide)] at z; exact absurd rfl z
            · rfl
          rw [cs]
          exact nx 255 B2 _ (by omega) (fun g hg => by rw [evl_a hx8, hf]; exact b255 g hg) hM2 hB3 (by rw [hnx]) z1 e1
  have := lp out.reverse [] B (by simp) trivial (fun _ _ _ => rfl)
  exact ⟨out.reverse.length + 1, this⟩
end ZP3
