/-! Expressions: part, closings, sign. -/
section ZX
variable {I : Nat → Int32} {J : Nat → Int64} {B : Nat → Nat → Int32} {D : Nat → Nat → Int64}
theorem q_signOf {Post : Int32 → (Nat → Int32) → (Nat → Int64) → (Nat → Nat → Int32) → (Nat → Nat → Int64) → Prop} {c : Int32} (h : Post (sgn c) I J B D) : wp_Terms_signOf I J B D c Post := by
  unfold sgn at h
  refine ⟨fun g => ?_, fun g => ?_, fun g => ?_, fun g => ?_, fun g => ?_, fun g1 g2 g3 g4 g5 => ?_⟩
  · subst g; exact h
  · subst g; exact h
  · subst g; exact h
  · subst g; exact h
  · subst g; exact h
  · rw [if_neg g1, if_neg g2, if_neg g3, if_neg g4, if_neg g5] at h; exact h
theorem NI_room {n ob a0 b : Nat} {s : zN} (h : NI n ob a0 s) (hn : n ≤ 240) (hb : b ≤ 2 * a0) : b + s.2.2.2.1.length + s.2.2.1.length ≤ 480 ∧ (a0 < s.2.1 → b + s.2.2.2.1.length + s.2.2.1.length < 480) := by
  have h1 := h.2.2.2.2.2.2.2.1; have h2 := h.2.2.2.2.2.2.2.2.1
  omega
theorem q_part_A {Post : (Nat → Int32) → (Nat → Int64) → (Nat → Nat → Int32) → (Nat → Nat → Int64) → Prop} {PX : String → (Nat → Int32) → (Nat → Int64) → (Nat → Nat → Int32) → (Nat → Nat → Int64) → Prop} {f : Nat → Int32} {n b ob a0 : Nat} {kd : Nat → Int32} (hb : b ≤ 2 * a0) {a : Nat} {st out : List Int32} {q o : Nat} (hN : NI n ob a0 (1, a, st, out, q, o)) (hE : CEA f n b I B (1, a, st, out, q, o)) (hk : ∀ j, j < 8 → B 2 j = kd j) (h40 : tkn f n a ≠ 40)
    (kok : ∀ I' B', est f n kd ob (1, a, st, out, q, o) (0, a + 1, st, pcode (tkn f n a) :: out, q + 1, o) → FCA b I B I' B' → CEA f n b I' B' (0, a + 1, st, pcode (tkn f n a) :: out, q + 1, o) → Post I' J B' D)
    (kf : efail f n kd (1, a, st, out, q, o) → PX IAE (upd I 6 (I 5)) J B D) : wp_Terms_readPart_A I J B D Post PX := by
  have hE1 : TY (B 1) f (I 5) (I 4) a n := hE.1
  obtain ⟨_, ⟨t1, t2, t3, t4⟩, hP, hO, hM⟩ := hE
  dsimp only at t1 t2 t3 t4 hP hO hM
  have hq : q ≤ 12 := hN.2.2.2.2.1
  have hrm := NI_room hN hE1.2.2.2.1 hb
  dsimp only at hrm
  refine q_oneOf (Or.inl rfl) hE1.tx (q_oneOf (Or.inr (Or.inr rfl)) hE1.tx ?_)
  rw [hE1.tk]
  have bad : q = 12 ∨ ¬ okpart kd (tkn f n a) → PX IAE (upd I 6 (I 5)) J B D := fun z => kf ⟨rfl, Or.inr ⟨h40, z⟩⟩
  have good : q ≠ 12 → okpart kd (tkn f n a) → wc_Terms_readPart_A_58 Post PX (one (tkn f n a) 48 8) (one (tkn f n a) 97 8) I J B D := by
    intro q12 hok z1 e1 z3 e3
    have hs : est f n kd ob (1, a, st, out, q, o) (0, a + 1, st, pcode (tkn f n a) :: out, q + 1, o) := Or.inr (Or.inl ⟨rfl, h40, q12, hok, rfl⟩)
    have ha : a < n := tkn_lt (f := f) (c := tkn f n a) rfl (okpart_ne hok)
    have n1 : z1 = nI (a + 1) := inI hE1.1 e1
    have n3 : z3 = nI (q + 1) := inI hP e3
    have fin : ∀ y, y = pcode (tkn f n a) → wc_Terms_readPart_A_89 Post PX y (upd (upd I 5 z1) 13 z3) J B D := by
      intro y hy
      subst hy
      have h8 := NI_step hN hs
      have h8r := h8.2.2.2.2.2.2.2.1
      have h8n := h8.2.2.2.2.2.2.2.2.1
      dsimp only [List.length_cons] at h8r h8n
      have hn := hE1.2.2.2.1
      refine ⟨vin2 (k := b + out.length) t3 (by omega) (by omega), fun z4 e4 => ?_⟩
      have n4 : z4 = nI (b + out.length + 1) := inI t3 e4
      have e6 : (upd (upd I 5 z1) 13 z3 11).toNatClampNeg = b + out.length := clI t3 (by omega)
      rw [e6]
      refine kok _ _ hs ⟨fun k hk => ?_, fun k hk => ?_, fun k hk => ?_⟩ ⟨?_, ⟨?_, ?_, ?_, ?_⟩, ?_, ?_, ?_⟩
      · simp at hk; simp [upd, hk]
      · simp at hk; simp [va_up, hk]
      · have : ¬ k = b + out.length := by omega
        simp [va_up, upd, this]
      · obtain ⟨y1, y2, y3, y4, y5, y6⟩ := hE1
        exact ⟨n1, y2, ha, y4, y5, y6⟩
      · simpa [upd] using t1
      · simpa [va_up] using t2
      · simp [upd, n4, Nat.add_assoc]
      · simp only [va_up, if_true]; exact rep_push t4 _ rfl
      · simp [upd, n3]
      · simpa [upd] using hO
      · simpa [upd] using hM
    refine ⟨fun g => fin _ ?_, fun g z5 e5 => fin _ ?_⟩
    · unfold pcode; rw [if_neg g]
    · unfold pcode; rw [if_pos g, e5]
  have hq12 : I 13 = 12 ↔ q = 12 := eqI hP (y := 12) (b := 12) rfl (by omega) (by omega)
  refine ⟨fun g => bad (Or.inl (hq12.mp g)), fun g => ?_⟩
  have g : q ≠ 12 := fun z => g (hq12.mpr z)
  refine ⟨fun g1 => good g (Or.inl g1), fun g1 => ⟨fun g2 => bad (Or.inr (fun z => z.elim (fun z => z g1) (fun z => z.1 g2))), fun g2 => ?_⟩⟩
  have h8 := one_in g2
  have hlt : (one (tkn f n a) 97 8).toInt < 8 := by have := Int32.lt_iff_toInt_lt.mp h8.2; exact this
  have hj : (one (tkn f n a) 97 8).toNatClampNeg < 8 := by
    have e : (one (tkn f n a) 97 8).toNatClampNeg = (one (tkn f n a) 97 8).toInt.toNat := rfl
    omega
  refine ⟨vin h8.1 (by omega), fun z12 e12 => ?_⟩
  rw [hk _ hj] at e12
  refine ⟨fun g3 => good g (Or.inr ⟨g2, by rw [← e12]; exact g3⟩), fun g3 => bad (Or.inr (fun z => z.elim (fun z => z g1) (fun z => z.2 (by rw [← e12]; exact g3))))⟩
theorem q_closings_A {Post : (Nat → Int32) → (Nat → Int64) → (Nat → Nat → Int32) → (Nat → Nat → Int64) → Prop} {PX : String → (Nat → Int32) → (Nat → Int64) → (Nat → Nat → Int32) → (Nat → Nat → Int64) → Prop} {f : Nat → Int32} {n b ob a0 : Nat} {kd : Nat → Int32} (hb : b ≤ 2 * a0) : ∀ (d a : Nat) (st out : List Int32) (q o c : Nat) (I : Nat → Int32) (B : Nat → Nat → Int32), n - a ≤ d → c ≤ a → NI n ob a0 (0, a, st, out, q, o) → CEA f n b I B (0, a, st, out, q, o) →
    (∀ I' B' a' st' out' o', star (est f n kd ob) (0, a, st, out, q, o) (0, a', st', out', q, o') → ¬ (tkn f n a' = 41 ∧ ob < o') → FCA b I B I' B' → CEA f n b I' B' (0, a', st', out', q, o') → Post I' J B' D) →
    wl_Terms_readClosings_A_2 (nI ob) Post PX (d + 1) (nI ob) (nI c) I J B D := by
  intro d
  induction d with
  | zero =>
    intro a st out q o c I B hd hc hN hE kok
    have hE1 : TY (B 1) f (I 5) (I 4) a n := hE.1
    have hne : ¬ (tkn f n a = 41 ∧ ob < o) := by
      intro e
      have := tkn_lt e.1 (by decide); omega
    have hp : Post I J B D := kok I B a st out o (star.refl _) hne FCA.rf hE
    refine ⟨fun _ => hp, fun _ => ⟨fun _ => hp, fun g2 => q_ahead hE1.tx ?_⟩⟩
    refine ⟨fun _ => hp, fun g => ?_⟩
    rw [hE1.tk] at g
    have := tkn_lt g (by decide); omega
  | succ d ih =>
    intro a st out q o c I B hd hc hN hE kok
    have hE1 : TY (B 1) f (I 5) (I 4) a n := hE.1
    have hE' := hE
    obtain ⟨_, ⟨t1, t2, t3, t4⟩, hP, hO, hM⟩ := hE
    dsimp only at t1 t2 t3 t4 hP hO hM
    have ho4 : o ≤ 4 := hN.2.2.1
    have hno := hN.2.1
    dsimp only at hno
    have hob : I 14 ≤ nI ob ↔ o ≤ ob := leI hO rfl (by omega) (by omega)
    refine ⟨fun g => ?_, fun _ => ⟨fun g => ?_, fun g2 => q_ahead hE1.tx ?_⟩⟩
    · have g := (leI (x := 240) (a := 240) rfl rfl (by omega) (by have := hN.2.2.2.2.2.2.2.2.1; have := hE1.2.2.2.1; dsimp only at *; omega)).mp g
      refine kok I B a st out o (star.refl _) (fun e => ?_) FCA.rf hE'
      have := tkn_lt e.1 (by decide); have := hE1.2.2.2.1; omega
    · have g := hob.mp g
      exact kok I B a st out o (star.refl _) (fun e => by omega) FCA.rf hE'
    have g2 : ob < o := by
      have : ¬ o ≤ ob := fun z => g2 (hob.mpr z)
      omega
    refine ⟨fun g => ?_, fun g => ?_⟩
    · rw [hE1.tk] at g
      exact kok I B a st out o (star.refl _) (fun e => g e.1) FCA.rf hE'
    rw [hE1.tk] at g
    have ha := tkn_lt g (by decide)
    intro z1 e1
    have n1 : z1 = nI (a + 1) := inI hE1.1 e1
    have hrm := NI_room hN hE1.2.2.2.1 hb
    dsimp only at hrm
    have hln := NI_len hN
    have hd3 := hd_le st
    dsimp only at hln
    have hcb := NI_cb hN
    dsimp only at hcb
    have hs : est f n kd ob (0, a, st, out, q, o) (0, a + 1, (popw 1 st out).1.tail, (popw 1 st out).2, q, o - 1) := Or.inr (Or.inr (Or.inl ⟨rfl, g, g2, rfl⟩))
    have hpl := popw_len 1 st out
    refine ⟨_, q_release_A (a0 := 16) (Or.inl rfl) (b := b) st out 0 _ _ (okst_G hN.1) ⟨t1, t2, t3, t4⟩ (by omega) hrm.1 ?_⟩
    intro I6 B6 f1 f2 f3 f4
    have f4 : TSA I6 B6 b (popw 1 st out).1 (popw 1 st out).2 := f4
    rcases popw_1 st out hN.1 with ⟨_, w2⟩ | ⟨r, w1, w2, w3, w4⟩
    · omega
    rw [w1] at hs f4 hpl
    simp only [List.tail_cons] at hs
    obtain ⟨u1, u2, u3, u4⟩ := f4
    intro z7 e7 z8 e8 z9 e9 z10 e10
    have n7 : z7 = nI r.length := deI (by simpa using u1) e7
    have o1 : I6 14 = nI (o - 1 + 1) := by
      rw [f1 14 (by decide)]; show I 14 = _
      rw [hO]; congr 1; omega
    have n8 : z8 = nI (o - 1) := deI o1 e8
    have n9 : z9 = nI (cb r) := by
      rw [e9, f1 15 (by decide)]; show I 15 >>> (1 &&& 31) = _
      rw [hM, shr1 (by omega), w4]
    have n10 : z10 = nI (c + 1) := inI rfl e10
    rw [n10]
    have hF : FCA b I B (upd (upd (upd I6 12 z7) 14 z8) 15 z9) B6 := by
      refine ⟨fun k hk => ?_, fun k hk => ?_, f3⟩
      · simp at hk
        simp only [upd, hk, if_false]
        rw [f1 k (by simp [hk])]
        simp [upd, hk]
      · simp at hk
        exact f2 k (by simp [hk])
    have hN2 := NI_step hN hs
    refine ih (a + 1) r (popw 1 st out).2 q (o - 1) (c + 1) _ _ (by omega) (by omega) hN2 ⟨?_, ⟨?_, ?_, ?_, ?_⟩, ?_, ?_, ?_⟩ ?_
    · obtain ⟨y1, y2, y3, y4, y5, y6⟩ := hE1
      refine ⟨?_, ?_, ha, y4, ?_, y6⟩
      · show I6 5 = _
        rw [f1 5 (by decide)]; exact n1
      · show I6 4 = _
        rw [f1 4 (by decide)]; exact y2
      · rw [f2 1 (by decide)]; exact y5
    · simp [upd, n7]
    · exact u2.2
    · simpa [upd] using u3
    · exact u4
    · show I6 13 = _
      rw [f1 13 (by decide)]; exact hP
    · simp [upd, n8]
    · simp [upd, n9]
    · intro I' B' a' st' out' o' k1 k2 k3 k4
      exact kok I' B' a' st' out' o' (star.head hs k1) k2 (hF.tr k3) k4
theorem q_sign_A {Post : Int32 → (Nat → Int32) → (Nat → Int64) → (Nat → Nat → Int32) → (Nat → Nat → Int64) → Prop} {PX : String → (Nat → Int32) → (Nat → Int64) → (Nat → Nat → Int32) → (Nat → Nat → Int64) → Prop} {f : Nat → Int32} {n b ob a0 : Nat} {kd : Nat → Int32} (hb : b ≤ 2 * a0) {a : Nat} {st out : List Int32} {q o : Nat} (hN : NI n ob a0 (0, a, st, out, q, o)) (hE : CEA f n b I B (0, a, st, out, q, o)) (h41 : ¬ (tkn f n a = 41 ∧ ob < o))
    (k0 : estop f n ob (0, a, st, out, q, o) → Post 0 I J B D)
    (k1 : ∀ I' B' s', s'.1 = 1 → s'.2.1 = a + 1 → est f n kd ob (0, a, st, out, q, o) s' → FCA b I B I' B' → CEA f n b I' B' s' → Post 1 I' J B' D) : wp_Terms_readSign_A I J B D Post PX := by
  have hE1 : TY (B 1) f (I 5) (I 4) a n := hE.1
  obtain ⟨_, ⟨t1, t2, t3, t4⟩, hP, hO, hM⟩ := hE
  dsimp only at t1 t2 t3 t4 hP hO hM
  have hcb := NI_cb hN
  have hln := NI_len hN
  have hd3 := hd_le st
  have hrm := NI_room hN hE1.2.2.2.1 hb
  have ho4 : o ≤ 4 := hN.2.2.1
  have hno := hN.2.1
  dsimp only at hcb hln hrm hno
  have hc2 := cb_lt (st := st) hN.1
  refine q_ahead hE1.tx (q_signOf ?_)
  rw [hE1.tk]
  generalize hc : sgn (tkn f n a) = x at *
  have go : ∀ y : Int32, (y = 0 ∧ ¬ (x = 16 ∨ x = 17)) ∨ (y = 1 ∧ (x = 16 ∨ x = 17)) → ¬ x = -1 → ¬ ((x = 16 ∨ x = 17) ∧ hcm st) → wc_Terms_readSign_A_49 Post PX x y I J B D := by
    intro y hy hx hcm'
    have ha : a < n := tkn_lt (f := f) (c := tkn f n a) rfl (sgn_ne (by rw [hc]; exact hx))
    have hk : okS x := by rw [← hc] at hx ⊢; exact sgn_ok hx
    have hp := (sg_str hk).2.2
    have hs : est f n kd ob (0, a, st, out, q, o) (1, a + 1, x :: (popw (sg x) st out).1, (popw (sg x) st out).2, q, o) := by
      refine Or.inr (Or.inr (Or.inr ⟨rfl, ?_, ?_, ?_⟩))
      · dsimp only; rw [hc]; exact hx
      · dsimp only; rw [hc]; exact hcm'
      · dsimp only; rw [hc]
    intro z1 e1
    have n1 : z1 = nI (a + 1) := inI hE1.1 e1
    refine ⟨_, q_release_A hk (b := b) st out 0 _ _ (okst_G hN.1) ⟨t1, t2, t3, t4⟩ (by omega) hrm.1 ?_⟩
    intro I6 B6 f1 f2 f3 f4
    have hpl := popw_len (sg x) st out
    have hps := popw_st (sg x) hp.1 st out hN.1
    have hl6 := okst_len hps.1
    obtain ⟨u1, u2, u3, u4⟩ := f4
    generalize hst : (popw (sg x) st out).1 = st6 at *
    generalize hou : (popw (sg x) st out).2 = out6 at *
    refine ⟨vin2 u1 (by omega) (by omega), fun z7 e7 => ?_⟩
    have n7 : z7 = nI (st6.length + 1) := inI u1 e7
    rw [clI u1 (by omega)]
    have hcb6 : (x = 16 ∨ x = 17) → cb st6 = cb st ∧ cb st % 2 = 0 := by
      intro z
      have hn : ¬ hcm st := fun w => hcm' ⟨z, w⟩
      have s1 : sg x = 1 := by unfold sg; rw [if_pos z]
      have e12 := popw_12 st out hN.1 hn
      have := (popw_cb 2 (Nat.le_refl 2) st out).1
      rw [← e12, ← s1, hst] at this
      refine ⟨this, ?_⟩
      have : ¬ cb st % 2 = 1 := fun w => hn (hc2.2.1.mp w)
      omega
    have hcb7 : ¬ (x = 16 ∨ x = 17) → cb st6 = cb st := by
      intro z
      have s2 : 2 ≤ sg x := by
        rcases hk with rfl | rfl | rfl | rfl | rfl
        · exact absurd (Or.inl rfl) z
        · exact absurd (Or.inr rfl) z
        · decide
        · decide
        · decide
      have := (popw_cb (sg x) s2 st out).1
      rw [hst] at this; exact this
    have n21 : ¬ x = 21 := sg_neq hk
    have hM6 : I6 15 = nI (cb st) := by rw [f1 15 (by decide)]; exact hM
    have fin : ∀ v : Int32, v = nI (cb (x :: st6)) → ∀ I7, I7 15 = v → (∀ k, k ≠ 15 → I7 k = upd I6 12 z7 k) → Post 1 I7 J (va_up B6 16 (upd (B6 16) st6.length x)) D := by
      intro v hv I7 g1 g2
      refine k1 _ _ (1, a + 1, x :: st6, out6, q, o) rfl rfl hs ⟨fun k hk => ?_, fun k hk => ?_, fun k hk => ?_⟩ ⟨?_, ⟨?_, ?_, ?_, ?_⟩, ?_, ?_, ?_⟩
      · simp at hk
        rw [g2 k (by simp [hk])]
        simp only [upd, hk, if_false]
        rw [f1 k (by simp [hk])]
        simp [upd, hk]
      · simp at hk
        simp only [va_up, hk, if_false]
        exact f2 k (by simp [hk])
      · simp [va_up]; exact f3 k hk
      · obtain ⟨y1, y2, y3, y4, y5, y6⟩ := hE1
        refine ⟨?_, ?_, ha, y4, ?_, y6⟩
        · rw [g2 5 (by decide)]; show I6 5 = _
          rw [f1 5 (by decide)]; exact n1
        · rw [g2 4 (by decide)]; show I6 4 = _
          rw [f1 4 (by decide)]; exact y2
        · show ∀ k, k < n → (B6 1) k = f k
          rw [f2 1 (by decide)]; exact y5
      · rw [g2 12 (by decide)]; simp [upd, n7]
      · simp only [va_up, if_true]; exact rep_push u2 x (by simp)
      · rw [g2 11 (by decide)]; simpa [upd] using u3
      · simpa [va_up] using u4
      · rw [g2 13 (by decide)]; show I6 13 = _
        rw [f1 13 (by decide)]; exact hP
      · rw [g2 14 (by decide)]; show I6 14 = _
        rw [f1 14 (by decide)]; exact hO
      · rw [g1]; exact hv
    refine ⟨fun g => ?_, fun g z5 e5 => ?_⟩
    · rcases hy with ⟨_, hy⟩ | ⟨hy, _⟩
      · refine fin (nI (cb st)) ?_ _ ?_ (fun k hk => rfl)
        · simp only [cb, if_neg n21, if_neg hy]; rw [hcb7 hy]
        · exact hM6
      · rw [hy] at g; exact absurd g (by decide)
    · rcases hy with ⟨hy, _⟩ | ⟨_, hy⟩
      · exact absurd hy g
      · refine fin z5 ?_ _ ?_ (fun k hk => ?_)
        · rw [e5]; show I6 15 ||| 1 = _
          rw [hM6, or1 (by omega) (hcb6 hy).2]
          simp only [cb, if_neg n21, if_pos hy]; rw [(hcb6 hy).1]
        · simp [upd]
        · simp [upd, hk]
  have stop : x = -1 ∨ ((x = 16 ∨ x = 17) ∧ hcm st) → Post 0 I J B D := fun z => k0 ⟨rfl, h41, by dsimp only; rw [hc]; exact z⟩
  have w28 : ∀ y : Int32, (y = 0 ∧ ¬ (x = 16 ∨ x = 17)) ∨ (y = 1 ∧ (x = 16 ∨ x = 17)) → wc_Terms_readSign_A_28 Post PX x y I J B D := by
    intro y hy
    refine ⟨fun g => stop (Or.inl g), fun g => ⟨fun g2 => ?_, fun g2 z8 e8 => ?_⟩⟩
    · refine go y hy g ?_
      rcases hy with ⟨_, hy⟩ | ⟨hy, _⟩
      · exact fun z => hy z.1
      · rw [hy] at g2; exact absurd g2 (by decide)
    · have hx : x = 16 ∨ x = 17 := by
        rcases hy with ⟨hy, _⟩ | ⟨_, hy⟩
        · exact absurd hy g2
        · exact hy
      have e9 : z8 = nI (cb st % 2) := by rw [e8, hM]; exact and1 (by omega)
      have e0 : z8 = 0 ↔ cb st % 2 = 0 := eqI e9 (y := 0) (b := 0) rfl (by omega) (by omega)
      refine ⟨fun g3 => go y hy g (fun z => ?_), fun g3 => stop (Or.inr ⟨hx, ?_⟩)⟩
      · have := hc2.2.1.mpr z.2; have := e0.mp g3; omega
      · refine hc2.2.1.mp ?_
        have : ¬ cb st % 2 = 0 := fun z => g3 (e0.mpr z)
        omega
  refine ⟨fun g => w28 1 (Or.inr ⟨rfl, Or.inl g⟩), fun g => ⟨fun g2 => w28 0 (Or.inl ⟨rfl, fun z => z.elim g g2⟩), fun g2 => w28 1 (Or.inr ⟨rfl, Or.inr g2⟩)⟩⟩
theorem q_part_B {Post : (Nat → Int32) → (Nat → Int64) → (Nat → Nat → Int32) → (Nat → Nat → Int64) → Prop} {PX : String → (Nat → Int32) → (Nat → Int64) → (Nat → Nat → Int32) → (Nat → Nat → Int64) → Prop} {f : Nat → Int32} {n b ob a0 : Nat} {kd : Nat → Int32} (hb : b ≤ 2 * a0) {a : Nat} {st out : List Int32} {q o : Nat} (hN : NI n ob a0 (1, a, st, out, q, o)) (hE : CEB f n b I B (1, a, st, out, q, o)) (hk : ∀ j, j < 8 → B 2 j = kd j) (h40 : tkn f n a ≠ 40)
    (kok : ∀ I' B', est f n kd ob (1, a, st, out, q, o) (0, a + 1, st, pcode (tkn f n a) :: out, q + 1, o) → FCB b I B I' B' → CEB f n b I' B' (0, a + 1, st, pcode (tkn f n a) :: out, q + 1, o) → Post I' J B' D)
    (kf : efail f n kd (1, a, st, out, q, o) → PX IAE (upd I 6 (I 5)) J B D) : wp_Terms_readPart_B I J B D Post PX := by
  have hE1 : TY (B 1) f (I 5) (I 4) a n := hE.1
  obtain ⟨_, ⟨t1, t2, t3, t4⟩, hP, hO, hM⟩ := hE
  dsimp only at t1 t2 t3 t4 hP hO hM
  have hq : q ≤ 12 := hN.2.2.2.2.1
  have hrm := NI_room hN hE1.2.2.2.1 hb
  dsimp only at hrm
  refine q_oneOf (Or.inl rfl) hE1.tx (q_oneOf (Or.inr (Or.inr rfl)) hE1.tx ?_)
  rw [hE1.tk]
  have bad : q = 12 ∨ ¬ okpart kd (tkn f n a) → PX IAE (upd I 6 (I 5)) J B D := fun z => kf ⟨rfl, Or.inr ⟨h40, z⟩⟩
  have good : q ≠ 12 → okpart kd (tkn f n a) → wc_Terms_readPart_B_58 Post PX (one (tkn f n a) 48 8) (one (tkn f n a) 97 8) I J B D := by
    intro q12 hok z1 e1 z3 e3
    have hs : est f n kd ob (1, a, st, out, q, o) (0, a + 1, st, pcode (tkn f n a) :: out, q + 1, o) := Or.inr (Or.inl ⟨rfl, h40, q12, hok, rfl⟩)
    have ha : a < n := tkn_lt (f := f) (c := tkn f n a) rfl (okpart_ne hok)
    have n1 : z1 = nI (a + 1) := inI hE1.1 e1
    have n3 : z3 = nI (q + 1) := inI hP e3
    have fin : ∀ y, y = pcode (tkn f n a) → wc_Terms_readPart_B_89 Post PX y (upd (upd I 5 z1) 27 z3) J B D := by
      intro y hy
      subst hy
      have h8 := NI_step hN hs
      have h8r := h8.2.2.2.2.2.2.2.1
      have h8n := h8.2.2.2.2.2.2.2.2.1
      dsimp only [List.length_cons] at h8r h8n
      have hn := hE1.2.2.2.1
      refine ⟨vin2 (k := b + out.length) t3 (by omega) (by omega), fun z4 e4 => ?_⟩
      have n4 : z4 = nI (b + out.length + 1) := inI t3 e4
      have e6 : (upd (upd I 5 z1) 27 z3 25).toNatClampNeg = b + out.length := clI t3 (by omega)
      rw [e6]
      refine kok _ _ hs ⟨fun k hk => ?_, fun k hk => ?_, fun k hk => ?_⟩ ⟨?_, ⟨?_, ?_, ?_, ?_⟩, ?_, ?_, ?_⟩
      · simp at hk; simp [upd, hk]
      · simp at hk; simp [va_up, hk]
      · have : ¬ k = b + out.length := by omega
        simp [va_up, upd, this]
      · obtain ⟨y1, y2, y3, y4, y5, y6⟩ := hE1
        exact ⟨n1, y2, ha, y4, y5, y6⟩
      · simpa [upd] using t1
      · simpa [va_up] using t2
      · simp [upd, n4, Nat.add_assoc]
      · simp only [va_up, if_true]; exact rep_push t4 _ rfl
      · simp [upd, n3]
      · simpa [upd] using hO
      · simpa [upd] using hM
    refine ⟨fun g => fin _ ?_, fun g z5 e5 => fin _ ?_⟩
    · unfold pcode; rw [if_neg g]
    · unfold pcode; rw [if_pos g, e5]
  have hq12 : I 27 = 12 ↔ q = 12 := eqI hP (y := 12) (b := 12) rfl (by omega) (by omega)
  refine ⟨fun g => bad (Or.inl (hq12.mp g)), fun g => ?_⟩
  have g : q ≠ 12 := fun z => g (hq12.mpr z)
  refine ⟨fun g1 => good g (Or.inl g1), fun g1 => ⟨fun g2 => bad (Or.inr (fun z => z.elim (fun z => z g1) (fun z => z.1 g2))), fun g2 => ?_⟩⟩
  have h8 := one_in g2
  have hlt : (one (tkn f n a) 97 8).toInt < 8 := by have := Int32.lt_iff_toInt_lt.mp h8.2; exact this
  have hj : (one (tkn f n a) 97 8).toNatClampNeg < 8 := by
    have e : (one (tkn f n a) 97 8).toNatClampNeg = (one (tkn f n a) 97 8).toInt.toNat := rfl
    omega
  refine ⟨vin h8.1 (by omega), fun z12 e12 => ?_⟩
  rw [hk _ hj] at e12
  refine ⟨fun g3 => good g (Or.inr ⟨g2, by rw [← e12]; exact g3⟩), fun g3 => bad (Or.inr (fun z => z.elim (fun z => z g1) (fun z => z.2 (by rw [← e12]; exact g3))))⟩
theorem q_closings_B {Post : (Nat → Int32) → (Nat → Int64) → (Nat → Nat → Int32) → (Nat → Nat → Int64) → Prop} {PX : String → (Nat → Int32) → (Nat → Int64) → (Nat → Nat → Int32) → (Nat → Nat → Int64) → Prop} {f : Nat → Int32} {n b ob a0 : Nat} {kd : Nat → Int32} (hb : b ≤ 2 * a0) : ∀ (d a : Nat) (st out : List Int32) (q o c : Nat) (I : Nat → Int32) (B : Nat → Nat → Int32), n - a ≤ d → c ≤ a → NI n ob a0 (0, a, st, out, q, o) → CEB f n b I B (0, a, st, out, q, o) →
    (∀ I' B' a' st' out' o', star (est f n kd ob) (0, a, st, out, q, o) (0, a', st', out', q, o') → ¬ (tkn f n a' = 41 ∧ ob < o') → FCB b I B I' B' → CEB f n b I' B' (0, a', st', out', q, o') → Post I' J B' D) →
    wl_Terms_readClosings_B_2 (nI ob) Post PX (d + 1) (nI ob) (nI c) I J B D := by
  intro d
  induction d with
  | zero =>
    intro a st out q o c I B hd hc hN hE kok
    have hE1 : TY (B 1) f (I 5) (I 4) a n := hE.1
    have hne : ¬ (tkn f n a = 41 ∧ ob < o) := by
      intro e
      have := tkn_lt e.1 (by decide); omega
    have hp : Post I J B D := kok I B a st out o (star.refl _) hne FCB.rf hE
    refine ⟨fun _ => hp, fun _ => ⟨fun _ => hp, fun g2 => q_ahead hE1.tx ?_⟩⟩
    refine ⟨fun _ => hp, fun g => ?_⟩
    rw [hE1.tk] at g
    have := tkn_lt g (by decide); omega
  | succ d ih =>
    intro a st out q o c I B hd hc hN hE kok
    have hE1 : TY (B 1) f (I 5) (I 4) a n := hE.1
    have hE' := hE
    obtain ⟨_, ⟨t1, t2, t3, t4⟩, hP, hO, hM⟩ := hE
    dsimp only at t1 t2 t3 t4 hP hO hM
    have ho4 : o ≤ 4 := hN.2.2.1
    have hno := hN.2.1
    dsimp only at hno
    have hob : I 28 ≤ nI ob ↔ o ≤ ob := leI hO rfl (by omega) (by omega)
    refine ⟨fun g => ?_, fun _ => ⟨fun g => ?_, fun g2 => q_ahead hE1.tx ?_⟩⟩
    · have g := (leI (x := 240) (a := 240) rfl rfl (by omega) (by have := hN.2.2.2.2.2.2.2.2.1; have := hE1.2.2.2.1; dsimp only at *; omega)).mp g
      refine kok I B a st out o (star.refl _) (fun e => ?_) FCB.rf hE'
      have := tkn_lt e.1 (by decide); have := hE1.2.2.2.1; omega
    · have g := hob.mp g
      exact kok I B a st out o (star.refl _) (fun e => by omega) FCB.rf hE'
    have g2 : ob < o := by
      have : ¬ o ≤ ob := fun z => g2 (hob.mpr z)
      omega
    refine ⟨fun g => ?_, fun g => ?_⟩
    · rw [hE1.tk] at g
      exact kok I B a st out o (star.refl _) (fun e => g e.1) FCB.rf hE'
    rw [hE1.tk] at g
    have ha := tkn_lt g (by decide)
    intro z1 e1
    have n1 : z1 = nI (a + 1) := inI hE1.1 e1
    have hrm := NI_room hN hE1.2.2.2.1 hb
    dsimp only at hrm
    have hln := NI_len hN
    have hd3 := hd_le st
    dsimp only at hln
    have hcb := NI_cb hN
    dsimp only at hcb
    have hs : est f n kd ob (0, a, st, out, q, o) (0, a + 1, (popw 1 st out).1.tail, (popw 1 st out).2, q, o - 1) := Or.inr (Or.inr (Or.inl ⟨rfl, g, g2, rfl⟩))
    have hpl := popw_len 1 st out
    refine ⟨_, q_release_B (a0 := 16) (Or.inl rfl) (b := b) st out 0 _ _ (okst_G hN.1) ⟨t1, t2, t3, t4⟩ (by omega) hrm.1 ?_⟩
    intro I6 B6 f1 f2 f3 f4
    have f4 : TSB I6 B6 b (popw 1 st out).1 (popw 1 st out).2 := f4
    rcases popw_1 st out hN.1 with ⟨_, w2⟩ | ⟨r, w1, w2, w3, w4⟩
    · omega
    rw [w1] at hs f4 hpl
    simp only [List.tail_cons] at hs
    obtain ⟨u1, u2, u3, u4⟩ := f4
    intro z7 e7 z8 e8 z9 e9 z10 e10
    have n7 : z7 = nI r.length := deI (by simpa using u1) e7
    have o1 : I6 28 = nI (o - 1 + 1) := by
      rw [f1 28 (by decide)]; show I 28 = _
      rw [hO]; congr 1; omega
    have n8 : z8 = nI (o - 1) := deI o1 e8
    have n9 : z9 = nI (cb r) := by
      rw [e9, f1 29 (by decide)]; show I 29 >>> (1 &&& 31) = _
      rw [hM, shr1 (by omega), w4]
    have n10 : z10 = nI (c + 1) := inI rfl e10
    rw [n10]
    have hF : FCB b I B (upd (upd (upd I6 26 z7) 28 z8) 29 z9) B6 := by
      refine ⟨fun k hk => ?_, fun k hk => ?_, f3⟩
      · simp at hk
        simp only [upd, hk, if_false]
        rw [f1 k (by simp [hk])]
        simp [upd, hk]
      · simp at hk
        exact f2 k (by simp [hk])
    have hN2 := NI_step hN hs
    refine ih (a + 1) r (popw 1 st out).2 q (o - 1) (c + 1) _ _ (by omega) (by omega) hN2 ⟨?_, ⟨?_, ?_, ?_, ?_⟩, ?_, ?_, ?_⟩ ?_
    · obtain ⟨y1, y2, y3, y4, y5, y6⟩ := hE1
      refine ⟨?_, ?_, ha, y4, ?_, y6⟩
      · show I6 5 = _
        rw [f1 5 (by decide)]; exact n1
      · show I6 4 = _
        rw [f1 4 (by decide)]; exact y2
      · rw [f2 1 (by decide)]; exact y5
    · simp [upd, n7]
    · exact u2.2
    · simpa [upd] using u3
    · exact u4
    · show I6 27 = _
      rw [f1 27 (by decide)]; exact hP
    · simp [upd, n8]
    · simp [upd, n9]
    · intro I' B' a' st' out' o' k1 k2 k3 k4
      exact kok I' B' a' st' out' o' (star.head hs k1) k2 (hF.tr k3) k4
theorem q_sign_B {Post : Int32 → (Nat → Int32) → (Nat → Int64) → (Nat → Nat → Int32) → (Nat → Nat → Int64) → Prop} {PX : String → (Nat → Int32) → (Nat → Int64) → (Nat → Nat → Int32) → (Nat → Nat → Int64) → Prop} {f : Nat → Int32} {n b ob a0 : Nat} {kd : Nat → Int32} (hb : b ≤ 2 * a0) {a : Nat} {st out : List Int32} {q o : Nat} (hN : NI n ob a0 (0, a, st, out, q, o)) (hE : CEB f n b I B (0, a, st, out, q, o)) (h41 : ¬ (tkn f n a = 41 ∧ ob < o))
    (k0 : estop f n ob (0, a, st, out, q, o) → Post 0 I J B D)
    (k1 : ∀ I' B' s', s'.1 = 1 → s'.2.1 = a + 1 → est f n kd ob (0, a, st, out, q, o) s' → FCB b I B I' B' → CEB f n b I' B' s' → Post 1 I' J B' D) : wp_Terms_readSign_B I J B D Post PX := by
  have hE1 : TY (B 1) f (I 5) (I 4) a n := hE.1
  obtain ⟨_, ⟨t1, t2, t3, t4⟩, hP, hO, hM⟩ := hE
  dsimp only at t1 t2 t3 t4 hP hO hM
  have hcb := NI_cb hN
  have hln := NI_len hN
  have hd3 := hd_le st
  have hrm := NI_room hN hE1.2.2.2.1 hb
  have ho4 : o ≤ 4 := hN.2.2.1
  have hno := hN.2.1
  dsimp only at hcb hln hrm hno
  have hc2 := cb_lt (st := st) hN.1
  refine q_ahead hE1.tx (q_signOf ?_)
  rw [hE1.tk]
  generalize hc : sgn (tkn f n a) = x at *
  have go : ∀ y : Int32, (y = 0 ∧ ¬ (x = 16 ∨ x = 17)) ∨ (y = 1 ∧ (x = 16 ∨ x = 17)) → ¬ x = -1 → ¬ ((x = 16 ∨ x = 17) ∧ hcm st) → wc_Terms_readSign_B_49 Post PX x y I J B D := by
    intro y hy hx hcm'
    have ha : a < n := tkn_lt (f := f) (c := tkn f n a) rfl (sgn_ne (by rw [hc]; exact hx))
    have hk : okS x := by rw [← hc] at hx ⊢; exact sgn_ok hx
    have hp := (sg_str hk).2.2
    have hs : est f n kd ob (0, a, st, out, q, o) (1, a + 1, x :: (popw (sg x) st out).1, (popw (sg x) st out).2, q, o) := by
      refine Or.inr (Or.inr (Or.inr ⟨rfl, ?_, ?_, ?_⟩))
      · dsimp only; rw [hc]; exact hx
      · dsimp only; rw [hc]; exact hcm'
      · dsimp only; rw [hc]
    intro z1 e1
    have n1 : z1 = nI (a + 1) := inI hE1.1 e1
    refine ⟨_, q_release_B hk (b := b) st out 0 _ _ (okst_G hN.1) ⟨t1, t2, t3, t4⟩ (by omega) hrm.1 ?_⟩
    intro I6 B6 f1 f2 f3 f4
    have hpl := popw_len (sg x) st out
    have hps := popw_st (sg x) hp.1 st out hN.1
    have hl6 := okst_len hps.1
    obtain ⟨u1, u2, u3, u4⟩ := f4
    generalize hst : (popw (sg x) st out).1 = st6 at *
    generalize hou : (popw (sg x) st out).2 = out6 at *
    refine ⟨vin2 u1 (by omega) (by omega), fun z7 e7 => ?_⟩
    have n7 : z7 = nI (st6.length + 1) := inI u1 e7
    rw [clI u1 (by omega)]
    have hcb6 : (x = 16 ∨ x = 17) → cb st6 = cb st ∧ cb st % 2 = 0 := by
      intro z
      have hn : ¬ hcm st := fun w => hcm' ⟨z, w⟩
      have s1 : sg x = 1 := by unfold sg; rw [if_pos z]
      have e12 := popw_12 st out hN.1 hn
      have := (popw_cb 2 (Nat.le_refl 2) st out).1
      rw [← e12, ← s1, hst] at this
      refine ⟨this, ?_⟩
      have : ¬ cb st % 2 = 1 := fun w => hn (hc2.2.1.mp w)
      omega
    have hcb7 : ¬ (x = 16 ∨ x = 17) → cb st6 = cb st := by
      intro z
      have s2 : 2 ≤ sg x := by
        rcases hk with rfl | rfl | rfl | rfl | rfl
        · exact absurd (Or.inl rfl) z
        · exact absurd (Or.inr rfl) z
        · decide
        · decide
        · decide
      have := (popw_cb (sg x) s2 st out).1
      rw [hst] at this; exact this
    have n21 : ¬ x = 21 := sg_neq hk
    have hM6 : I6 29 = nI (cb st) := by rw [f1 29 (by decide)]; exact hM
    have fin : ∀ v : Int32, v = nI (cb (x :: st6)) → ∀ I7, I7 29 = v → (∀ k, k ≠ 29 → I7 k = upd I6 26 z7 k) → Post 1 I7 J (va_up B6 44 (upd (B6 44) st6.length x)) D := by
      intro v hv I7 g1 g2
      refine k1 _ _ (1, a + 1, x :: st6, out6, q, o) rfl rfl hs ⟨fun k hk => ?_, fun k hk => ?_, fun k hk => ?_⟩ ⟨?_, ⟨?_, ?_, ?_, ?_⟩, ?_, ?_, ?_⟩
      · simp at hk
        rw [g2 k (by simp [hk])]
        simp only [upd, hk, if_false]
        rw [f1 k (by simp [hk])]
        simp [upd, hk]
      · simp at hk
        simp only [va_up, hk, if_false]
        exact f2 k (by simp [hk])
      · simp [va_up]; exact f3 k hk
      · obtain ⟨y1, y2, y3, y4, y5, y6⟩ := hE1
        refine ⟨?_, ?_, ha, y4, ?_, y6⟩
        · rw [g2 5 (by decide)]; show I6 5 = _
          rw [f1 5 (by decide)]; exact n1
        · rw [g2 4 (by decide)]; show I6 4 = _
          rw [f1 4 (by decide)]; exact y2
        · show ∀ k, k < n → (B6 1) k = f k
          rw [f2 1 (by decide)]; exact y5
      · rw [g2 26 (by decide)]; simp [upd, n7]
      · simp only [va_up, if_true]; exact rep_push u2 x (by simp)
      · rw [g2 25 (by decide)]; simpa [upd] using u3
      · simpa [va_up] using u4
      · rw [g2 27 (by decide)]; show I6 27 = _
        rw [f1 27 (by decide)]; exact hP
      · rw [g2 28 (by decide)]; show I6 28 = _
        rw [f1 28 (by decide)]; exact hO
      · rw [g1]; exact hv
    refine ⟨fun g => ?_, fun g z5 e5 => ?_⟩
    · rcases hy with ⟨_, hy⟩ | ⟨hy, _⟩
      · refine fin (nI (cb st)) ?_ _ ?_ (fun k hk => rfl)
        · simp only [cb, if_neg n21, if_neg hy]; rw [hcb7 hy]
        · exact hM6
      · rw [hy] at g; exact absurd g (by decide)
    · rcases hy with ⟨hy, _⟩ | ⟨_, hy⟩
      · exact absurd hy g
      · refine fin z5 ?_ _ ?_ (fun k hk => ?_)
        · rw [e5]; show I6 29 ||| 1 = _
          rw [hM6, or1 (by omega) (hcb6 hy).2]
          simp only [cb, if_neg n21, if_pos hy]; rw [(hcb6 hy).1]
        · simp [upd]
        · simp [upd, hk]
  have stop : x = -1 ∨ ((x = 16 ∨ x = 17) ∧ hcm st) → Post 0 I J B D := fun z => k0 ⟨rfl, h41, by dsimp only; rw [hc]; exact z⟩
  have w28 : ∀ y : Int32, (y = 0 ∧ ¬ (x = 16 ∨ x = 17)) ∨ (y = 1 ∧ (x = 16 ∨ x = 17)) → wc_Terms_readSign_B_28 Post PX x y I J B D := by
    intro y hy
    refine ⟨fun g => stop (Or.inl g), fun g => ⟨fun g2 => ?_, fun g2 z8 e8 => ?_⟩⟩
    · refine go y hy g ?_
      rcases hy with ⟨_, hy⟩ | ⟨hy, _⟩
      · exact fun z => hy z.1
      · rw [hy] at g2; exact absurd g2 (by decide)
    · have hx : x = 16 ∨ x = 17 := by
        rcases hy with ⟨hy, _⟩ | ⟨_, hy⟩
        · exact absurd hy g2
        · exact hy
      have e9 : z8 = nI (cb st % 2) := by rw [e8, hM]; exact and1 (by omega)
      have e0 : z8 = 0 ↔ cb st % 2 = 0 := eqI e9 (y := 0) (b := 0) rfl (by omega) (by omega)
      refine ⟨fun g3 => go y hy g (fun z => ?_), fun g3 => stop (Or.inr ⟨hx, ?_⟩)⟩
      · have := hc2.2.1.mpr z.2; have := e0.mp g3; omega
      · refine hc2.2.1.mp ?_
        have : ¬ cb st % 2 = 0 := fun z => g3 (e0.mpr z)
        omega
  refine ⟨fun g => w28 1 (Or.inr ⟨rfl, Or.inl g⟩), fun g => ⟨fun g2 => w28 0 (Or.inl ⟨rfl, fun z => z.elim g g2⟩), fun g2 => w28 1 (Or.inr ⟨rfl, Or.inr g2⟩)⟩⟩
end ZX
