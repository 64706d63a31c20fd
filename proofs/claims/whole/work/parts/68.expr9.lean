/-! Expressions: the reference reads them by the same steps. -/
section ZY2
variable {I : Nat → Int32} {J : Nat → Int64} {B : Nat → Nat → Int32} {D : Nat → Nat → Int64}
def FM (b : Nat) (I : Nat → Int32) (B : Nat → Nat → Int32) (I' : Nat → Int32) (B' : Nat → Nat → Int32) : Prop := (∀ k, k ∉ [2, 11, 13] → I' k = I k) ∧ (∀ k, k ∉ [24, 28] → B' k = B k) ∧ (∀ k, k < b → B' 24 k = B 24 k)
theorem FM.rf {b : Nat} : FM b I B I B := ⟨fun _ _ => rfl, fun _ _ => rfl, fun _ _ => rfl⟩
theorem FM.tr {b : Nat} {I1 I2 : Nat → Int32} {B1 B2 : Nat → Nat → Int32} (h : FM b I B I1 B1) (g : FM b I1 B1 I2 B2) : FM b I B I2 B2 := ⟨fun k hk => (g.1 k hk).trans (h.1 k hk), fun k hk => (g.2.1 k hk).trans (h.2.1 k hk), fun k hk => (g.2.2 k hk).trans (h.2.2 k hk)⟩
def ME (f : Nat → Int32) (n b : Nat) (I : Nat → Int32) (B : Nat → Nat → Int32) (s : zN) : Prop := TY (B 0) f (I 2) (I 1) s.2.1 n ∧ TS9 I B b s.2.2.1 s.2.2.2.1
def kn9 (B : Nat → Nat → Int32) (kd : Nat → Int32) : Prop := ∀ j, j < 8 → ((0 ≤ B 1 j ∨ 0 ≤ B 2 j) ↔ ¬ kd j = 0)
theorem one_lt {c a : Int32} (h : ¬ one c a 8 = -1) : (one c a 8).toNatClampNeg < 8 ∧ vp_in (one c a 8) 8 := by
  have h8 := one_in h
  have hlt : (one c a 8).toInt < 8 := by have := Int32.lt_iff_toInt_lt.mp h8.2; exact this
  have e : (one c a 8).toNatClampNeg = (one c a 8).toInt.toNat := rfl
  exact ⟨by omega, vin h8.1 (by omega)⟩
theorem one_neg {c a m : Int32} : one c a m < 0 ↔ one c a m = -1 := by
  rcases @one_m c a m with h | h
  · rw [h]; decide
  · grind
theorem one_dig {c : Int32} (h : ¬ one c 97 8 = -1) : one c 48 8 = -1 := by
  rcases @one_m c 97 8 with h1 | h1
  · exact absurd h1 h
  · rcases @one_m c 48 8 with h2 | h2
    · exact h2
    · grind
theorem pcode_lt {kd : Nat → Int32} {c : Int32} (h : okpart kd c) : om (pcode c) = pcode c := by
  have := pcode_ok h
  unfold om
  have h1 : ¬ pcode c = 16 := fun e => opd_ns this (Or.inl e)
  have h2 : ¬ pcode c = 17 := fun e => opd_ns this (Or.inr (Or.inl e))
  have h3 : ¬ pcode c = 18 := fun e => opd_ns this (Or.inr (Or.inr (Or.inl e)))
  have h4 : ¬ pcode c = 19 := fun e => opd_ns this (Or.inr (Or.inr (Or.inr (Or.inl e))))
  have h5 : ¬ pcode c = 20 := fun e => opd_ns this (Or.inr (Or.inr (Or.inr (Or.inr e))))
  rw [if_neg h1, if_neg h2, if_neg h3, if_neg h4, if_neg h5]
theorem NI_room9 {n ob a0 b : Nat} {s : zN} (h : NI n ob a0 s) (hn : n ≤ 240) (hb : b ≤ 240 + a0) : b + s.2.2.2.1.length + s.2.2.1.length ≤ 480 := by
  have h1 := h.2.2.2.2.2.2.2.1; have h2 := h.2.2.2.2.2.2.2.2.1
  omega
/-- a turn of the loop, where a part is wanted -/
theorem r_turn1 {Post : Int32 → (Nat → Int32) → (Nat → Int64) → (Nat → Nat → Int32) → (Nat → Nat → Int64) → Prop} {K15 : Int32 → Int32 → Int32 → Int32 → Int32 → (Nat → Int32) → (Nat → Int64) → (Nat → Nat → Int32) → (Nat → Nat → Int64) → Prop} {f : Nat → Int32} {n b ob a0 a t : Nat} {kd : Nat → Int32} {st out : List Int32} {q o : Nat} (hb : b ≤ 240 + a0) (hN : NI n ob a0 (1, a, st, out, q, o)) (hE : ME f n b I B (1, a, st, out, q, o)) (hk : kn9 B kd) (ht : t ≤ a)
    (kk : ∀ s' I' B', est f n kd ob (1, a, st, out, q, o) s' → FM b I B I' B' → ME f n b I' B' s' → K15 (nI ob) (nI s'.2.2.2.2.1) (nI s'.2.2.2.2.2) (nI s'.1) (nI (t + 1)) I' J B' D)
    (kf : efail f n kd (1, a, st, out, q, o) → Post 0 (upd I 3 (I 2)) J B D) : wb_LassoFinderModel_expression_15 (nI ob) K15 Post (nI ob) (nI q) (nI o) 1 (nI t) I J B D := by
  have hE1 : TY (B 0) f (I 2) (I 1) a n := hE.1
  obtain ⟨t1, t2, t3, t4⟩ := hE.2
  dsimp only at t1 t2 t3 t4
  have hn := hE1.2.2.2.1
  have han := hE1.2.2.1
  have ho4 : o ≤ 4 := hN.2.2.1
  have hq : q ≤ 12 := hN.2.2.2.2.1
  have hln := NI_len hN
  have hd3 := hd_le st
  have hno := hN.2.1
  dsimp only at hln hno
  have h438 : ∀ (p' q' o' : Nat) (I' : Nat → Int32) (B' : Nat → Nat → Int32), K15 (nI ob) (nI q') (nI o') (nI p') (nI (t + 1)) I' J B' D → wc_LassoFinderModel_expression_438 (nI ob) K15 Post (nI ob) (nI q') (nI o') (nI p') (nI t) I' J B' D := by
    intro p' q' o' I' B' h z1 e1
    have : z1 = nI (t + 1) := inI rfl e1
    rw [this]; exact h
  refine ⟨fun g => ?_, fun _ => q_here hE1.tx (q_from (by decide) hE1.tx ?_)⟩
  · have g := (ltI hE1.2.1 rfl (by omega) (by omega)).mp g; omega
  rw [hE1.tk]
  have bad : efail f n kd (1, a, st, out, q, o) → wp_LassoFinderModel_fail I J B D (fun r I J B D => (r = 0 ∨ r = 1) ∧ Post r I J B D) := fun z => ⟨Or.inl rfl, kf z⟩
  refine ⟨fun g => absurd g (by decide), fun _ => ⟨fun g40 => ?_, fun g40 => ?_⟩⟩
  · -- a part
    refine ⟨fun g => absurd g (by decide), fun _ => ?_⟩
    have go : ∀ y : Int32, (y = 1 ∧ ¬ one (tkn f n a) 97 8 = -1 ∧ ¬ kd (one (tkn f n a) 97 8).toNatClampNeg = 0) ∨ (y = 0 ∧ ¬ (¬ one (tkn f n a) 97 8 = -1 ∧ ¬ kd (one (tkn f n a) 97 8).toNatClampNeg = 0)) → wc_LassoFinderModel_expression_134 (nI ob) K15 Post (nI ob) (nI q) (nI o) (nI t) (one (tkn f n a) 97 8) y I J B D := by
      intro y hy
      have w188 : q ≠ 12 → okpart kd (tkn f n a) → ∀ v, v = pcode (tkn f n a) → wc_LassoFinderModel_expression_188 (nI ob) K15 Post (nI ob) (nI (q + 1)) (nI o) (nI t) v I J B D := by
        intro q12 hok v hv
        subst hv
        have hs : est f n kd ob (1, a, st, out, q, o) (0, a + 1, st, pcode (tkn f n a) :: out, q + 1, o) := Or.inr (Or.inl ⟨rfl, g40, q12, hok, rfl⟩)
        have ha : a < n := tkn_lt (f := f) (c := tkn f n a) rfl (okpart_ne hok)
        have h8 := NI_step hN hs
        have h8r := h8.2.2.2.2.2.2.2.1
        dsimp only [List.length_cons] at h8r
        refine ⟨vin2 t3 (by omega) (by omega), fun z4 e4 z5 e5 => ?_⟩
        have n4 := inI t3 e4
        have n5 : z5 = nI (a + 1) := inI hE1.1 e5
        rw [clI t3 (by omega)]
        refine h438 0 (q + 1) o _ _ (kk _ _ _ hs ⟨fun k hk => ?_, fun k hk => ?_, fun k hk => ?_⟩ ⟨?_, ⟨?_, ?_, ?_, ?_⟩⟩)
        · simp at hk; simp [upd, hk]
        · simp at hk; simp [va_up, hk]
        · have : ¬ k = b + out.length := by omega
          simp [va_up, upd, this]
        · obtain ⟨y1, y2, y3, y4, y5, y6⟩ := hE1
          exact ⟨n5, y2, ha, y4, y5, y6⟩
        · simpa [upd] using t1
        · simpa [va_up] using t2
        · simp [upd, n4, Nat.add_assoc]
        · simp only [va_up, if_true, List.map_cons]
          rw [pcode_lt hok]
          exact rep_push t4 _ (by simp)
      have w152 : okpart kd (tkn f n a) → wc_LassoFinderModel_expression_152 (nI ob) K15 Post (nI ob) (nI q) (nI o) (nI t) (one (tkn f n a) 97 8) y I J B D := by
        intro hok
        have hq12 : nI q = 12 ↔ q = 12 := eqI rfl (y := 12) (b := 12) rfl (by omega) (by omega)
        refine ⟨fun g z30 e30 => ?_, fun g => bad ⟨rfl, Or.inr ⟨g40, Or.inl (hq12.mp g)⟩⟩⟩
        have g : q ≠ 12 := fun z => g (hq12.mpr z)
        have n30 : z30 = nI (q + 1) := inI rfl e30
        rw [n30]
        refine ⟨fun g0 => q_from (by decide) hE1.tx ?_, fun g0 z33 e33 => w188 g hok _ ?_⟩
        · rw [hE1.tk]
          refine w188 g hok _ ?_
          rcases hy with ⟨hy, _⟩ | ⟨_, hy⟩
          · rw [hy] at g0; exact absurd g0 (by decide)
          · have := hok.resolve_right hy
            unfold pcode; rw [if_neg this]
        · rcases hy with ⟨_, hy⟩ | ⟨hy, _⟩
          · unfold pcode; rw [if_pos (one_dig hy.1), e33]
          · exact absurd hy g0
      refine ⟨fun g => ?_, fun g => q_from (by decide) hE1.tx ?_⟩
      · rcases hy with ⟨_, hy⟩ | ⟨hy, _⟩
        · exact w152 (Or.inr hy)
        · exact absurd hy g
      · rw [hE1.tk]
        have hy : ¬ (¬ one (tkn f n a) 97 8 = -1 ∧ ¬ kd (one (tkn f n a) 97 8).toNatClampNeg = 0) := by
          rcases hy with ⟨hy, _⟩ | ⟨_, hy⟩
          · rw [hy] at g; exact absurd g (by decide)
          · exact hy
        refine ⟨fun g1 => bad ⟨rfl, Or.inr ⟨g40, Or.inr (fun z => z.elim (fun z => z (one_neg.mp g1)) hy)⟩⟩, fun g1 => w152 (Or.inl (fun z => g1 (one_neg.mpr z)))⟩
    refine ⟨fun g => go 0 (Or.inr ⟨rfl, fun z => z.1 (one_neg.mp g)⟩), fun g => ?_⟩
    have g : ¬ one (tkn f n a) 97 8 = -1 := fun z => g (one_neg.mpr z)
    obtain ⟨gl, gv⟩ := one_lt g
    have hkj := hk _ gl
    refine ⟨gv, fun z45 e45 => ⟨fun g1 => go 1 (Or.inl ⟨rfl, g, hkj.mp (Or.inl (by rw [← e45]; exact g1))⟩), fun g1 => ⟨gv, fun z47 e47 => ⟨fun g2 => go 0 (Or.inr ⟨rfl, fun z => ?_⟩), fun g2 => go 1 (Or.inl ⟨rfl, g, hkj.mp (Or.inr (by rw [← e47]; exact Int32.not_lt.mp g2))⟩)⟩⟩⟩⟩
    rcases hkj.mpr z.2 with w | w
    · rw [← e45] at w; exact g1 w
    · rw [← e47] at w; exact absurd g2 (Int32.not_lt.mpr w)
  · -- a "("
    have ha := tkn_lt g40 (by decide)
    have ho : nI o = 4 ↔ o = 4 := eqI rfl (y := 4) (b := 4) rfl (by omega) (by omega)
    refine ⟨fun g4 z56 e56 => ?_, fun g4 => bad ⟨rfl, Or.inl ⟨g40, ho.mp g4⟩⟩⟩
    have o4 : o ≠ 4 := fun z => g4 (ho.mpr z)
    have n56 : z56 = nI (o + 1) := inI rfl e56
    rw [n56]
    have hs : est f n kd ob (1, a, st, out, q, o) (1, a + 1, 21 :: st, out, q, o + 1) := Or.inl ⟨rfl, g40, o4, rfl⟩
    refine ⟨vin2 t1 (by omega) (by omega), fun z57 e57 z58 e58 => ?_⟩
    have n57 := inI t1 e57
    have n58 : z58 = nI (a + 1) := inI hE1.1 e58
    rw [clI t1 (by omega)]
    refine h438 1 q (o + 1) _ _ (kk _ _ _ hs ⟨fun k hk => ?_, fun k hk => ?_, fun k hk => ?_⟩ ⟨?_, ⟨?_, ?_, ?_, ?_⟩⟩)
    · simp at hk; simp [upd, hk]
    · simp at hk; simp [va_up, hk]
    · simp [va_up]
    · obtain ⟨y1, y2, y3, y4, y5, y6⟩ := hE1
      exact ⟨n58, y2, ha, y4, y5, y6⟩
    · simp [upd, n57]
    · simp only [va_up, if_true, List.map_cons]
      exact rep_push t2 21 (by simp)
    · simpa [upd] using t3
    · simpa [va_up] using t4
end ZY2
