/-! Expressions: steps of reading, apart from both programs. -/
section ZV
/-- part wanted (1) or there (0), place, signs that wait, codes, parts, open ones -/
abbrev zN : Type := Nat × Nat × List Int32 × List Int32 × Nat × Nat
/-- so many steps, none too -/
def star {α : Type} (R : α → α → Prop) (x y : α) : Prop := ∀ C : α → Prop, C x → (∀ u v, C u → R u v → C v) → C y
theorem star.refl {α : Type} {R : α → α → Prop} (x : α) : star R x x := fun _ h _ => h
theorem star.tail {α : Type} {R : α → α → Prop} {x y z : α} (h : star R x y) (g : R y z) : star R x z := fun C c k => k y z (h C c k) g
theorem star.head {α : Type} {R : α → α → Prop} {x y z : α} (g : R x y) (h : star R y z) : star R x z := fun C c k => h C (k x y c g) k
theorem star.trans {α : Type} {R : α → α → Prop} {x y z : α} (h : star R x y) (g : star R y z) : star R x z := fun C c k => g C (h C c k) k
def sgn (c : Int32) : Int32 := if c = 42 then 20 else if c = 43 then 18 else if c = 45 then 19 else if c = 60 then 17 else if c = 61 then 16 else -1
theorem sgn_ok {c : Int32} (h : ¬ sgn c = -1) : okS (sgn c) := by
  unfold sgn at h ⊢
  unfold okS
  split
  · simp
  · split
    · simp
    · split
      · simp
      · split
        · simp
        · split
          · simp
          · rename_i h1 h2 h3 h4 h5; simp [h1, h2, h3, h4, h5] at h
def okpart (kd : Nat → Int32) (c : Int32) : Prop := ¬ one c 48 8 = -1 ∨ (¬ one c 97 8 = -1 ∧ ¬ kd (one c 97 8).toNatClampNeg = 0)
def pcode (c : Int32) : Int32 := if one c 48 8 = -1 then 8 + one c 97 8 else one c 48 8
theorem one_in {c a : Int32} (h : ¬ one c a 8 = -1) : 0 ≤ one c a 8 ∧ one c a 8 < 8 := by
  unfold one at h ⊢
  split at h
  · exact absurd rfl h
  · rename_i g; rw [if_neg g]; grind
theorem one_m {c a m : Int32} : one c a m = -1 ∨ (0 ≤ one c a m ∧ one c a m < m ∧ one c a m = c - a) := by
  unfold one
  split
  · exact Or.inl rfl
  · rename_i g; right; grind
theorem pcode_ok {kd : Nat → Int32} {c : Int32} (h : okpart kd c) : opd (pcode c) := by
  unfold pcode opd
  split
  · rename_i g
    have g2 := h.resolve_left (fun q => q g)
    have := one_in g2.1
    grind
  · rename_i g
    have := one_in g
    grind
/-- a step -/
def est (f : Nat → Int32) (n : Nat) (kd : Nat → Int32) (ob : Nat) (s t : zN) : Prop :=
  (s.1 = 1 ∧ tkn f n s.2.1 = 40 ∧ s.2.2.2.2.2 ≠ 4 ∧ t = (1, s.2.1 + 1, 21 :: s.2.2.1, s.2.2.2.1, s.2.2.2.2.1, s.2.2.2.2.2 + 1)) ∨
  (s.1 = 1 ∧ tkn f n s.2.1 ≠ 40 ∧ s.2.2.2.2.1 ≠ 12 ∧ okpart kd (tkn f n s.2.1) ∧ t = (0, s.2.1 + 1, s.2.2.1, pcode (tkn f n s.2.1) :: s.2.2.2.1, s.2.2.2.2.1 + 1, s.2.2.2.2.2)) ∨
  (s.1 = 0 ∧ tkn f n s.2.1 = 41 ∧ ob < s.2.2.2.2.2 ∧ t = (0, s.2.1 + 1, (popw 1 s.2.2.1 s.2.2.2.1).1.tail, (popw 1 s.2.2.1 s.2.2.2.1).2, s.2.2.2.2.1, s.2.2.2.2.2 - 1)) ∨
  (s.1 = 0 ∧ ¬ sgn (tkn f n s.2.1) = -1 ∧ ¬ ((sgn (tkn f n s.2.1) = 16 ∨ sgn (tkn f n s.2.1) = 17) ∧ hcm s.2.2.1) ∧ t = (1, s.2.1 + 1, sgn (tkn f n s.2.1) :: (popw (sg (sgn (tkn f n s.2.1))) s.2.2.1 s.2.2.2.1).1, (popw (sg (sgn (tkn f n s.2.1))) s.2.2.1 s.2.2.2.1).2, s.2.2.2.2.1, s.2.2.2.2.2))
/-- no more steps: the end of an expression -/
def estop (f : Nat → Int32) (n ob : Nat) (s : zN) : Prop := s.1 = 0 ∧ ¬ (tkn f n s.2.1 = 41 ∧ ob < s.2.2.2.2.2) ∧ (sgn (tkn f n s.2.1) = -1 ∨ ((sgn (tkn f n s.2.1) = 16 ∨ sgn (tkn f n s.2.1) = 17) ∧ hcm s.2.2.1))
/-- .. and a wrong one -/
def efail (f : Nat → Int32) (n : Nat) (kd : Nat → Int32) (s : zN) : Prop := s.1 = 1 ∧ ((tkn f n s.2.1 = 40 ∧ s.2.2.2.2.2 = 4) ∨ (tkn f n s.2.1 ≠ 40 ∧ (s.2.2.2.2.1 = 12 ∨ ¬ okpart kd (tkn f n s.2.1))))
def NI (n ob a0 : Nat) (s : zN) : Prop := okst s.2.2.1 ∧ nop s.2.2.1 + ob = s.2.2.2.2.2 ∧ s.2.2.2.2.2 ≤ 4 ∧ nod s.2.2.2.1 = s.2.2.2.2.1 ∧ s.2.2.2.2.1 ≤ 12 ∧ okR s.2.2.2.1 ∧ ht s.2.2.2.1 + s.1 = nsg s.2.2.1 + 1 ∧ s.2.2.2.1.length + s.2.2.1.length + a0 ≤ s.2.1 ∧ s.2.1 ≤ n ∧ s.1 ≤ 1 ∧ (s.1 = 0 → a0 < s.2.1)
theorem okpart_ne {kd : Nat → Int32} {c : Int32} (h : okpart kd c) : ¬ c = 0 := by
  intro e
  subst e
  rcases h with h | h
  · exact h rfl
  · exact h.1 rfl
theorem sgn_ne {c : Int32} (h : ¬ sgn c = -1) : ¬ c = 0 := by
  intro e
  subst e
  exact h rfl
theorem NI_step {f : Nat → Int32} {n : Nat} {kd : Nat → Int32} {ob a0 : Nat} {s t : zN} (h : NI n ob a0 s) (e : est f n kd ob s t) : NI n ob a0 t := by
  obtain ⟨p, a, st, out, q, o⟩ := s
  obtain ⟨h1, h2, h3, h4, h5, h6, h7, h8, h9, h10, h11⟩ := h
  dsimp only at h1 h2 h3 h4 h5 h6 h7 h8 h9 h10 h11
  rcases e with ⟨e0, e1, e2, rfl⟩ | ⟨e0, e1, e2, e3, rfl⟩ | ⟨e0, e1, e2, rfl⟩ | ⟨e0, e1, e2, rfl⟩
  · dsimp only at e0 e1 e2
    have ha := tkn_lt e1 (by decide)
    refine ⟨⟨h1, Or.inr rfl, Or.inl rfl⟩, ?_, ?_, h4, h5, h6, ?_, ?_, ?_, ?_, ?_⟩
    all_goals simp [nop, nsg]
    all_goals omega
  · dsimp only at e0 e1 e2 e3
    have ha : a < n := by
      refine tkn_lt (f := f) (c := tkn f n a) rfl (okpart_ne e3)
    have ho := pcode_ok e3
    refine ⟨h1, h2, h3, ?_, ?_, ⟨h6, Or.inl ho⟩, ?_, ?_, ?_, ?_, ?_⟩
    all_goals simp [nod, ht, ho.2]
    all_goals omega
  · dsimp only at e0 e1 e2
    have ha := tkn_lt e1 (by decide)
    have hl := popw_len 1 st out
    have ho := popw_out 1 (Nat.le_refl 1) st out h1 h6 (by omega)
    rcases popw_1 st out h1 with ⟨_, q2⟩ | ⟨r, q1, q2, q3, q4⟩
    · omega
    · rw [q1] at ho hl
      refine ⟨?_, ?_, ?_, ?_, h5, ho.1, ?_, ?_, ?_, ?_, ?_⟩
      all_goals dsimp only
      all_goals (try rw [q1])
      · exact q2
      · simp only [List.tail_cons]; omega
      · omega
      · exact ho.2.2.trans h4
      · have := ho.2.1; simp only [nsg, if_true, List.tail_cons] at this ⊢; omega
      · simp at hl ⊢; omega
      · omega
      · omega
      · omega
  · dsimp only at e0 e1 e2
    have ha : a < n := tkn_lt (f := f) (c := tkn f n a) rfl (sgn_ne e1)
    have hk := sgn_ok e1
    have hp := (sg_str hk).2.2
    generalize hs : sgn (tkn f n a) = sn at *
    have hl := popw_len (sg sn) st out
    have ho := popw_out (sg sn) hp.1 st out h1 h6 (by omega)
    have hq := popw_st (sg sn) hp.1 st out h1
    have hn : ¬ sn = 21 := sg_neq hk
    refine ⟨⟨hq.1, Or.inl hk, Or.inr hq.2.1⟩, ?_, h3, ?_, h5, ho.1, ?_, ?_, ?_, ?_, ?_⟩
    all_goals dsimp only
    · simp only [nop, if_neg hn]; omega
    · exact ho.2.2.trans h4
    · have := ho.2.1; simp only [nsg, if_neg hn]; omega
    · simp only [List.length_cons]; omega
    · omega
    · omega
    · omega
theorem NI_star {f : Nat → Int32} {n : Nat} {kd : Nat → Int32} {ob a0 : Nat} {s t : zN} (h : NI n ob a0 s) (e : star (est f n kd ob) s t) : NI n ob a0 t := e (NI n ob a0) h (fun _ _ c g => NI_step c g)
theorem NI_0 {n ob a : Nat} (ho : ob ≤ 4) (ha : a ≤ n) : NI n ob a (1, a, [], [], 0, ob) := by
  refine ⟨trivial, ?_, ho, rfl, ?_, trivial, ?_, ?_, ha, ?_, ?_⟩
  all_goals simp [nop, nsg, ht]
end ZV
