/-! Expressions: the state of reading, apart from both programs. -/
section ZU
/-- the sign at place a of a text of n signs -/
def tkn (f : Nat → Int32) (n a : Nat) : Int32 := if a < n then f a else 0
/-- a program's text: place a of n, its signs those of f -/
def TY (g f : Nat → Int32) (at9 en : Int32) (a n : Nat) : Prop := at9 = nI a ∧ en = nI n ∧ a ≤ n ∧ n ≤ 240 ∧ (∀ k, k < n → g k = f k) ∧ okC f n
theorem TY.tx {g f : Nat → Int32} {at9 en : Int32} {a n : Nat} (h : TY g f at9 en a n) : TX g at9 en a n := ⟨h.1, h.2.1, h.2.2.1, h.2.2.2.1, fun k hk => by rw [h.2.2.2.2.1 k hk]; exact h.2.2.2.2.2 k hk⟩
theorem TY.tk {g f : Nat → Int32} {at9 en : Int32} {a n : Nat} (h : TY g f at9 en a n) : tok g at9 en = tkn f n a := by
  obtain ⟨h1, h2, h3, h4, h5, h6⟩ := h
  unfold tok tkn
  by_cases g1 : a < n
  · rw [if_pos g1, if_neg (fun q => by have := (leI h2 h1 (by omega) (by omega)).mp q; omega), clI h1 (by omega), h5 a g1]
  · rw [if_neg g1, if_pos ((leI h2 h1 (by omega) (by omega)).mpr (by omega))]
theorem tkn_lt {f : Nat → Int32} {n a : Nat} {c : Int32} (h : tkn f n a = c) (hc : ¬ c = 0) : a < n := by
  unfold tkn at h
  by_cases g : a < n
  · exact g
  · rw [if_neg g] at h; exact absurd h.symm hc
/-- what stands above the last "(", as to comparisons -/
def cb : List Int32 → Nat
  | [] => 0
  | x :: st => if x = 21 then 2 * cb st else if x = 16 ∨ x = 17 then cb st + 1 else cb st
def hd : List Int32 → Nat
  | [] => 0
  | x :: _ => sg x
def nop : List Int32 → Nat
  | [] => 0
  | x :: st => if x = 21 then nop st + 1 else nop st
def nsg : List Int32 → Nat
  | [] => 0
  | x :: st => if x = 21 then nsg st else nsg st + 1
/-- is there a comparison above the last "(" -/
def hcm : List Int32 → Prop
  | [] => False
  | x :: st => x ≠ 21 ∧ ((x = 16 ∨ x = 17) ∨ hcm st)
def okst : List Int32 → Prop
  | [] => True
  | x :: st => okst st ∧ okG x ∧ (x = 21 ∨ hd st < sg x)
def opd (x : Int32) : Prop := 0 ≤ x ∧ x < 16
theorem opd_ns {x : Int32} (h : opd x) (g : okS x) : False := by
  obtain ⟨h1, h2⟩ := h
  rcases g with rfl | rfl | rfl | rfl | rfl <;> revert h2 <;> decide
/-- how many numbers the codes leave -/
def ht : List Int32 → Nat
  | [] => 0
  | x :: l => if x < 16 then ht l + 1 else ht l - 1
def nod : List Int32 → Nat
  | [] => 0
  | x :: l => if x < 16 then nod l + 1 else nod l
def okR : List Int32 → Prop
  | [] => True
  | x :: l => okR l ∧ (opd x ∨ (okS x ∧ 2 ≤ ht l))
theorem sg_lt {x : Int32} (h : okS x) : ¬ x < 16 := by
  rcases h with rfl | rfl | rfl | rfl | rfl <;> decide
theorem ht_le (l : List Int32) : ht l ≤ nod l := by
  induction l with
  | nil => exact Nat.le_refl _
  | cons x l ih => unfold ht nod; split <;> omega
theorem okst_G {st : List Int32} (h : okst st) : ∀ x ∈ st, okG x := by
  induction st with
  | nil => intro x hx; simp at hx
  | cons y st ih =>
    intro x hx
    rcases List.mem_cons.mp hx with rfl | hx
    · exact h.2.1
    · exact ih h.1 x hx
theorem sg_pos {x : Int32} (h : okG x) (h2 : ¬ x = 21) : 1 ≤ sg x := (sg_str (h.resolve_right h2)).2.2.1
theorem okst_len {st : List Int32} (h : okst st) : st.length ≤ 4 * nop st + hd st := by
  induction st with
  | nil => simp [nop, hd]
  | cons x st ih =>
    have := ih h.1
    have h3 : hd st ≤ 3 := by cases st with
      | nil => simp [hd]
      | cons y st => simp [hd]; exact sg_le
    by_cases g : x = 21
    · simp [nop, hd, g]; omega
    · have := h.2.2.resolve_left g
      simp [nop, hd, g]; omega
theorem hd_le (st : List Int32) : hd st ≤ 3 := by
  cases st with
  | nil => simp [hd]
  | cons y st => simp [hd]; exact sg_le
theorem cb_lt {st : List Int32} (h : okst st) : cb st < 2 ^ (nop st + 1) ∧ (cb st % 2 = 1 ↔ hcm st) ∧ (hcm st → 1 ≤ hd st) := by
  induction st with
  | nil => simp [cb, nop, hcm]
  | cons x st ih =>
    obtain ⟨i1, i2, i3⟩ := ih h.1
    by_cases g : x = 21
    · subst g
      simp only [cb, nop, hcm, if_true]
      refine ⟨by rw [Nat.pow_succ]; omega, ⟨fun q => by omega, fun q => absurd rfl q.1⟩, fun q => absurd rfl q.1⟩
    · have hx := h.2.2.resolve_left g
      have hp := sg_pos h.2.1 g
      by_cases g2 : x = 16 ∨ x = 17
      · have s1 : sg x = 1 := by unfold sg; rw [if_pos g2]
        have hn : ¬ hcm st := fun q => by have := i3 q; omega
        have he : cb st % 2 = 0 := by
          have : ¬ cb st % 2 = 1 := fun q => hn (i2.mp q)
          omega
        simp only [cb, nop, hcm, hd, if_neg g, if_pos g2]
        refine ⟨?_, ⟨fun _ => ⟨g, Or.inl g2⟩, fun _ => by omega⟩, fun _ => by omega⟩
        rw [Nat.pow_succ] at i1 ⊢
        omega
      · simp only [cb, nop, hcm, hd, if_neg g, if_neg g2]
        refine ⟨i1, ⟨fun q => ⟨g, Or.inr (i2.mp q)⟩, fun q => i2.mpr (q.2.resolve_left g2)⟩, fun _ => hp⟩
/-- what popping leaves -/
theorem popw_st (l : Nat) (hl : 1 ≤ l) : ∀ st out : List Int32, okst st → okst (popw l st out).1 ∧ hd (popw l st out).1 < l ∧ nop (popw l st out).1 = nop st := by
  intro st
  induction st with
  | nil => intro out _; simp [popw, okst, hd, nop]; omega
  | cons x st ih =>
    intro out h
    unfold popw
    split
    · rename_i q; exact ⟨h, q, rfl⟩
    · rename_i q
      have g : ¬ x = 21 := fun e => q (by rw [e]; exact Nat.lt_of_lt_of_le (by decide) hl)
      have := ih (x :: out) h.1
      refine ⟨this.1, this.2.1, this.2.2.trans ?_⟩
      simp [nop, g]
theorem popw_cb (l : Nat) (hl : 2 ≤ l) : ∀ st out : List Int32, cb (popw l st out).1 = cb st ∧ (hcm (popw l st out).1 ↔ hcm st) := by
  intro st
  induction st with
  | nil => intro out; simp [popw]
  | cons x st ih =>
    intro out
    unfold popw
    split
    · exact ⟨rfl, Iff.rfl⟩
    · rename_i q
      have g : ¬ x = 21 := fun e => q (by rw [e]; exact Nat.lt_of_lt_of_le (by decide) hl)
      have g2 : ¬ (x = 16 ∨ x = 17) := fun e => q (by unfold sg; rw [if_pos e]; omega)
      have := ih (x :: out)
      refine ⟨this.1.trans ?_, this.2.trans ?_⟩
      · simp [cb, g, g2]
      · simp only [hcm]; exact ⟨fun z => ⟨g, Or.inr z⟩, fun z => z.2.resolve_left g2⟩
theorem popw_12 : ∀ st out : List Int32, okst st → ¬ hcm st → popw 1 st out = popw 2 st out := by
  intro st
  induction st with
  | nil => intro out _ _; rfl
  | cons x st ih =>
    intro out h hn
    by_cases g : x = 21
    · subst g; rfl
    · have g2 : ¬ (x = 16 ∨ x = 17) := fun e => hn ⟨g, Or.inl e⟩
      have hp := sg_pos h.2.1 g
      have hs : ¬ sg x < 2 := by
        intro q
        have s1 : sg x = 1 := by omega
        apply g2
        unfold sg at s1
        split at s1
        · assumption
        · split at s1
          · omega
          · split at s1 <;> omega
      have e1 : popw 1 (x :: st) out = popw 1 st (x :: out) := if_neg (by omega)
      have e2 : popw 2 (x :: st) out = popw 2 st (x :: out) := if_neg hs
      rw [e1, e2]
      exact ih _ h.1 (fun q => hn ⟨g, Or.inr q⟩)
/-- with all that binds taken away, a "(" is on top, or nothing -/
theorem popw_1 (st out : List Int32) (h : okst st) : ((popw 1 st out).1 = [] ∧ nop st = 0) ∨ ∃ r, (popw 1 st out).1 = 21 :: r ∧ okst r ∧ nop st = nop r + 1 ∧ cb st / 2 = cb r := by
  induction st generalizing out with
  | nil => exact Or.inl ⟨rfl, rfl⟩
  | cons x st ih =>
    by_cases g : x = 21
    · subst g
      right
      refine ⟨st, rfl, h.1, by simp [nop], by simp [cb]⟩
    · have hp := sg_pos h.2.1 g
      have e1 : popw 1 (x :: st) out = popw 1 st (x :: out) := if_neg (by omega)
      rw [e1]
      rcases ih (x :: out) h.1 with q | ⟨r, q1, q2, q3, q4⟩
      · exact Or.inl ⟨q.1, by simp [nop, g]; exact q.2⟩
      · refine Or.inr ⟨r, q1, q2, by simp [nop, g]; exact q3, ?_⟩
        by_cases g2 : x = 16 ∨ x = 17
        · have s1 : sg x = 1 := by unfold sg; rw [if_pos g2]
          have i := cb_lt h.1
          have hn : ¬ hcm st := fun z => by have := i.2.2 z; have := h.2.2.resolve_left g; omega
          have : ¬ cb st % 2 = 1 := fun z => hn (i.2.1.mp z)
          simp only [cb, if_neg g, if_pos g2]; omega
        · simp only [cb, if_neg g, if_neg g2]; exact q4
/-- the codes stay right -/
theorem popw_out (l : Nat) (hl : 1 ≤ l) : ∀ st out : List Int32, okst st → okR out → ht out = nsg st + 1 → okR (popw l st out).2 ∧ ht (popw l st out).2 = nsg (popw l st out).1 + 1 ∧ nod (popw l st out).2 = nod out := by
  intro st
  induction st with
  | nil => intro out _ h1 h2; exact ⟨h1, h2, rfl⟩
  | cons x st ih =>
    intro out h h1 h2
    unfold popw
    split
    · exact ⟨h1, h2, rfl⟩
    · rename_i q
      have g : ¬ x = 21 := fun e => q (by rw [e]; exact Nat.lt_of_lt_of_le (by decide) hl)
      have hs : okS x := h.2.1.resolve_right g
      have hn := sg_lt hs
      simp only [nsg, if_neg g] at h2
      have := ih (x :: out) h.1 ⟨h1, Or.inr ⟨hs, by omega⟩⟩ (by simp only [ht, if_neg hn]; omega)
      refine ⟨this.1, this.2.1, this.2.2.trans ?_⟩
      simp [nod, hn]
end ZU
