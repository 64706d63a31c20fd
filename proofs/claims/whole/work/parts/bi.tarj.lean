/-! Strongly connected parts, apart from the class. -/
section ZQ1
section
variable (dg : Nat → Nat) (nb : Nat → Nat → Nat)
def Ed (v w : Nat) : Prop := ∃ k, k < dg v ∧ nb v k = w
def Srt (ord : Nat → Nat) : List Nat → Prop
  | [] => True
  | x :: l => (∀ y ∈ l, ord y < ord x) ∧ Srt ord l
/-- what holds all along the search -/
def TJ (ord low ix : Nat → Nat) (opn pth : List Nat) (cnt : Nat) : Prop :=
  (∀ w, ord w ≤ cnt) ∧ (∀ v w, ord v = ord w → ¬ ord v = 0 → v = w) ∧ (∀ w ∈ opn, ¬ ord w = 0) ∧ (∀ p ∈ pth, p ∈ opn) ∧
  (∀ v, ¬ ord v = 0 → v ∉ opn → ∀ w, Ed dg nb v w → ¬ ord w = 0 ∧ w ∉ opn) ∧
  (∀ p ∈ pth, ∀ w ∈ opn, ord p ≤ ord w → star (Ed dg nb) p w) ∧ (∀ w ∈ opn, w ∉ pth → low w < ord w) ∧
  (∀ w ∈ opn, low w ≤ ord w ∧ ∃ u ∈ opn, ord u = low w ∧ star (Ed dg nb) w u) ∧
  (∀ w ∈ opn, ∀ k, ((w ∈ pth ∧ k < ix w) ∨ (w ∉ pth ∧ k < dg w)) → ¬ ord (nb w k) = 0 ∧ (nb w k ∈ opn → low w ≤ ord (nb w k))) ∧
  (∀ w ∈ opn, w ∉ pth → ∃ p ∈ pth, ord p < ord w ∧ low p ≤ low w ∧ ∀ p' ∈ pth, ord p' ≤ ord w → ord p' ≤ ord p) ∧
  Srt ord pth ∧ Srt ord opn ∧ (∀ p ∈ pth, ix p ≤ dg p)
end
variable {dg : Nat → Nat} {nb : Nat → Nat → Nat} {ord low ix : Nat → Nat} {opn pth : List Nat} {cnt : Nat}
theorem Srt_cg {ord' : Nat → Nat} : ∀ {l : List Nat}, Srt ord l → (∀ x ∈ l, ord' x = ord x) → Srt ord' l := by
  intro l
  induction l with
  | nil => intro _ _; trivial
  | cons x l ih =>
    intro h e
    refine ⟨fun y hy => ?_, ih h.2 (fun y hy => e y (List.mem_cons_of_mem _ hy))⟩
    rw [e y (List.mem_cons_of_mem _ hy), e x (List.mem_cons_self ..)]; exact h.1 y hy
/-- a spot is entered, from the path's last or as a root -/
theorem T_enter {u : Nat} {ix' : Nat → Nat} (h : TJ dg nb ord low ix opn pth cnt) (hu : ord u = 0) (hp : (pth = [] ∧ opn = [] ∧ ix' = ix) ∨ (∃ v rest, pth = v :: rest ∧ ix v < dg v ∧ nb v (ix v) = u ∧ ix' = upn ix v (ix v + 1))) : TJ dg nb (upn ord u (cnt + 1)) (upn low u (cnt + 1)) (upn ix' u 0) (u :: opn) (u :: pth) (cnt + 1) := by
  obtain ⟨c1, c2, c3, c4, c5, c6, c7, c8, c9, c10, c11, c12, c13⟩ := h
  have un : ∀ w ∈ opn, ¬ w = u := fun w hw e => c3 w hw (by rw [e]; exact hu)
  have unp : ∀ w ∈ pth, ¬ w = u := fun w hw => un w (c4 w hw)
  have o1 : ∀ w, ¬ w = u → upn ord u (cnt + 1) w = ord w := fun w hw => upn_ne hw
  have l1 : ∀ w, ¬ w = u → upn low u (cnt + 1) w = low w := fun w hw => upn_ne hw
  have vu : ∀ v rest, pth = v :: rest → ∀ p ∈ pth, star (Ed dg nb) p v := by
    intro v rest e p hpp
    refine c6 p hpp v (c4 v (by rw [e]; exact List.mem_cons_self ..)) ?_
    rw [e] at hpp c11
    rcases List.mem_cons.mp hpp with w | w
    · rw [w]; exact Nat.le_refl _
    · exact Nat.le_of_lt (c11.1 p w)
  refine ⟨fun w => ?_, fun v w e hv => ?_, fun w hw => ?_, fun p hpp => ?_, fun v hv hvo w hvw => ?_, fun p hpp w hw hle => ?_, fun w hw hwp => ?_, fun w hw => ?_, fun w hw k hk => ?_, fun w hw hwp => ?_, ⟨fun y hy => ?_, Srt_cg c11 (fun y hy => o1 y (unp y hy))⟩, ⟨fun y hy => ?_, Srt_cg c12 (fun y hy => o1 y (un y hy))⟩, fun p hpp => ?_⟩
  · by_cases e : w = u
    · subst e; rw [upn_at]; exact Nat.le_refl _
    · rw [o1 w e]; have := c1 w; omega
  · by_cases e1 : v = u
    · by_cases e2 : w = u
      · rw [e1, e2]
      · subst e1; rw [upn_at, o1 w e2] at e; have := c1 w; omega
    · by_cases e2 : w = u
      · subst e2; rw [upn_at, o1 v e1] at e; have := c1 v; omega
      · rw [o1 v e1, o1 w e2] at e; rw [o1 v e1] at hv; exact c2 v w e hv
  · rcases List.mem_cons.mp hw with e | e
    · rw [e, upn_at]; omega
    · rw [o1 w (un w e)]; exact c3 w e
  · rcases List.mem_cons.mp hpp with e | e
    · rw [e]; exact List.mem_cons_self ..
    · exact List.mem_cons_of_mem _ (c4 p e)
  · have e1 : ¬ v = u := fun e => hvo (by rw [e]; exact List.mem_cons_self ..)
    rw [o1 v e1] at hv
    obtain ⟨a1, a2⟩ := c5 v hv (fun z => hvo (List.mem_cons_of_mem _ z)) w hvw
    have e2 : ¬ w = u := fun e => a1 (by rw [e]; exact hu)
    rw [o1 w e2]
    exact ⟨a1, fun z => (List.mem_cons.mp z).elim e2 a2⟩
  · rcases List.mem_cons.mp hpp with e | e
    · subst e
      rcases List.mem_cons.mp hw with e2 | e2
      · rw [e2]; exact star.refl _
      · rw [upn_at, o1 w (un w e2)] at hle; have := c1 w; omega
    · rcases List.mem_cons.mp hw with e2 | e2
      · subst e2
        rcases hp with ⟨h1, _⟩ | ⟨v, rest, h1, h2, h3, _⟩
        · rw [h1] at e; simp at e
        · exact (vu v rest h1 p e).tail ⟨ix v, h2, h3⟩
      · rw [o1 p (unp p e), o1 w (un w e2)] at hle; exact c6 p e w e2 hle
  · rcases List.mem_cons.mp hw with e | e
    · exact absurd (by rw [e]; exact List.mem_cons_self ..) hwp
    · rw [o1 w (un w e), l1 w (un w e)]; exact c7 w e (fun z => hwp (List.mem_cons_of_mem _ z))
  · rcases List.mem_cons.mp hw with e | e
    · subst e; rw [upn_at, upn_at]; exact ⟨Nat.le_refl _, w, List.mem_cons_self .., upn_at _ _ _, star.refl _⟩
    · rw [o1 w (un w e), l1 w (un w e)]
      obtain ⟨a1, x, a2, a3, a4⟩ := c8 w e
      exact ⟨a1, x, List.mem_cons_of_mem _ a2, by rw [o1 x (un x a2)]; exact a3, a4⟩
  · rcases List.mem_cons.mp hw with e | e
    · subst e
      rcases hk with ⟨_, hk⟩ | ⟨hk, _⟩
      · rw [upn_at] at hk; omega
      · exact absurd (List.mem_cons_self ..) hk
    · have we := un w e
      rw [l1 w we]
      -- the edge was met before, or it is the one just gone
      have old : ∀ k, ((w ∈ pth ∧ k < ix w) ∨ (w ∉ pth ∧ k < dg w)) → ¬ upn ord u (cnt + 1) (nb w k) = 0 ∧ (nb w k ∈ u :: opn → low w ≤ upn ord u (cnt + 1) (nb w k)) := by
        intro k hk
        obtain ⟨a1, a2⟩ := c9 w e k hk
        have e2 : ¬ nb w k = u := fun z => a1 (by rw [z]; exact hu)
        rw [o1 _ e2]
        exact ⟨a1, fun z => a2 ((List.mem_cons.mp z).resolve_left e2)⟩
      rcases hk with ⟨hk1, hk2⟩ | ⟨hk1, hk2⟩
      · have hwp : w ∈ pth := (List.mem_cons.mp hk1).resolve_left we
        rw [upn_ne we] at hk2
        rcases hp with ⟨h1, _⟩ | ⟨v, rest, h1, h2, h3, h4⟩
        · rw [h1] at hwp; simp at hwp
        · rw [h4] at hk2
          by_cases ev : w = v
          · subst ev
            rw [upn_at] at hk2
            by_cases ek : k = ix w
            · rw [ek, h3, upn_at]
              refine ⟨by omega, fun _ => ?_⟩
              have := (c8 w e).1
              have := c1 w
              omega
            · exact old k (Or.inl ⟨hwp, by omega⟩)
          · rw [upn_ne ev] at hk2
            exact old k (Or.inl ⟨hwp, hk2⟩)
      · exact old k (Or.inr ⟨fun z => hk1 (List.mem_cons_of_mem _ z), hk2⟩)
  · rcases List.mem_cons.mp hw with e | e
    · exact absurd (by rw [e]; exact List.mem_cons_self ..) hwp
    · have we := un w e
      obtain ⟨p, a1, a2, a3, a4⟩ := c10 w e (fun z => hwp (List.mem_cons_of_mem _ z))
      refine ⟨p, List.mem_cons_of_mem _ a1, by rw [o1 p (unp p a1), o1 w we]; exact a2, by rw [l1 p (unp p a1), l1 w we]; exact a3, fun p' hp' hle => ?_⟩
      rcases List.mem_cons.mp hp' with e2 | e2
      · subst e2; rw [upn_at, o1 w we] at hle; have := c1 w; omega
      · rw [o1 p' (unp p' e2), o1 p (unp p a1)]
        rw [o1 p' (unp p' e2), o1 w we] at hle
        exact a4 p' e2 hle
  · rw [o1 y (unp y hy), upn_at]; have := c1 y; omega
  · rw [o1 y (un y hy), upn_at]; have := c1 y; omega
  · rcases List.mem_cons.mp hpp with e | e
    · rw [e, upn_at]; omega
    · rw [upn_ne (unp p e)]
      rcases hp with ⟨h1, _⟩ | ⟨v, rest, h1, h2, h3, h4⟩
      · rw [h1] at e; simp at e
      · rw [h4]
        by_cases ev : p = v
        · subst ev; rw [upn_at]; omega
        · rw [upn_ne ev]; exact c13 p e
/-- an edge to a spot that is there already -/
theorem T_seen {v u l' : Nat} {rest : List Nat} (h : TJ dg nb ord low ix opn (v :: rest) cnt) (hk : ix v < dg v) (hu : nb v (ix v) = u) (hou : ¬ ord u = 0) (hl : (u ∉ opn ∧ l' = low v) ∨ (u ∈ opn ∧ l' = Nat.min (low v) (ord u))) : TJ dg nb ord (upn low v l') (upn ix v (ix v + 1)) opn (v :: rest) cnt := by
  obtain ⟨c1, c2, c3, c4, c5, c6, c7, c8, c9, c10, c11, c12, c13⟩ := h
  have hvp : v ∈ v :: rest := List.mem_cons_self ..
  have hvo := c4 v hvp
  have le : l' ≤ low v := by
    rcases hl with ⟨_, e⟩ | ⟨_, e⟩
    · omega
    · rw [e]; exact Nat.min_le_left _ _
  have l1 : ∀ w, upn low v l' w ≤ low w := fun w => by
    by_cases e : w = v
    · subst e; rw [upn_at]; exact le
    · rw [upn_ne e]; exact Nat.le_refl _
  have nv : ∀ w, w ∉ v :: rest → ¬ w = v := fun w hw e => hw (by rw [e]; exact hvp)
  refine ⟨c1, c2, c3, c4, c5, c6, fun w hw hwp => ?_, fun w hw => ?_, fun w hw k hk' => ?_, fun w hw hwp => ?_, c11, c12, fun p hpp => ?_⟩
  · rw [upn_ne (nv w hwp)]; exact c7 w hw hwp
  · by_cases e : w = v
    · subst e
      rw [upn_at]
      obtain ⟨a1, x, a2, a3, a4⟩ := c8 w hw
      refine ⟨by omega, ?_⟩
      rcases hl with ⟨_, e⟩ | ⟨hu', e⟩
      · exact ⟨x, a2, by rw [e]; exact a3, a4⟩
      · rcases Nat.le_total (low w) (ord u) with z | z
        · exact ⟨x, a2, by rw [e, a3]; exact (Nat.min_eq_left z).symm, a4⟩
        · exact ⟨u, hu', by rw [e]; exact (Nat.min_eq_right z).symm, star.head ⟨ix w, hk, hu⟩ (star.refl _)⟩
    · rw [upn_ne e]; exact c8 w hw
  · by_cases e : w = v
    · subst e
      rw [upn_at]
      by_cases ek : k = ix w
      · rw [ek, hu]
        refine ⟨hou, fun z => ?_⟩
        rcases hl with ⟨h1, _⟩ | ⟨_, e⟩
        · exact absurd z h1
        · rw [e]; exact Nat.min_le_right _ _
      · rcases hk' with ⟨g1, g2⟩ | ⟨g1, _⟩
        · rw [upn_at] at g2
          obtain ⟨a1, a2⟩ := c9 w hw k (Or.inl ⟨g1, by omega⟩)
          exact ⟨a1, fun z => by have := a2 z; omega⟩
        · exact absurd hvp g1
    · rw [upn_ne e]
      refine c9 w hw k ?_
      rcases hk' with ⟨g1, g2⟩ | g
      · rw [upn_ne e] at g2; exact Or.inl ⟨g1, g2⟩
      · exact Or.inr g
  · obtain ⟨p, a1, a2, a3, a4⟩ := c10 w hw hwp
    exact ⟨p, a1, a2, by rw [upn_ne (nv w hwp)]; have := l1 p; omega, a4⟩
  · by_cases e : p = v
    · subst e; rw [upn_at]; omega
    · rw [upn_ne e]; exact c13 p hpp
/-- all edges of the path's last are gone, and it leads further down -/
theorem T_leave {v p2 : Nat} {rest : List Nat} (h : TJ dg nb ord low ix opn (v :: p2 :: rest) cnt) (hk : ix v = dg v) (hlow : ¬ low v = ord v) : TJ dg nb ord (upn low p2 (Nat.min (low p2) (low v))) ix opn (p2 :: rest) cnt := by
  obtain ⟨c1, c2, c3, c4, c5, c6, c7, c8, c9, c10, c11, c12, c13⟩ := h
  have hvp : v ∈ v :: p2 :: rest := List.mem_cons_self ..
  have hpp2 : p2 ∈ v :: p2 :: rest := List.mem_cons_of_mem _ (List.mem_cons_self ..)
  have hvo := c4 v hvp
  have lt2 : ord p2 < ord v := c11.1 p2 (List.mem_cons_self ..)
  have lev := (c8 v hvo).1
  have l1 : ∀ w, upn low p2 (Nat.min (low p2) (low v)) w ≤ low w := fun w => by
    by_cases e : w = p2
    · subst e; rw [upn_at]; exact Nat.min_le_left _ _
    · rw [upn_ne e]; exact Nat.le_refl _
  have np2 : ∀ w, w ∉ p2 :: rest → ¬ w = p2 := fun w hw e => hw (by rw [e]; exact List.mem_cons_self ..)
  have nin : ∀ w, w ∉ p2 :: rest → ¬ w = v → w ∉ v :: p2 :: rest := fun w hw e z => (List.mem_cons.mp z).elim e hw
  refine ⟨c1, c2, c3, fun p hp => c4 p (List.mem_cons_of_mem _ hp), c5, fun p hp => c6 p (List.mem_cons_of_mem _ hp), fun w hw hwp => ?_, fun w hw => ?_, fun w hw k hk' => ?_, fun w hw hwp => ?_, c11.2, c12, fun p hp => c13 p (List.mem_cons_of_mem _ hp)⟩
  · rw [upn_ne (np2 w hwp)]
    by_cases e : w = v
    · subst e; omega
    · exact c7 w hw (nin w hwp e)
  · by_cases e : w = p2
    · subst e
      rw [upn_at]
      obtain ⟨a1, x, a2, a3, a4⟩ := c8 w hw
      obtain ⟨b1, y, b2, b3, b4⟩ := c8 v hvo
      refine ⟨Nat.le_trans (Nat.min_le_left _ _) a1, ?_⟩
      rcases Nat.le_total (low w) (low v) with z | z
      · exact ⟨x, a2, by rw [a3]; exact (Nat.min_eq_left z).symm, a4⟩
      · exact ⟨y, b2, by rw [b3]; exact (Nat.min_eq_right z).symm, (c6 w hpp2 v hvo (by omega)).trans b4⟩
    · rw [upn_ne e]; exact c8 w hw
  · have hk2 : (w ∈ v :: p2 :: rest ∧ k < ix w) ∨ (w ∉ v :: p2 :: rest ∧ k < dg w) := by
      rcases hk' with ⟨g1, g2⟩ | ⟨g1, g2⟩
      · exact Or.inl ⟨List.mem_cons_of_mem _ g1, g2⟩
      · by_cases e : w = v
        · subst e; exact Or.inl ⟨hvp, by omega⟩
        · exact Or.inr ⟨nin w g1 e, g2⟩
    obtain ⟨a1, a2⟩ := c9 w hw k hk2
    exact ⟨a1, fun z => by have := a2 z; have := l1 w; omega⟩
  · rw [upn_ne (np2 w hwp)]
    by_cases e : w = v
    · subst e
      refine ⟨p2, List.mem_cons_self .., lt2, by rw [upn_at]; exact Nat.min_le_right _ _, fun p' hp' _ => ?_⟩
      rcases List.mem_cons.mp hp' with e2 | e2
      · rw [e2]; exact Nat.le_refl _
      · exact Nat.le_of_lt (c11.2.1 p' e2)
    · obtain ⟨p, a1, a2, a3, a4⟩ := c10 w hw (nin w hwp e)
      rcases List.mem_cons.mp a1 with e2 | e2
      · subst e2
        refine ⟨p2, List.mem_cons_self .., by omega, by rw [upn_at]; exact Nat.le_trans (Nat.min_le_right _ _) a3, fun p' hp' _ => ?_⟩
        rcases List.mem_cons.mp hp' with e2 | e2
        · rw [e2]; exact Nat.le_refl _
        · exact Nat.le_of_lt (c11.2.1 p' e2)
      · exact ⟨p, e2, a2, by have := l1 p; omega, fun p' hp' hle => a4 p' (List.mem_cons_of_mem _ hp') hle⟩
/-- a part is closed: the open spots from v on -/
theorem T_close {v : Nat} {rest C opn' : List Nat} (h : TJ dg nb ord low ix opn (v :: rest) cnt) (hk : ix v = dg v) (hlow : low v = ord v) (ho : opn = C ++ opn') (hv : v ∈ C) (hC : ∀ w ∈ C, ord v ≤ ord w) (hO : ∀ w ∈ opn', ord w < ord v) : TJ dg nb ord low ix opn' rest cnt ∧ (∀ w ∈ C, star (Ed dg nb) v w ∧ star (Ed dg nb) w v) ∧ (∀ w ∈ C, ∀ u, Ed dg nb w u → u ∈ C ∨ (¬ ord u = 0 ∧ u ∉ opn)) := by
  obtain ⟨c1, c2, c3, c4, c5, c6, c7, c8, c9, c10, c11, c12, c13⟩ := h
  have hvp : v ∈ v :: rest := List.mem_cons_self ..
  have inC : ∀ w, w ∈ C → w ∈ opn := fun w hw => by rw [ho]; exact List.mem_append_left _ hw
  have inO : ∀ w, w ∈ opn' → w ∈ opn := fun w hw => by rw [ho]; exact List.mem_append_right _ hw
  have spl : ∀ w, w ∈ opn → w ∈ C ∨ w ∈ opn' := fun w hw => by rw [ho] at hw; exact List.mem_append.mp hw
  have notp : ∀ w ∈ C, ¬ w = v → w ∉ v :: rest := fun w hw e z => by
    rcases List.mem_cons.mp z with e2 | e2
    · exact e e2
    · have := c11.1 w e2
      have := hC w hw
      omega
  -- they lead no further down than v
  have lw : ∀ w ∈ C, ord v ≤ low w := by
    intro w hw
    by_cases e : w = v
    · subst e; omega
    · obtain ⟨p, a1, a2, a3, a4⟩ := c10 w (inC w hw) (notp w hw e)
      have := a4 v hvp (hC w hw)
      rcases List.mem_cons.mp a1 with e2 | e2
      · subst e2; omega
      · have := c11.1 p e2
        omega
  have back : ∀ m, ∀ w ∈ C, ord w ≤ m → star (Ed dg nb) w v := by
    intro m
    induction m with
    | zero => intro w hw hm; exact absurd (by omega) (c3 w (inC w hw))
    | succ m ih =>
      intro w hw hm
      by_cases e : w = v
      · rw [e]; exact star.refl _
      · have h1 := c7 w (inC w hw) (notp w hw e)
        obtain ⟨_, u, a2, a3, a4⟩ := c8 w (inC w hw)
        have hu : u ∈ C := by
          rcases spl u a2 with z | z
          · exact z
          · have := hO u z
            have := lw w hw
            omega
        exact a4.trans (ih u hu (by omega))
  have fin : ∀ w ∈ C, ∀ k, k < dg w → (w ∈ v :: rest ∧ k < ix w) ∨ (w ∉ v :: rest ∧ k < dg w) := by
    intro w hw k hk'
    by_cases e : w = v
    · subst e; exact Or.inl ⟨hvp, by omega⟩
    · exact Or.inr ⟨notp w hw e, hk'⟩
  have out : ∀ w ∈ C, ∀ u, Ed dg nb w u → u ∈ C ∨ (¬ ord u = 0 ∧ u ∉ opn) := by
    intro w hw u ⟨k, hk', e⟩
    obtain ⟨a1, a2⟩ := c9 w (inC w hw) k (fin w hw k hk')
    rw [e] at a1 a2
    by_cases hu : u ∈ opn
    · rcases spl u hu with z | z
      · exact Or.inl z
      · have := a2 hu
        have := lw w hw
        have := hO u z
        omega
    · exact Or.inr ⟨a1, hu⟩
  have rin : ∀ p ∈ rest, p ∈ opn' := fun p hp => by
    rcases spl p (c4 p (List.mem_cons_of_mem _ hp)) with z | z
    · have := c11.1 p hp
      have := hC p z
      omega
    · exact z
  have nC : ∀ w ∈ opn', w ∉ C := fun w hw z => by
    have := hO w hw
    have := hC w z
    omega
  have nv : ∀ w ∈ opn', ¬ w = v := fun w hw e => by have := hO w hw; rw [e] at this; omega
  have npl : ∀ w ∈ opn', w ∉ rest → w ∉ v :: rest := fun w hw hr z => (List.mem_cons.mp z).elim (nv w hw) hr
  refine ⟨⟨c1, c2, fun w hw => c3 w (inO w hw), rin, fun x hx hxo w hxw => ?_, fun p hp w hw => c6 p (List.mem_cons_of_mem _ hp) w (inO w hw), fun w hw hwp => c7 w (inO w hw) (npl w hw hwp), fun w hw => ?_, fun w hw k hk' => ?_, fun w hw hwp => ?_, c11.2, ?_, fun p hp => c13 p (List.mem_cons_of_mem _ hp)⟩, fun w hw => ⟨c6 v hvp w (inC w hw) (hC w hw), back _ w hw (Nat.le_refl _)⟩, out⟩
  · by_cases hxo2 : x ∈ opn
    · rcases spl x hxo2 with z | z
      · rcases out x z w hxw with q | q
        · exact ⟨c3 w (inC w q), fun y => nC w y q⟩
        · exact ⟨q.1, fun y => q.2 (inO w y)⟩
      · exact absurd z hxo
    · obtain ⟨a1, a2⟩ := c5 x hx hxo2 w hxw
      exact ⟨a1, fun y => a2 (inO w y)⟩
  · obtain ⟨a1, u, a2, a3, a4⟩ := c8 w (inO w hw)
    refine ⟨a1, u, ?_, a3, a4⟩
    rcases spl u a2 with z | z
    · have := hC u z
      have := hO w hw
      omega
    · exact z
  · have hk2 : (w ∈ v :: rest ∧ k < ix w) ∨ (w ∉ v :: rest ∧ k < dg w) := by
      rcases hk' with ⟨g1, g2⟩ | ⟨g1, g2⟩
      · exact Or.inl ⟨List.mem_cons_of_mem _ g1, g2⟩
      · exact Or.inr ⟨npl w hw g1, g2⟩
    obtain ⟨a1, a2⟩ := c9 w (inO w hw) k hk2
    exact ⟨a1, fun z => a2 (inO _ z)⟩
  · obtain ⟨p, a1, a2, a3, a4⟩ := c10 w (inO w hw) (npl w hw hwp)
    rcases List.mem_cons.mp a1 with e | e
    · subst e; have := hO w hw; omega
    · exact ⟨p, e, a2, a3, fun p' hp' => a4 p' (List.mem_cons_of_mem _ hp')⟩
  · rw [ho] at c12
    have : ∀ (A L : List Nat), Srt ord (A ++ L) → Srt ord L := by
      intro A
      induction A with
      | nil => intro L h; exact h
      | cons x A ih => intro L h; exact ih L h.2
    exact this C opn' c12
/-- the root is closed: what it leads to lies all behind it -/
theorem T_root {v : Nat} (h : TJ dg nb ord low ix opn [v] cnt) : (∀ w ∈ opn, ord v ≤ ord w) ∧ low v = ord v := by
  obtain ⟨c1, c2, c3, c4, c5, c6, c7, c8, c9, c10, c11, c12, c13⟩ := h
  have hvo := c4 v (List.mem_cons_self ..)
  have a : ∀ w ∈ opn, ord v ≤ ord w := by
    intro w hw
    by_cases e : w = v
    · rw [e]; exact Nat.le_refl _
    · obtain ⟨p, a1, a2, _⟩ := c10 w hw (fun z => e (by simpa using z))
      have : p = v := by simpa using a1
      subst this; omega
  refine ⟨a, ?_⟩
  obtain ⟨b1, u, b2, b3, _⟩ := c8 v hvo
  have := a u b2
  omega
end ZQ1
