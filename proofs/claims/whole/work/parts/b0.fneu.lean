/-! Formulas: the steps of reading one, apart from the call stack of the class and the waiting signs of the reference. -/
section ZN1
/-- kind (0 to 7 a sign, 8 an expression, 9 a process that stands), process, point, codes -/
abbrev zIt : Type := Nat × Nat × Nat × List Int32
/-- unit wanted (1), unit there (2), signs between two sides wanted (0); place; waiting signs (8: a bracket), the innermost first; what is put, the last first -/
abbrev zPs : Type := Nat × Nat × List Nat × List zIt
def lnC : List zIt → Nat
  | [] => 0
  | x :: l => lnC l + (if x.1 = 8 then x.2.2.2.length + 1 else 0)
def lnR : List zIt → Nat
  | [] => 0
  | x :: l => lnR l + (if x.1 = 8 then x.2.2.2.length else 0)
def natm : List zIt → Nat
  | [] => 0
  | x :: l => natm l + (if 8 ≤ x.1 then 1 else 0)
abbrev isT (k : Nat) : Prop := 4 ≤ k ∧ k ≤ 7
abbrev isU (k : Nat) : Prop := k = 0 ∨ k = 4 ∨ k = 5
def ntm : List zIt → Nat
  | [] => 0
  | x :: l => ntm l + (if isT x.1 then 1 else 0)
def nts : List Nat → Nat
  | [] => 0
  | k :: l => nts l + (if isT k then 1 else 0)
def dpt : List Nat → Nat
  | [] => 0
  | k :: l => dpt l + (if k = 1 ∨ k = 2 then 0 else 1)
def nbi : List Nat → Nat
  | [] => 0
  | k :: l => nbi l + (if isU k ∨ k = 8 then 0 else 1)
/-- the indices of what no sign has taken yet -/
def rts : List zIt → List Nat
  | [] => []
  | x :: l => l.length :: (if 8 ≤ x.1 then rts l else if isU x.1 then (rts l).tail else (rts l).tail.tail)
/-- the places of U, R, G, F -/
def tms : List zIt → List Nat
  | [] => []
  | x :: l => if isT x.1 then l.length :: tms l else tms l
def bnd (k : Nat) : Nat := if k = 8 then 0 else if k = 3 then 1 else if k = 2 then 2 else if k = 1 then 3 else if k = 6 ∨ k = 7 then 4 else 5
def jo (c : Int32) : Nat := if c = 38 then 1 else if c = 62 then 3 else if c = 82 then 7 else if c = 85 then 6 else if c = 124 then 2 else 9
def thr (k : Nat) : Nat := if k = 3 ∨ k = 2 then 2 else if k = 1 then 3 else if k = 6 ∨ k = 7 then 5 else 1
def strn (k : Nat) : Nat := if k = 1 then 2 else if k = 2 then 1 else if k = 3 then 0 else 3
def uop (c : Int32) : Nat := if c = 33 then 0 else if c = 71 then 4 else if c = 70 then 5 else if c = 40 then 8 else 9
def opI (k : Nat) : zIt := (k, 0, 0, [])
def metp (st : List Nat) (out : List zIt) : Nat := ntm out + nts st
def noU : List Nat → Prop
  | [] => True
  | k :: _ => ¬ isU k
def noP (t : Nat) : List Nat → Prop
  | [] => True
  | k :: _ => bnd k < t
def fst9 (f : Nat → Int32) (n : Nat) (kd : Nat → Int32) (np : Nat) (LP : Nat → Int32) (s t : zPs) : Prop := ∃ (a : Nat) (st : List Nat) (out : List zIt),
  (s = (1, a, st, out) ∧ ¬ uop (tkn f n a) = 9 ∧ dpt st < 8 ∧ (isT (uop (tkn f n a)) → metp st out < 3) ∧ t = (1, a + 1, uop (tkn f n a) :: st, out)) ∨
  (s = (1, a, st, out) ∧ tkn f n a = 123 ∧ natm out < 8 ∧ ∃ a1 codes, EXP f n kd 0 (a + 1) a1 codes ∧ tkn f n a1 = 125 ∧ t = (2, a1 + 1, st, (8, 0, 0, codes) :: out)) ∨
  (s = (1, a, st, out) ∧ tkn f n a = 64 ∧ natm out < 8 ∧ ∃ p l pt, one (tkn f n (a + 1)) 48 8 = nI p ∧ p < np ∧ one (tkn f n (a + 2)) 65 8 = nI l ∧ l < 8 ∧ LP (8 * p + l) = nI pt ∧ pt ≤ 30 ∧ t = (2, a + 3, st, (9, p, pt, []) :: out)) ∨
  (∃ k st', st = k :: st' ∧ s = (2, a, st, out) ∧ isU k ∧ t = (2, a, st', opI k :: out)) ∨
  (s = (2, a, st, out) ∧ noU st ∧ t = (0, a, st, out)) ∨
  (∃ k st', st = k :: st' ∧ s = (0, a, st, out) ∧ (¬ k = 8 ∧ ¬ isU k) ∧ thr (jo (tkn f n a)) ≤ bnd k ∧ t = (0, a, st', opI k :: out)) ∨
  (s = (0, a, st, out) ∧ ¬ jo (tkn f n a) = 9 ∧ noP (thr (jo (tkn f n a))) st ∧ (isT (jo (tkn f n a)) → metp st out < 3) ∧ (jo (tkn f n a) = 1 ∨ jo (tkn f n a) = 2 ∨ dpt st < 8) ∧ t = (1, a + 1, jo (tkn f n a) :: st, out)) ∨
  (∃ st', st = 8 :: st' ∧ s = (0, a, st, out) ∧ tkn f n a = 41 ∧ t = (2, a + 1, st', out))
/-- wrong, at q -/
def ffail (f : Nat → Int32) (n : Nat) (kd : Nat → Int32) (np : Nat) (LP : Nat → Int32) (s : zPs) (q : Nat) : Prop := ∃ (a : Nat) (st : List Nat) (out : List zIt),
  (s = (1, a, st, out) ∧ ¬ uop (tkn f n a) = 9 ∧ q = a ∧ (¬ dpt st < 8 ∨ (isT (uop (tkn f n a)) ∧ ¬ metp st out < 3))) ∨
  (s = (1, a, st, out) ∧ tkn f n a = 123 ∧ ((q = a ∧ ¬ natm out < 8) ∨ (natm out < 8 ∧ (EXPF f n kd 0 (a + 1) q ∨ ∃ codes, EXP f n kd 0 (a + 1) q codes ∧ ¬ tkn f n q = 125)))) ∨
  (s = (1, a, st, out) ∧ tkn f n a = 64 ∧ ((q = a ∧ ¬ natm out < 8) ∨ (natm out < 8 ∧ ((q = a + 1 ∧ ∀ p, p < np → ¬ one (tkn f n (a + 1)) 48 8 = nI p) ∨ (q = a + 2 ∧ ∃ p, p < np ∧ one (tkn f n (a + 1)) 48 8 = nI p ∧ (one (tkn f n (a + 2)) 65 8 = -1 ∨ LP (8 * p + (one (tkn f n (a + 2)) 65 8).toNatClampNeg) = -1)))))) ∨
  (s = (1, a, st, out) ∧ uop (tkn f n a) = 9 ∧ ¬ tkn f n a = 123 ∧ ¬ tkn f n a = 64 ∧ q = a) ∨
  (s = (0, a, st, out) ∧ ¬ jo (tkn f n a) = 9 ∧ noP (thr (jo (tkn f n a))) st ∧ q = a ∧ ((isT (jo (tkn f n a)) ∧ ¬ metp st out < 3) ∨ (¬ jo (tkn f n a) = 1 ∧ ¬ jo (tkn f n a) = 2 ∧ ¬ dpt st < 8))) ∨
  (s = (0, a, st, out) ∧ jo (tkn f n a) = 9 ∧ q = a ∧ ((∃ st', st = 8 :: st' ∧ ¬ tkn f n a = 41) ∨ (st = [] ∧ a < n)))
/-- what holds all along -/
def PI (f : Nat → Int32) (n : Nat) (kd : Nat → Int32) (s : zPs) : Prop := s.2.1 ≤ n ∧ s.2.2.2.length + s.2.2.1.length ≤ s.2.1 ∧ (s.1 = 1 ∨ s.2.2.2.length + s.2.2.1.length + 1 ≤ s.2.1) ∧ dpt s.2.2.1 ≤ 8 ∧ natm s.2.2.2 ≤ 8 ∧ metp s.2.2.1 s.2.2.2 ≤ 3 ∧ (∀ k ∈ s.2.2.1, k ≤ 8) ∧ (rts s.2.2.2).length + (if s.1 = 1 then 1 else 0) = nbi s.2.2.1 + 1 ∧ lnC s.2.2.2 ≤ 2 * s.2.1 ∧ lnR s.2.2.2 ≤ s.2.1 ∧ s.1 ≤ 2 ∧ (∀ x ∈ s.2.2.2, x.1 ≤ 9 ∧ (x.1 = 8 → okR x.2.2.2 ∧ ht x.2.2.2 = 1 ∧ nod x.2.2.2 ≤ 12 ∧ KN kd x.2.2.2 ∧ 1 ≤ x.2.2.2.length))
theorem ht_len {l : List Int32} (h : ht l = 1) : 1 ≤ l.length := by
  cases l with
  | nil => simp [ht] at h
  | cons x l => simp
theorem uop_c {c : Int32} (h : ¬ uop c = 9) : ¬ c = 0 ∧ (uop c = 0 ∨ uop c = 4 ∨ uop c = 5 ∨ uop c = 8) := by
  unfold uop at h ⊢
  by_cases h1 : c = 33
  · subst h1; decide
  · by_cases h2 : c = 71
    · subst h2; decide
    · by_cases h3 : c = 70
      · subst h3; decide
      · by_cases h4 : c = 40
        · subst h4; decide
        · simp [h1, h2, h3, h4] at h
theorem jo_c {c : Int32} (h : ¬ jo c = 9) : ¬ c = 0 ∧ (jo c = 1 ∨ jo c = 2 ∨ jo c = 3 ∨ jo c = 6 ∨ jo c = 7) := by
  unfold jo at h ⊢
  by_cases h1 : c = 38
  · subst h1; decide
  · by_cases h2 : c = 62
    · subst h2; decide
    · by_cases h3 : c = 82
      · subst h3; decide
      · by_cases h4 : c = 85
        · subst h4; decide
        · by_cases h5 : c = 124
          · subst h5; decide
          · simp [h1, h2, h3, h4, h5] at h
theorem natm_o {k : Nat} (h : k ≤ 7) (l : List zIt) : natm (opI k :: l) = natm l := by
  show natm l + (if 8 ≤ k then 1 else 0) = natm l
  rw [if_neg (by omega), Nat.add_zero]
theorem lnC_o {k : Nat} (h : k ≤ 7) (l : List zIt) : lnC (opI k :: l) = lnC l := by
  show lnC l + (if k = 8 then ([] : List Int32).length + 1 else 0) = lnC l
  rw [if_neg (by omega), Nat.add_zero]
theorem lnR_o {k : Nat} (h : k ≤ 7) (l : List zIt) : lnR (opI k :: l) = lnR l := by
  show lnR l + (if k = 8 then ([] : List Int32).length else 0) = lnR l
  rw [if_neg (by omega), Nat.add_zero]
theorem metp_o (k : Nat) (st : List Nat) (l : List zIt) : metp st (opI k :: l) = metp (k :: st) l := by
  show ntm l + (if isT k then 1 else 0) + nts st = ntm l + (nts st + (if isT k then 1 else 0))
  omega
theorem metp_a {x : zIt} (h : 8 ≤ x.1) (st : List Nat) (l : List zIt) : metp st (x :: l) = metp st l := by
  show ntm l + (if isT x.1 then 1 else 0) + nts st = ntm l + nts st
  rw [if_neg (fun z => by have := z.2; omega), Nat.add_zero]
theorem natm_a {x : zIt} (h : 8 ≤ x.1) (l : List zIt) : natm (x :: l) = natm l + 1 := by
  show natm l + (if 8 ≤ x.1 then 1 else 0) = natm l + 1
  rw [if_pos h]
theorem rts_a {x : zIt} (h : 8 ≤ x.1) (l : List zIt) : rts (x :: l) = l.length :: rts l := by
  show l.length :: (if 8 ≤ x.1 then rts l else if isU x.1 then (rts l).tail else (rts l).tail.tail) = _
  rw [if_pos h]
theorem rts_u {k : Nat} (h : isU k) (l : List zIt) : rts (opI k :: l) = l.length :: (rts l).tail := by
  show l.length :: (if 8 ≤ k then rts l else if isU k then (rts l).tail else (rts l).tail.tail) = _
  rw [if_neg (by omega), if_pos h]
theorem rts_b {k : Nat} (h : ¬ isU k) (h7 : k ≤ 7) (l : List zIt) : rts (opI k :: l) = l.length :: (rts l).tail.tail := by
  show l.length :: (if 8 ≤ k then rts l else if isU k then (rts l).tail else (rts l).tail.tail) = _
  rw [if_neg (by omega), if_neg h]
theorem nbi_0 {k : Nat} (h : isU k ∨ k = 8) (st : List Nat) : nbi (k :: st) = nbi st := by
  show nbi st + (if isU k ∨ k = 8 then 0 else 1) = nbi st
  rw [if_pos h, Nat.add_zero]
theorem nbi_1 {k : Nat} (h : ¬ (isU k ∨ k = 8)) (st : List Nat) : nbi (k :: st) = nbi st + 1 := by
  show nbi st + (if isU k ∨ k = 8 then 0 else 1) = nbi st + 1
  rw [if_neg h]
theorem dpt_le (k : Nat) (st : List Nat) : dpt st ≤ dpt (k :: st) ∧ dpt (k :: st) ≤ dpt st + 1 := by
  show dpt st ≤ dpt st + (if k = 1 ∨ k = 2 then 0 else 1) ∧ dpt st + (if k = 1 ∨ k = 2 then 0 else 1) ≤ dpt st + 1
  split <;> omega
theorem metp_p (k : Nat) (st : List Nat) (l : List zIt) : metp (k :: st) l = metp st l + (if isT k then 1 else 0) := by
  show ntm l + (nts st + (if isT k then 1 else 0)) = ntm l + nts st + (if isT k then 1 else 0)
  omega
theorem PI_step {f : Nat → Int32} {n : Nat} {kd : Nat → Int32} {np : Nat} {LP : Nat → Int32} {s t : zPs} (hP : PI f n kd s) (h : fst9 f n kd np LP s t) : PI f n kd t := by
  obtain ⟨a, st, out, h⟩ := h
  obtain ⟨p1, p2, p3, p4, p5, p6, p7, p8, p9, p10, p11, p12⟩ := hP
  rcases h with ⟨rfl, g1, g2, g3, rfl⟩ | ⟨rfl, g1, g2, a1, codes, g3, g4, rfl⟩ | ⟨rfl, g1, g2, p, l, pt, g3, g4, g5, g6, g7, g8, rfl⟩ | ⟨k, st', rfl, rfl, g1, rfl⟩ | ⟨rfl, g1, rfl⟩ | ⟨k, st', rfl, rfl, g1, g2, rfl⟩ | ⟨rfl, g1, g2, g3, g4, rfl⟩ | ⟨st', rfl, rfl, g1, rfl⟩
  all_goals dsimp only at p1 p2 p3 p4 p5 p6 p7 p8 p9 p10 p11 p12
  · obtain ⟨u1, u2⟩ := uop_c g1
    have han := tkn_lt rfl u1
    have hk8 : uop (tkn f n a) ≤ 8 := by omega
    have hd := dpt_le (uop (tkn f n a)) st
    refine ⟨by dsimp only; omega, by simp; omega, Or.inl rfl, by dsimp only; omega, p5, ?_, ?_, ?_, by dsimp only; omega, by dsimp only; omega, by dsimp only; omega, p12⟩
    · dsimp only; rw [metp_p]
      split
      · rename_i g; have := g3 g; omega
      · omega
    · intro k hk
      rcases List.mem_cons.mp hk with e | e
      · rw [e]; exact hk8
      · exact p7 k e
    · dsimp only; rw [nbi_0 (k := uop (tkn f n a)) (by omega)]
      exact p8
  · have han := tkn_lt g1 (by decide)
    obtain ⟨f1, f2, f3, f4, f5, f6, f7⟩ := EXP.facts (by omega) (by omega) g3
    have ha1 := tkn_lt g4 (by decide)
    refine ⟨by dsimp only; omega, by simp; omega, Or.inr (by simp; omega), p4, ?_, ?_, p7, ?_, ?_, ?_, by dsimp only; omega, ?_⟩
    · dsimp only; rw [natm_a (by dsimp only; omega)]; omega
    · dsimp only; rw [metp_a (by dsimp only; omega)]; exact p6
    · dsimp only; rw [rts_a (by dsimp only; omega)]; simp at p8 ⊢; omega
    · simp [lnC]; omega
    · simp [lnR]; omega
    · intro x hx
      rcases List.mem_cons.mp hx with e | e
      · rw [e]; exact ⟨by dsimp only; omega, fun _ => ⟨f1, f2, f3, f4, ht_len f2⟩⟩
      · exact p12 x e
  · have han := tkn_lt g1 (by decide)
    have h2 : a + 2 < n := by
      refine Classical.byContradiction (fun hn => ?_)
      have : tkn f n (a + 2) = 0 := by unfold tkn; rw [if_neg hn]
      rw [this] at g5
      have : one 0 65 8 = -1 := by decide
      rw [this] at g5
      exact nI_m1 (by omega) g5.symm
    refine ⟨by dsimp only; omega, by simp; omega, Or.inr (by simp; omega), p4, ?_, ?_, p7, ?_, ?_, ?_, by dsimp only; omega, ?_⟩
    · dsimp only; rw [natm_a (by dsimp only; omega)]; omega
    · dsimp only; rw [metp_a (by dsimp only; omega)]; exact p6
    · dsimp only; rw [rts_a (by dsimp only; omega)]; simp at p8 ⊢; omega
    · simp [lnC]; omega
    · simp [lnR]; omega
    · intro x hx
      rcases List.mem_cons.mp hx with e | e
      · rw [e]; exact ⟨by dsimp only; omega, fun z => absurd z (by dsimp only; omega)⟩
      · exact p12 x e
  · have hk5 : k ≤ 5 := by omega
    have hd := dpt_le k st'
    refine ⟨p1, by simp at p2 ⊢; omega, Or.inr (by simp at p3 ⊢; omega), by dsimp only; omega, ?_, ?_, fun x hx => p7 x (List.mem_cons_of_mem _ hx), ?_, ?_, ?_, by dsimp only; omega, ?_⟩
    · dsimp only; rw [natm_o (by omega)]; exact p5
    · dsimp only; rw [metp_o]; exact p6
    · dsimp only; rw [rts_u g1]
      rw [nbi_0 (Or.inl g1)] at p8
      simp at p8 ⊢; omega
    · dsimp only; rw [lnC_o (by omega)]; exact p9
    · dsimp only; rw [lnR_o (by omega)]; exact p10
    · intro x hx
      rcases List.mem_cons.mp hx with e | e
      · rw [e]; exact ⟨by show k ≤ 9; omega, fun z => absurd z (by show ¬ k = 8; omega)⟩
      · exact p12 x e
  · exact ⟨p1, p2, Or.inr (p3.resolve_left (by omega)), p4, p5, p6, p7, by simpa using p8, p9, p10, by dsimp only; omega, p12⟩
  · have hk8 := p7 k (List.mem_cons_self ..)
    have hk7 : k ≤ 7 := by omega
    have hd := dpt_le k st'
    refine ⟨p1, by simp at p2 ⊢; omega, Or.inr (by simp at p3 ⊢; omega), by dsimp only; omega, ?_, ?_, fun x hx => p7 x (List.mem_cons_of_mem _ hx), ?_, ?_, ?_, by dsimp only; omega, ?_⟩
    · dsimp only; rw [natm_o (by omega)]; exact p5
    · dsimp only; rw [metp_o]; exact p6
    · dsimp only
      by_cases gu : isU k
      · rw [rts_u gu]
        rw [nbi_0 (Or.inl gu)] at p8
        simp at p8 ⊢; omega
      · rw [rts_b gu hk7]
        rw [nbi_1 (fun z => z.elim gu g1.1)] at p8
        simp at p8 ⊢; omega
    · dsimp only; rw [lnC_o (by omega)]; exact p9
    · dsimp only; rw [lnR_o (by omega)]; exact p10
    · intro x hx
      rcases List.mem_cons.mp hx with e | e
      · rw [e]; exact ⟨by show k ≤ 9; omega, fun z => absurd z (by show ¬ k = 8; omega)⟩
      · exact p12 x e
  · obtain ⟨u1, u2⟩ := jo_c g1
    have han := tkn_lt rfl u1
    have hk8 : jo (tkn f n a) ≤ 8 := by omega
    have hd := dpt_le (jo (tkn f n a)) st
    refine ⟨by dsimp only; omega, by simp; omega, Or.inl rfl, ?_, p5, ?_, ?_, ?_, by dsimp only; omega, by dsimp only; omega, by dsimp only; omega, p12⟩
    · show dpt st + (if jo (tkn f n a) = 1 ∨ jo (tkn f n a) = 2 then 0 else 1) ≤ 8
      split <;> omega
    · dsimp only; rw [metp_p]
      split
      · rename_i g; have := g3 g; omega
      · omega
    · intro k hk
      rcases List.mem_cons.mp hk with e | e
      · rw [e]; exact hk8
      · exact p7 k e
    · dsimp only; rw [nbi_1 (by omega)]
      simp at p8 ⊢; omega
  · have han := tkn_lt g1 (by decide)
    have hd := dpt_le 8 st'
    refine ⟨by dsimp only; omega, by simp at p2 ⊢; omega, Or.inr (by simp at p3 ⊢; omega), by dsimp only; omega, p5, ?_, fun x hx => p7 x (List.mem_cons_of_mem _ hx), ?_, by dsimp only; omega, by dsimp only; omega, by dsimp only; omega, p12⟩
    · rw [metp_p] at p6; dsimp only; omega
    · rw [nbi_0 (Or.inr rfl)] at p8
      simpa using p8
theorem PI_star {f : Nat → Int32} {n : Nat} {kd : Nat → Int32} {np : Nat} {LP : Nat → Int32} {s t : zPs} (hP : PI f n kd s) (h : star (fst9 f n kd np LP) s t) : PI f n kd t := h (PI f n kd) hP (fun _ _ c g => PI_step c g)
end ZN1
