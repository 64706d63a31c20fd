/-! Statements: how the reference's nodes are the class's. -/
section ZE8
variable {I : Nat → Int32} {J : Nat → Int64} {B : Nat → Nat → Int32} {D : Nat → Nat → Int64}
theorem SB_all {f : Nat → Int32} {n : Nat} {kd : Nat → Int32} : ∀ (k d L : Nat), d + k = 6 → 3 * (k + 1) ≤ L → SB f n kd d (wG_gm L).1 := by
  intro k
  induction k with
  | zero =>
    intro d L hd hL
    obtain ⟨L, rfl⟩ : ∃ m, L = m + 3 := ⟨L - 3, by omega⟩
    refine SB_of (f := f) (n := n) (kd := kd) (d := d) (P0 := (wG_gm (L + 2)).1) (P1 := (wG_gm (L + 2)).2.1) (P2 := (wG_gm (L + 2)).2.2.1) (P3 := (wG_gm (L + 2)).2.2.2) ?_
    refine SS_of (f := f) (n := n) (kd := kd) (d := d) (P0 := (wG_gm (L + 1)).1) (P1 := (wG_gm (L + 1)).2.1) (P2 := (wG_gm (L + 1)).2.2.1) (P3 := (wG_gm (L + 1)).2.2.2) ?_ ?_
    · exact SC_of (P0 := (wG_gm L).1) (P1 := (wG_gm L).2.1) (P2 := (wG_gm L).2.2.1) (P3 := (wG_gm L).2.2.2) (fun z => by omega)
    · exact SA_of (P0 := (wG_gm L).1) (P1 := (wG_gm L).2.1) (P2 := (wG_gm L).2.2.1) (P3 := (wG_gm L).2.2.2) (fun z => by omega)
  | succ k ih =>
    intro d L hd hL
    obtain ⟨L, rfl⟩ : ∃ m, L = m + 3 := ⟨L - 3, by omega⟩
    have hb : d < 6 → SB f n kd (d + 1) (wG_gm L).1 := fun _ => ih (d + 1) L (by omega) (by omega)
    refine SB_of (f := f) (n := n) (kd := kd) (d := d) (P0 := (wG_gm (L + 2)).1) (P1 := (wG_gm (L + 2)).2.1) (P2 := (wG_gm (L + 2)).2.2.1) (P3 := (wG_gm (L + 2)).2.2.2) ?_
    refine SS_of (f := f) (n := n) (kd := kd) (d := d) (P0 := (wG_gm (L + 1)).1) (P1 := (wG_gm (L + 1)).2.1) (P2 := (wG_gm (L + 1)).2.2.1) (P3 := (wG_gm (L + 1)).2.2.2) ?_ ?_
    · exact SC_of (P0 := (wG_gm L).1) (P1 := (wG_gm L).2.1) (P2 := (wG_gm L).2.2.1) (P3 := (wG_gm L).2.2.2) hb
    · exact SA_of (P0 := (wG_gm L).1) (P1 := (wG_gm L).2.1) (P2 := (wG_gm L).2.2.1) (P3 := (wG_gm L).2.2.2) hb
/-- the class reads a process's statements -/
theorem q_readBody {f : Nat → Int32} {n : Nat} {kd : Nat → Int32} : SB f n kd 0 wp_ModelReader_readBody := SB_all 6 0 24 (by omega) (by omega)
/-- a number of the class's as the reference counts: from the process's first node on -/
def off (base : Nat) (x : Int32) : Int32 := if x < 0 then -1 else x + nI base
theorem off_m (base : Nat) : off base (-1) = -1 := rfl
theorem off_n {base j : Nat} (hj : j ≤ 1000) : off base (nI j) = nI (base + j) := by
  unfold off
  rw [if_neg (nI_pos (by omega)), nI_add, Nat.add_comm]
theorem off_neg {base : Nat} {x : Int32} {n : Nat} (h : okI x n) (hn : n ≤ 1000) (hb : base ≤ 1000) : (off base x < 0 ↔ x = -1) ∧ okI (off base x) (base + n) := by
  rcases h with rfl | ⟨j, hj, rfl⟩
  · exact ⟨⟨fun _ => rfl, fun _ => by rw [off_m]; decide⟩, Or.inl rfl⟩
  · rw [off_n (by omega)]
    exact ⟨⟨fun z => absurd z (nI_pos (by omega)), fun z => absurd z (nI_m1 (by omega))⟩, Or.inr ⟨base + j, by omega, rfl⟩⟩
/-- the nodes of the process that is being read, but for their kinds -/
def TR (base p sz : Nat) (B B9 : Nat → Nat → Int32) : Prop := ∀ k, k < sz → B9 7 (base + k) = off base (B 19 k) ∧ B9 8 (base + k) = off base (B 23 k) ∧ B9 9 (base + k) = B 22 k ∧ B9 10 (base + k) = off base (B 21 k) ∧ B9 11 (base + k) = B 25 k ∧ B9 6 (base + k) = nI p
theorem afn_atf {B : Nat → Nat → Int32} {base sz : Nat} {B9 : Nat → Nat → Int32} (hz : sz ≤ 240) (hb : base ≤ 1000) : ∀ {F : zF}, okF B sz F → rep (B9 25) 0 (F.map (fun x => nI x.1)) → rep (B9 26) 0 (F.map (fun x => off base x.2.1)) → afn (B9 25) (B9 26) (F.length - 1) = off base (atf F) := by
  intro F
  induction F with
  | nil => intro h; exact h.elim
  | cons x r ih =>
    intro h h1 h2
    rcases h.2 with ⟨w1, w2, w3⟩ | ⟨w1, w2, w3, j, hj, e1, e2, _⟩
    · subst w1
      simp only [List.length_cons, List.length_nil, atf, w2]
      rfl
    · have hr := ih w1 h1.2 h2.2
      cases r with
      | nil => exact w1.elim
      | cons y r' =>
        have a1 := h1.1
        have a2 := h2.1
        simp only [List.length_map, List.length_cons, Nat.zero_add] at a1 a2
        have hl : (x :: y :: r').length - 1 = r'.length + 1 := by simp
        have hl2 : (y :: r').length - 1 = r'.length := by simp
        rw [hl2] at hr
        rw [hl]
        simp only [afn]
        rw [a1, a2, hr]
        have c3 : nI x.1 = 3 ↔ x.1 = 3 := nI_lit (k := x.1) (by omega) (c := 3) (by omega)
        by_cases g : x.1 = 3
        · rw [if_pos (c3.mpr g)]; simp [atf, g]
        · rw [if_neg (fun z => g (c3.mp z))]; simp [atf, g]
theorem TR_add {base p sz d pt bs : Nat} {I9 I9' : Nat → Int32} {B9 B9' : Nat → Nat → Int32} {I' : Nat → Int32} {B' : Nat → Nat → Int32} {kind kind9 nd lt : Int32} (hz : sz ≤ 240) (hb : base ≤ 1000) (h : TR base p sz B B9) (hT : TA kind nd lt sz I B I' B') (hN : NA9 kind9 (base + sz) d p pt bs I9 B9 I9' B9') (hk : 2 < kind ↔ 7 < kind9) (h26 : B9 26 d = off base nd) (h27 : B9 27 d = off base lt) (hlt : okI lt sz) (haf : afn (B9 25) (B9 26) d = off base (ati B nd)) (h20 : B9 20 p = I 17) : TR base p (sz + 1) B' B9' := by
  obtain ⟨t1, t2, t3, t18, t19, t20, t21, t22, t23, t24, t25, tk⟩ := hT
  obtain ⟨n1, n2, n3, n5, n6, n7, n8, n9, n10, n11, n27, n20, n23, n19, n18, nk⟩ := hN
  have hneg := off_neg (base := base) hlt (by omega) hb
  intro k hk'
  by_cases e : k = sz
  · subst e
    refine ⟨?_, ?_, ?_, ?_, ?_, ?_⟩
    · rw [n7, t19]; simp [upd, h26]
    · rw [n8, t23, h27]
      by_cases g : lt = -1
      · rw [if_pos (hneg.1.mpr g), if_pos g]; simp [upd, off]
      · rw [if_neg (fun z => g (hneg.1.mp z)), if_neg g]
        obtain ⟨j, hj, ej⟩ := hlt.at g
        rw [ej, off_n (by omega), clI (x := nI (base + j)) rfl (by omega), clI (x := nI j) rfl (by omega)]
        have q1 : ¬ base + k = base + j := by omega
        have q2 : ¬ k = j := by omega
        simp only [upd, q1, q2, if_true, if_false]; rfl
    · rw [n9, t22, h27]
      have : 0 ≤ off base lt ↔ ¬ lt = -1 := by rw [← hneg.1]; exact Int32.not_lt.symm
      by_cases g : lt = -1
      · rw [if_neg (fun z => (this.mp z) g), if_pos g]; simp [upd]
      · rw [if_pos (this.mpr g), if_neg g]; simp [upd]
    · rw [n10, t21, haf]; simp [upd]
    · rw [n11, t25]
      by_cases g : 2 < kind
      · rw [if_pos (hk.mp g), if_pos g]; simp [upd]
      · rw [if_neg (fun z => g (hk.mpr z)), if_neg g, h20]; simp [upd]
    · rw [n6]; simp [upd]
  · obtain ⟨r1, r2, r3, r4, r5, r6⟩ := h k (by omega)
    have q0 : ¬ base + k = base + sz := by omega
    refine ⟨?_, ?_, ?_, ?_, ?_, ?_⟩
    · rw [n7, t19]; simp only [upd, q0, e, if_false]; exact r1
    · rw [n8, t23, h27]
      by_cases g : lt = -1
      · rw [if_pos (hneg.1.mpr g), if_pos g]; simp only [upd, q0, e, if_false]; exact r2
      · rw [if_neg (fun z => g (hneg.1.mp z)), if_neg g]
        obtain ⟨j, hj, ej⟩ := hlt.at g
        rw [ej, off_n (by omega), clI (x := nI (base + j)) rfl (by omega), clI (x := nI j) rfl (by omega)]
        by_cases ek : k = j
        · subst ek; simp only [upd, if_true]; rw [off_n (by omega)]
        · have q1 : ¬ base + k = base + j := by omega
          simp only [upd, q1, q0, e, ek, if_false]; exact r2
    · rw [n9, t22]; simp only [upd, q0, e, if_false]; exact r3
    · rw [n10, t21]; simp only [upd, q0, e, if_false]; exact r4
    · rw [n11, t25]; simp only [upd, q0, e, if_false]; exact r5
    · rw [n6]; simp only [upd, q0, if_false]; exact r6
end ZE8
