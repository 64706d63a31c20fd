/-! The tree of a process: what holds of it all along. -/
section ZH1
variable {I : Nat → Int32} {J : Nat → Int64} {B : Nat → Nat → Int32} {D : Nat → Nat → Int64}
def T1 (B : Nat → Nat → Int32) (sz : Nat) (dp : Nat → Nat) (k : Nat) : Prop :=
  ((B 19 k = -1 ∧ dp k = 0) ∨ (∃ j, j < k ∧ B 19 k = nI j ∧ dp k = dp j + 1 ∧ (B 18 j = 1 ∨ B 18 j = 2 ∨ B 18 j = 3))) ∧ dp k ≤ 6 ∧ B 20 k = lpi B (B 19 k) ∧ B 21 k = ati B (B 19 k) ∧ (B 23 k = -1 ∨ ∃ j, k < j ∧ j < sz ∧ B 23 k = nI j) ∧ (B 18 k = 4 → ¬ lpi B (B 19 k) = -1) ∧ (B 22 k = 0 ∨ B 22 k = 1)
def A1 (B : Nat → Nat → Int32) (sz : Nat) (F : zF) (k : Nat) : Prop := B 18 k = 3 → (k + 1 < sz ∧ B 24 k = nI (k + 1)) ∨ (k + 1 = sz ∧ ∃ fr, F = (3, nI k, -1) :: fr)
def okD (dp : Nat → Nat) : zF → Prop
  | [] => True
  | x :: r => (x.2.1 = -1 ∨ ∃ j, j ≤ 1000 ∧ x.2.1 = nI j ∧ dp j + 1 = r.length) ∧ okD dp r
def okL (m sz : Nat) : zF → Prop
  | [] => False
  | x :: r => (m = 1 → ¬ x.2.2 = -1) ∧ (m = 0 → x.1 = 3 → x.2.2 = -1 → ∃ j, j ≤ 1000 ∧ x.2.1 = nI j ∧ j + 1 = sz) ∧ ∀ y ∈ r, ¬ y.2.2 = -1
def TI (u : zBo) : Prop := ∃ sz dp, u.2.2.1 16 = nI sz ∧ sz ≤ 1000 ∧ (∀ k, k < sz → T1 u.2.2.2.2.1 sz dp k ∧ (u.1 = 0 → A1 u.2.2.2.2.1 sz u.2.1 k) ∧ (u.1 = 1 → A1 u.2.2.2.2.1 sz [] k)) ∧ okD dp u.2.1 ∧ okL u.1 sz u.2.1
theorem T1.okI19 {B : Nat → Nat → Int32} {sz : Nat} {dp : Nat → Nat} {k : Nat} (h : T1 B sz dp k) (hk : k < sz) : okI (B 19 k) sz := by
  rcases h.1 with w | ⟨j, hj, e, _⟩
  · exact Or.inl w.1
  · exact Or.inr ⟨j, by omega, e⟩
theorem okD_up {dp dp' : Nat → Nat} {sz : Nat} : ∀ {F : zF}, okD dp F → (∀ x ∈ F, okI x.2.1 sz) → sz ≤ 1000 → (∀ k, k < sz → dp' k = dp k) → okD dp' F := by
  intro F
  induction F with
  | nil => intro _ _ _ _; trivial
  | cons x r ih =>
    intro h hx hz hd
    refine ⟨?_, ih h.2 (fun y hy => hx y (List.mem_cons_of_mem _ hy)) hz hd⟩
    rcases h.1 with w | ⟨j, hj, e1, e2⟩
    · exact Or.inl w
    · right
      refine ⟨j, hj, e1, ?_⟩
      rcases hx x List.mem_cons_self with w | ⟨i, hi, e3⟩
      · rw [w] at e1; exact absurd e1.symm (nI_m1 (by omega))
      · have : j = i := nI_inj (by omega) (by omega) (e1.symm.trans e3)
        rw [hd j (by omega)]; exact e2
theorem okF.nodes {B : Nat → Nat → Int32} {sz : Nat} : ∀ {F : zF}, okF B sz F → ∀ x ∈ F, okI x.2.1 sz ∧ okI x.2.2 sz := by
  intro F
  induction F with
  | nil => intro h; exact h.elim
  | cons y r ih =>
    intro h x hx
    rcases List.mem_cons.mp hx with rfl | hx
    · refine ⟨?_, h.1⟩
      rcases h.2 with w | ⟨w1, w2, w3, j, hj, e1, _⟩
      · exact Or.inl w.2.2
      · exact Or.inr ⟨j, hj, e1⟩
    · rcases h.2 with w | w
      · rw [w.1] at hx; simp at hx
      · exact ih w.1 x hx
/-- a node more -/
theorem TI_add {sz : Nat} {dp : Nat → Nat} {bk : Nat} {nd lt kind : Int32} {fr : zF} {I1 I' : Nat → Int32} {Bt B' : Nat → Nat → Int32} (hT : TA kind nd lt sz I1 B I' Bt) (hB' : ∀ k, k ∈ [18, 19, 20, 21, 22, 23, 24, 25] → B' k = Bt k) (hsz : sz ≤ 140) (hfl : fr.length ≤ 6) (hok : okF B sz ((bk, nd, lt) :: fr)) (hD : okD dp ((bk, nd, lt) :: fr)) (hL : okL 0 sz ((bk, nd, lt) :: fr)) (h : ∀ k, k < sz → T1 B sz dp k ∧ A1 B sz ((bk, nd, lt) :: fr) k) (h4 : kind = 4 → ¬ lpi B nd = -1) : ∀ k, k < sz + 1 → T1 B' (sz + 1) (fun j => if j = sz then fr.length else dp j) k ∧ (k < sz → B' 18 k = 3 → k + 1 < sz + 1 ∧ B' 24 k = nI (k + 1)) := by
  obtain ⟨t1, t2, t3, t18, t19, t20, t21, t22, t23, t24, t25, tk⟩ := hT
  have c18 := (hB' 18 (by decide)).trans t18
  have c19 := (hB' 19 (by decide)).trans t19
  have c20 := (hB' 20 (by decide)).trans t20
  have c21 := (hB' 21 (by decide)).trans t21
  have c22 := (hB' 22 (by decide)).trans t22
  have c23 := (hB' 23 (by decide)).trans t23
  have c24 := (hB' 24 (by decide)).trans t24
  have old : ∀ k, k < sz → B' 18 k = B 18 k ∧ B' 19 k = B 19 k ∧ B' 20 k = B 20 k ∧ B' 21 k = B 21 k ∧ B' 22 k = B 22 k := by
    intro k hk
    have q : ¬ k = sz := by omega
    rw [c18, c19, c20, c21, c22]
    simp [upd, q]
  have hlp : ∀ o, okI o sz → lpi B' o = lpi B o ∧ ati B' o = ati B o := fun o ho => lpi_eq ho (by omega) (fun k hk => (old k hk).1) (fun k hk => (old k hk).2.2.1) (fun k hk => (old k hk).2.2.2.1)
  have hnd : okI nd sz := hok.hd
  have hb0 := hok.bk0 (by omega)
  intro k hk
  by_cases e : k = sz
  · subst e
    refine ⟨⟨?_, ?_, ?_, ?_, ?_, ?_, ?_⟩, fun z => by omega⟩
    · have e19 : B' 19 k = nd := by rw [c19]; simp [upd]
      rw [e19]
      by_cases g : nd = -1
      · left
        refine ⟨g, ?_⟩
        have := hb0.2.2.mpr g
        simp [this]
      · right
        obtain ⟨j, hj, e1, e2, e3, e4⟩ := hok.kind g
        refine ⟨j, hj, e1, ?_, ?_⟩
        · have q : ¬ j = k := by omega
          rcases hD.1 with w | ⟨i, hi, e5, e6⟩
          · exact absurd w g
          · have : i = j := nI_inj (by omega) (by omega) (e5.symm.trans e1)
            simp only [if_true, q, if_false]
            rw [← this]; exact e6.symm
        · rw [(old j hj).1, e2]
          have : bk = 1 ∨ bk = 2 ∨ bk = 3 := by omega
          rcases this with rfl | rfl | rfl
          · exact Or.inl rfl
          · exact Or.inr (Or.inl rfl)
          · exact Or.inr (Or.inr rfl)
    · simp; exact hfl
    · have e19 : B' 19 k = nd := by rw [c19]; simp [upd]
      rw [e19, (hlp nd hnd).1, c20]; simp [upd]
    · have e19 : B' 19 k = nd := by rw [c19]; simp [upd]
      rw [e19, (hlp nd hnd).2, c21]; simp [upd]
    · left
      rw [c23]
      by_cases g : lt = -1
      · rw [if_pos g]; simp [upd]
      · rw [if_neg g]
        obtain ⟨j, hj, ej⟩ := (show okI lt k from hok.1).at g
        rw [ej, clI (x := nI j) rfl (by omega)]
        have q : ¬ k = j := by omega
        simp [upd, q]
    · intro z
      have e19 : B' 19 k = nd := by rw [c19]; simp [upd]
      have e18 : B' 18 k = kind := by rw [c18]; simp [upd]
      rw [e18] at z
      rw [e19, (hlp nd hnd).1]; exact h4 z
    · rw [c22]
      by_cases g : lt = -1
      · rw [if_pos g]; right; simp [upd]
      · rw [if_neg g]; left; simp [upd]
  · have hks : k < sz := by omega
    obtain ⟨⟨a1, a2, a3, a4, a5, a6, a7⟩, hA⟩ := h k hks
    obtain ⟨o18, o19, o20, o21, o22⟩ := old k hks
    have hoi : okI (B 19 k) sz := by
      rcases a1 with w | ⟨j, hj, e1, _⟩
      · exact Or.inl w.1
      · exact Or.inr ⟨j, by omega, e1⟩
    refine ⟨⟨?_, ?_, ?_, ?_, ?_, ?_, ?_⟩, fun _ z => ?_⟩
    · rw [o19]
      rcases a1 with w | ⟨j, hj, e1, e2, e3⟩
      · left; exact ⟨w.1, by simp [e]; exact w.2⟩
      · right
        refine ⟨j, hj, e1, ?_, ?_⟩
        · have q : ¬ j = sz := by omega
          simp only [e, q, if_false]; exact e2
        · rw [(old j (by omega)).1]; exact e3
    · simp [e]; exact a2
    · rw [o19, (hlp _ hoi).1, o20]; exact a3
    · rw [o19, (hlp _ hoi).2, o21]; exact a4
    · rw [c23]
      have mono : B 23 k = -1 ∨ ∃ j, k < j ∧ j < sz + 1 ∧ B 23 k = nI j := a5.imp id (fun ⟨j, h1, h2, h3⟩ => ⟨j, h1, by omega, h3⟩)
      by_cases g : lt = -1
      · rw [if_pos g]; simp only [upd, e, if_false]; exact mono
      · rw [if_neg g]
        obtain ⟨j, hj, ej⟩ := (show okI lt sz from hok.1).at g
        rw [ej, clI (x := nI j) rfl (by omega)]
        by_cases q : k = j
        · right; exact ⟨sz, by omega, by omega, by simp [upd, q]⟩
        · simp only [upd, q, e, if_false]; exact mono
    · intro z
      rw [o18] at z
      rw [o19, (hlp _ hoi).1]; exact a6 z
    · rw [o22]; exact a7
    · rw [o18] at z
      rw [c24]
      by_cases g : lt = -1 ∧ ¬ nd = -1
      · rw [if_pos g]
        obtain ⟨j, hj, e1, e2, e3, e4⟩ := hok.kind g.2
        rw [e1, clI (x := nI j) rfl (by omega)]
        by_cases q : k = j
        · subst q
          have hbk : bk = 3 := by
            rw [z] at e2
            exact ((nI_lit (k := bk) (by omega) (c := 3) (by omega)).mp e2.symm)
          obtain ⟨i, hi, e5, e6⟩ := hL.2.1 rfl hbk g.1
          have : i = k := nI_inj (by omega) (by omega) (e5.symm.trans e1)
          subst this
          exact ⟨by omega, by simp [upd, e6]⟩
        · simp only [upd, q, if_false]
          rcases hA z with w | ⟨w1, fr', w2⟩
          · exact ⟨by omega, w.2⟩
          · exfalso
            have : nd = nI k := by
              have := congrArg (fun F => hdn F) w2
              simpa [hdn] using this
            have : j = k := nI_inj (by omega) (by omega) (e1.symm.trans this)
            exact q this.symm
      · rw [if_neg g]
        rcases hA z with w | ⟨w1, fr', w2⟩
        · exact ⟨by omega, w.2⟩
        · exfalso
          injection w2 with w3 w4
          injection w3 with w5 w6
          injection w6 with w7 w8
          exact g ⟨w8, by rw [w7]; exact nI_m1 (by omega)⟩
theorem TI_step {f : Nat → Int32} {n : Nat} {kd : Nat → Int32} {u v : zBo} (hB : BI f n kd u) (h : bst f n kd u v) (hT : TI u) : TI v := by
  obtain ⟨sz0, dp, e16, hz1, hk, hD, hL⟩ := hT
  obtain ⟨a, sz, bs, ln, bk, nd, lt, fr, I, I', J, J', B, B', D, D', hh, h⟩ := h
  rcases h with ⟨rfl, rfl, h0, hx, hy, h1, h2, h3⟩ | ⟨kk, I1, rfl, rfl, hl6, h1, h2⟩ | ⟨I1, rfl, rfl, h0, hx, hy, h1, h2⟩ | ⟨I1, B1, rfl, rfl, h0, hx, hy, h1, h2, h3, h4, h5⟩ | ⟨pk, ch, vr, ex, out, a', rfl, rfl, hp30, hb48, hbas, h⟩ | ⟨rfl, rfl, h0, h1⟩ | ⟨rfl, rfl, h0, h1⟩ | ⟨rfl, rfl, h0, hx, h1⟩
  all_goals dsimp only at e16 hk hD hL
  all_goals have esz : sz0 = sz := nI_inj (by omega) (by omega) (e16.symm.trans hh.2.1)
  all_goals subst esz
  all_goals obtain ⟨pt, pr, hTy, h17, h10, l1, l2, l3, l4, l5, l6, l7, l8, l9, l10⟩ := BI_get hB hh
  all_goals simp only [List.length_cons] at l5 l6
  · refine ⟨sz0, dp, (h1.2 16 (by decide)).trans e16, hz1, fun k hk' => ?_, hD, hL⟩
    obtain ⟨⟨a1, a2, a3, a4, a5, a6, a7⟩, a8, _⟩ := hk k hk'
    have hlp : lpi B' (B 19 k) = lpi B (B 19 k) ∧ ati B' (B 19 k) = ati B (B 19 k) := by
      unfold lpi ati
      rw [h3 18 (by decide), h3 20 (by decide), h3 21 (by decide)]; exact ⟨rfl, rfl⟩
    refine ⟨⟨?_, a2, ?_, ?_, ?_, ?_, ?_⟩, fun _ => ?_, fun z => absurd (show (0 : Nat) = 1 from z) (by decide)⟩
    · dsimp only; rw [h3 19 (by decide), h3 18 (by decide)]; exact a1
    · dsimp only; rw [h3 20 (by decide), h3 19 (by decide), hlp.1]; exact a3
    · dsimp only; rw [h3 21 (by decide), h3 19 (by decide), hlp.2]; exact a4
    · dsimp only; rw [h3 23 (by decide)]; exact a5
    · dsimp only; rw [h3 18 (by decide), h3 19 (by decide), hlp.1]; exact a6
    · dsimp only; rw [h3 22 (by decide)]; exact a7
    · have := a8 rfl
      unfold A1 at this ⊢
      dsimp only; rw [h3 18 (by decide), h3 24 (by decide)]; exact this
  · have hk3 : 1 ≤ kk ∧ kk ≤ 3 := by rcases h1 with z | z | z <;> omega
    have hadd := TI_add (B' := B') h2 (fun _ _ => rfl) l10 (by omega) l9 hD hL (fun k hk' => ⟨(hk k hk').1, (hk k hk').2.1 rfl⟩) (fun z => by have := (nI_lit (k := kk) (by omega) (c := 4) (by omega)).mp z; omega)
    have hdp : okD (fun j => if j = sz0 then fr.length else dp j) ((bk, nd, lt) :: fr) := okD_up hD (fun x hx => (l9.nodes x hx).1) (by omega) (fun k hk' => if_neg (by omega))
    refine ⟨sz0 + 1, _, h2.1, by omega, fun k hk' => ⟨(hadd k hk').1, fun _ z => ?_, fun z => absurd (show (0 : Nat) = 1 from z) (by decide)⟩, ⟨Or.inr ⟨sz0, by omega, rfl, by simp⟩, hdp⟩, ⟨fun z => absurd (show (0 : Nat) = 1 from z) (by decide), fun _ _ _ => ⟨sz0, by omega, rfl, rfl⟩, fun y hy => ?_⟩⟩
    · by_cases e : k = sz0
      · subst e
        right
        refine ⟨rfl, (bk, nd, nI k) :: fr, ?_⟩
        have : B' 18 k = nI kk := by rw [h2.2.2.2.1]; simp [upd]
        have z : B' 18 k = 3 := z
        rw [this] at z
        have : kk = 3 := (nI_lit (k := kk) (by omega) (c := 3) (by omega)).mp z
        rw [this]
      · left; exact (hadd k hk').2 (by omega) z
    · rcases List.mem_cons.mp hy with rfl | hy
      · exact nI_m1 (by omega)
      · exact hL.2.2 y hy
  · have hadd := TI_add (B' := B') h2 (fun _ _ => rfl) l10 (by omega) l9 hD hL (fun k hk' => ⟨(hk k hk').1, (hk k hk').2.1 rfl⟩) (fun _ => hy)
    have hdp : okD (fun j => if j = sz0 then fr.length else dp j) ((bk, nd, lt) :: fr) := okD_up hD (fun x hx => (l9.nodes x hx).1) (by omega) (fun k hk' => if_neg (by omega))
    refine ⟨sz0 + 1, _, h2.1, by omega, fun k hk' => ⟨(hadd k hk').1, fun z => absurd (show (1 : Nat) = 0 from z) (by decide), fun _ z => ?_⟩, ⟨hdp.1, hdp.2⟩, ⟨fun _ => nI_m1 (by omega), fun z => absurd (show (1 : Nat) = 0 from z) (by decide), hL.2.2⟩⟩
    by_cases e : k = sz0
    · subst e
      have : B' 18 k = 4 := by rw [h2.2.2.2.1]; simp [upd]
      have z : B' 18 k = 3 := z
      rw [this] at z; exact absurd z (by decide)
    · left; exact (hadd k hk').2 (by omega) z
  · have hadd := TI_add (B' := B') h2 (fun k hk => h5 k (by simp at hk ⊢; omega)) l10 (by omega) l9 hD hL (fun k hk' => ⟨(hk k hk').1, (hk k hk').2.1 rfl⟩) (fun z => absurd z (by decide))
    have hdp : okD (fun j => if j = sz0 then fr.length else dp j) ((bk, nd, lt) :: fr) := okD_up hD (fun x hx => (l9.nodes x hx).1) (by omega) (fun k hk' => if_neg (by omega))
    refine ⟨sz0 + 1, _, h2.1, by omega, fun k hk' => ⟨(hadd k hk').1, fun z => absurd (show (1 : Nat) = 0 from z) (by decide), fun _ z => ?_⟩, ⟨hdp.1, hdp.2⟩, ⟨fun _ => nI_m1 (by omega), fun z => absurd (show (1 : Nat) = 0 from z) (by decide), hL.2.2⟩⟩
    by_cases e : k = sz0
    · subst e
      have : B' 18 k = 5 := by rw [h5 18 (by decide), h2.2.2.2.1]; simp [upd]
      have z : B' 18 k = 3 := z
      rw [this] at z; exact absurd z (by decide)
    · left; exact (hadd k hk').2 (by omega) z
  · obtain ⟨d1, d2, d3, d4, d5, d6, ⟨It, Bt, hTA, d8⟩, _⟩ := h
    have hadd := TI_add (B' := B') hTA (fun k hk => d8 k hk) l10 (by omega) l9 hD hL (fun k hk' => ⟨(hk k hk').1, (hk k hk').2.1 rfl⟩) (fun z => absurd z (by decide))
    have hdp : okD (fun j => if j = sz0 then fr.length else dp j) ((bk, nd, lt) :: fr) := okD_up hD (fun x hx => (l9.nodes x hx).1) (by omega) (fun k hk' => if_neg (by omega))
    refine ⟨sz0 + 1, _, d3, by omega, fun k hk' => ⟨(hadd k hk').1, fun z => absurd (show (1 : Nat) = 0 from z) (by decide), fun _ z => ?_⟩, ⟨hdp.1, hdp.2⟩, ⟨fun _ => nI_m1 (by omega), fun z => absurd (show (1 : Nat) = 0 from z) (by decide), hL.2.2⟩⟩
    by_cases e : k = sz0
    · subst e
      have : B' 18 k = 0 := by rw [d8 18 (by decide), hTA.2.2.2.1]; simp [upd]
      have z : B' 18 k = 3 := z
      rw [this] at z; exact absurd z (by decide)
    · left; exact (hadd k hk').2 (by omega) z
  · have hfr : ∃ x r, fr = x :: r := by
      have hb0 := l9.bk0 (by omega)
      cases fr with
      | nil =>
        have := hb0.1.mpr (hb0.2.2.mp rfl)
        rcases h0 with z | z <;> omega
      | cons x r => exact ⟨x, r, rfl⟩
    obtain ⟨x, r, rfl⟩ := hfr
    refine ⟨sz0, dp, (h1.2 16 (by decide)).trans e16, hz1, fun k hk' => ⟨(hk k hk').1, fun z => absurd (show (1 : Nat) = 0 from z) (by decide), fun _ => (hk k hk').2.2 rfl⟩, hD.2, ⟨fun _ => hL.2.2 x List.mem_cons_self, fun z => absurd (show (1 : Nat) = 0 from z) (by decide), fun y hy => hL.2.2 y (List.mem_cons_of_mem _ hy)⟩⟩
  · refine ⟨sz0, dp, (h1.2 16 (by decide)).trans e16, hz1, fun k hk' => ⟨(hk k hk').1, fun _ z => ?_, fun z => absurd (show (0 : Nat) = 1 from z) (by decide)⟩, hD, ⟨fun z => absurd (show (0 : Nat) = 1 from z) (by decide), fun _ _ z => absurd z (hL.1 rfl), hL.2.2⟩⟩
    rcases (hk k hk').2.2 rfl z with w | ⟨_, w⟩
    · exact Or.inl w
    · obtain ⟨_, w⟩ := w; exact absurd w (by simp)
  · refine ⟨sz0, dp, (h1.2 16 (by decide)).trans e16, hz1, fun k hk' => ⟨(hk k hk').1, fun _ z => ?_, fun z => absurd (show (0 : Nat) = 1 from z) (by decide)⟩, ⟨hD.1, hD.2⟩, ⟨fun z => absurd (show (0 : Nat) = 1 from z) (by decide), fun _ z => by dsimp only at z; omega, hL.2.2⟩⟩
    rcases (hk k hk').2.2 rfl z with w | ⟨_, w⟩
    · exact Or.inl w
    · obtain ⟨_, w⟩ := w; exact absurd w (by simp)
theorem TI_star {f : Nat → Int32} {n : Nat} {kd : Nat → Int32} {u v : zBo} (hB : BI f n kd u) (h : star (bst f n kd) u v) (hT : TI u) : TI v := (h (fun v => BI f n kd v ∧ TI v) ⟨hB, hT⟩ (fun _ _ c g => ⟨BI_step c.1 g, TI_step c.1 g c.2⟩)).2
end ZH1
