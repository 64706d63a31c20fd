/-! What else stands when the class has read a model. -/
section ZL6
variable {I : Nat → Int32} {J : Nat → Int64} {B : Nat → Nat → Int32} {D : Nat → Nat → Int64}
/-- the masks of kinds -/
def EB (bs : Nat) (J : Nat → Int64) (B : Nat → Nat → Int32) (D : Nat → Nat → Int64) : Prop := (∀ b, bt (J 0) b = (decide (b < bs) && decide (B 6 b = 5))) ∧ (∀ j, j < 8 → ∀ b, bt (D 0 j) b = (decide (b < bs) && decide (B 6 b = 3) && decide (B 7 b = nI j)))
theorem EB.cg {bs : Nat} {J' : Nat → Int64} {B' : Nat → Nat → Int32} {D' : Nat → Nat → Int64} (h : EB bs J B D) (hJ : J' 0 = J 0) (h6 : B' 6 = B 6) (h7 : B' 7 = B 7) (hD : D' 0 = D 0) : EB bs J' B' D' := by
  unfold EB; rw [hJ, h6, h7, hD]; exact h
theorem EB.ba {bs : Nat} {J' : Nat → Int64} {B' : Nat → Nat → Int32} {D' : Nat → Nat → Int64} {pk ch : Int32} (h : EB bs J B D) (hb : bs < 48) (hch : pk = 3 → ∃ j, j < 8 ∧ ch = nI j) (h6 : B' 6 = upd (B 6) bs pk) (h7 : B' 7 = upd (B 7) bs ch) (hJ : J' 0 = (if pk = 5 then J 0 ||| bitL bs else J 0)) (hD : D' 0 = (if pk = 3 then vp_updL (D 0) ch.toNatClampNeg (D 0 ch.toNatClampNeg ||| bitL bs) else D 0)) : EB (bs + 1) J' B' D' := by
  obtain ⟨h1, h2⟩ := h
  have sp : ∀ i : Nat, ¬ i = bs → (decide (i < bs + 1) = decide (i < bs)) := fun i hi => by
    by_cases g : i < bs
    · simp [g]; omega
    · simp [g]; omega
  refine ⟨fun b => ?_, fun j hj b => ?_⟩
  · rw [hJ, h6]
    by_cases e : b = bs
    · subst e
      by_cases g : pk = 5
      · rw [if_pos g, bt_or, bt_bit (by omega)]; simp [upd, g]
      · rw [if_neg g, h1 b]; simp [upd, g]
    · by_cases g : pk = 5
      · rw [if_pos g, bt_or, bt_bit (by omega), h1 b, sp b e]; simp [upd, e]
      · rw [if_neg g, h1 b, sp b e]; simp [upd, e]
  · rw [hD, h6, h7]
    by_cases g : pk = 3
    · obtain ⟨i, hi, ec⟩ := hch g
      have cc : ch.toNatClampNeg = i := clI ec (by omega)
      rw [if_pos g, cc]
      have hij : ch = nI j ↔ j = i := by rw [ec]; exact ⟨fun e => (nI_inj (by omega) (by omega) e).symm, fun e => by rw [e]⟩
      by_cases e2 : j = i
      · subst e2
        have : vp_updL (D 0) j (D 0 j ||| bitL bs) j = D 0 j ||| bitL bs := by simp [vp_updL]
        rw [this, bt_or, bt_bit (by omega), h2 j hj b]
        by_cases e : b = bs
        · subst e; simp [upd, g, ec]
        · rw [sp b e]; simp [upd, e]
      · have : vp_updL (D 0) i (D 0 i ||| bitL bs) j = D 0 j := by simp [vp_updL, e2]
        rw [this, h2 j hj b]
        by_cases e : b = bs
        · subst e
          have : ¬ ch = nI j := fun w => e2 (hij.mp w)
          simp [upd, this]
        · rw [sp b e]; simp [upd, e]
    · rw [if_neg g, h2 j hj b]
      by_cases e : b = bs
      · subst e; simp [upd, g]
      · rw [sp b e]; simp [upd, e]
def EU (u : zBo) : Prop := ∃ bs, u.2.2.1 9 = nI bs ∧ bs ≤ 48 ∧ EB bs u.2.2.2.1 u.2.2.2.2.1 u.2.2.2.2.2
theorem EU_step {f : Nat → Int32} {n : Nat} {kd : Nat → Int32} {u v : zBo} (h : bst f n kd u v) (hE : EU u) : EU v ∧ (∀ k, k ∈ [7, 8, 10] → v.2.2.1 k = u.2.2.1 k) := by
  obtain ⟨bs1, e9, b48, hE⟩ := hE
  obtain ⟨a, sz, bs, ln, bk, nd, lt, fr, I, I', J, J', B, B', D, D', hh, h⟩ := h
  rcases h with ⟨rfl, rfl, h0, hx, hy, h1, h2, h3⟩ | ⟨kk, I1, rfl, rfl, hl6, h1, h2⟩ | ⟨I1, rfl, rfl, h0, hx, hy, h1, h2⟩ | ⟨I1, B1, rfl, rfl, h0, hx, hy, h1, h2, h3, h4, h5⟩ | ⟨pk, ch, vr, ex, out, a', rfl, rfl, hp30, hb48, hbas, h⟩ | ⟨rfl, rfl, h0, h1⟩ | ⟨rfl, rfl, h0, h1⟩ | ⟨rfl, rfl, h0, hx, h1⟩
  all_goals dsimp only at e9 hE
  · exact ⟨⟨bs1, (h1.2 9 (by decide)).trans e9, b48, hE.cg rfl (h3 6 (by decide)) (h3 7 (by decide)) rfl⟩, fun k hk => h1.2 k (by simp at hk; omega)⟩
  · have hI : ∀ k, k ∈ [7, 8, 9, 10] → I1 k = I k := by
      intro k hk
      rcases h1 with ⟨_, _, _, w⟩ | ⟨_, _, _, _, w⟩ | ⟨_, _, _, w⟩ <;> exact w.2 k (by simp at hk; omega)
    exact ⟨⟨bs1, (h2.2.2.1 9 (by decide)).trans ((hI 9 (by decide)).trans e9), b48, hE.cg rfl (h2.2.2.2.2.2.2.2.2.2.2.2 6 (by decide)) (h2.2.2.2.2.2.2.2.2.2.2.2 7 (by decide)) rfl⟩, fun k hk => (h2.2.2.1 k (by simp at hk ⊢; omega)).trans (hI k (by simp at hk ⊢; omega))⟩
  · exact ⟨⟨bs1, (h2.2.2.1 9 (by decide)).trans ((h1.2 9 (by decide)).trans e9), b48, hE.cg rfl (h2.2.2.2.2.2.2.2.2.2.2.2 6 (by decide)) (h2.2.2.2.2.2.2.2.2.2.2.2 7 (by decide)) rfl⟩, fun k hk => (h2.2.2.1 k (by simp at hk ⊢; omega)).trans (h1.2 k (by simp at hk; omega))⟩
  · exact ⟨⟨bs1, (h2.2.2.1 9 (by decide)).trans ((h1.2 9 (by decide)).trans e9), b48, hE.cg rfl ((h5 6 (by decide)).trans (h2.2.2.2.2.2.2.2.2.2.2.2 6 (by decide))) ((h5 7 (by decide)).trans (h2.2.2.2.2.2.2.2.2.2.2.2 7 (by decide))) rfl⟩, fun k hk => (h2.2.2.1 k (by simp at hk ⊢; omega)).trans (h1.2 k (by simp at hk; omega))⟩
  · obtain ⟨b1, b2, b3, b4, b5, b6, b7, b8, b9, b10, b11, b12, b13, b14, b15, b16, b17, b18, b19, b20⟩ := h
    have eb : bs1 = bs := nI_inj (by omega) (by omega) (e9.symm.trans hh.2.2.1)
    subst eb
    have n48 : ¬ bs1 = 48 := fun e => hb48 (by rw [e9, e]; rfl)
    refine ⟨⟨bs1 + 1, b2, by omega, hE.ba (by omega) (fun g => ?_) b9 b10 b17 b19⟩, fun k hk => b6 k (by simp at hk ⊢; omega)⟩
    rcases hbas with w | w | w | w | w | w
    · rw [w.2.1] at g; exact absurd g (by decide)
    · rw [w.2.2.2.2.1] at g; exact absurd g (by decide)
    · rw [w.2.1] at g; exact absurd g (by decide)
    · rw [w.2.2.2.1] at g; exact absurd g (by decide)
    · rw [w.2.2.2.2.1] at g; exact absurd g (by decide)
    · refine ⟨(one (tkn f n a) 97 8).toNatClampNeg, (one_lt w.1).1, ?_⟩
      rw [w.2.2.2.2.2.2.2.1]; exact nI_clamp_one w.1
  · exact ⟨⟨bs1, (h1.2 9 (by decide)).trans e9, b48, hE⟩, fun k hk => h1.2 k (by simp at hk; omega)⟩
  · exact ⟨⟨bs1, (h1.2 9 (by decide)).trans e9, b48, hE⟩, fun k hk => h1.2 k (by simp at hk; omega)⟩
  · exact ⟨⟨bs1, (h1.2 9 (by decide)).trans e9, b48, hE⟩, fun k hk => h1.2 k (by simp at hk; omega)⟩
theorem EU_star {f : Nat → Int32} {n : Nat} {kd : Nat → Int32} {u v : zBo} (h : star (bst f n kd) u v) (hE : EU u) : EU v ∧ (∀ k, k ∈ [7, 8, 10] → v.2.2.1 k = u.2.2.1 k) :=
  h (fun w => EU w ∧ (∀ k, k ∈ [7, 8, 10] → w.2.2.1 k = u.2.2.1 k)) ⟨hE, fun _ _ => rfl⟩ (fun x y c g => ⟨(EU_step g c.1).1, fun k hk => ((EU_step g c.1).2 k hk).trans (c.2 k hk)⟩)
/-- the class between processes, once more -/
def EM (s : zS) : Prop := ∃ bs p, s.1 9 = nI bs ∧ bs ≤ 48 ∧ s.1 10 = nI p ∧ p ≤ 4 ∧ EB bs s.2.1 s.2.2.1 s.2.2.2 ∧ (∀ q, p ≤ q → q < 4 → s.2.2.1 13 q = 0)
theorem EM_step {f : Nat → Int32} {n : Nat} {kd : Nat → Int32} {s t : zS} (h : pst f n kd s t) (hE : EM s) : EM t ∧ (∀ k, k ∈ [7, 8] → t.1 k = s.1 k) ∧ (∀ k, k ∈ [2, 3, 4, 5] → t.2.2.1 k = s.2.2.1 k) := by
  obtain ⟨bs, p1, e9, b48, e10, p4, hB, h13⟩ := hE
  obtain ⟨a, p, bs0, a1, sz, pt, v, I1, J1, B1, D1, B2, D2, k1, k2, k3, k4, k5, k6, rfl⟩ := h
  have ep : p1 = p := nI_inj (by omega) (by omega) (e10.symm.trans k1.2.1)
  subst ep
  have hU : EU (p0 a s) := ⟨bs, by simp [p0, upd]; exact e9, b48, hB.cg rfl (by simp [p0, va_up]) (by simp [p0, va_up]) rfl⟩
  obtain ⟨⟨bs', u9, u48, uB⟩, uI⟩ := EU_star k2 hU
  obtain ⟨fB, fD⟩ := bstar_fr k2
  dsimp only at u9 u48 uB uI fB fD
  obtain ⟨t1, t2, t3, t4, t5, t6, t7, t8⟩ := k6
  have i7 : ∀ k, k ∈ [7, 8, 10] → I1 k = s.1 k := fun k hk => by
    rw [uI k hk]; simp at hk
    rcases hk with rfl | rfl | rfl <;> simp [p0, upd]
  refine ⟨⟨bs', p1 + 1, by simp [upd]; exact u9, u48, by simp [upd], by omega, uB.cg rfl (t7 6 (by decide)) (t7 7 (by decide)) (t8 0 (by decide)), fun q h1 h2 => ?_⟩, fun k hk => ?_, fun k hk => ?_⟩
  · dsimp only
    rw [t6]
    have : ¬ q = p1 := by omega
    simp only [upd, if_neg this]
    rw [fB 13 (by decide)]
    have : (p0 a s).2.2.2.2.1 13 = s.2.2.1 13 := by simp [p0, va_up]
    rw [this]; exact h13 q (by omega) h2
  · dsimp only
    rw [← i7 k (by simp at hk ⊢; omega)]; simp at hk
    rcases hk with rfl | rfl <;> simp [upd]
  · dsimp only
    rw [t7 k (by simp at hk ⊢; omega), fB k (by simp at hk ⊢; omega)]; simp at hk
    rcases hk with rfl | rfl | rfl | rfl <;> simp [p0, va_up]
theorem EM_star {f : Nat → Int32} {n : Nat} {kd : Nat → Int32} {s t : zS} (h : star (pst f n kd) s t) (hE : EM s) : EM t ∧ (∀ k, k ∈ [7, 8] → t.1 k = s.1 k) ∧ (∀ k, k ∈ [2, 3, 4, 5] → t.2.2.1 k = s.2.2.1 k) :=
  h (fun w => EM w ∧ (∀ k, k ∈ [7, 8] → w.1 k = s.1 k) ∧ (∀ k, k ∈ [2, 3, 4, 5] → w.2.2.1 k = s.2.2.1 k)) ⟨hE, fun _ _ => rfl, fun _ _ => rfl⟩ (fun x y c g => by
    obtain ⟨a1, a2, a3⟩ := EM_step g c.1
    exact ⟨a1, fun k hk => (a2 k hk).trans (c.2.1 k hk), fun k hk => (a3 k hk).trans (c.2.2 k hk)⟩)
/-- what stands when all is read -/
theorem MAT_E {f : Nat → Int32} {n : Nat} {s t : zS} {d : zD} {s1 : zS} (h : MAT f n s t d s1) : EM t ∧ t.1 7 = nI d.2.1 ∧ t.1 8 = nI d.2.2.1 ∧ t.2.2.1 2 = d.2.2.2.1 ∧ t.2.2.1 3 = d.2.2.2.2.1 ∧ t.2.2.1 4 = d.2.2.2.2.2.1 ∧ t.2.2.1 5 = d.2.2.2.2.2.2 := by
  obtain ⟨m1, m2, ⟨c1, c2, c3, c4, c5, c6, c7, c8, c9⟩, m4, m5, m6, m7⟩ := h
  have hE : EM s1 := by
    refine ⟨0, 0, ?_, by omega, ?_, by omega, ⟨fun b => ?_, fun j hj b => ?_⟩, fun q _ h2 => ?_⟩
    · rw [m4.1 9 (by decide)]; simp [s00, upd]; rfl
    · rw [m4.1 10 (by decide)]; simp [s00, upd]; rfl
    · rw [m5]
      have : (s00 s).2.1 0 = 0 := by simp [s00, vp_updL]
      rw [this, bt_0]; simp
    · rw [m6]
      have : (s00 s).2.2.2 0 j = 0 := by simp [s00, va_up, zFill, hj]
      rw [this, bt_0]; simp
    · rw [m4.2 13 (by decide)]
      simp [s00, va_up, zFill, h2]
  obtain ⟨a1, a2, a3⟩ := EM_star m7 hE
  exact ⟨a1, (a2 7 (by decide)).trans c2, (a2 8 (by decide)).trans c3, (a3 2 (by decide)).trans c4, (a3 3 (by decide)).trans c5, (a3 4 (by decide)).trans c6, (a3 5 (by decide)).trans c7⟩
end ZL6
