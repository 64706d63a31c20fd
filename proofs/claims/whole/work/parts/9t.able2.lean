/-! The class: what begins a step, of all processes. -/
section ZJ9
variable {I : Nat → Int32} {J : Nat → Int64} {B : Nat → Nat → Int32} {D : Nat → Nat → Int64}
theorem bt_ne {x : Int64} (h : ¬ x = 0) : ∃ i, bt x i = true := by
  refine Classical.byContradiction (fun hn => h (bt_ext (fun i _ => ?_)))
  rw [bt_0]
  cases e : bt x i
  · rfl
  · exact absurd ⟨i, e⟩ hn
theorem bt_t {x : Int64} {i : Nat} (h : bt x i = true) : ¬ x = 0 := by
  intro e; rw [e, bt_0] at h; exact absurd h (by decide)
theorem q_ableOf {Post : Int64 → (Nat → Int32) → (Nat → Int64) → (Nat → Nat → Int32) → (Nat → Nat → Int64) → Prop} {d : zD} {Q : zQ} {c : zCf} {p : Nat} {w : Int64} (hN : NC d) (hW : QW d Q) (hP : PC d Q I J B D) (hS : CS d c I B) (hC : WC d Q c) (hJ : prs Q c (J 1)) (hh : ∀ i, bt w i = hB Q c p i) (h : ∀ w' B', (∀ i, bt w' i = pab d Q c p i) → (∀ k, k ≠ 17 → B' k = B k) → Post w' I J B' D) : wp_Situation_ableOf I J B D w Post := by
  have hN48 := hW.2.1
  have p9 := hP.2.2.2.1
  have lp : ∀ (m b : Nat) (acc : Int64) (B1 : Nat → Nat → Int32), b + m = qN Q → (∀ i, bt acc i = (decide (i < b) && hB Q c p i && cn d Q c i)) → (∀ k, k ≠ 17 → B1 k = B k) → wl_Situation_ableOf_5 w Post (m + 1) w acc (nI b) I J B1 D := by
    intro m
    induction m with
    | zero =>
      intro b acc B1 hb ha hB1
      have e : b = qN Q := by omega
      subst e
      have hany : ¬ acc = 0 ↔ anyB (fun b' => hB Q c p b' && cn d Q c b') (qN Q) = true := by
        rw [anyB_iff]
        constructor
        · intro g
          obtain ⟨i, hi⟩ := bt_ne g
          rw [ha i] at hi
          simp only [Bool.and_eq_true, decide_eq_true_eq] at hi
          exact ⟨i, hi.1.1, by simp [hi.1.2, hi.2]⟩
        · rintro ⟨i, hi, e⟩
          refine bt_t (i := i) ?_
          simp only [Bool.and_eq_true] at e
          rw [ha i]; simp [hi, e.1, e.2]
      refine ⟨fun _ z3 e3 => ⟨fun g => h acc B1 (fun i => ?_) hB1, fun g z5 e5 => h z5 B1 (fun i => ?_) hB1⟩, fun z => absurd ((leI p9 (y := nI (qN Q)) rfl (by omega) (by omega)).mpr (Nat.le_refl _)) z⟩
      · have : ¬ acc = 0 := fun e => g (by rw [e3]; exact (cmp0 _ _).mpr e)
        rw [ha i, pab, if_pos (hany.mp this)]
        cases e : hB Q c p i
        · simp
        · simp [(hB_n hW e).1]
      · have : acc = 0 := (cmp0 _ _).mp (by rw [← e3]; exact g)
        rw [e5, bt_and, hh i, hP.2.2.2.2.2.1 i, pab, if_neg (fun q => (hany.mpr q) this)]
        cases e : hB Q c p i
        · simp
        · simp [(hB_n hW e).1]
    | succ m ih =>
      intro b acc B1 hb ha hB1
      refine ⟨fun z => ?_, fun _ z6 e6 z7 e7 z8 e8 => ?_⟩
      · have := (leI p9 (y := nI b) rfl (by omega) (by omega)).mp z; omega
      rw [e7, e6] at e8
      have t := tstC w (b := b) (by omega)
      rw [← e8, hh b] at t
      have nx : ∀ (acc' : Int64) (B2 : Nat → Nat → Int32), (∀ i, bt acc' i = (decide (i < b + 1) && hB Q c p i && cn d Q c i)) → (∀ k, k ≠ 17 → B2 k = B k) → wc_Situation_ableOf_44 w (wl_Situation_ableOf_5 w Post (m + 1)) Post w acc' (nI b) I J B2 D := by
        intro acc' B2 h1 h2 z1 e1
        rw [inI rfl e1]
        exact ih (b + 1) acc' B2 (by omega) h1 h2
      have sp : ∀ i, ¬ i = b → (decide (i < b + 1) = decide (i < b)) := fun i hi => by
        by_cases g : i < b
        · simp [g]; omega
        · simp [g]; omega
      refine ⟨fun g => nx acc B1 (fun i => ?_) hB1, fun g => ?_⟩
      · rw [ha i]
        by_cases e : i = b
        · subst e; rw [t.mp g]; simp
        · rw [sp i e]
      · refine q_canBeDone hN hW (hP.sk hB1) (hS.sk hB1) hC hJ (by omega) (fun B2 hB2 => ?_)
        have hB3 : ∀ k, k ≠ 17 → B2 k = B k := fun k hk => (hB2 k hk).trans (hB1 k hk)
        refine ⟨fun q => nx acc B2 (fun i => ?_) hB3, fun q z12 e12 z13 e13 => nx z13 B2 (fun i => ?_) hB3⟩
        · have hc : cn d Q c b = false := by
            cases e : cn d Q c b
            · rfl
            · rw [if_pos e] at q; exact absurd q (by decide)
          rw [ha i]
          by_cases e : i = b
          · subst e; rw [hc]; simp
          · rw [sp i e]
        · have hc : cn d Q c b = true := by
            cases e : cn d Q c b
            · rw [if_neg (by rw [e]; decide)] at q; exact absurd rfl q
            · rfl
          have hh2 : hB Q c p b = true := by
            cases e : hB Q c p b
            · exact absurd (t.mpr e) g
            · rfl
          have n12 : z12 = bitL b := e12
          rw [e13, n12, bt_or, bt_bit (by omega), ha i]
          by_cases e : i = b
          · subst e; simp [hc, hh2]
          · rw [sp i e]; simp [e]
  exact ⟨qN Q + 1, lp (qN Q) 0 0 B (by omega) (fun i => by rw [bt_0]; simp) (fun _ _ => rfl)⟩
theorem q_able {Post : Int64 → (Nat → Int32) → (Nat → Int64) → (Nat → Nat → Int32) → (Nat → Nat → Int64) → Prop} {d : zD} {Q : zQ} {c : zCf} (hN : NC d) (hW : QW d Q) (hP : PC d Q I J B D) (hS : CS d c I B) (hC : WC d Q c) (h : ∀ w J' B', (∀ i, bt w i = dob d Q c i) → (∀ k, k ≠ 1 → J' k = J k) → prs Q c (J' 1) → (∀ k, k ≠ 17 → B' k = B k) → Post w I J' B' D) : wp_Situation_able I J B D Post := by
  have hN48 := hW.2.1
  have hP4 := hW.1
  have p10 := hP.2.2.1
  have hD1 := hP.2.2.2.2.2.2.2.1
  have hpt : ∀ p, p < 4 → ∀ i, bt (D 1 (31 * p + c.2.2.2.1 p)) i = hB Q c p i := fun p hp i => hD1 p _ hp (by have := hC.2 p; omega) i
  have l2 : ∀ (m p : Nat) (acc : Int64) (J1 : Nat → Int64) (B1 : Nat → Nat → Int32), p + m = qP Q → (∀ i, bt acc i = anyB (fun q => pab d Q c q i) p) → (∀ k, k ≠ 1 → J1 k = J k) → prs Q c (J1 1) → (∀ k, k ≠ 17 → B1 k = B k) → wl_Situation_able_51 Post (m + 1) acc (nI p) I J1 B1 D := by
    intro m
    induction m with
    | zero =>
      intro p acc J1 B1 hp ha hJ1 hJ2 hB1
      have e : p = qP Q := by omega
      subst e
      have ha' : ∀ i, bt acc i = alb d Q c i := ha
      refine ⟨fun _ => ⟨fun g => ?_, fun g z1 e1 => ⟨fun z => absurd (by rw [e1]; exact (cmp0 _ _).mpr rfl) z, fun _ => h acc J1 B1 (fun i => ?_) hJ1 hJ2 hB1⟩⟩, fun z => absurd ((leI p10 (y := nI (qP Q)) rfl (by omega) (by omega)).mpr (Nat.le_refl _)) z⟩
      · have hH := hS.2.2.2.2
        have hle := hC.1.2.2.2.2.2.2.2.2.2
        obtain ⟨y, hy⟩ : ∃ y, c.2.2.2.2 = y + 1 := by
          refine ⟨c.2.2.2.2 - 1, ?_⟩
          rcases Nat.eq_zero_or_pos c.2.2.2.2 with e | e
          · rw [e] at hH
            have : I 18 = -1 := by
              have e2 : nI 0 = 0 := rfl
              rw [e2] at hH; grind
            exact absurd this g
          · omega
        have e18 : I 18 = nI y := by
          rw [hy, ← nI_1] at hH; grind
        refine ⟨vin2 e18 (by omega) (by omega), fun z5 e5 => ?_⟩
        rw [clI e18 (by omega), hB1 31 (by decide), hS.2.2.2.1 y (by omega)] at e5
        rw [e5, e18]
        refine q_at (by omega) (hC.2 y) (fun z7 e7 z1 e1 => ?_)
        have b7 : ∀ i, bt z7 i = (alb d Q c i && hB Q c y i) := fun i => by rw [e7, bt_and, ha' i, hpt y (by omega) i]
        have hy1 : c.2.2.2.2 - 1 = y := by omega
        have hy0 : ¬ c.2.2.2.2 = 0 := by omega
        have hany : ¬ z7 = 0 ↔ anyB (fun b' => alb d Q c b' && hB Q c y b') (qN Q) = true := by
          rw [anyB_iff]
          constructor
          · intro q
            obtain ⟨i, hi⟩ := bt_ne q
            rw [b7 i] at hi
            refine ⟨i, ?_, hi⟩
            simp only [Bool.and_eq_true] at hi
            exact (alb_n hW hi.1).1
          · rintro ⟨i, _, e⟩
            exact bt_t (i := i) (by rw [b7 i]; exact e)
        refine ⟨fun q => h z7 J1 B1 (fun i => ?_) hJ1 hJ2 hB1, fun q => h acc J1 B1 (fun i => ?_) hJ1 hJ2 hB1⟩
        · have : ¬ z7 = 0 := fun e => q (by rw [e1]; exact (cmp0 _ _).mpr e)
          rw [b7 i, dob, hy1, hany.mp this]; simp [hy0]
        · have : z7 = 0 := (cmp0 _ _).mp (by rw [← e1]; exact q)
          have hf : anyB (fun b' => alb d Q c b' && hB Q c y b') (qN Q) = false := by
            cases e : anyB (fun b' => alb d Q c b' && hB Q c y b') (qN Q)
            · rfl
            · exact absurd this (hany.mpr e)
          rw [ha' i, dob, hy1, hf]; simp
      · have hH := hS.2.2.2.2
        have hle := hC.1.2.2.2.2.2.2.2.2.2
        rw [g] at hH
        have e0 : c.2.2.2.2 = 0 := (eqI (x := (-1) + 1) (a := 0) rfl (y := nI c.2.2.2.2) rfl (by omega) (by omega)).mp hH |>.symm
        rw [ha' i, dob, e0]; simp
    | succ m ih =>
      intro p acc J1 B1 hp ha hJ1 hJ2 hB1
      refine ⟨fun z => ?_, fun _ => ⟨vin2 rfl (by omega) (by omega), fun z8 e8 => ?_⟩⟩
      · have := (leI p10 (y := nI p) rfl (by omega) (by omega)).mp z; omega
      rw [clI rfl (by omega), hB1 31 (by decide), hS.2.2.2.1 p (by omega)] at e8
      rw [e8]
      refine q_at (by omega) (hC.2 p) ?_
      have hPx : PC d Q I J1 B1 D := hP.fx ⟨fun _ _ => rfl, hJ1, fun k hk => hB1 k (by simp at hk; omega), fun _ _ => rfl⟩
      refine q_ableOf hN hW hPx (hS.sk hB1) hC hJ2 (hpt p (by omega)) (fun w' B2 hw hB2 z11 e11 z12 e12 => ?_)
      rw [inI rfl e12]
      refine ih (p + 1) z11 J1 B2 (by omega) (fun i => ?_) hJ1 hJ2 (fun k hk => (hB2 k hk).trans (hB1 k hk))
      rw [e11, bt_or, ha i, hw i]; rfl
  have l1 : ∀ (m p : Nat) (J1 : Nat → Int64), p + m = qP Q → (∀ i, bt (J1 1) i = anyB (fun q => hB Q c q i) p) → (∀ k, k ≠ 1 → J1 k = J k) → wl_Situation_able_7 Post (m + 1) (nI p) I J1 B D := by
    intro m
    induction m with
    | zero =>
      intro p J1 hp ha hJ1
      have e : p = qP Q := by omega
      subst e
      exact ⟨fun _ => ⟨qP Q + 1, l2 (qP Q) 0 0 J1 B (by omega) (fun i => bt_0 i) hJ1 ha (fun _ _ => rfl)⟩, fun z => absurd ((leI p10 (y := nI (qP Q)) rfl (by omega) (by omega)).mpr (Nat.le_refl _)) z⟩
    | succ m ih =>
      intro p J1 hp ha hJ1
      refine ⟨fun z => ?_, fun _ => ⟨vin2 rfl (by omega) (by omega), fun z14 e14 => ?_⟩⟩
      · have := (leI p10 (y := nI p) rfl (by omega) (by omega)).mp z; omega
      rw [clI rfl (by omega), hS.2.2.2.1 p (by omega)] at e14
      rw [e14]
      refine q_at (by omega) (hC.2 p) (fun z16 e16 z17 e17 => ?_)
      rw [inI rfl e17]
      refine ih (p + 1) _ (by omega) (fun i => ?_) (fun k hk => by simp only [vp_updL, if_neg hk]; exact hJ1 k hk)
      have : vp_updL J1 1 z16 1 = z16 := by simp [vp_updL]
      rw [this, e16, bt_or, ha i, hpt p (by omega) i]; rfl
  refine ⟨qP Q + 1, l1 (qP Q) 0 _ (by omega) (fun i => ?_) (fun k hk => by simp [vp_updL, hk])⟩
  have : vp_updL J 1 0 1 = 0 := by simp [vp_updL]
  rw [this, bt_0]; rfl
end ZJ9
