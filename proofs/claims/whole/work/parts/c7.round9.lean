/-! What a formula is worth for a run that goes round. -/
section ZS8
/-- lower bits of the result hang on lower bits alone -/
theorem cT_dep {av : zIt → Bool} {nx nx' : Nat → Bool} : ∀ (l : List zIt) (t : Nat), (∀ j, j ≤ t → nx j = nx' j) → cT av nx l t = cT av nx' l t := by
  intro l
  induction l with
  | nil => intro t _; rfl
  | cons x l ih =>
    intro t h
    show (if isT x.1 ∧ ntm l = t then _ else cT av nx l t) = (if isT x.1 ∧ ntm l = t then _ else cT av nx' l t)
    by_cases g : isT x.1 ∧ ntm l = t
    · rw [if_pos g, if_pos g]
      have e : evl av (cT av nx l) l = evl av (cT av nx' l) l := evl_cg av l (fun i hi => ih i (fun j hj => h j (by have := g.2; omega)))
      rw [e, h t (Nat.le_refl _)]
    · rw [if_neg g, if_neg g]; exact ih t h
theorem car_mono {k : Nat} {a b c c' : Bool} (h : c = true → c' = true) (g : car k a b c = true) : car k a b c' = true := by
  unfold car at g ⊢
  cases a <;> cases b <;> cases c <;> cases c' <;> simp_all
theorem cT_mono {av : zIt → Bool} {nx nx' : Nat → Bool} : ∀ (l : List zIt) (t : Nat), (∀ j, j < t → nx j = nx' j) → (nx t = true → nx' t = true) → cT av nx l t = true → cT av nx' l t = true := by
  intro l
  induction l with
  | nil => intro t _ _ g; exact g
  | cons x l ih =>
    intro t h h2
    show (if isT x.1 ∧ ntm l = t then _ else cT av nx l t) = true → (if isT x.1 ∧ ntm l = t then _ else cT av nx' l t) = true
    by_cases g : isT x.1 ∧ ntm l = t
    · rw [if_pos g, if_pos g]
      have e : evl av (cT av nx l) l = evl av (cT av nx' l) l := evl_cg av l (fun i hi => cT_dep l i (fun j hj => h j (by have := g.2; omega)))
      rw [e]; exact car_mono h2
    · rw [if_neg g, if_neg g]; exact ih t h h2
/-- what both rounds need of a map of guesses -/
def MFx (F : Nat → Nat) : Prop := (∀ t g g', (∀ i, i < t → g.testBit i = g'.testBit i) → ∀ i, i < t → (F g).testBit i = (F g').testBit i) ∧ (∀ t g g', (∀ i, i < t → g.testBit i = g'.testBit i) → (g.testBit t = true → g'.testBit t = true) → (F g).testBit t = true → (F g').testBit t = true)
theorem MF_bef {av : zIt → Bool} {out : List zIt} : MFx (bef av out) := by
  refine ⟨fun t g g' h i hi => ?_, fun t g g' h h2 => ?_⟩
  · unfold bef
    rw [bN_bit, bN_bit, cT_dep out i (fun j hj => h j (by omega))]
  · unfold bef
    rw [bN_bit, bN_bit, Bool.and_eq_true, Bool.and_eq_true]
    exact fun z => ⟨z.1, cT_mono out t h h2 z.2⟩
theorem MF_id : MFx (fun g => g) := ⟨fun _ _ _ h i hi => h i hi, fun _ _ _ _ h2 => h2⟩
theorem MF_comp {F G : Nat → Nat} (hF : MFx F) (hG : MFx G) : MFx (fun g => F (G g)) := ⟨fun t g g' h i hi => hF.1 t _ _ (hG.1 t g g' h) i hi, fun t g g' h h2 z => hF.2 t _ _ (hG.1 t g g' h) (hG.2 t g g' h h2) z⟩
theorem MF_fix {F : Nat → Nat} (hF : MFx F) {t g : Nat} (h : ∀ i, i < t → (F g).testBit i = g.testBit i) : ∀ i, i < t + 1 → (F (F g)).testBit i = (F g).testBit i := by
  intro i hi
  by_cases e : i = t
  · subst e
    by_cases e2 : (F g).testBit i = g.testBit i
    · refine hF.1 (i + 1) (F g) g (fun j hj => ?_) i (by omega)
      by_cases e3 : j = i
      · rw [e3]; exact e2
      · exact h j (by omega)
    · cases hg : g.testBit i
      · have h1 : (F g).testBit i = true := by
          cases hh : (F g).testBit i
          · rw [hh, hg] at e2; exact absurd rfl e2
          · rfl
        rw [h1]
        exact hF.2 i g (F g) (fun j hj => (h j hj).symm) (fun _ => h1) h1
      · have h1 : (F g).testBit i = false := by
          cases hh : (F g).testBit i
          · rfl
          · rw [hh, hg] at e2; exact absurd rfl e2
        rw [h1]
        cases hff : (F (F g)).testBit i
        · rfl
        · have := hF.2 i (F g) g (fun j hj => h j hj) (fun _ => hg) hff
          rw [h1] at this; exact absurd this (by decide)
  · exact hF.1 t (F g) g (fun j hj => h j hj) i (by omega)
/-- the guess that both come to -/
def gq (F : Nat → Nat) (u : Nat) : Nat → Nat
  | 0 => u
  | t + 1 => F (gq F u t % 2 ^ t + u / 2 ^ t * 2 ^ t)
theorem mix_bit (g u t i : Nat) : (g % 2 ^ t + u / 2 ^ t * 2 ^ t).testBit i = if i < t then g.testBit i else u.testBit i := by
  have h : g % 2 ^ t < 2 ^ t := Nat.mod_lt _ (Nat.two_pow_pos t)
  rw [Nat.add_comm, Nat.mul_comm, Nat.two_pow_add_eq_or_of_lt h, Nat.testBit_or, Nat.testBit_two_pow_mul, Nat.testBit_mod_two_pow, Nat.testBit_div_two_pow]
  by_cases e : i < t
  · have : ¬ t ≤ i := by omega
    simp [e, this]
  · have : t ≤ i := by omega
    rw [if_neg e]
    simp [e, this]
theorem gq_fix {F : Nat → Nat} (hF : MFx F) (u : Nat) : ∀ t i, i < t → (F (gq F u t)).testBit i = (gq F u t).testBit i := by
  intro t
  induction t with
  | zero => intro i hi; omega
  | succ t ih =>
    intro i hi
    refine MF_fix hF (g := gq F u t % 2 ^ t + u / 2 ^ t * 2 ^ t) (fun j hj => ?_) i hi
    have hs : ∀ k, k < t → (gq F u t % 2 ^ t + u / 2 ^ t * 2 ^ t).testBit k = (gq F u t).testBit k := fun k hk => by rw [mix_bit, if_pos hk]
    rw [hF.1 t _ (gq F u t) hs j hj, ih j hj, hs j hj]
theorem gq_next {F : Nat → Nat} (hF : MFx F) {u t T : Nat} (h : ∀ i, i < t → T.testBit i = (gq F u t).testBit i) (h2 : T.testBit t = u.testBit t) : ∀ i, i < t + 1 → (F (F T)).testBit i = (gq F u (t + 1)).testBit i := by
  have h1 : ∀ i, i < t + 1 → T.testBit i = (gq F u t % 2 ^ t + u / 2 ^ t * 2 ^ t).testBit i := fun i hi => by
    rw [mix_bit]
    by_cases e : i < t
    · rw [if_pos e]; exact h i e
    · rw [if_neg e, show i = t by omega]; exact h2
  have h3 : ∀ i, i < t + 1 → (F T).testBit i = (gq F u (t + 1)).testBit i := hF.1 (t + 1) _ _ h1
  intro i hi
  rw [hF.1 (t + 1) _ _ h3 i hi]
  exact gq_fix hF u (t + 1) i hi
/-- back along the states of a walk -/
def bkr (d : zD) (X : zG) (out : List zIt) (p : Nat → Nat) (lo : Nat) : Nat → Nat → Nat
  | 0, g => g
  | n + 1, g => bkr d X out p lo n (bfx d X out (p (lo + n)) g)
theorem MF_bkr {d : zD} {X : zG} {out : List zIt} {p : Nat → Nat} {lo : Nat} : ∀ n, MFx (bkr d X out p lo n) := by
  intro n
  induction n with
  | zero => exact MF_id
  | succ n ih => exact MF_comp (F := bkr d X out p lo n) (G := bfx d X out (p (lo + n))) ih MF_bef
theorem bkr_lt {d : zD} {X : zG} {out : List zIt} {p : Nat → Nat} {lo : Nat} (h3 : ntm out ≤ 3) : ∀ n g, g < 2 ^ ntm out → bkr d X out p lo n g < 2 ^ ntm out := by
  intro n
  induction n with
  | zero => intro g h; exact h
  | succ n ih => intro g _; exact ih _ (bfx_lt h3).1
theorem bkr_lt1 {d : zD} {X : zG} {out : List zIt} {p : Nat → Nat} {lo : Nat} (h3 : ntm out ≤ 3) (n g : Nat) : bkr d X out p lo (n + 1) g < 2 ^ ntm out := bkr_lt h3 n _ (bfx_lt h3).1
/-- the formula's worth for a walk whose end is the state of number k -/
def trw (d : zD) (X : zG) (out : List zIt) (p : Nat → Nat) (k n : Nat) : Bool := sat (atv d (gK X (p 0))) out (bkr d X out p 0 k (gq (bkr d X out p k n) (une out) (ntm out)))
theorem une_lt {out : List zIt} : une out < 2 ^ ntm out := bN_lt _ _
theorem nI_lt1 {k : Nat} (h : k ≤ 100000) : nI k - 1 < nI k := by
  by_cases e : k = 0
  · subst e; decide
  · have m1 : nI k - 1 = nI (k - 1) := deI (k := k - 1) (by rw [show k - 1 + 1 = k by omega]) rfl
    exact (ltI m1 rfl (by omega) h).mpr (by omega)
theorem mixI : ∀ g, g < 8 → ∀ u, u < 8 → ∀ t, t < 3 → (nI g &&& (((-1 : Int32) <<< (nI t &&& 31)) ^^^ -1)) ||| (nI u &&& ((-1 : Int32) <<< (nI t &&& 31))) = nI (g % 2 ^ t + u / 2 ^ t * 2 ^ t) := by decide +kernel
theorem mix8 : ∀ g, g < 8 → ∀ u, u < 8 → ∀ t, t < 3 → g % 2 ^ t + u / 2 ^ t * 2 ^ t < 8 := by decide +kernel
def clr (T t : Nat) : Nat := if T.testBit t then T - 2 ^ t else T
theorem clrI : ∀ T, T < 8 → ∀ t, t < 3 → nI T &&& (((1 : Int32) <<< (nI t &&& 31)) ^^^ -1) = nI (clr T t) := by decide +kernel
theorem clr_b : ∀ T, T < 8 → ∀ t, t < 3 → clr T t < 8 ∧ (clr T t).testBit t = false ∧ ∀ i, i < t → (clr T t).testBit i = T.testBit i := by decide +kernel
section
variable {I : Nat → Int32} {J : Nat → Int64} {B : Nat → Nat → Int32} {D : Nat → Nat → Int64}
theorem q_backTo {Post : Int32 → (Nat → Int32) → (Nat → Int64) → (Nat → Nat → Int32) → (Nat → Nat → Int64) → Prop} {d : zD} {X : zG} {out : List zIt} {p : Nat → Nat} {lo n g : Nat} {x y z : Int32} (hN : gN X ≤ 96) (h3 : ntm out ≤ 3) (hT : TRU d X (gN X) out B) (hp : ∀ i, i < lo + n → B 0 i = nI (p i) ∧ p i < gN X) (hl : lo + n ≤ 60) (hg : g < 8) (hx : x = nI (lo + n)) (hy : y = nI lo) (hz : z = nI g) (h : Post (nI (bkr d X out p lo n g)) I J B D) : wp_Truths_backTo_ad12 I J B D x y z Post := by
  subst hx; subst hy; subst hz
  have lp : ∀ (zz : Int32) m g, m ≤ n → g < 8 → bkr d X out p lo m g = bkr d X out p lo m g → (Post (nI (bkr d X out p lo m g)) I J B D) → wl_Truths_backTo_ad12_9 (nI (lo + n)) (nI lo) zz Post (m + 1) (nI lo) (nI g) (nI (lo + m) - 1) I J B D := by
    intro zz m
    induction m with
    | zero =>
      intro g _ _ _ hP
      exact ⟨fun _ => hP, fun w => absurd (nI_lt1 (k := lo) (by omega)) w⟩
    | succ m ih =>
      intro g hm hg _ hP
      have e1 : nI (lo + (m + 1)) - 1 = nI (lo + m) := nI_pred (lo + m)
      rw [e1]
      refine ⟨fun w => ?_, fun _ => ⟨vin2 rfl (by omega) (by omega), fun z2 e2 z3 e3 z4 e4 => ?_⟩⟩
      · have := (ltI (x := nI (lo + m)) rfl (y := nI lo) rfl (by omega) (by omega)).mp w; omega
      obtain ⟨q1, q2⟩ := hp (lo + m) (by omega)
      rw [clI rfl (by omega), q1] at e2
      have n4 : z4 = nI (8 * p (lo + m) + g) := by rw [e4, e3, e2, show (8 : Int32) = nI 8 from rfl, nI_mul, nI_add, Nat.mul_comm]
      refine ⟨vin2 n4 (by omega) (by omega), fun z5 e5 z6 e6 => ?_⟩
      rw [clI n4 (by omega), (hT _ q2 g hg).1] at e5
      have n6 : z6 = nI (lo + m) - 1 := by
        rw [e6]
        generalize nI (lo + m) = y
        grind
      rw [e5, n6]
      exact ih _ (by omega) (bfx_lt (d := d) (X := X) (q := p (lo + m)) (g := g) h3).2 rfl hP
  intro z7 e7
  rw [e7]
  exact ⟨n + 1, lp _ n g (Nat.le_refl _) hg rfl h⟩
theorem q_ofRound {Post : Int32 → (Nat → Int32) → (Nat → Int64) → (Nat → Nat → Int32) → (Nat → Nat → Int64) → Prop} {d : zD} {X : zG} {out : List zIt} {p : Nat → Nat} {k n : Nat} {x y : Int32} (hN : gN X ≤ 96) (h3 : ntm out ≤ 3) (hT : TRU d X (gN X) out B) (h21 : I 21 = nI (ntm out)) (h31 : I 31 = nI (une out)) (hp : ∀ i, i < k + n → B 0 i = nI (p i) ∧ p i < gN X) (hn : 1 ≤ n) (hl : k + n ≤ 60) (hx : x = nI (k + n)) (hy : y = nI k) (h : Post (nI (b2n (trw d X out p k n))) I J B D) : wp_Truths_ofRound_ad12 I J B D x y Post := by
  subst hx; subst hy
  have p8 := p2_3 h3
  have hu := une_lt (out := out)
  obtain ⟨n, rfl⟩ : ∃ n', n = n' + 1 := ⟨n - 1, by omega⟩
  have hb01 : ∀ b : Bool, nI (b2n b) = 0 ∨ nI (b2n b) = 1 := fun b => by cases b <;> simp [b2n] <;> decide
  have lp : ∀ m t, t + m = ntm out → gq (bkr d X out p k (n + 1)) (une out) t < 8 → wl_Truths_ofRound_ad12_9 (nI (k + (n + 1))) (nI k) Post (m + 1) (nI (k + (n + 1))) (nI k) (nI (gq (bkr d X out p k (n + 1)) (une out) t)) (nI t) I J B D := by
    intro m
    induction m with
    | zero =>
      intro t ht hg8
      have et : t = ntm out := by omega
      subst et
      refine ⟨fun _ => ?_, fun z => absurd ((leI h21 (y := nI (ntm out)) rfl (by omega) (by omega)).mpr (Nat.le_refl _)) z⟩
      refine q_backTo (lo := 0) (n := k) hN h3 hT (fun i hi => hp i (by omega)) (by omega) hg8 (by rw [Nat.zero_add]) rfl rfl ?_
      have hgl : gq (bkr d X out p k (n + 1)) (une out) (ntm out) < 2 ^ ntm out := by
        cases hh : ntm out with
        | zero => rw [hh] at hu; exact hu
        | succ t => rw [← hh]; exact hh ▸ bkr_lt1 h3 n _
      have hr := bkr_lt (d := d) (X := X) (p := p) (lo := 0) h3 k _ hgl
      refine ⟨vin2 (k := 0) rfl (by omega) (by omega), fun z3 e3 z4 e4 z5 e5 => ?_⟩
      obtain ⟨q1, q2⟩ := hp 0 (by omega)
      rw [show (0 : Int32).toNatClampNeg = 0 from rfl, q1] at e3
      have n5 : z5 = nI (8 * p 0 + bkr d X out p 0 k (gq (bkr d X out p k (n + 1)) (une out) (ntm out))) := by rw [e5, e4, e3, show (8 : Int32) = nI 8 from rfl, nI_mul, nI_add, Nat.mul_comm]
      refine ⟨vin2 n5 (by omega) (by omega), fun z6 e6 => ?_⟩
      rw [clI n5 (by omega), (hT _ q2 _ (by omega)).2.2] at e6
      rw [e6]
      exact ⟨hb01 _, h⟩
    | succ m ih =>
      intro t ht hg8
      refine ⟨fun z => ?_, fun _ z7 e7 z8 e8 z9 e9 z10 e10 z11 e11 => ?_⟩
      · have := (leI h21 (y := nI t) rfl (by omega) (by omega)).mp z; omega
      have n11 : z11 = nI (gq (bkr d X out p k (n + 1)) (une out) t % 2 ^ t + une out / 2 ^ t * 2 ^ t) := by
        rw [e11, e9, e10, e8, e7, h31]; exact mixI _ hg8 _ (by omega) t (by omega)
      refine q_backTo (lo := k) (n := n + 1) hN h3 hT hp hl (mix8 _ hg8 _ (show une out < 8 by omega) t (by omega)) rfl rfl n11 (fun z13 e13 => ?_)
      rw [inI rfl e13]
      have hlt := bkr_lt1 (d := d) (X := X) (p := p) (lo := k) h3 n (gq (bkr d X out p k (n + 1)) (une out) t % 2 ^ t + une out / 2 ^ t * 2 ^ t)
      exact ih (t + 1) (by omega) (Nat.lt_of_lt_of_le hlt p8)
  have := lp (ntm out) 0 (by omega) (Nat.lt_of_lt_of_le hu p8)
  refine ⟨ntm out + 1, ?_⟩
  rw [h31]; exact this
end
section
variable {I9 : Nat → Int32} {J9 : Nat → Int64} {B9 : Nat → Nat → Int32} {D9 : Nat → Nat → Int64}
/-- the reference's loops -/
theorem r_truthL {Post : Int32 → (Nat → Int32) → (Nat → Int64) → (Nat → Nat → Int32) → (Nat → Nat → Int64) → Prop} {mc : Nat} {d : zD} {Q : zQ} {X : zG} {out : List zIt} {p : Nat → Nat} {k n : Nat} {a0 : Int32} (hS : SV mc d Q X out I9 B9) (h26 : I9 26 = nI (k + n)) (hp : ∀ i, i < k + n → B9 54 i = nI (p i) ∧ p i < gN X) (hn : 1 ≤ n) (hl : k + n ≤ 60) (h : Post (nI (b2n (trw d X out p k n))) I9 J9 B9 D9) : ∃ m : Nat, wl_LassoFinderModel_truth_72 a0 Post m (nI k) 0 0 I9 J9 B9 D9 := by
  have x1 := hS.1.1
  have h3 := hS.2.1
  have p8 := p2_3 h3
  have hRK := hS.2.2.2.2.1
  have h240 := hS.2.2.1
  have i20 := hRK.2.1
  obtain ⟨n, rfl⟩ : ∃ n', n = n' + 1 := ⟨n - 1, by omega⟩
  have hb01 : ∀ b : Bool, nI (b2n b) = 0 ∨ nI (b2n b) = 1 := fun b => by cases b <;> simp [b2n] <;> decide
  -- before the round
  have pre : ∀ m T, m ≤ k → T < 8 → (m = 0 → T < 8) → sat (atv d (gK X (p 0))) out (bkr d X out p 0 m T) = trw d X out p k (n + 1) → wl_LassoFinderModel_truth_198 a0 Post (m + 1) (nI T) (nI m - 1) I9 J9 B9 D9 := by
    intro m
    induction m with
    | zero =>
      intro T _ hT _ hs
      refine ⟨fun _ => ⟨vin2 (k := 0) rfl (by omega) (by omega), fun z2 e2 => ?_⟩, fun z => absurd (by decide) z⟩
      obtain ⟨q1, q2⟩ := hp 0 (by omega)
      rw [show (0 : Int32).toNatClampNeg = 0 from rfl, q1] at e2
      refine r_isTrue e2 rfl hS.2.2.2.2.2.1 h3 q2 x1 hT ?_
      have hs' : sat (atv d (gK X (p 0))) out T = trw d X out p k (n + 1) := hs
      rw [hs']
      exact ⟨hb01 _, h⟩
    | succ m ih =>
      intro T hm hT _ hs
      have e1 : nI (m + 1) - 1 = nI m := nI_pred m
      rw [e1]
      refine ⟨fun z => ?_, fun _ => ⟨vin2 rfl (by omega) (by omega), fun z4 e4 => ?_⟩⟩
      · have := (ltI (x := nI m) rfl (y := 0) (b := 0) rfl (by omega) (by omega)).mp z; omega
      obtain ⟨q1, q2⟩ := hp m (by omega)
      rw [clI rfl (by omega), q1] at e4
      have hb := (bfx_lt (d := d) (X := X) (q := p m) (g := T) h3).2
      refine r_bf hS e4 rfl q2 hT (fun z6 e6 => ?_)
      have n6 : z6 = nI m - 1 := by
        rw [e6]
        generalize nI m = y
        grind
      rw [n6]
      refine ih _ (by omega) hb (fun _ => hb) ?_
      rw [← hs]
      show sat _ out (bkr d X out p 0 m (bfx d X out (p m) T)) = sat _ out (bkr d X out p 0 m (bfx d X out (p (0 + m)) T))
      rw [Nat.zero_add]
  -- once round
  have once : ∀ (K72 : Int32 → Int32 → Int32 → (Nat → Int32) → (Nat → Int64) → (Nat → Nat → Int32) → (Nat → Nat → Int64) → Prop) (K143 : Int32 → Int32 → Int32 → Int32 → (Nat → Int32) → (Nat → Int64) → (Nat → Nat → Int32) → (Nat → Nat → Int64) → Prop) (ti r : Nat) (T0 : Nat), (K143 (nI k) (nI (bkr d X out p k (n + 1) T0)) (nI ti) (nI (r + 1)) I9 J9 B9 D9) → ∀ m T, m ≤ n + 1 → T < 8 → bkr d X out p k m T = bkr d X out p k (n + 1) T0 → wl_LassoFinderModel_truth_157 a0 K72 K143 Post (m + 1) (nI k) (nI T) (nI ti) (nI r) (nI (k + m) - 1) I9 J9 B9 D9 := by
    intro K72 K143 ti r T0 hK m
    induction m with
    | zero =>
      intro T _ hT hs
      refine ⟨fun _ z8 e8 => ?_, fun w => absurd (nI_lt1 (k := k) (by omega)) w⟩
      rw [inI rfl e8]
      have hs' : T = bkr d X out p k (n + 1) T0 := hs
      rw [hs']; exact hK
    | succ m ih =>
      intro T hm hT hs
      have e1 : nI (k + (m + 1)) - 1 = nI (k + m) := nI_pred (k + m)
      rw [e1]
      refine ⟨fun z => ?_, fun _ => ⟨vin2 rfl (by omega) (by omega), fun z9 e9 => ?_⟩⟩
      · have := (ltI (x := nI (k + m)) rfl (y := nI k) rfl (by omega) (by omega)).mp z; omega
      obtain ⟨q1, q2⟩ := hp (k + m) (by omega)
      rw [clI rfl (by omega), q1] at e9
      have hb := (bfx_lt (d := d) (X := X) (q := p (k + m)) (g := T) h3).2
      refine r_bf hS e9 rfl q2 hT (fun z11 e11 => ?_)
      have n11 : z11 = nI (k + m) - 1 := by
        rw [e11]
        generalize nI (k + m) = y
        grind
      rw [n11]
      exact ih _ (by omega) hb hs
  have lp : ∀ m t T, t + m = ntm out → T < 8 → (t = 0 → T = 0) → (0 < t → T < 2 ^ ntm out) → (∀ i, i < t → T.testBit i = (gq (bkr d X out p k (n + 1)) (une out) t).testBit i) → wl_LassoFinderModel_truth_72 a0 Post (m + 1) (nI k) (nI T) (nI t) I9 J9 B9 D9 := by
    intro m
    induction m with
    | zero =>
      intro t T ht hT hT0 hTl hbits
      have et : t = ntm out := by omega
      subst et
      refine ⟨fun _ z22 e22 => ⟨k + 1, ?_⟩, fun z => absurd ((leI i20 (y := nI (ntm out)) rfl (by omega) (by omega)).mpr (Nat.le_refl _)) z⟩
      rw [e22]
      refine pre k T (Nat.le_refl _) hT (fun _ => hT) ?_
      have e : T = gq (bkr d X out p k (n + 1)) (une out) (ntm out) := by
        by_cases e0 : ntm out = 0
        · rw [hT0 e0, e0]
          have := une_lt (out := out)
          rw [e0] at this
          show 0 = une out
          omega
        · have hgl : gq (bkr d X out p k (n + 1)) (une out) (ntm out) < 2 ^ ntm out := by
            obtain ⟨t, hh⟩ : ∃ t, ntm out = t + 1 := ⟨ntm out - 1, by omega⟩
            rw [show gq (bkr d X out p k (n + 1)) (une out) (ntm out) = gq (bkr d X out p k (n + 1)) (une out) (t + 1) by rw [hh]]
            exact bkr_lt1 h3 n _
          apply Nat.eq_of_testBit_eq
          intro i
          by_cases hi : i < ntm out
          · exact hbits i hi
          · have h2i : 2 ^ ntm out ≤ 2 ^ i := Nat.pow_le_pow_right (by omega) (by omega)
            rw [Nat.testBit_lt_two_pow (Nat.lt_of_lt_of_le (hTl (by omega)) h2i), Nat.testBit_lt_two_pow (Nat.lt_of_lt_of_le hgl h2i)]
      rw [e]; rfl
    | succ m ih =>
      intro t T ht hT hT0 hTl hbits
      obtain ⟨j, hj, e43, e41, hk⟩ := tk_r hRK h240 (t := t) (by omega)
      have vt : vp_in (nI t) 3 := vin2 rfl (by omega) (by omega)
      have ct : (nI t).toNatClampNeg = t := clI rfl (by omega)
      have r := rc_9 (k := tk out t) (by omega)
      refine ⟨fun z => ?_, fun _ => ⟨vt, fun z23 e23 => ?_⟩⟩
      · have := (leI i20 (y := nI t) rfl (by omega) (by omega)).mp z; omega
      rw [ct, e43] at e23
      refine ⟨vin2 e23 hj (by omega), fun z24 e24 => ?_⟩
      rw [clI e23 (by omega), e41] at e24
      have q12 : z24 = 12 ↔ rc (tk out t) = 12 := eqI e24 (b := 12) rfl (by omega) (by omega)
      -- the two rounds
      have go : ∀ (T1 : Nat) (y : Int32), y = nI T1 → T1 < 8 → (∀ i, i < t → T1.testBit i = T.testBit i) → T1.testBit t = (une out).testBit t → wc_LassoFinderModel_truth_139 a0 (wl_LassoFinderModel_truth_72 a0 Post (m + 1)) Post (nI k) (nI t) y I9 J9 B9 D9 := by
        intro T1 y hy hT1 hlo hbt
        subst hy
        have f1 := Nat.lt_of_lt_of_le (bkr_lt1 (d := d) (X := X) (p := p) (lo := k) h3 n T1) p8
        have f2 := bkr_lt1 (d := d) (X := X) (p := p) (lo := k) h3 n (bkr d X out p k (n + 1) T1)
        have k2 : wl_LassoFinderModel_truth_143 a0 (wl_LassoFinderModel_truth_72 a0 Post (m + 1)) Post 1 (nI k) (nI (bkr d X out p k (n + 1) (bkr d X out p k (n + 1) T1))) (nI t) (nI (1 + 1)) I9 J9 B9 D9 := by
          refine ⟨fun _ z13 e13 => ?_, fun z => absurd (by decide) z⟩
          rw [inI rfl e13]
          refine ih (t + 1) _ (by omega) (Nat.lt_of_lt_of_le f2 p8) (fun e => by omega) (fun _ => f2) (gq_next (MF_bkr (n + 1)) (fun i hi => ?_) hbt)
          rw [hlo i hi]; exact hbits i hi
        have k1 : wl_LassoFinderModel_truth_143 a0 (wl_LassoFinderModel_truth_72 a0 Post (m + 1)) Post 2 (nI k) (nI (bkr d X out p k (n + 1) T1)) (nI t) (nI (0 + 1)) I9 J9 B9 D9 := by
          refine ⟨fun z => absurd z (by decide), fun _ z14 e14 => ⟨n + 1 + 1, ?_⟩⟩
          rw [e14, h26]
          exact once _ _ t 1 _ k2 (n + 1) _ (Nat.le_refl _) f1 rfl
        refine ⟨3, fun z => absurd z (by decide), fun _ z14 e14 => ⟨n + 1 + 1, ?_⟩⟩
        rw [e14, h26]
        exact once _ _ t 0 T1 k1 (n + 1) T1 (Nat.le_refl _) hT1 rfl
      have hub : (une out).testBit t = (decide (tk out t = 4) || decide (tk out t = 7)) := by
        unfold une
        rw [bN_bit, decide_eq_true (show t < ntm out by omega), Bool.true_and]
      obtain ⟨cl1, cl2, cl3⟩ := clr_b T hT t (by omega)
      have least : (tk out t = 5 ∨ tk out t = 6) → wc_LassoFinderModel_truth_112 a0 (wl_LassoFinderModel_truth_72 a0 Post (m + 1)) Post (nI k) (nI T) (nI t) I9 J9 B9 D9 := by
        intro hk5
        refine ⟨fun z => absurd z (by decide), fun _ z18 e18 z19 e19 z20 e20 => ?_⟩
        refine go (clr T t) z20 (by rw [e20, e19, e18]; exact clrI T hT t (by omega)) cl1 cl3 ?_
        rw [cl2, hub, decide_eq_false (by omega), decide_eq_false (by omega)]; rfl
      refine ⟨fun z => least ?_, fun z => ⟨vt, fun z26 e26 => ?_⟩⟩
      · have := q12.mp z
        unfold rc at this
        split at this <;> (try split at this) <;> (try split at this) <;> (try split at this) <;> (try split at this) <;> omega
      rw [ct, e43] at e26
      refine ⟨vin2 e26 hj (by omega), fun z27 e27 => ?_⟩
      rw [clI e26 (by omega), e41] at e27
      have q15 : z27 = 15 ↔ rc (tk out t) = 15 := eqI e27 (b := 15) rfl (by omega) (by omega)
      refine ⟨fun w => ⟨fun _ z16 e16 z17 e17 => ?_, fun y => absurd rfl y⟩, fun w => least ?_⟩
      · have hk47 : tk out t = 4 ∨ tk out t = 7 := by
          have a1 : ¬ rc (tk out t) = 12 := fun e => z (q12.mpr e)
          have a2 : ¬ rc (tk out t) = 15 := fun e => w (q15.mpr e)
          have h5 : ¬ tk out t = 5 := fun e => a2 (by rw [e]; rfl)
          have h6 : ¬ tk out t = 6 := fun e => a1 (by rw [e]; rfl)
          omega
        have h2t : 2 ^ t < 8 := by
          have : 2 ^ t ≤ 2 ^ 2 := Nat.pow_le_pow_right (by omega) (by omega)
          omega
        refine go (T ||| 2 ^ t) z17 ?_ (or8 hT h2t) (fun i hi => ?_) ?_
        · rw [e17, e16, show (1 : Int32) = nI 1 from rfl, nI_shl (by omega), nI_or, Nat.one_mul]
        · rw [Nat.testBit_or, Nat.testBit_two_pow]
          have : ¬ t = i := by omega
          simp [this]
        · rw [Nat.testBit_or, Nat.testBit_two_pow_self, Bool.or_true, hub]
          rcases hk47 with e | e <;> simp [e]
      · have := q15.mp w
        unfold rc at this
        split at this <;> (try split at this) <;> (try split at this) <;> (try split at this) <;> (try split at this) <;> omega
  exact ⟨ntm out + 1, lp (ntm out) 0 0 (by omega) (by omega) (fun _ => rfl) (fun e => by omega) (fun i hi => by omega)⟩
end
end ZS8
