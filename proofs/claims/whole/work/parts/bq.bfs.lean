/-! Searching by breadth, apart from both. -/
section ZQ9
/-- so many steps -/
def pn {α : Type} (R : α → α → Prop) : Nat → α → α → Prop
  | 0, x, y => x = y
  | n + 1, x, y => ∃ z, pn R n x z ∧ R z y
theorem pn_star {α : Type} {R : α → α → Prop} : ∀ {n : Nat} {x y : α}, pn R n x y → star R x y := by
  intro n
  induction n with
  | zero => intro x y h; rw [show x = y from h]; exact star.refl _
  | succ n ih => rintro x y ⟨z, h1, h2⟩; exact (ih h1).tail h2
theorem star_pn {α : Type} {R : α → α → Prop} {x y : α} (h : star R x y) : ∃ n, pn R n x y := h (fun y => ∃ n, pn R n x y) ⟨0, rfl⟩ (fun u v c g => by
  obtain ⟨n, c⟩ := c
  exact ⟨n + 1, u, c, g⟩)
theorem pn_app {α : Type} {R : α → α → Prop} {x y : α} {a : Nat} (h : pn R a x y) : ∀ {b : Nat} {z : α}, pn R b y z → pn R (a + b) x z := by
  intro b
  induction b with
  | zero => intro z g; rw [← show y = z from g]; exact h
  | succ b ih => rintro z ⟨w, g1, g2⟩; exact ⟨w, ih g1, g2⟩
theorem pn_fn {α : Type} {R : α → α → Prop} {x : α} : ∀ {n : Nat} {y : α}, pn R n x y → ∃ f : Nat → α, f 0 = x ∧ f n = y ∧ ∀ l, l < n → R (f l) (f (l + 1)) := by
  intro n
  induction n with
  | zero => intro y h; exact ⟨fun _ => x, rfl, h, fun l hl => by omega⟩
  | succ n ih =>
    rintro y ⟨z, h1, h2⟩
    obtain ⟨f, f0, f1, f2⟩ := ih h1
    refine ⟨fun l => if l ≤ n then f l else y, by simp [f0], if_neg (by omega), fun l hl => ?_⟩
    by_cases e : l = n
    · subst e
      show R (if l ≤ l then f l else y) (if l + 1 ≤ l then f (l + 1) else y)
      rw [if_pos (Nat.le_refl _), if_neg (by omega), f1]; exact h2
    · have : l + 1 ≤ n := by omega
      have : l ≤ n := by omega
      simp [*]; exact f2 l (by omega)
theorem fn_pn {α : Type} {R : α → α → Prop} {f : Nat → α} {a : Nat} : ∀ b, (∀ l, a ≤ l → l < a + b → R (f l) (f (l + 1))) → pn R b (f a) (f (a + b)) := by
  intro b
  induction b with
  | zero => intro _; rfl
  | succ b ih => intro h; exact ⟨f (a + b), ih (fun l h1 h2 => h l h1 (by omega)), h (a + b) (by omega) (by omega)⟩
/-- a shortest way meets no two places of the same number -/
theorem pn_bnd {α : Type} {R : α → α → Prop} {x y : α} {n M : Nat} (h : pn R n x y) (hmin : ∀ k, k < n → ¬ pn R k x y) (c : α → Nat) (hM : ∀ z, star R x z → c z < M) (hc : ∀ a b, star R a b → c a = c b → a = b) : n < M := by
  obtain ⟨f, f0, f1, f2⟩ := pn_fn h
  refine Nat.lt_of_not_le (fun hle => ?_)
  obtain ⟨i, j, hij, hj, e⟩ := pigeon M (fun l => c (f l)) (fun l hl => hM _ (by
    have := fn_pn (f := f) (a := 0) l (fun k h1 h2 => f2 k (by omega))
    rw [f0, Nat.zero_add] at this
    exact pn_star this))
  have hs : star R (f i) (f j) := by
    have := fn_pn (f := f) (a := i) (j - i) (fun l h1 h2 => f2 l (by omega))
    rw [show i + (j - i) = j by omega] at this
    exact pn_star this
  have hij2 := hc _ _ hs e
  have p1 := fn_pn (f := f) (a := 0) i (fun l h1 h2 => f2 l (by omega))
  have p2 := fn_pn (f := f) (a := j) (n - j) (fun l h1 h2 => f2 l (by omega))
  rw [f0, Nat.zero_add] at p1
  rw [show j + (n - j) = n by omega, f1, ← hij2] at p2
  exact hmin (i + (n - j)) (by omega) (pn_app p1 p2)
section
variable (R : Nat → Nat → Prop) (src : Nat → Prop)
def pt (n w : Nat) : Prop := ∃ s, src s ∧ pn R n s w
/-- the queue: which place is how far (a number more), in what order -/
def BQ (N : Nat) (ds Q : Nat → Nat) (m : Nat) : Prop := (∀ w, ¬ ds w = 0 → w < N ∧ (∃ a, a < m ∧ Q a = w) ∧ pt R src (ds w - 1) w) ∧ (∀ a, a < m → ¬ ds (Q a) = 0) ∧ m ≤ cv ds N ∧ (∀ a b, a ≤ b → b < m → ds (Q a) ≤ ds (Q b)) ∧ (∀ w, src w → ds w = 1) ∧ (∀ a, a < m → ds (Q a) ≤ a + 1)
/-- what lies before i has been looked at -/
def BPx (ds Q : Nat → Nat) (i : Nat) : Prop := ∀ a, a < i → ∀ w, R (Q a) w → ¬ ds w = 0 ∧ ds w ≤ ds (Q a) + 1
def BL (ds Q : Nat → Nat) (m i : Nat) : Prop := i < m → ∀ b, b < m → ds (Q b) ≤ ds (Q i) + 1
def EXx (ds Q : Nat → Nat) (m : Nat) (ds' Q' : Nat → Nat) (m' : Nat) : Prop := (∀ w, ¬ ds w = 0 → ds' w = ds w) ∧ (∀ a, a < m → Q' a = Q a) ∧ m ≤ m'
end
variable {R : Nat → Nat → Prop} {src : Nat → Prop} {N : Nat} {ds Q ds' Q' : Nat → Nat} {m i m' : Nat}
theorem EXx.rf : EXx ds Q m ds Q m := ⟨fun _ _ => rfl, fun _ _ => rfl, Nat.le_refl _⟩
theorem EXx.tr {ds2 Q2 : Nat → Nat} {m2 : Nat} (h : EXx ds Q m ds' Q' m') (g : EXx ds' Q' m' ds2 Q2 m2) : EXx ds Q m ds2 Q2 m2 := ⟨fun w hw => (g.1 w (by rw [h.1 w hw]; exact hw)).trans (h.1 w hw), fun a ha => (g.2.1 a (by have := h.2.2; omega)).trans (h.2.1 a ha), Nat.le_trans h.2.2 g.2.2⟩
theorem EXx.at (h : EXx ds Q m ds' Q' m') (hB : ∀ a, a < m → ¬ ds (Q a) = 0) {a : Nat} (ha : a < m) : Q' a = Q a ∧ ds' (Q' a) = ds (Q a) := ⟨h.2.1 a ha, by rw [h.2.1 a ha]; exact h.1 _ (hB a ha)⟩
theorem BPx.ex (h : BPx R ds Q i) (hi : i ≤ m) (hB : ∀ a, a < m → ¬ ds (Q a) = 0) (g : EXx ds Q m ds' Q' m') : BPx R ds' Q' i := fun a ha w hw => by
  obtain ⟨e1, e2⟩ := g.at hB (show a < m by omega)
  rw [e1] at hw
  obtain ⟨a1, a2⟩ := h a ha w hw
  rw [g.1 w a1, e2]; exact ⟨a1, a2⟩
theorem BQ_add (h : BQ R src N ds Q m) (hl : BL ds Q m i) (hi : i < m) {w : Nat} (hw : ds w = 0) (hN : w < N) (hR : R (Q i) w) : BQ R src N (upn ds w (ds (Q i) + 1)) (upn Q m w) (m + 1) ∧ BL (upn ds w (ds (Q i) + 1)) (upn Q m w) (m + 1) i ∧ EXx ds Q m (upn ds w (ds (Q i) + 1)) (upn Q m w) (m + 1) := by
  obtain ⟨c1, c2, c3, c4, c5, c6⟩ := h
  have nw : ∀ a, a < m → ¬ Q a = w := fun a ha e => c2 a ha (by rw [e]; exact hw)
  have q1 : ∀ a, a < m → upn Q m w a = Q a := fun a ha => upn_ne (by omega)
  have d1 : ∀ a, a < m → upn ds w (ds (Q i) + 1) (upn Q m w a) = ds (Q a) := fun a ha => by rw [q1 a ha, upn_ne (nw a ha)]
  have d2 : upn ds w (ds (Q i) + 1) (upn Q m w m) = ds (Q i) + 1 := by rw [upn_at, upn_at]
  have spl : ∀ a, a < m + 1 → a < m ∨ a = m := fun a ha => by omega
  refine ⟨⟨fun u hu => ?_, fun a ha => ?_, ?_, fun a b hab hb => ?_, fun u hu => ?_, fun a ha => ?_⟩, fun hi' b hb => ?_, ⟨fun u hu => ?_, q1, Nat.le_succ _⟩⟩
  · by_cases e : u = w
    · subst e
      refine ⟨hN, ⟨m, by omega, upn_at _ _ _⟩, ?_⟩
      obtain ⟨_, _, s, hs, hp⟩ := c1 (Q i) (c2 i hi)
      rw [upn_at]
      have : ds (Q i) + 1 - 1 = (ds (Q i) - 1) + 1 := by have := c2 i hi; omega
      rw [this]
      exact ⟨s, hs, Q i, hp, hR⟩
    · rw [upn_ne e] at hu ⊢
      obtain ⟨a1, ⟨a, a2, a3⟩, a4⟩ := c1 u hu
      exact ⟨a1, ⟨a, by omega, by rw [q1 a a2]; exact a3⟩, a4⟩
  · rcases spl a ha with g | g
    · rw [d1 a g]; exact c2 a g
    · rw [g, d2]; omega
  · rw [cv_up hw N hN]; omega
  · rcases spl b hb with g | g
    · rw [d1 a (by omega), d1 b g]; exact c4 a b hab g
    · rw [g, d2]
      rcases spl a (by omega) with g2 | g2
      · rw [d1 a g2]; exact hl hi a g2
      · rw [g2, d2]; exact Nat.le_refl _
  · have := c5 u hu
    rw [upn_ne (fun e => by rw [e, hw] at this; omega)]; exact this
  · rcases spl a ha with g | g
    · rw [d1 a g]; exact c6 a g
    · rw [g, d2]; have := c6 i hi; omega
  · rw [d1 i hi]
    rcases spl b hb with g | g
    · rw [d1 b g]; exact hl hi b g
    · rw [g, d2]; exact Nat.le_refl _
  · exact upn_ne (fun e => hu (by rw [e]; exact hw))
theorem BL_next (h : BQ R src N ds Q m) (hl : BL ds Q m i) : BL ds Q m (i + 1) := fun h1 b hb => by
  have := hl (by omega) b hb
  have := h.2.2.2.1 i (i + 1) (by omega) h1
  omega
/-- nearer places have been looked at -/
theorem B_lv (h : BQ R src N ds Q m) (hp : BPx R ds Q i) (hi : i < m) : ∀ {n w : Nat}, pt R src n w → n + 1 ≤ ds (Q i) → ¬ ds w = 0 ∧ ds w ≤ n + 1 := by
  rintro n w ⟨s, hs, hn⟩
  induction n generalizing w with
  | zero =>
    intro _
    rw [← show s = w from hn, h.2.2.2.2.1 s hs]; omega
  | succ n ih =>
    intro hle
    obtain ⟨z, h1, h2⟩ := hn
    obtain ⟨a1, a2⟩ := ih h1 (by omega)
    obtain ⟨_, ⟨a, a3, a4⟩, _⟩ := h.1 z a1
    have ha : a < i := Nat.lt_of_not_le (fun g => by
      have := h.2.2.2.1 i a g a3
      rw [a4] at this; omega)
    obtain ⟨b1, b2⟩ := hp a ha w (by rw [a4]; exact h2)
    rw [a4] at b2
    exact ⟨b1, by omega⟩
/-- all has been looked at -/
def MD (R : Nat → Nat → Prop) (src : Nat → Prop) (ds : Nat → Nat) : Prop := (∀ w, ¬ ds w = 0 → pt R src (ds w - 1) w) ∧ (∀ n w, pt R src n w → ¬ ds w = 0 ∧ ds w ≤ n + 1)
theorem B_end (h : BQ R src N ds Q m) (hp : BPx R ds Q i) (hi : m ≤ i) : MD R src ds := by
  refine ⟨fun w hw => (h.1 w hw).2.2, fun n => ?_⟩
  induction n with
  | zero =>
    rintro w ⟨s, hs, hn⟩
    rw [← show s = w from hn, h.2.2.2.2.1 s hs]; omega
  | succ n ih =>
    rintro w ⟨s, hs, z, h1, h2⟩
    obtain ⟨a1, a2⟩ := ih z ⟨s, hs, h1⟩
    obtain ⟨_, ⟨a, a3, a4⟩, _⟩ := h.1 z a1
    obtain ⟨b1, b2⟩ := hp a (by omega) w (by rw [a4]; exact h2)
    rw [a4] at b2
    exact ⟨b1, by omega⟩
theorem BQ_m (h : BQ R src N ds Q m) : m ≤ N := Nat.le_trans h.2.2.1 (cv_le ds N)
theorem BQ_lt (h : BQ R src N ds Q m) {w : Nat} (hw : ds w = 0) (hN : w < N) : m < N := Nat.lt_of_le_of_lt h.2.2.1 (cv_lt hw N hN)
/-- the rows in the class -/
def RW (ds Q : Nat → Nat) (m : Nat) (I : Nat → Int32) (B : Nat → Nat → Int32) : Prop := I 35 = nI m ∧ (∀ a, a < m → B 57 a = nI (Q a)) ∧ (∀ w, w < 6144 → B 56 w = nI (ds w) - 1)
theorem nI_md {a b : Nat} (ha : a ≤ 100000) (hb : b ≤ 100000) : (nI a - 1 = nI b - 1 ↔ a = b) ∧ (nI a - 1 = -1 ↔ a = 0) := by
  refine ⟨⟨fun h => ?_, fun h => by rw [h]⟩, ⟨fun h => ?_, fun h => by rw [h]; rfl⟩⟩
  · have : nI a = nI b := by
      generalize nI a = x at *
      generalize nI b = y at *
      grind
    exact nI_inj ha hb this
  · have : nI a = nI 0 := by
      rw [show nI 0 = 0 from rfl]
      generalize nI a = x at *
      grind
    exact nI_inj ha (by omega) this
variable {I : Nat → Int32} {J : Nat → Int64} {B : Nat → Nat → Int32} {D : Nat → Nat → Int64}
theorem q_reach {Post : (Nat → Int32) → (Nat → Int64) → (Nat → Nat → Int32) → (Nat → Nat → Int64) → Prop} {w : Nat} {y x : Int32} (hN : N ≤ 6144) (h : BQ R src N ds Q m) (hl : BL ds Q m i) (hi : i < m) (hw : w < N) (hR : R (Q i) w) (hr : RW ds Q m I B) (hy : y = nI w) (hx : x = nI (ds (Q i)))
    (hP : ∀ ds' Q' m' I' B', BQ R src N ds' Q' m' → BL ds' Q' m' i → EXx ds Q m ds' Q' m' → ¬ ds' w = 0 → ds' w ≤ ds' (Q' i) + 1 → RW ds' Q' m' I' B' → (∀ k, k ≠ 35 → I' k = I k) → (∀ k, k ∉ [56, 57] → B' k = B k) → Post I' J B' D) : wp_LassoSearch_reach I J B D y x Post := by
  subst hy; subst hx
  have vv : vp_in (nI w) 6144 := vin2 rfl (by omega) (by omega)
  have cw : (nI w).toNatClampNeg = w := clI rfl (by omega)
  have hds : ∀ u, ds u ≤ 6144 := fun u => by
    by_cases e : ds u = 0
    · omega
    · obtain ⟨_, ⟨a, a1, a2⟩, _⟩ := h.1 u e
      have := h.2.2.2.2.2 a a1
      rw [a2] at this
      have := BQ_m h
      omega
  refine ⟨vv, fun z1 e1 => ?_⟩
  rw [cw, hr.2.2 w (by omega)] at e1
  have q := (nI_md (a := ds w) (b := 0) (by have := hds w; omega) (by omega)).2
  rw [← e1] at q
  refine ⟨fun z => ?_, fun z => ?_⟩
  · have hd : ¬ ds w = 0 := fun e => z (q.mpr e)
    refine hP ds Q m I B h hl EXx.rf hd ?_ hr (fun _ _ => rfl) (fun _ _ => rfl)
    obtain ⟨_, ⟨a, a1, a2⟩, _⟩ := h.1 w hd
    have := hl hi a a1
    rw [a2] at this; exact this
  · have hd := q.mp z
    have hm := BQ_lt h hd hw
    obtain ⟨b1, b2, b3⟩ := BQ_add h hl hi hd hw hR
    refine ⟨vv, vin2 hr.1 (by omega) (by omega), fun z3 e3 => ?_⟩
    have n3 := inI hr.1 e3
    rw [cw, clI hr.1 (by omega)]
    have hqi : ¬ Q i = w := fun e => h.2.1 i hi (by rw [e]; exact hd)
    refine hP _ _ _ _ _ b1 b2 b3 (by rw [upn_at]; omega) (by rw [upn_at, upn_ne (show ¬ i = m by omega), upn_ne hqi]; exact Nat.le_refl _) ⟨by simp [upd]; exact n3, fun a ha => ?_, fun u hu => ?_⟩ (fun k hk => by simp [upd, hk]) (fun k hk => by simp at hk; simp [va_up, hk])
    · by_cases e : a = m
      · subst e; simp [va_up, upd, upn]
      · simp [va_up, upd, upn, e]; exact hr.2.1 a (by omega)
    · by_cases e : u = w
      · subst e
        simp [va_up, upd, upn]
        rw [show (1 : Int32) = nI 1 from rfl, nI_sk]
      · simp [va_up, upd, upn, e]; exact hr.2.2 u hu
end ZQ9
