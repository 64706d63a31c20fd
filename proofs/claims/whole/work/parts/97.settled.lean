/-! The tree of a process at its end: where a statement is come to instead. -/
section ZH3
variable {I : Nat → Int32} {J : Nat → Int64} {B : Nat → Nat → Int32} {D : Nat → Nat → Int64} {I9 : Nat → Int32} {J9 : Nat → Int64} {B9 : Nat → Nat → Int32} {D9 : Nat → Nat → Int64}
theorem pigeon : ∀ (n : Nat) (f : Nat → Nat), (∀ i, i ≤ n → f i < n) → ∃ i j, i < j ∧ j ≤ n ∧ f i = f j := by
  intro n
  induction n with
  | zero => intro f h; have := h 0 (by omega); omega
  | succ n ih =>
    intro f h
    by_cases g : ∃ i, i ≤ n ∧ f i = f (n + 1)
    · obtain ⟨i, hi, e⟩ := g
      exact ⟨i, n + 1, by omega, by omega, e⟩
    · have hne : ∀ i, i ≤ n → ¬ f i = f (n + 1) := fun i hi e => g ⟨i, hi, e⟩
      have hb := h (n + 1) (by omega)
      obtain ⟨i, j, h1, h2, h3⟩ := ih (fun i => if f (n + 1) < f i then f i - 1 else f i) (by
        intro i hi
        have a := h i (by omega)
        have b := hne i hi
        show (if f (n + 1) < f i then f i - 1 else f i) < n
        split <;> omega)
      refine ⟨i, j, h1, by omega, ?_⟩
      have a := hne i (by omega)
      have b := hne j h2
      split at h3 <;> split at h3 <;> omega
abbrev isS (B : Nat → Nat → Int32) (x : Int32) : Prop := x < 0 ∨ ¬ (B 18 x.toNatClampNeg = 3 ∨ B 18 x.toNatClampNeg = 4 ∨ B 18 x.toNatClampNeg = 5)
def stp (B : Nat → Nat → Int32) (x : Int32) : Int32 := if B 18 x.toNatClampNeg = 3 then B 24 x.toNatClampNeg else if B 18 x.toNatClampNeg = 4 then beh B (B 20 x.toNatClampNeg) else B 28 (B 26 x.toNatClampNeg).toNatClampNeg
def run (B : Nat → Nat → Int32) : Nat → Int32 → Int32
  | 0, x => x
  | m + 1, x => if isS B x then x else run B m (stp B x)
def sv (B : Nat → Nat → Int32) : Nat → Int32 → Int32
  | 0, _ => -4
  | m + 1, x => if isS B x then x else sv B m (stp B x)
def sv9 (B : Nat → Nat → Int32) : Nat → Int32 → Int32
  | 0, _ => -4
  | m + 1, x => if isS B x then x else if stp B x = -3 then -3 else sv9 B m (stp B x)
def okX (x : Int32) (sz : Nat) : Prop := x = -2 ∨ x = -3 ∨ ∃ k, k < sz ∧ x = nI k
theorem run_S {x : Int32} (h : isS B x) : ∀ m, run B m x = x := by
  intro m
  cases m with
  | zero => rfl
  | succ m => simp only [run]; rw [if_pos h]
theorem run_add : ∀ (a b : Nat) (x : Int32), run B (a + b) x = run B b (run B a x) := by
  intro a
  induction a with
  | zero => intro b x; rw [Nat.zero_add]; rfl
  | succ a ih =>
    intro b x
    by_cases h : isS B x
    · rw [run_S h, run_S h, run_S h]
    · have e1 : run B (a + 1 + b) x = run B (a + b) (stp B x) := by
        have : a + 1 + b = (a + b) + 1 := by omega
        rw [this]; simp only [run]; rw [if_neg h]
      have e2 : run B (a + 1) x = run B a (stp B x) := by simp only [run]; rw [if_neg h]
      rw [e1, e2]; exact ih b _
theorem sv_run : ∀ (m : Nat) (x : Int32), sv B (m + 1) x = if isS B (run B m x) then run B m x else -4 := by
  intro m
  induction m with
  | zero => intro x; rfl
  | succ m ih =>
    intro x
    rw [sv]
    by_cases h : isS B x
    · rw [if_pos h, run_S h, if_pos h]
    · have e2 : run B (m + 1) x = run B m (stp B x) := by simp only [run]; rw [if_neg h]
      rw [if_neg h, ih, e2]
theorem TT.loop {sz : Nat} (hT : TT sz B) {k : Nat} (hk : k < sz) (h4 : B 18 k = 4) : ∃ j, j < sz ∧ B 20 k = nI j := by
  obtain ⟨hz, dp, hT, hl⟩ := hT
  have key : ∀ (m k : Nat), k < sz → dp k ≤ m → okI (B 20 k) sz := by
    intro m
    induction m with
    | zero =>
      intro k hk hd
      obtain ⟨⟨t1, t2, t3, t4⟩, _⟩ := hT k hk
      rcases t1 with w | ⟨j, hj, e, ed, _⟩
      · left; rw [t3, w.1]; rfl
      · omega
    | succ m ih =>
      intro k hk hd
      obtain ⟨⟨t1, t2, t3, t4⟩, _⟩ := hT k hk
      rcases t1 with w | ⟨j, hj, e, ed, _⟩
      · left; rw [t3, w.1]; rfl
      · have hr := ih j (by omega) (by omega)
        rw [t3, e]
        unfold lpi
        rw [if_neg (nI_m1 (by omega)), clI (x := nI j) rfl (by omega)]
        by_cases g : B 18 j = 2
        · rw [if_pos g]; exact Or.inr ⟨j, by omega, rfl⟩
        · rw [if_neg g]; exact hr
  obtain ⟨⟨t1, t2, t3, t4, t5, t6, t7⟩, _⟩ := hT k hk
  have := key _ k hk (Nat.le_refl _)
  refine this.at ?_
  rw [t3]; exact t6 h4
theorem okX_S {x : Int32} {sz : Nat} (h : okX x sz) (hz : sz ≤ 140) (hs : ¬ isS B x) : ∃ k, k < sz ∧ x = nI k ∧ (B 18 k = 3 ∨ B 18 k = 4 ∨ B 18 k = 5) := by
  rcases h with w | w | ⟨k, hk, e⟩
  · exact absurd (Or.inl (by rw [w]; decide)) hs
  · exact absurd (Or.inl (by rw [w]; decide)) hs
  · refine ⟨k, hk, e, ?_⟩
    have := Classical.not_not.mp (fun z => hs (Or.inr z))
    rw [clI e (by omega)] at this; exact this
theorem stp_ok {x : Int32} {sz : Nat} (hT : TT sz B) (h : okX x sz) (hs : ¬ isS B x) : okX (stp B x) sz := by
  obtain ⟨k, hk, e, hkd⟩ := okX_S h hT.1 hs
  have hz := hT.1
  have hT0 := hT
  obtain ⟨_, dp, hTk, hl⟩ := hT0
  obtain ⟨t, a, kd, hj⟩ := hTk k hk
  unfold stp
  rw [clI e (by omega)]
  by_cases g3 : B 18 k = 3
  · rw [if_pos g3]
    rcases a g3 with w | ⟨_, _, w⟩
    · exact Or.inr (Or.inr ⟨k + 1, w.1, w.2⟩)
    · simp at w
  · rw [if_neg g3]
    by_cases g4 : B 18 k = 4
    · rw [if_pos g4]
      obtain ⟨j, hj, ej⟩ := hT.loop hk g4
      rcases beh_ok hT (x := B 20 k) (Or.inr ⟨j, hj, ej⟩) with w | w
      · exact Or.inl w
      · exact Or.inr (Or.inr w)
    · rw [if_neg g4]
      obtain ⟨l, hl8, el⟩ := hj (by rcases hkd with z | z | z; exact absurd z g3; exact absurd z g4; exact z)
      rw [clI el (by omega)]
      rcases hl l hl8 with w | w
      · exact Or.inr (Or.inl w)
      · exact Or.inr (Or.inr w)
theorem run_ok {sz : Nat} (hT : TT sz B) : ∀ (m : Nat) (x : Int32), okX x sz → okX (run B m x) sz := by
  intro m
  induction m with
  | zero => intro x h; exact h
  | succ m ih =>
    intro x h
    simp only [run]
    by_cases g : isS B x
    · rw [if_pos g]; exact h
    · rw [if_neg g]; exact ih _ (stp_ok hT h g)
theorem run_mono {a b : Nat} {x : Int32} (h : isS B (run B a x)) (hab : a ≤ b) : run B b x = run B a x := by
  obtain ⟨d, rfl⟩ : ∃ d, b = a + d := ⟨b - a, by omega⟩
  rw [run_add]; exact run_S h d
/-- no end in as many steps as there are statements: none at all -/
theorem run_never {sz : Nat} (hT : TT sz B) {x : Int32} (hx : okX x sz) (h : ¬ isS B (run B sz x)) : ∀ m, ¬ isS B (run B m x) := by
  have hle : ∀ m, m ≤ sz → ¬ isS B (run B m x) := fun m hm z => h (by rw [run_mono z hm]; exact z)
  have hk : ∀ m, m ≤ sz → ∃ k, k < sz ∧ run B m x = nI k := fun m hm => by
    obtain ⟨k, hk, e, _⟩ := okX_S (run_ok hT m x hx) hT.1 (hle m hm)
    exact ⟨k, hk, e⟩
  have hz := hT.1
  obtain ⟨i, j, hij, hj, e⟩ := pigeon sz (fun m => (run B m x).toNatClampNeg) (fun m hm => by
    obtain ⟨k, hk, e⟩ := hk m hm
    show (run B m x).toNatClampNeg < sz
    rw [clI e (by omega)]; exact hk)
  have e2 : run B i x = run B j x := by
    obtain ⟨k, hk1, e1⟩ := hk i (by omega)
    obtain ⟨k', hk2, e2⟩ := hk j hj
    rw [clI e1 (by omega), clI e2 (by omega)] at e
    rw [e1, e2, e]
  intro m
  induction m using Nat.strongRecOn with
  | _ m ih =>
    by_cases g : m ≤ sz
    · exact hle m g
    · have e3 : run B m x = run B (i + (m - j)) x := by
        have : m = j + (m - j) := by omega
        rw [this, run_add, ← e2, ← run_add]; congr 1; omega
      rw [e3]; exact ih _ (by omega)
def stl (B : Nat → Nat → Int32) (sz : Nat) (x : Int32) : Int32 := sv B (sz + 1) x
theorem sv_st {sz : Nat} (hT : TT sz B) {x : Int32} (hx : okX x sz) {m : Nat} (hm : sz ≤ m) : sv B (m + 1) x = stl B sz x := by
  unfold stl
  rw [sv_run, sv_run]
  by_cases g : isS B (run B sz x)
  · rw [run_mono g hm]
  · rw [if_neg g, if_neg (run_never hT hx g m)]
theorem sv9_sv : ∀ (m : Nat) (x : Int32), sv9 B m x = sv B m x ∨ sv9 B m x = sv B (m + 1) x := by
  intro m
  induction m with
  | zero => intro x; exact Or.inl rfl
  | succ m ih =>
    intro x
    rw [sv9, sv, sv]
    by_cases h : isS B x
    · rw [if_pos h, if_pos h]; exact Or.inl rfl
    · rw [if_neg h, if_neg h, if_neg h]
      by_cases g : stp B x = -3
      · right
        rw [if_pos g, g]
        have : isS B (-3) := Or.inl (by decide)
        rw [sv, if_pos this]
      · rw [if_neg g]; exact ih _
theorem sv9_st {sz : Nat} (hT : TT sz B) {x : Int32} (hx : okX x sz) {m : Nat} (hm : sz ≤ m) : sv9 B (m + 1) x = stl B sz x := by
  rcases sv9_sv (B := B) (m + 1) x with h | h
  · rw [h]; exact sv_st hT hx hm
  · rw [h]; exact sv_st hT hx (by omega)
theorem stl_ok {sz : Nat} (hT : TT sz B) {x : Int32} (hx : okX x sz) : stl B sz x = -4 ∨ stl B sz x = -3 ∨ stl B sz x = -2 ∨ ∃ k, k < sz ∧ stl B sz x = nI k ∧ (B 18 k = 0 ∨ B 18 k = 1 ∨ B 18 k = 2) := by
  unfold stl
  rw [sv_run]
  by_cases g : isS B (run B sz x)
  · rw [if_pos g]
    rcases run_ok hT sz x hx with w | w | ⟨k, hk, e⟩
    · exact Or.inr (Or.inr (Or.inl w))
    · exact Or.inr (Or.inl w)
    · right; right; right
      refine ⟨k, hk, e, ?_⟩
      have hz := hT.1
      obtain ⟨_, dp, hTk, _⟩ := hT
      obtain ⟨_, _, kd, _⟩ := hTk k hk
      rcases g with w | w
      · rw [e] at w; exact absurd w (nI_pos (by omega))
      · rw [e, clI (x := nI k) rfl (by omega)] at w
        rcases kd with z | z | z | z | z | z
        · exact Or.inl z
        · exact Or.inr (Or.inl z)
        · exact Or.inr (Or.inr z)
        · exact absurd (Or.inl z) w
        · exact absurd (Or.inr (Or.inl z)) w
        · exact absurd (Or.inr (Or.inr z)) w
  · rw [if_neg g]; exact Or.inl rfl
/-- the class's loop -/
theorem q_settled_l {Post : Int32 → (Nat → Int32) → (Nat → Int64) → (Nat → Nat → Int32) → (Nat → Nat → Int64) → Prop} {a0 : Int32} {sz : Nat} (hT : TT sz B) : ∀ (m i : Nat) (x : Int32), okX x sz → i + m = 241 → Post (sv B m x) I J B D → wl_Tree_settled_4 a0 Post (m + 1) x (nI i) I J B D := by
  have hz := hT.1
  intro m
  induction m with
  | zero =>
    intro i x hx hi h
    refine ⟨fun _ => h, fun z => absurd ?_ z⟩
    rw [ltI (x := 240) (a := 240) rfl (y := nI i) rfl (by omega) (by omega)]; omega
  | succ m ih =>
    intro i x hx hi h
    refine ⟨fun z => ?_, fun _ => ⟨fun g => ?_, fun g => ?_⟩⟩
    · rw [ltI (x := 240) (a := 240) rfl (y := nI i) rfl (by omega) (by omega)] at z; omega
    · rw [sv] at h
      obtain ⟨k, hk, e⟩ : ∃ k, k < sz ∧ x = nI k := by
        rcases hx with w | w | w
        · rw [w] at g; exact absurd g (by decide)
        · rw [w] at g; exact absurd g (by decide)
        · exact w
      have hv : vp_in x 240 := vin2 e (by omega) (by omega)
      have hc : x.toNatClampNeg = k := clI e (by omega)
      have hrec : ¬ isS B x → ∀ y, y = stp B x → wc_Tree_settled_89 a0 (wl_Tree_settled_4 a0 Post (m + 1)) Post y (nI i) I J B D := by
        intro hs y ey z1 e1
        rw [if_neg hs] at h
        rw [inI rfl e1, ey]
        exact ih (i + 1) _ (stp_ok hT hx hs) (by omega) h
      have hn : (B 18 k = 3 ∨ B 18 k = 4 ∨ B 18 k = 5) → ¬ isS B x := by
        rintro w (z | z)
        · rw [e] at z; exact absurd z (nI_pos (by omega))
        · rw [hc] at z; exact z w
      have hT0 := hT
      obtain ⟨_, dp, hTk, hl⟩ := hT0
      refine ⟨hv, fun z4 e4 => ?_⟩
      rw [hc] at e4 ⊢
      refine ⟨fun g2 => ⟨hv, fun z6 e6 => hrec (hn (Or.inl (by rw [← e4]; exact g2))) _ ?_⟩, fun g2 => ⟨hv, fun z8 e8 => ?_⟩, fun g2 => ⟨hv, fun z11 e11 => ?_⟩, fun g2 g3 g4 => ?_⟩
      · rw [e6]; unfold stp; rw [hc, if_pos (by rw [← e4]; exact g2)]
      · have g4 : B 18 k = 4 := by rw [← e4]; exact g2
        obtain ⟨j, hj, ej⟩ := hT.loop hk g4
        refine q_behind hT (x := z8) (sz := sz) (Or.inr ⟨j, hj, by rw [e8]; exact ej⟩) ?_
        refine hrec (hn (Or.inr (Or.inl g4))) _ ?_
        unfold stp
        rw [hc, if_neg (by rw [g4]; decide), if_pos g4, e8]
      · have g5 : B 18 k = 5 := by rw [← e4]; exact g2
        obtain ⟨l, hl8, el⟩ := (hTk k hk).2.2.2 g5
        refine ⟨vin2 (e11.trans el) (by omega) (by omega), fun z12 e12 => ?_⟩
        refine hrec (hn (Or.inr (Or.inr g5))) _ ?_
        unfold stp
        rw [hc, if_neg (by rw [g5]; decide), if_neg (by rw [g5]; decide), e12, e11]
      · have : isS B x := Or.inr (by rw [hc, ← e4]; rintro (z | z | z); exact g2 z; exact g3 z; exact g4 z)
        rw [if_pos this] at h; exact h
    · rw [sv, if_pos (Or.inl (Int32.not_le.mp g))] at h; exact h
theorem q_settled {Post : Int32 → (Nat → Int32) → (Nat → Int64) → (Nat → Nat → Int32) → (Nat → Nat → Int64) → Prop} {x : Int32} {sz : Nat} (hT : TT sz B) (hx : okX x sz) (h : Post (stl B sz x) I J B D) : wp_Tree_settled I J B D x Post := by
  refine ⟨242, ?_⟩
  refine q_settled_l (i := 0) hT 241 x hx (by omega) ?_
  rw [sv_st hT hx (m := 240) (by have := hT.1; omega)]; exact h
end ZH3
