/-! States and steps, apart from both; the class adds a step. -/
section ZK3
variable {I : Nat → Int32} {J : Nat → Int64} {B : Nat → Nat → Int32} {D : Nat → Nat → Int64}
/-- states, their contents; steps: from, to, who, with whom; a state's first step -/
abbrev zG : Type := Nat × (Nat → zCf) × Nat × (Nat → Nat) × (Nat → Nat) × (Nat → Int32) × (Nat → Int32) × (Nat → Nat)
abbrev gN (X : zG) : Nat := X.1
abbrev gK (X : zG) : Nat → zCf := X.2.1
abbrev gM (X : zG) : Nat := X.2.2.1
abbrev gS (X : zG) : Nat → Nat := X.2.2.2.1
abbrev gT (X : zG) : Nat → Nat := X.2.2.2.2.1
abbrev gD (X : zG) : Nat → Int32 := X.2.2.2.2.2.1
abbrev gR (X : zG) : Nat → Int32 := X.2.2.2.2.2.2.1
abbrev gF (X : zG) : Nat → Nat := X.2.2.2.2.2.2.2
def fnd (e : Nat → Bool) : Nat → Nat → Nat
  | 0, q => q
  | m + 1, q => if e q = true then q else fnd e m (q + 1)
theorem fnd_le (e : Nat → Bool) : ∀ m q, q ≤ fnd e m q ∧ fnd e m q ≤ q + m ∧ (fnd e m q < q + m → e (fnd e m q) = true) ∧ (∀ j, q ≤ j → j < fnd e m q → e j = false) := by
  intro m
  induction m with
  | zero => intro q; exact ⟨Nat.le_refl _, Nat.le_refl _, fun h => by simp [fnd] at h, fun j h1 h2 => by simp [fnd] at h2; omega⟩
  | succ m ih =>
    intro q
    unfold fnd
    split
    · rename_i g; exact ⟨Nat.le_refl _, by omega, fun _ => g, fun j h1 h2 => by omega⟩
    · rename_i g
      obtain ⟨a1, a2, a3, a4⟩ := ih (q + 1)
      refine ⟨by omega, by omega, fun h => a3 (by omega), fun j h1 h2 => ?_⟩
      by_cases e1 : j = q
      · subst e1; simpa using g
      · exact a4 j (by omega) h2
def upK (f : Nat → zCf) (k : Nat) (c : zCf) : Nat → zCf := fun j => if j = k then c else f j
def fne (d : zD) (X : zG) (c : zCf) (t : Nat) : Bool := decide (packC d.2.1 d.2.2.1 (gK X t) = packC d.2.1 d.2.2.1 c)
def fn (d : zD) (X : zG) (c : zCf) : Nat := fnd (fne d X c) (gN X) 0
def ent (d : zD) (X : zG) (c : zCf) : Option (zG × Nat) := if fn d X c = gN X then (if gN X = 96 then none else some ((gN X + 1, upK (gK X) (gN X) c, X.2.2), gN X)) else some (X, fn d X c)
def adds (X : zG) (s t : Nat) (b r : Int32) : Option zG := if gM X = 400 then none else some (gN X, gK X, gM X + 1, upn (gS X) (gM X) s, upn (gT X) (gM X) t, upd (gD X) (gM X) b, upd (gR X) (gM X) r, gF X)
def stG (d : zD) (Q : zQ) (X : zG) (s b : Nat) (r : Option Nat) : Option zG := (ent d X (act d Q (gK X s) b r)).bind (fun y => adds y.1 s y.2 (nI b) (oI r))
def XI (d : zD) (Q : zQ) (X : zG) : Prop := gN X ≤ 96 ∧ gM X ≤ 400 ∧ (∀ t, t < gN X → WC d Q (gK X t)) ∧ (∀ t t', t < gN X → t' < gN X → gK X t = gK X t' → t = t') ∧ (∀ j, j < gM X → gS X j < gN X ∧ gT X j < gN X)
theorem fne_iff {d : zD} {Q : zQ} {X : zG} {c : zCf} (hW : QW d Q) (hX : XI d Q X) (hc : WC d Q c) {t : Nat} (ht : t < gN X) : fne d X c t = true ↔ gK X t = c := by
  unfold fne
  rw [decide_eq_true_eq]
  exact ⟨fun e => packC_inj (hX.2.2.1 t ht).1 hc.1 hW.1 e, fun e => by rw [e]⟩
/-- a state is entered -/
theorem ent_ok {d : zD} {Q : zQ} {X X' : zG} {c : zCf} {t : Nat} (hW : QW d Q) (hX : XI d Q X) (hc : WC d Q c) (h : ent d X c = some (X', t)) : XI d Q X' ∧ t < gN X' ∧ gK X' t = c ∧ gN X ≤ gN X' ∧ (∀ j, j < gN X → gK X' j = gK X j) ∧ X'.2.2 = X.2.2 := by
  obtain ⟨f1, f2, f3, f4⟩ := fnd_le (fne d X c) (gN X) 0
  unfold ent at h
  obtain ⟨x1, x2, x3, x4, x5⟩ := hX
  split at h
  · rename_i g
    split at h
    · exact absurd h (by simp)
    · rename_i g2
      injection h with h
      injection h with h1 h2
      subst h1; subst h2
      have gf : fnd (fne d X c) (gN X) 0 = gN X := g
      refine ⟨⟨by show gN X + 1 ≤ 96; omega, x2, fun t ht => ?_, fun t t' ht ht' e => ?_, fun j hj => ?_⟩, Nat.lt_succ_self _, by show upK (gK X) (gN X) c (gN X) = c; unfold upK; rw [if_pos rfl], Nat.le_succ _, fun j hj => ?_, rfl⟩
      · show WC d Q (upK (gK X) (gN X) c t)
        unfold upK; split
        · exact hc
        · exact x3 t (by have : t < gN X + 1 := ht; omega)
      · have a1 : t < gN X + 1 := ht
        have a2 : t' < gN X + 1 := ht'
        have ee : upK (gK X) (gN X) c t = upK (gK X) (gN X) c t' := e
        unfold upK at ee
        have nt : ∀ j, j < gN X → ¬ gK X j = c := by
          intro j hj q
          have := f4 j (by omega) (by rw [gf]; exact hj)
          rw [(fne_iff hW ⟨x1, x2, x3, x4, x5⟩ hc hj).mpr q] at this
          exact absurd this (by decide)
        by_cases e1 : t = gN X
        · by_cases e2 : t' = gN X
          · omega
          · rw [if_pos e1, if_neg e2] at ee; exact absurd ee.symm (nt t' (by omega))
        · by_cases e2 : t' = gN X
          · rw [if_neg e1, if_pos e2] at ee; exact absurd ee (nt t (by omega))
          · rw [if_neg e1, if_neg e2] at ee; exact x4 t t' (by omega) (by omega) ee
      · have := x5 j hj
        exact ⟨Nat.lt_succ_of_lt this.1, Nat.lt_succ_of_lt this.2⟩
      · have : ¬ j = gN X := by omega
        show upK (gK X) (gN X) c j = gK X j
        unfold upK; rw [if_neg this]
  · rename_i g
    injection h with h
    injection h with h1 h2
    subst h1; subst h2
    have g' : ¬ fnd (fne d X c) (gN X) 0 = gN X := g
    have lt : fn d X c < gN X := by unfold fn; omega
    exact ⟨⟨x1, x2, x3, x4, x5⟩, lt, (fne_iff hW ⟨x1, x2, x3, x4, x5⟩ hc lt).mp (f3 (by unfold fn at lt; omega)), Nat.le_refl _, fun _ _ => rfl, rfl⟩
theorem adds_ok {d : zD} {Q : zQ} {X X' : zG} {s t : Nat} {b r : Int32} (hX : XI d Q X) (hs : s < gN X) (ht : t < gN X) (h : adds X s t b r = some X') : XI d Q X' ∧ gN X' = gN X ∧ gK X' = gK X ∧ gM X' = gM X + 1 ∧ gF X' = gF X := by
  unfold adds at h
  obtain ⟨x1, x2, x3, x4, x5⟩ := hX
  split at h
  · exact absurd h (by simp)
  · rename_i g
    injection h with h
    subst h
    refine ⟨⟨x1, by show gM X + 1 ≤ 400; omega, x3, x4, fun j hj => ?_⟩, rfl, rfl, rfl, rfl⟩
    have hj' : j < gM X + 1 := hj
    show upn (gS X) (gM X) s j < gN X ∧ upn (gT X) (gM X) t j < gN X
    unfold upn
    by_cases e : j = gM X
    · rw [if_pos e, if_pos e]; exact ⟨hs, ht⟩
    · rw [if_neg e, if_neg e]; exact x5 j (by omega)
/-- what a step leaves -/
def XE (X X' : zG) : Prop := gN X ≤ gN X' ∧ (∀ j, j < gN X → gK X' j = gK X j) ∧ gM X ≤ gM X' ∧ gF X' = gF X
theorem XE.rf {X : zG} : XE X X := ⟨Nat.le_refl _, fun _ _ => rfl, Nat.le_refl _, rfl⟩
theorem XE.tr {X Y Z : zG} (h : XE X Y) (g : XE Y Z) : XE X Z := ⟨by have := h.1; have := g.1; omega, fun j hj => (g.2.1 j (by have := h.1; omega)).trans (h.2.1 j hj), by have := h.2.2.1; have := g.2.2.1; omega, g.2.2.2.trans h.2.2.2⟩
theorem stG_ok {d : zD} {Q : zQ} {X X' : zG} {s b : Nat} {r : Option Nat} (hW : QW d Q) (hX : XI d Q X) (hs : s < gN X) (hd : dn Q (gK X s) b r) (h : stG d Q X s b r = some X') : XI d Q X' ∧ XE X X' ∧ gM X' = gM X + 1 := by
  unfold stG at h
  cases e : ent d X (act d Q (gK X s) b r) with
  | none => rw [e] at h; exact absurd h (by simp)
  | some y =>
    rw [e] at h
    obtain ⟨Y, t⟩ := y
    obtain ⟨a1, a2, a3, a4, a5, a6⟩ := ent_ok hW hX (WC_act hW (hX.2.2.1 s hs) hd) e
    obtain ⟨b1, b2, b3, b4, b5⟩ := adds_ok a1 (by omega) a2 h
    have m1 : gM Y = gM X := by unfold gM; rw [a6]
    have f1 : gF Y = gF X := by unfold gF; rw [a6]
    exact ⟨b1, ⟨by omega, fun j hj => by rw [b3]; exact a5 j hj, by omega, by rw [b5, f1]⟩, by omega⟩
/-- the class keeps the graph -/
def CG (d : zD) (X : zG) (I : Nat → Int32) (B : Nat → Nat → Int32) (D : Nat → Nat → Int64) : Prop := I 19 = nI (gN X) ∧ I 20 = nI (gM X) ∧ (∀ t, t < gN X → D 2 t = lN (packC d.2.1 d.2.2.1 (gK X t))) ∧ (∀ j, j < gM X → B 33 j = nI (gS X j) ∧ B 34 j = nI (gT X j) ∧ B 35 j = gD X j ∧ B 36 j = gR X j)
def FY (I : Nat → Int32) (B : Nat → Nat → Int32) (D : Nat → Nat → Int64) (I' : Nat → Int32) (B' : Nat → Nat → Int32) (D' : Nat → Nat → Int64) : Prop := (∀ k, k ∉ [18, 19, 20] → I' k = I k) ∧ (∀ k, k ∉ [17, 29, 30, 31, 33, 34, 35, 36] → B' k = B k) ∧ (∀ k, k ≠ 2 → D' k = D k)
theorem FY.rf : FY I B D I B D := ⟨fun _ _ => rfl, fun _ _ => rfl, fun _ _ => rfl⟩
theorem FY.tr {I1 I2 : Nat → Int32} {B1 B2 : Nat → Nat → Int32} {D1 D2 : Nat → Nat → Int64} (h : FY I B D I1 B1 D1) (g : FY I1 B1 D1 I2 B2 D2) : FY I B D I2 B2 D2 := ⟨fun k hk => (g.1 k hk).trans (h.1 k hk), fun k hk => (g.2.1 k hk).trans (h.2.1 k hk), fun k hk => (g.2.2 k hk).trans (h.2.2 k hk)⟩
theorem FY.fx {I1 : Nat → Int32} {B1 : Nat → Nat → Int32} {D1 : Nat → Nat → Int64} (h : FY I B D I1 B1 D1) : FX I J B D I1 J B1 D1 := ⟨h.1, fun _ _ => rfl, fun k hk => h.2.1 k (by simp at hk ⊢; omega), h.2.2⟩
theorem lN_inj {a b : Nat} (ha : a < 2 ^ 63) (hb : b < 2 ^ 63) (h : lN a = lN b) : a = b := by
  have := congrArg (fun x => x.toBitVec.toNat) h
  simp only [lN_bv, BitVec.toNat_ofNat] at this
  rw [Nat.mod_eq_of_lt (by omega), Nat.mod_eq_of_lt (by omega)] at this
  exact this
theorem packC_lt {d : zD} {Q : zQ} {c : zCf} (hN : NC d) (hW : QW d Q) (hc : WC d Q c) : packC d.2.1 d.2.2.1 c < 2 ^ 63 := (packC_b hc.1 hN.1 hN.2.1 hW.1).2.2 _ (Nat.le_refl _)
theorem q_enter {Post : Int32 → (Nat → Int32) → (Nat → Int64) → (Nat → Nat → Int32) → (Nat → Nat → Int64) → Prop} {d : zD} {Q : zQ} {X : zG} {c : zCf} (hN : NC d) (hW : QW d Q) (hX : XI d Q X) (hc : WC d Q c) (hG : CG d X I B D) (h0 : ent d X c = none → Post (-1) I J B D) (h1 : ∀ X' t I' D', ent d X c = some (X', t) → CG d X' I' B D' → (∀ k, k ≠ 19 → I' k = I k) → (∀ k, k ≠ 2 → D' k = D k) → Post (nI t) I' J B D') : wp_Graph_enter I J B D (lN (packC d.2.1 d.2.2.1 c)) Post := by
  obtain ⟨g19, g20, gk, gs⟩ := hG
  have x1 := hX.1
  have lp : ∀ (m q : Nat) (a0 : Int64), q + m = gN X → fnd (fne d X c) m q = fn d X c → wl_Graph_enter_2 a0 Post (m + 1) (lN (packC d.2.1 d.2.2.1 c)) (nI q) I J B D := by
    intro m
    induction m with
    | zero =>
      intro q a0 hq hf
      have e : q = gN X := by omega
      subst e
      have hfn : fn d X c = gN X := hf.symm
      refine ⟨fun _ => ⟨fun g => ?_, fun g => h0 ?_⟩, fun z => absurd ((leI g19 (y := nI (gN X)) rfl (by omega) (by omega)).mpr (Nat.le_refl _)) z⟩
      · have n96 : ¬ gN X = 96 := fun e => g (by rw [g19, e]; rfl)
        refine ⟨vin2 g19 (by omega) (by omega), fun z3 e3 z4 e4 => ?_⟩
        have n3 := inI g19 e3
        have n4 := deI n3 e4
        rw [n4, n3]
        have he : ent d X c = some ((gN X + 1, upK (gK X) (gN X) c, X.2.2), gN X) := by unfold ent; rw [if_pos hfn, if_neg n96]
        refine h1 _ _ _ _ he ⟨by simp [upd], by simp [upd]; exact g20, fun t ht => ?_, gs⟩ (fun k hk => by simp [upd, hk]) (fun k hk => by simp [va_up, hk])
        have ht' : t < gN X + 1 := ht
        rw [clI g19 (by omega)]
        show (va_up D 2 (vp_updL (D 2) (gN X) (lN (packC d.2.1 d.2.2.1 c)))) 2 t = lN (packC d.2.1 d.2.2.1 (upK (gK X) (gN X) c t))
        by_cases e : t = gN X
        · subst e; simp [va_up, vp_updL, upK]
        · simp [va_up, vp_updL, upK, e]; exact gk t (by omega)
      · have n96 : gN X = 96 := (eqI g19 (y := 96) (b := 96) rfl (by omega) (by omega)).mp g
        unfold ent; rw [if_pos hfn, if_pos n96]
    | succ m ih =>
      intro q a0 hq hf
      refine ⟨fun z => ?_, fun _ => ⟨vin2 rfl (by omega) (by omega), fun z5 e5 z6 e6 => ?_⟩⟩
      · have := (leI g19 (y := nI q) rfl (by omega) (by omega)).mp z; omega
      rw [clI rfl (by omega), gk q (by omega)] at e5
      rw [e5] at e6
      have hz : z6 = 0 ↔ fne d X c q = true := by
        rw [e6, cmp0, fne_iff hW hX hc (by omega)]
        constructor
        · intro e
          exact packC_inj (hX.2.2.1 q (by omega)).1 hc.1 hW.1 (lN_inj (packC_lt hN hW (hX.2.2.1 q (by omega))) (packC_lt hN hW hc) e)
        · intro e; rw [e]
      refine ⟨fun g z8 e8 => ?_, fun g => ?_⟩
      · rw [inI rfl e8]
        refine ih (q + 1) a0 (by omega) ?_
        rw [← hf, fnd, if_neg (fun e => g (hz.mpr e))]
      · have hfq : fn d X c = q := by rw [← hf, fnd, if_pos (hz.mp g)]
        have he : ent d X c = some (X, q) := by unfold ent; rw [hfq, if_neg (by omega)]
        exact h1 X q I D he ⟨g19, g20, gk, gs⟩ (fun _ _ => rfl) (fun _ _ => rfl)
  exact ⟨gN X + 1, lp (gN X) 0 _ (by omega) rfl⟩
theorem q_add {Post : Int32 → (Nat → Int32) → (Nat → Int64) → (Nat → Nat → Int32) → (Nat → Nat → Int64) → Prop} {d : zD} {X : zG} {s t : Nat} {b r : Int32} (hm : gM X ≤ 400) (hG : CG d X I B D) (h0 : adds X s t b r = none → Post 0 I J B D) (h1 : ∀ X' I' B', adds X s t b r = some X' → CG d X' I' B' D → (∀ k, k ≠ 20 → I' k = I k) → (∀ k, k ∉ [33, 34, 35, 36] → B' k = B k) → Post 1 I' J B' D) : wp_Graph_add I J B D (nI s) (nI t) b r Post := by
  obtain ⟨g19, g20, gk, gs⟩ := hG
  refine ⟨fun g => ?_, fun g => h0 ?_⟩
  · have n4 : ¬ gM X = 400 := fun e => g (by rw [g20, e]; rfl)
    have v := vin2 (n := 400) g20 (by omega) (by omega)
    refine ⟨v, v, v, v, fun z2 e2 => ?_⟩
    have n2 := inI g20 e2
    rw [clI g20 (by omega)]
    have ha : adds X s t b r = some (gN X, gK X, gM X + 1, upn (gS X) (gM X) s, upn (gT X) (gM X) t, upd (gD X) (gM X) b, upd (gR X) (gM X) r, gF X) := by unfold adds; rw [if_neg n4]
    refine h1 _ _ _ ha ⟨by simp [upd]; exact g19, by simp [upd]; exact n2, gk, fun j hj => ?_⟩ (fun k hk => by simp [upd, hk]) (fun k hk => by simp at hk; simp [va_up, hk])
    have hj' : j < gM X + 1 := hj
    show va_up (va_up (va_up (va_up B 33 (upd (B 33) (gM X) (nI s))) 34 (upd (B 34) (gM X) (nI t))) 35 (upd (B 35) (gM X) b)) 36 (upd (B 36) (gM X) r) 33 j = nI (upn (gS X) (gM X) s j) ∧ va_up (va_up (va_up (va_up B 33 (upd (B 33) (gM X) (nI s))) 34 (upd (B 34) (gM X) (nI t))) 35 (upd (B 35) (gM X) b)) 36 (upd (B 36) (gM X) r) 34 j = nI (upn (gT X) (gM X) t j) ∧ va_up (va_up (va_up (va_up B 33 (upd (B 33) (gM X) (nI s))) 34 (upd (B 34) (gM X) (nI t))) 35 (upd (B 35) (gM X) b)) 36 (upd (B 36) (gM X) r) 35 j = upd (gD X) (gM X) b j ∧ va_up (va_up (va_up (va_up B 33 (upd (B 33) (gM X) (nI s))) 34 (upd (B 34) (gM X) (nI t))) 35 (upd (B 35) (gM X) b)) 36 (upd (B 36) (gM X) r) 36 j = upd (gR X) (gM X) r j
    by_cases e : j = gM X
    · subst e; simp [va_up, upd, upn]
    · obtain ⟨a1, a2, a3, a4⟩ := gs j (by omega)
      simp [va_up, upd, upn, e, a1, a2, a3, a4]
  · have n4 : gM X = 400 := (eqI g20 (y := 400) (b := 400) rfl (by omega) (by omega)).mp g
    unfold adds; rw [if_pos n4]
def OUT (d : zD) (Q : zQ) (o : Option zG) (y : Int32) (I : Nat → Int32) (B : Nat → Nat → Int32) (D : Nat → Nat → Int64) : Prop := (o = none ∧ y = 0) ∨ ∃ X, o = some X ∧ y = 1 ∧ CG d X I B D ∧ XI d Q X
theorem q_addDone {Post : Int32 → (Nat → Int32) → (Nat → Int64) → (Nat → Nat → Int32) → (Nat → Nat → Int64) → Prop} {d : zD} {Q : zQ} {X : zG} {s b : Nat} {r : Option Nat} (hN : NC d) (hW : QW d Q) (hP : PC d Q I J B D) (hX : XI d Q X) (hG : CG d X I B D) (hs : s < gN X) (hd : dn Q (gK X s) b r) (h : ∀ y I' B' D', OUT d Q (stG d Q X s b r) y I' B' D' → FY I B D I' B' D' → Post y I' J B' D') : wp_Graph_addDone I J B D (nI s) (nI b) (oI r) Post := by
  have x1 := hX.1
  have hC := hX.2.2.1 s hs
  obtain ⟨g19, g20, gk, gs⟩ := hG
  refine ⟨vin2 rfl (by omega) (by omega), fun z1 e1 => ?_⟩
  rw [clI rfl (by omega), gk s hs] at e1
  rw [e1]
  refine q_unpack hN hP.1 hC.1 hW.1 (fun I2 B2 s2 f2 => ?_)
  have F2 : FY I B D I2 B2 D := ⟨fun k hk => f2.1 k (by simp at hk ⊢; omega), fun k hk => f2.2 k (by simp at hk ⊢; omega), fun _ _ => rfl⟩
  have P2 : PC d Q I2 J B2 D := hP.fx F2.fx
  refine q_perform hN hW P2 s2 hC hd (fun I3 B3 s3 i3 f3 => ?_)
  have F3 : FY I B D I3 B3 D := F2.tr ⟨fun k hk => i3 k (by simp at hk ⊢; omega), fun k hk => f3 k (by simp at hk ⊢; omega), fun _ _ => rfl⟩
  have P3 : PC d Q I3 J B3 D := hP.fx F3.fx
  have C3 := WC_act hW hC hd
  refine q_packed hN P3.1 C3.1 hW.1 s3 ?_
  have G3 : CG d X I3 B3 D := ⟨by rw [i3 19 (by decide), f2.1 19 (by decide)]; exact g19, by rw [i3 20 (by decide), f2.1 20 (by decide)]; exact g20, gk, fun j hj => by
    rw [f3 33 (by decide), f3 34 (by decide), f3 35 (by decide), f3 36 (by decide), f2.2 33 (by decide), f2.2 34 (by decide), f2.2 35 (by decide), f2.2 36 (by decide)]; exact gs j hj⟩
  refine q_enter hN hW hX C3 G3 (fun he => ⟨fun _ => ⟨Or.inl rfl, h 0 I3 B3 D (Or.inl ⟨by unfold stG; rw [he]; rfl, rfl⟩) F3⟩, fun g => absurd rfl g⟩) (fun X' t I4 D4 he G4 i4 d4 => ?_)
  obtain ⟨a1, a2, a3, a4, a5, a6⟩ := ent_ok hW hX C3 he
  have F4 : FY I B D I4 B3 D4 := F3.tr ⟨fun k hk => i4 k (by simp at hk ⊢; omega), fun _ _ => rfl, d4⟩
  have x2 := a1.1
  refine ⟨fun g => absurd g (nI_m1 (by omega)), fun g => ?_⟩
  have hst : stG d Q X s b r = adds X' s t (nI b) (oI r) := by unfold stG; rw [he]; rfl
  refine q_add a1.2.1 G4 (fun ha => ⟨fun _ => ⟨Or.inl rfl, h 0 I4 B3 D4 (Or.inl ⟨by rw [hst]; exact ha, rfl⟩) F4⟩, fun g => absurd rfl g⟩) (fun X2 I5 B5 ha G5 i5 f5 => ⟨fun g => absurd g (by decide), fun _ => ⟨Or.inr rfl, h 1 I5 B5 D4 (Or.inr ⟨X2, by rw [hst]; exact ha, rfl, G5, (adds_ok a1 (by omega) a2 ha).1⟩) (F4.tr ⟨fun k hk => i5 k (by simp at hk ⊢; omega), fun k hk => f5 k (by simp at hk ⊢; omega), fun _ _ => rfl⟩)⟩⟩)
end ZK3
