/-! The class closes a part. -/
section ZQ4
variable {I : Nat → Int32} {J : Nat → Int64} {B : Nat → Nat → Int32} {D : Nat → Nat → Int64}
/-- the steps that were added are those of s -/
def XA (s : Nat) (X X' : zG) : Prop := gM X ≤ gM X' ∧ (∀ j, j < gM X → gS X' j = gS X j) ∧ (∀ j, gM X ≤ j → j < gM X' → gS X' j = s)
theorem XA.rf {s : Nat} {X : zG} : XA s X X := ⟨Nat.le_refl _, fun _ _ => rfl, fun j h1 h2 => by omega⟩
theorem XA.tr {s : Nat} {X Y Z : zG} (h : XA s X Y) (g : XA s Y Z) : XA s X Z := ⟨Nat.le_trans h.1 g.1, fun j hj => (g.2.1 j (Nat.lt_of_lt_of_le hj h.1)).trans (h.2.1 j hj), fun j h1 h2 => by
  by_cases e : j < gM Y
  · rw [g.2.1 j e]; exact h.2.2 j h1 e
  · exact g.2.2 j (by omega) h2⟩
theorem adds_A {X X' : zG} {s t : Nat} {b r : Int32} (h : adds X s t b r = some X') : XA s X X' := by
  unfold adds at h
  split at h
  · exact absurd h (by simp)
  · injection h with h
    subst h
    refine ⟨Nat.le_succ _, fun j hj => upn_ne (by omega), fun j h1 h2 => ?_⟩
    have h2' : j < gM X + 1 := h2
    have : j = gM X := by omega
    subst this; exact upn_at _ _ _
theorem stG_A {d : zD} {Q : zQ} {X X' : zG} {s b : Nat} {r : Option Nat} (h : stG d Q X s b r = some X') : XA s X X' := by
  unfold stG at h
  cases e : ent d X (act d Q (gK X s) b r) with
  | none => rw [e] at h; exact absurd h (by simp)
  | some y =>
    rw [e] at h
    obtain ⟨Y, t⟩ := y
    have h' := adds_A (X := Y) (X' := X') h
    have e2 : Y.2.2 = X.2.2 := by
      unfold ent at e
      split at e
      · split at e
        · exact absurd e (by simp)
        · injection e with e; injection e with e _; rw [← e]
      · injection e with e; injection e with e _; rw [← e]
    have m1 : gM Y = gM X := by unfold gM; rw [e2]
    have s1 : gS Y = gS X := by unfold gS; rw [e2]
    unfold XA at h' ⊢
    rw [m1, s1] at h'; exact h'
theorem byL_A {d : zD} {Q : zQ} {s b : Nat} {c : zCf} : ∀ m r X X', byL d Q s b c m r X = some X' → XA s X X' := by
  intro m
  induction m with
  | zero => intro r X X' h; injection h with h; subst h; exact XA.rf
  | succ m ih =>
    intro r X X' h
    unfold byL at h
    split at h
    · cases e : stG d Q X s b (some r) with
      | none => rw [e] at h; exact absurd h (by simp)
      | some Y => rw [e] at h; exact (stG_A e).tr (ih _ _ _ h)
    · exact ih _ _ _ h
theorem by1_A {d : zD} {Q : zQ} {X X' : zG} {s b : Nat} (h : by1 d Q X s b = some X') : XA s X X' := by
  unfold by1 at h
  split at h
  · exact byL_A _ _ _ _ h
  · exact stG_A h
theorem ofL_A {d : zD} {Q : zQ} {s : Nat} {c : zCf} : ∀ m r X X', ofL d Q s c m r X = some X' → XA s X X' := by
  intro m
  induction m with
  | zero => intro r X X' h; injection h with h; subst h; exact XA.rf
  | succ m ih =>
    intro r X X' h
    unfold ofL at h
    split at h
    · cases e : by1 d Q X s r with
      | none => rw [e] at h; exact absurd h (by simp)
      | some Y => rw [e] at h; exact (by1_A e).tr (ih _ _ _ h)
    · exact ih _ _ _ h
theorem of1_A {d : zD} {Q : zQ} {X X' : zG} {s : Nat} (h : of1 d Q X s = some X') : XA s X X' := by
  unfold of1 at h
  cases e : ofL d Q s (gK X s) 48 0 X with
  | none => rw [e] at h; exact absurd h (by simp)
  | some Y =>
    rw [e] at h
    have h' : (if gM Y = gM X then adds Y s s (-1) (-1) else some Y) = some X' := h
    split at h'
    · exact (ofL_A _ _ _ _ e).tr (adds_A h')
    · injection h' with h'; subst h'; exact ofL_A _ _ _ _ e
/-- the steps of each state stand together -/
def XF (X : zG) (q : Nat) : Prop := (∀ j, j < gM X → gS X j < q ∧ gF X (gS X j) ≤ j ∧ j < gF X (gS X j + 1)) ∧ (∀ p, p < q → gF X p < gF X (p + 1)) ∧ (0 < q → gF X q = gM X) ∧ (q = 0 → gM X = 0)
theorem exG_F {d : zD} {Q : zQ} (hN : NC d) (hW : QW d Q) : ∀ m q X X', q + m = 96 → q ≤ gN X → XI d Q X → XF X q → exG d Q m q X = some X' → XI d Q X' ∧ XF X' (gN X') ∧ gN X ≤ gN X' ∧ (0 < q → gF X' 0 = gF X 0) ∧ (∀ j, j < gN X → gK X' j = gK X j) := by
  intro m
  induction m with
  | zero =>
    intro q X X' hq hqn hX hF h
    injection h with h
    subst h
    have := hX.1
    have e : q = gN X := by omega
    subst e
    exact ⟨hX, hF, Nat.le_refl _, fun _ => rfl, fun _ _ => rfl⟩
  | succ m ih =>
    intro q X X' hq hqn hX hF h
    unfold exG at h
    split at h
    · rename_i hlt
      cases e : of1 d Q X q with
      | none => rw [e] at h; exact absurd h (by simp)
      | some Y =>
        rw [e] at h
        obtain ⟨a1, a2, a3⟩ := of1_ok hN hW hX hlt e
        obtain ⟨b1, b2, b3⟩ := of1_A e
        obtain ⟨f1, f2, f3, f4⟩ := hF
        have hgq : gF X q = gM X ∨ q = 0 := by
          by_cases h0 : 0 < q
          · exact Or.inl (f3 h0)
          · exact Or.inr (by omega)
        have eF : ∀ p, p < q → upn (upn (gF X) q (gM X)) (q + 1) (gM Y) p = gF X p := fun p hp => by rw [upn_ne (by omega), upn_ne (by omega)]
        have eq : upn (upn (gF X) q (gM X)) (q + 1) (gM Y) q = gM X := by rw [upn_ne (by omega), upn_at]
        have eq1 : upn (upn (gF X) q (gM X)) (q + 1) (gM Y) (q + 1) = gM Y := upn_at _ _ _
        have eF' : ∀ p, p ≤ q → p < q ∨ p = q := fun p hp => by omega
        have val : ∀ p, p ≤ q → 0 < q → upn (upn (gF X) q (gM X)) (q + 1) (gM Y) p = gF X p := fun p hp h0 => by
          rcases eF' p hp with w | w
          · exact eF p w
          · subst w; rw [eq, f3 h0]
        have := ih (q + 1) (sF Y (upn (upn (gF X) q (gM X)) (q + 1) (gM Y))) X' (by omega) (by have := a2.1; show q + 1 ≤ gN Y; omega) a1 ⟨fun j hj => ?_, fun p hp => ?_, fun _ => eq1, fun z => by omega⟩ h
        · obtain ⟨r1, r2, r3, r4, r5⟩ := this
          refine ⟨r1, r2, Nat.le_trans a2.1 r3, fun h0 => ?_, fun j hj => ?_⟩
          · rw [r4 (by omega)]; exact val 0 (by omega) h0
          · rw [r5 j (Nat.lt_of_lt_of_le hj a2.1)]; exact a2.2.1 j hj
        · have hj' : j < gM Y := hj
          show gS Y j < q + 1 ∧ upn (upn (gF X) q (gM X)) (q + 1) (gM Y) (gS Y j) ≤ j ∧ j < upn (upn (gF X) q (gM X)) (q + 1) (gM Y) (gS Y j + 1)
          by_cases hjm : j < gM X
          · obtain ⟨c1, c2, c3⟩ := f1 j hjm
            rw [b2 j hjm]
            refine ⟨by omega, by rw [eF _ c1]; exact c2, ?_⟩
            rw [val _ (by omega) (by omega)]; exact c3
          · rw [b3 j (by omega) hj', eq, eq1]; exact ⟨by omega, by omega, hj'⟩
        · show upn (upn (gF X) q (gM X)) (q + 1) (gM Y) p < upn (upn (gF X) q (gM X)) (q + 1) (gM Y) (p + 1)
          by_cases hpq : p = q
          · subst hpq; rw [eq, eq1]; exact a3
          · rw [eF p (by omega), val (p + 1) (by omega) (by omega)]; exact f2 p (by omega)
    · rename_i hge
      injection h with h
      subst h
      have e : q = gN X := by omega
      subst e
      exact ⟨hX, hF, Nat.le_refl _, fun _ => rfl, fun _ _ => rfl⟩
theorem gall_F {d : zD} {Q : zQ} {X : zG} (hN : NC d) (hW : QW d Q) (h : gall d Q = some X) : XI d Q X ∧ XF X (gN X) ∧ 0 < gN X := by
  obtain ⟨a1, a2, a3, _⟩ := exG_F hN hW 96 0 (g0 d Q) X (by omega) (Nat.zero_le _) (XI_0 hN hW) ⟨fun j hj => absurd hj (Nat.not_lt_zero j), fun p hp => by omega, fun z => by omega, fun _ => rfl⟩ h
  have : 0 + 1 ≤ gN X := a3
  exact ⟨a1, a2, by omega⟩
theorem gF_mono {X : zG} {n : Nat} (h : XF X n) : ∀ a b, a ≤ b → b ≤ n → gF X a ≤ gF X b := by
  intro a b hab hb
  induction b with
  | zero => have : a = 0 := by omega
            subst this; exact Nat.le_refl _
  | succ b ih =>
    by_cases e : a = b + 1
    · subst e; exact Nat.le_refl _
    · have := ih (by omega) (by omega)
      have := h.2.1 b (by omega)
      omega
theorem gF_q {X : zG} {n : Nat} (h : XF X n) {j q : Nat} (hj : j < gM X) (hq : q < n) : (gF X q ≤ j ∧ j < gF X (q + 1)) ↔ gS X j = q := by
  obtain ⟨a1, a2, a3⟩ := h.1 j hj
  constructor
  · rintro ⟨b1, b2⟩
    rcases Nat.lt_trichotomy (gS X j) q with e | e | e
    · have := gF_mono h (gS X j + 1) q (by omega) (by omega); omega
    · exact e
    · have := gF_mono h (q + 1) (gS X j) (by omega) (by omega); omega
  · intro e; rw [e] at a2 a3; exact ⟨a2, a3⟩
/-- a spot leads to itself -/
theorem Ed_self {d : zD} {Q : zQ} {X : zG} {out : List zIt} (hX : XI d Q X) (h3 : ntm out ≤ 3) {v : Nat} : Ed (dgX X) (nbX d X out) v v ↔ (∃ j, j < gM X ∧ gS X j = v / 8 ∧ gT X j = v / 8) ∧ 8 * (v / 8) + bef (atv d (gK X (v / 8))) out (v % 8) = v := by
  constructor
  · rintro ⟨k, hk, e⟩
    obtain ⟨j1, j2, j3⟩ := jx_at (dg_k.mp hk)
    have nl := nb_lt (d := d) (out := out) hX h3 hk
    rw [e] at nl
    unfold nbX at e
    unfold cq at nl e
    refine ⟨⟨_, j1, nl.2.1.symm, j2⟩, ?_⟩
    rw [← nl.2.1] at e; exact e
  · rintro ⟨⟨j, h1, h2, h3'⟩, e⟩
    have hp : ps (gT X) (gM X) j = cl (gT X) (v / 8) (gM X) + ce (gT X) (v / 8) j := cl_ce h1 h3'
    have hlt := (ps_lt (f := gT X) h1).1
    rw [hp, h3'] at hlt
    refine ⟨ce (gT X) (v / 8) j, dg_k.mpr hlt, ?_⟩
    have hj : jx X (cq X v + ce (gT X) (v / 8) j) = j := lk_eq (x := ps (gT X) (gM X)) (gM X) h1 hp (fun a b ha hb e => ps_inj ha hb e)
    unfold nbX
    rw [hj, h2]; exact e
theorem q_leadsToItself {Post : Int32 → (Nat → Int32) → (Nat → Int64) → (Nat → Nat → Int32) → (Nat → Nat → Int64) → Prop} {d : zD} {Q : zQ} {X : zG} {out : List zIt} {v : Nat} (hR : SR d Q X out I B) (hF : XF X (gN X)) (hv : v < 8 * gN X) (h1 : Ed (dgX X) (nbX d X out) v v → Post 1 I J B D) (h0 : ¬ Ed (dgX X) (nbX d X out) v v → Post 0 I J B D) : wp_LassoSearch_leadsToItself I J B D (nI v) Post := by
  have x1 := hR.1.1
  have x2 := hR.1.2.1
  have hself := Ed_self (d := d) (out := out) (v := v) hR.1 hR.2.1
  have hq : v / 8 < gN X := by omega
  have hge := gF_mono hF (v / 8 + 1) (gN X) (by omega) (Nat.le_refl _)
  rw [hF.2.2.1 (by omega)] at hge
  intro z10 e10
  rw [div8 v (by omega)] at e10
  refine ⟨vin2 e10 (by omega) (by omega), fun z11 e11 => ?_⟩
  rw [clI e10 (by omega), hR.2.2.2.2.2.2.1 _ (by omega)] at e11
  rw [e10, e11]
  have lp : ∀ (m i : Nat), i + m = gF X (v / 8 + 1) → gF X (v / 8) ≤ i → (∀ j, gF X (v / 8) ≤ j → j < i → ¬ gT X j = v / 8) → wl_LassoSearch_leadsToItself_15 (nI v) Post (m + 1) (nI v) (nI (v / 8)) (nI i) I J B D := by
    intro m
    induction m with
    | zero =>
      intro i hi hlo hno z1 e1
      have n1 := inI rfl e1
      refine ⟨vin2 n1 (by omega) (by omega), fun z2 e2 => ?_⟩
      rw [clI n1 (by omega), hR.2.2.2.2.2.2.1 _ (by omega)] at e2
      refine ⟨fun _ => h0 (fun hE => ?_), fun z => absurd ((leI e2 (y := nI i) rfl (by omega) (by omega)).mpr (by omega)) z⟩
      obtain ⟨⟨j, j1, j2, j3⟩, _⟩ := hself.mp hE
      obtain ⟨g1, g2⟩ := (gF_q hF j1 hq).mpr j2
      exact hno j g1 (by omega) j3
    | succ m ih =>
      intro i hi hlo hno z1 e1
      have n1 := inI rfl e1
      refine ⟨vin2 n1 (by omega) (by omega), fun z2 e2 => ?_⟩
      rw [clI n1 (by omega), hR.2.2.2.2.2.2.1 _ (by omega)] at e2
      refine ⟨fun z => ?_, fun _ => ⟨vin2 rfl (by omega) (by omega), fun z4 e4 => ?_⟩⟩
      · have := (leI e2 (y := nI i) rfl (by omega) (by omega)).mp z; omega
      rw [clI rfl (by omega), (hR.2.2.2.2.2.2.2 i (by omega)).2] at e4
      have ht := (hR.1.2.2.2.2 i (by omega)).2
      have q4 : z4 = nI (v / 8) ↔ gT X i = v / 8 := eqI e4 rfl (by omega) (by omega)
      refine ⟨fun g z6 e6 => ?_, fun g z7 e7 => ?_⟩
      · rw [inI rfl e6]
        refine ih (i + 1) (by omega) (by omega) (fun j h1 h2 => ?_)
        by_cases e : j = i
        · subst e; exact fun w => g (q4.mpr w)
        · exact hno j h1 (by omega)
      · rw [mod8 v (by omega)] at e7
        have hsi : gS X i = v / 8 := (gF_q hF (by omega) hq).mp ⟨hlo, by omega⟩
        have hb := (bef_8 (av := atv d (gK X (v / 8))) (g := v % 8) hR.2.1).2
        refine q_spotBefore (s := v / 8) (g := v % 8) rfl e7 hR hq (by omega) ?_
        have qe : nI (8 * (v / 8) + bef (atv d (gK X (v / 8))) out (v % 8)) = nI v ↔ 8 * (v / 8) + bef (atv d (gK X (v / 8))) out (v % 8) = v := eqI rfl rfl (by omega) (by omega)
        refine ⟨fun w => ⟨Or.inl rfl, h0 (fun hE => w (qe.mpr (hself.mp hE).2))⟩, fun w => ⟨Or.inr rfl, h1 (hself.mpr ⟨⟨i, by omega, hsi, q4.mp g⟩, qe.mp w⟩)⟩⟩
  have hlt := hF.2.1 (v / 8) hq
  exact ⟨(gF X (v / 8 + 1) - gF X (v / 8)) + 1, lp (gF X (v / 8 + 1) - gF X (v / 8)) (gF X (v / 8)) (by omega) (Nat.le_refl _) (fun j h1 h2 => by omega)⟩
end ZQ4
