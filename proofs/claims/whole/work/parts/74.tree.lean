/-! Statements: a node more. -/
section ZE1
variable {I : Nat → Int32} {J : Nat → Int64} {B : Nat → Nat → Int32} {D : Nat → Nat → Int64}
/-- none, or a number below n -/
def okI (x : Int32) (n : Nat) : Prop := x = -1 ∨ ∃ j, j < n ∧ x = nI j
theorem okI.mono {x : Int32} {n m : Nat} (h : okI x n) (hm : n ≤ m) : okI x m := h.imp id (fun ⟨j, hj, e⟩ => ⟨j, by omega, e⟩)
theorem nI_m1 {j : Nat} (h : j ≤ 100000) : ¬ nI j = -1 := by
  intro e
  have := congrArg Int32.toInt e
  rw [nI_toInt (by omega)] at this
  have e1 : (-1 : Int32).toInt = -1 := rfl
  omega
theorem okI.at {x : Int32} {n : Nat} (h : okI x n) (hx : ¬ x = -1) : ∃ j, j < n ∧ x = nI j := h.resolve_left hx
def lpi (B : Nat → Nat → Int32) (o : Int32) : Int32 := if o = -1 then -1 else if B 18 o.toNatClampNeg = 2 then o else B 20 o.toNatClampNeg
def ati (B : Nat → Nat → Int32) (o : Int32) : Int32 := if o = -1 then -1 else if B 18 o.toNatClampNeg = 3 then o else B 21 o.toNatClampNeg
theorem q_loopInside {Post : Int32 → (Nat → Int32) → (Nat → Int64) → (Nat → Nat → Int32) → (Nat → Nat → Int64) → Prop} {o : Int32} {n : Nat} (ho : okI o n) (hn : n ≤ 240) (h : Post (lpi B o) I J B D) : wp_Tree_loopInside I J B D o Post := by
  unfold lpi at h
  refine ⟨fun g => ?_, fun g => by rw [if_pos g] at h; exact h⟩
  rw [if_neg g] at h
  obtain ⟨j, hj, e⟩ := ho.at g
  have hv : vp_in o 240 := vin2 e (by omega) (by omega)
  refine ⟨hv, fun z2 e2 => ⟨fun g2 => ⟨hv, fun z4 e4 => ?_⟩, fun g2 => ?_⟩⟩
  · rw [e2] at g2; rw [if_neg g2] at h; rw [e4]; exact h
  · rw [e2] at g2; rw [if_pos g2] at h; exact h
theorem q_atomicInside {Post : Int32 → (Nat → Int32) → (Nat → Int64) → (Nat → Nat → Int32) → (Nat → Nat → Int64) → Prop} {o : Int32} {n : Nat} (ho : okI o n) (hn : n ≤ 240) (h : Post (ati B o) I J B D) : wp_Tree_atomicInside I J B D o Post := by
  unfold ati at h
  refine ⟨fun g => ?_, fun g => by rw [if_pos g] at h; exact h⟩
  rw [if_neg g] at h
  obtain ⟨j, hj, e⟩ := ho.at g
  have hv : vp_in o 240 := vin2 e (by omega) (by omega)
  refine ⟨hv, fun z2 e2 => ⟨fun g2 => ⟨hv, fun z4 e4 => ?_⟩, fun g2 => ?_⟩⟩
  · rw [e2] at g2; rw [if_neg g2] at h; rw [e4]; exact h
  · rw [e2] at g2; rw [if_pos g2] at h; exact h
/-- a node of this kind more, inside outer, behind prev -/
def TA (kind outer prev : Int32) (sz : Nat) (I : Nat → Int32) (B : Nat → Nat → Int32) (I' : Nat → Int32) (B' : Nat → Nat → Int32) : Prop :=
  I' 16 = nI (sz + 1) ∧ I' 17 = (if 2 < kind then I 17 else I 17 + 1) ∧ (∀ k, k ∉ [16, 17] → I' k = I k) ∧
  B' 18 = upd (B 18) sz kind ∧ B' 19 = upd (B 19) sz outer ∧ B' 20 = upd (B 20) sz (lpi B outer) ∧ B' 21 = upd (B 21) sz (ati B outer) ∧
  B' 22 = upd (B 22) sz (if prev = -1 then 1 else 0) ∧
  B' 23 = (if prev = -1 then upd (B 23) sz (-1) else upd (upd (B 23) sz (-1)) prev.toNatClampNeg (nI sz)) ∧
  B' 24 = (if prev = -1 ∧ ¬ outer = -1 then upd (B 24) outer.toNatClampNeg (nI sz) else B 24) ∧
  B' 25 = upd (B 25) sz (if 2 < kind then -1 else I 17) ∧
  (∀ k, k ∉ [18, 19, 20, 21, 22, 23, 24, 25] → B' k = B k)
theorem upd_upd {α : Type} (f : Nat → α) : True := trivial
theorem upd2 (f : Nat → Int32) (k : Nat) (x y : Int32) : upd (upd f k x) k y = upd f k y := by
  funext j
  by_cases e : j = k <;> simp [upd, e]
theorem q_tadd {Post : Int32 → (Nat → Int32) → (Nat → Int64) → (Nat → Nat → Int32) → (Nat → Nat → Int64) → Prop} {kind outer prev : Int32} {sz : Nat} (hs : I 16 = nI sz) (hz : sz < 240) (ho : okI outer sz) (hp : okI prev sz)
    (k : ∀ I' B', TA kind outer prev sz I B I' B' → Post (nI sz) I' J B' D) : wp_Tree_add I J B D kind outer prev Post := by
  have hv : vp_in (I 16) 240 := vin2 hs hz (by omega)
  have hc : (I 16).toNatClampNeg = sz := clI hs (by omega)
  intro z5 e5
  have n5 := inI hs e5
  refine ⟨hv, hv, ?_⟩
  rw [hc]
  have ne : ∀ x : Int32, okI x sz → ¬ x = -1 → ¬ x.toNatClampNeg = sz := by
    intro x hx h1
    obtain ⟨j, hj, e⟩ := hx.at h1
    rw [clI e (by omega)]; omega
  refine q_loopInside (n := sz) ho (by omega) ⟨hv, ?_⟩
  refine q_atomicInside (n := sz) ho (by omega) ⟨hv, ?_⟩
  have el : lpi (va_up (va_up B 18 (upd (B 18) sz kind)) 19 (upd (B 19) sz outer)) outer = lpi B outer := by
    unfold lpi
    by_cases g : outer = -1
    · rw [if_pos g, if_pos g]
    · rw [if_neg g, if_neg g]
      simp [va_up, upd, ne outer ho g]
  have ea : ∀ v, ati (va_up (va_up (va_up B 18 (upd (B 18) sz kind)) 19 (upd (B 19) sz outer)) 20 v) outer = ati B outer := by
    intro v
    unfold ati
    by_cases g : outer = -1
    · rw [if_pos g, if_pos g]
    · rw [if_neg g, if_neg g]
      simp [va_up, upd, ne outer ho g]
  rw [el, ea, hs]
  have w72 : ∀ (B1 : Nat → Nat → Int32) (y0 : Int32), B1 18 = upd (B 18) sz kind → B1 19 = upd (B 19) sz outer → B1 20 = upd (B 20) sz (lpi B outer) → B1 21 = upd (B 21) sz (ati B outer) → (∀ k, k ∉ [18, 19, 20, 21] → B1 k = B k) → y0 = (if prev = -1 then 1 else 0) → wc_Tree_add_72 kind outer prev Post kind outer prev (nI sz) y0 (nI sz) (upd I 16 z5) J B1 D := by
    intro B1 y0 b18 b19 b20 b21 bk hy
    have hnar : vp_nar .boolean y0 = y0 := by
      rw [hy]; by_cases g : prev = -1
      · rw [if_pos g]; rfl
      · rw [if_neg g]; rfl
    have hv2 : vp_in (nI sz) 240 := by rw [← hs]; exact hv
    have hc2 : (nI sz).toNatClampNeg = sz := by rw [← hs]; exact hc
    -- the last turn: the point
    have w118 : ∀ (B2 : Nat → Nat → Int32), B2 18 = upd (B 18) sz kind → B2 19 = upd (B 19) sz outer → B2 20 = upd (B 20) sz (lpi B outer) → B2 21 = upd (B 21) sz (ati B outer) → B2 22 = upd (B 22) sz (if prev = -1 then 1 else 0) → B2 23 = (if prev = -1 then upd (B 23) sz (-1) else upd (upd (B 23) sz (-1)) prev.toNatClampNeg (nI sz)) → B2 24 = (if prev = -1 ∧ ¬ outer = -1 then upd (B 24) outer.toNatClampNeg (nI sz) else B 24) → B2 25 = upd (B 25) sz (-1) → (∀ k, k ∉ [18, 19, 20, 21, 22, 23, 24, 25] → B2 k = B k) → wc_Tree_add_118 kind outer prev Post kind (nI sz) (upd I 16 z5) J B2 D := by
      intro B2 c18 c19 c20 c21 c22 c23 c24 c25 ck
      refine ⟨fun g => ?_, fun g => ⟨hv2, fun z2 e2 => ?_⟩⟩
      · refine k _ _ ⟨by simp [upd, n5], by simp [upd, g], fun k hk => ?_, c18, c19, c20, c21, c22, c23, c24, ?_, ck⟩
        · simp at hk; simp [upd, hk]
        · rw [if_pos g]; exact c25
      · rw [hc2]
        refine k _ _ ⟨by simp [upd, n5], ?_, fun k hk => ?_, ?_, ?_, ?_, ?_, ?_, ?_, ?_, ?_, fun k hk => ?_⟩
        · rw [if_neg g, e2]; simp [upd]
        · simp at hk; simp [upd, hk]
        · simpa [va_up] using c18
        · simpa [va_up] using c19
        · simpa [va_up] using c20
        · simpa [va_up] using c21
        · simpa [va_up] using c22
        · simpa [va_up] using c23
        · simpa [va_up] using c24
        · simp only [va_up, if_true]
          rw [c25, if_neg g, upd2]; rfl
        · have hk' := hk
          simp at hk
          simp only [va_up, hk, if_false]
          exact ck k hk'
    refine ⟨hv2, hv2, hv2, fun g => ⟨fun g2 => ?_, fun g2 => ?_⟩, fun g => ?_⟩
    · rw [hc2, hnar]
      refine w118 _ ?_ ?_ ?_ ?_ ?_ ?_ ?_ ?_ (fun k hk => ?_)
      · simpa [va_up] using b18
      · simpa [va_up] using b19
      · simpa [va_up] using b20
      · simpa [va_up] using b21
      · simp [va_up, hy, bk 22 (by decide)]
      · simp [va_up, g, bk 23 (by decide)]
      · simp [va_up, g2, bk 24 (by decide)]
      · simp [va_up, bk 25 (by decide)]
      · simp at hk
        simp only [va_up, hk, if_false]
        exact bk k (by simp [hk])
    · obtain ⟨j, hj, ej⟩ := ho.at g2
      refine ⟨vin2 ej (by omega) (by omega), ?_⟩
      rw [hc2, hnar]
      refine w118 _ ?_ ?_ ?_ ?_ ?_ ?_ ?_ ?_ (fun k hk => ?_)
      · simpa [va_up] using b18
      · simpa [va_up] using b19
      · simpa [va_up] using b20
      · simpa [va_up] using b21
      · simp [va_up, hy, bk 22 (by decide)]
      · simp [va_up, g, bk 23 (by decide)]
      · simp [va_up, g, g2, bk 24 (by decide)]
      · simp [va_up, bk 25 (by decide)]
      · simp at hk
        simp only [va_up, hk, if_false]
        exact bk k (by simp [hk])
    · obtain ⟨j, hj, ej⟩ := hp.at g
      refine ⟨vin2 ej (by omega) (by omega), ?_⟩
      rw [hc2, hnar]
      refine w118 _ ?_ ?_ ?_ ?_ ?_ ?_ ?_ ?_ (fun k hk => ?_)
      · simpa [va_up] using b18
      · simpa [va_up] using b19
      · simpa [va_up] using b20
      · simpa [va_up] using b21
      · simp [va_up, hy, bk 22 (by decide)]
      · simp [va_up, g, bk 23 (by decide)]
      · simp [va_up, g, bk 24 (by decide)]
      · simp [va_up, bk 25 (by decide)]
      · simp at hk
        simp only [va_up, hk, if_false]
        exact bk k (by simp [hk])
  refine ⟨fun g => w72 _ 0 ?_ ?_ ?_ ?_ (fun k hk => ?_) (by rw [if_neg g]), fun g => w72 _ 1 ?_ ?_ ?_ ?_ (fun k hk => ?_) (by rw [if_pos g])⟩
  all_goals first | (simp [va_up]; done) | (simp at hk; simp [va_up, hk])
end ZE1
