/-! Statements: a node more, the reference's. -/
section ZE2
variable {I : Nat → Int32} {J : Nat → Int64} {B : Nat → Nat → Int32} {D : Nat → Nat → Int64}
/-- the innermost atomic among the blocks up to d -/
def afn (bk bn : Nat → Int32) : Nat → Int32
  | 0 => -1
  | d + 1 => if bk (d + 1) = 3 then bn (d + 1) else afn bk bn d
def NA9 (kind : Int32) (N d p pt bs : Nat) (I : Nat → Int32) (B : Nat → Nat → Int32) (I' : Nat → Int32) (B' : Nat → Nat → Int32) : Prop :=
  I' 8 = nI (N + 1) ∧ I' 9 = (if 5 < kind then I 9 else I 9 + 1) ∧ (∀ k, k ∉ [8, 9] → I' k = I k) ∧
  B' 5 = upd (B 5) N kind ∧ B' 6 = upd (B 6) N (nI p) ∧ B' 7 = upd (B 7) N (B 26 d) ∧
  B' 8 = (if B 27 d < 0 then upd (B 8) N (-1) else upd (upd (B 8) N (-1)) (B 27 d).toNatClampNeg (nI N)) ∧
  B' 9 = upd (B 9) N (if 0 ≤ B 27 d then 0 else 1) ∧ B' 10 = upd (B 10) N (afn (B 25) (B 26) d) ∧
  B' 11 = upd (B 11) N (if 7 < kind then -1 else B 20 p) ∧ B' 27 = upd (B 27) d (nI N) ∧
  B' 20 = (if 7 < kind then B 20 else upd (B 20) p (B 20 p + 1)) ∧
  B' 23 = (if 7 < kind then B 23 else upd (B 23) (31 * p + pt) (nI N)) ∧
  B' 19 = (if 5 < kind then B 19 else upd (B 19) N (I 9)) ∧ B' 18 = (if 5 < kind then B 18 else upd (B 18) bs (nI N)) ∧
  (∀ k, k ∉ [5, 6, 7, 8, 9, 10, 11, 18, 19, 20, 23, 27] → B' k = B k)
theorem q_node {Post : Int32 → (Nat → Int32) → (Nat → Int64) → (Nat → Nat → Int32) → (Nat → Nat → Int64) → Prop} {kind : Int32} {N d p pt bs : Nat} (h8 : I 8 = nI N) (hN : N < 140) (h12 : I 12 = nI d) (hd : d ≤ 6) (h10 : I 10 = nI p) (hp : p < 4) (h20 : B 20 p = nI pt) (hpt : ¬ 7 < kind → pt < 30) (hpt2 : pt ≤ 30) (h9 : I 9 = nI bs) (hbs : ¬ 5 < kind → bs < 48) (hbs2 : bs ≤ 48) (hlt : okI (B 27 d) N) (hk5 : 7 < kind → 5 < kind)
    (k : ∀ I' B', NA9 kind N d p pt bs I B I' B' → Post (nI N) I' J B' D) : wp_LassoFinderModel_node I J B D kind Post := by
  have hv : vp_in (I 8) 140 := vin2 h8 hN (by omega)
  have hc : (I 8).toNatClampNeg = N := clI h8 (by omega)
  have hv12 : vp_in (I 12) 8 := vin2 h12 (by omega) (by omega)
  have hc12 : (I 12).toNatClampNeg = d := clI h12 (by omega)
  have hv10 : vp_in (I 10) 5 := vin2 h10 (by omega) (by omega)
  have hc10 : (I 10).toNatClampNeg = p := clI h10 (by omega)
  intro z18 e18
  have n18 := inI h8 e18
  refine ⟨hv, hv, hv12, fun z19 e19 => ⟨hv, hv, hv12, fun z20 e20 => ?_⟩⟩
  rw [hc12] at e19 e20
  have e19 : z19 = B 26 d := e19
  have e20 : z20 = B 27 d := e20
  rw [hc]
  have hvN : vp_in (nI N) 140 := by rw [← h8]; exact hv
  have hcN : (nI N).toNatClampNeg = N := by rw [← h8]; exact hc
  -- the end: point and number
  have wend : ∀ (B3 : Nat → Nat → Int32), B3 5 = upd (B 5) N kind → B3 6 = upd (B 6) N (nI p) → B3 7 = upd (B 7) N (B 26 d) → B3 8 = (if B 27 d < 0 then upd (B 8) N (-1) else upd (upd (B 8) N (-1)) (B 27 d).toNatClampNeg (nI N)) → B3 9 = upd (B 9) N (if 0 ≤ B 27 d then 0 else 1) → B3 10 = upd (B 10) N (afn (B 25) (B 26) d) → B3 27 = upd (B 27) d (nI N) → (∀ k, k ∉ [5, 6, 7, 8, 9, 10, 27] → B3 k = B k) → (vp_in (nI N) 140 ∧ (((7 : Int32) < kind → wc_LassoFinderModel_node_223 kind Post kind (nI N) (upd I 8 z18) J (va_up B3 11 (upd (B3 11) (nI N).toNatClampNeg (-1))) D) ∧ (¬ (7 : Int32) < kind → vp_in (upd I 8 z18 10) 5 ∧ ∀ z6, z6 = ((B3 20) (upd I 8 z18 10).toNatClampNeg) → vp_in (nI N) 140 ∧ ∀ z7, z7 = (31 * (upd I 8 z18 10)) → vp_in (upd I 8 z18 10) 5 ∧ ∀ z8, z8 = ((B3 20) (upd I 8 z18 10).toNatClampNeg) → ∀ z9, z9 = (z7 + z8) → vp_in z9 124 ∧ vp_in (upd I 8 z18 10) 5 ∧ ∀ z10, z10 = ((B3 20) (upd I 8 z18 10).toNatClampNeg) → ∀ z11, z11 = (z10 + 1) → vp_in (upd I 8 z18 10) 5 ∧ wc_LassoFinderModel_node_223 kind Post kind (nI N) (upd I 8 z18) J (va_up (va_up (va_up (va_up B3 11 (upd (B3 11) (nI N).toNatClampNeg (-1))) 11 (upd (upd (B3 11) (nI N).toNatClampNeg (-1)) (nI N).toNatClampNeg z6)) 23 (upd (B3 23) z9.toNatClampNeg (nI N))) 20 (upd (B3 20) (upd I 8 z18 10).toNatClampNeg z11)) D))) := by
    intro B3 c5 c6 c7 c8 c9 c10 c27 ck
    have fin : ∀ (B4 : Nat → Nat → Int32), B4 11 = upd (B 11) N (if 7 < kind then -1 else B 20 p) → B4 20 = (if 7 < kind then B 20 else upd (B 20) p (B 20 p + 1)) → B4 23 = (if 7 < kind then B 23 else upd (B 23) (31 * p + pt) (nI N)) → (∀ k, k ∉ [11, 20, 23] → B4 k = B3 k) → wc_LassoFinderModel_node_223 kind Post kind (nI N) (upd I 8 z18) J B4 D := by
      intro B4 d11 d20 d23 dk
      have o18 : B4 18 = B 18 := (dk 18 (by decide)).trans (ck 18 (by decide))
      have o19 : B4 19 = B 19 := (dk 19 (by decide)).trans (ck 19 (by decide))
      have old : ∀ k, k ∉ [5, 6, 7, 8, 9, 10, 11, 18, 19, 20, 23, 27] → B4 k = B k := by
        intro k hk
        simp at hk
        exact (dk k (by simp [hk])).trans (ck k (by simp [hk]))
      have d5 := (dk 5 (by decide)).trans c5
      have d6 := (dk 6 (by decide)).trans c6
      have d7 := (dk 7 (by decide)).trans c7
      have d8 := (dk 8 (by decide)).trans c8
      have d9 := (dk 9 (by decide)).trans c9
      have d10 := (dk 10 (by decide)).trans c10
      have d27 := (dk 27 (by decide)).trans c27
      have i9 : (upd I 8 z18) 9 = nI bs := h9
      refine ⟨fun g => ?_, fun g => ⟨hvN, vin2 i9 (hbs g) (by omega), fun z2 e2 => ?_⟩⟩
      · refine k _ _ ⟨by simp [upd, n18], by simp [upd, g], fun j hj => ?_, d5, d6, d7, d8, d9, d10, d11, d27, d20, d23, ?_, ?_, old⟩
        · simp at hj; simp [upd, hj]
        · rw [if_pos g]; exact o19
        · rw [if_pos g]; exact o18
      · rw [hcN, clI i9 (by omega)]
        refine k _ _ ⟨by simp [upd, n18], ?_, fun j hj => ?_, ?_, ?_, ?_, ?_, ?_, ?_, ?_, ?_, ?_, ?_, ?_, ?_, fun j hj => ?_⟩
        · rw [if_neg g, e2]; simp [upd]
        · simp at hj; simp [upd, hj]
        · simpa [va_up] using d5
        · simpa [va_up] using d6
        · simpa [va_up] using d7
        · simpa [va_up] using d8
        · simpa [va_up] using d9
        · simpa [va_up] using d10
        · simpa [va_up] using d11
        · simpa [va_up] using d27
        · simpa [va_up] using d20
        · simpa [va_up] using d23
        · rw [if_neg g]; simp [va_up, o19, upd]
        · rw [if_neg g]; simp [va_up, o18]
        · have hj' := hj
          simp at hj
          simp only [va_up, hj, if_false]
          exact old j hj'
    have i10 : (upd I 8 z18) 10 = nI p := h10
    have o20 : B3 20 = B 20 := ck 20 (by decide)
    have o23 : B3 23 = B 23 := ck 23 (by decide)
    have o11 : B3 11 = B 11 := ck 11 (by decide)
    refine ⟨hvN, fun g => ?_, fun g => ?_⟩
    · rw [hcN]
      refine fin _ ?_ ?_ ?_ (fun k hk => ?_)
      · rw [if_pos g]; simp [va_up, o11]
      · rw [if_pos g]; simp [va_up, o20]
      · rw [if_pos g]; simp [va_up, o23]
      · simp at hk; simp [va_up, hk]
    · have hv10' : vp_in (upd I 8 z18 10) 5 := hv10
      have hc10' : (upd I 8 z18 10).toNatClampNeg = p := hc10
      refine ⟨hv10', fun z6 e6 => ⟨hvN, fun z7 e7 => ⟨hv10', fun z8 e8 z9 e9 => ?_⟩⟩⟩
      have n8 : z8 = nI pt := by rw [e8, hc10', o20, h20]
      have n7 : z7 = nI (31 * p) := by
        rw [e7, i10]
        have : ∀ p : Nat, p < 4 → 31 * nI p = nI (31 * p) := by decide +kernel
        exact this p hp
      have n9 : z9 = nI (31 * p + pt) := by rw [e9, n7, n8, nI_add]
      have hpt' := hpt g
      refine ⟨vin2 n9 (by omega) (by omega), hv10', fun z10 e10 z11 e11 => ⟨hv10', ?_⟩⟩
      rw [hcN, hc10', clI n9 (by omega)]
      rw [hc10', o20] at e6 e10
      refine fin _ ?_ ?_ ?_ (fun k hk => ?_)
      · rw [if_neg g]; simp only [va_up]; simp [o11, upd2, e6]
      · rw [if_neg g]; simp [va_up, o20, e11, e10]
      · rw [if_neg g]; simp [va_up, o23]
      · simp at hk; simp [va_up, hk]
  -- the loop: which atomic
  have wloop : ∀ (r i : Nat) (B2 : Nat → Nat → Int32), i + r = d → B2 5 = upd (B 5) N kind → B2 6 = upd (B 6) N (nI p) → B2 7 = upd (B 7) N (B 26 d) → B2 8 = (if B 27 d < 0 then upd (B 8) N (-1) else upd (upd (B 8) N (-1)) (B 27 d).toNatClampNeg (nI N)) → B2 9 = upd (B 9) N (if 0 ≤ B 27 d then 0 else 1) → B2 10 = upd (B 10) N (afn (B 25) (B 26) i) → B2 27 = upd (B 27) d (nI N) → (∀ k, k ∉ [5, 6, 7, 8, 9, 10, 27] → B2 k = B k) → wl_LassoFinderModel_node_123 kind Post (r + 1) kind (nI N) (nI (i + 1)) (upd I 8 z18) J B2 D := by
    intro r
    induction r with
    | zero =>
      intro i B2 hi c5 c6 c7 c8 c9 c10 c27 ck
      have hid : i = d := by omega
      subst hid
      refine ⟨fun _ => wend B2 c5 c6 c7 c8 c9 c10 c27 ck, fun g => ?_⟩
      exact absurd ((ltI (x := upd I 8 z18 12) h12 rfl (by omega) (by omega)).mpr (by omega)) g
    | succ r ih =>
      intro i B2 hi c5 c6 c7 c8 c9 c10 c27 ck
      refine ⟨fun g => ?_, fun _ => ⟨vin2 rfl (by omega) (by omega), fun z12 e12 => ?_⟩⟩
      · have := (ltI (x := upd I 8 z18 12) h12 rfl (by omega) (by omega)).mp g; omega
      rw [clI rfl (by omega), ck 25 (by decide)] at e12
      refine ⟨fun g => fun z3 e3 => ?_, fun g => ⟨vin2 rfl (by omega) (by omega), fun z14 e14 => ⟨hvN, fun z3 e3 => ?_⟩⟩⟩
      · have n3 : z3 = nI (i + 1 + 1) := inI rfl e3
        rw [n3]
        refine ih (i + 1) B2 (by omega) c5 c6 c7 c8 c9 ?_ c27 ck
        rw [c10]; congr 1
        simp only [afn]; rw [← e12, if_neg g]
      · have n3 : z3 = nI (i + 1 + 1) := inI rfl e3
        rw [n3, hcN]
        rw [clI rfl (by omega), ck 26 (by decide)] at e14
        refine ih (i + 1) _ (by omega) ?_ ?_ ?_ ?_ ?_ ?_ ?_ (fun k hk => ?_)
        · simpa [va_up] using c5
        · simpa [va_up] using c6
        · simpa [va_up] using c7
        · simpa [va_up] using c8
        · simpa [va_up] using c9
        · simp only [va_up, if_true]
          rw [c10, upd2]
          simp only [afn]; rw [← e12, if_pos g, e14]
        · simpa [va_up] using c27
        · have hk' := hk
          simp at hk
          simp only [va_up, hk, if_false]
          exact ck k hk'
  -- sibling and first
  have w76 : ∀ y0 : Int32, y0 = (if 0 ≤ B 27 d then 0 else 1) → ∀ (B1 : Nat → Nat → Int32), B1 5 = upd (B 5) N kind → B1 6 = upd (B 6) N (nI p) → B1 7 = upd (B 7) N (B 26 d) → B1 8 = upd (B 8) N (-1) → (∀ k, k ∉ [5, 6, 7, 8] → B1 k = B k) → wc_LassoFinderModel_node_76 kind Post kind (nI N) y0 (nI N) (upd I 8 z18) J B1 D := by
    intro y0 hy B1 c5 c6 c7 c8 ck
    have hnar : vp_nar .boolean y0 = y0 := by
      rw [hy]; by_cases g : 0 ≤ B 27 d
      · rw [if_pos g]; rfl
      · rw [if_neg g]; rfl
    have hv12' : vp_in (upd I 8 z18 12) 8 := hv12
    have hc12' : (upd I 8 z18 12).toNatClampNeg = d := hc12
    refine ⟨hvN, hv12', fun z15 e15 => ?_⟩
    rw [hc12'] at e15
    have e15 : z15 = B 27 d := e15.trans (congrFun (ck 27 (by decide)) d)
    rw [hcN, hnar]
    have w104 : ∀ (B2 : Nat → Nat → Int32), B2 5 = upd (B 5) N kind → B2 6 = upd (B 6) N (nI p) → B2 7 = upd (B 7) N (B 26 d) → B2 8 = (if B 27 d < 0 then upd (B 8) N (-1) else upd (upd (B 8) N (-1)) (B 27 d).toNatClampNeg (nI N)) → B2 9 = upd (B 9) N (if 0 ≤ B 27 d then 0 else 1) → (∀ k, k ∉ [5, 6, 7, 8, 9] → B2 k = B k) → wc_LassoFinderModel_node_104 kind Post kind (nI N) (upd I 8 z18) J B2 D := by
      intro B2 d5 d6 d7 d8 d9 dk
      refine ⟨hv12', hvN, d + 1, ?_⟩
      rw [hc12', hcN]
      refine wloop d 0 _ (by omega) ?_ ?_ ?_ ?_ ?_ ?_ ?_ (fun k hk => ?_)
      · simpa [va_up] using d5
      · simpa [va_up] using d6
      · simpa [va_up] using d7
      · simpa [va_up] using d8
      · simpa [va_up] using d9
      · simp [va_up, dk 10 (by decide), afn]
      · simp [va_up, dk 27 (by decide)]
      · simp at hk
        simp only [va_up, hk, if_false]
        exact dk k (by simp [hk])
    refine ⟨fun g => ?_, fun g => ⟨hv12', fun z17 e17 => ?_⟩⟩
    · rw [e15] at g
      refine w104 _ ?_ ?_ ?_ ?_ ?_ (fun k hk => ?_)
      · simpa [va_up] using c5
      · simpa [va_up] using c6
      · simpa [va_up] using c7
      · rw [if_pos g]; simpa [va_up] using c8
      · simp [va_up, ck 9 (by decide), hy]
      · simp at hk
        simp only [va_up, hk, if_false]
        exact ck k (by simp [hk])
    · rw [e15] at g
      rw [hc12'] at e17
      have e17 : z17 = B 27 d := e17.trans (by simp [va_up, ck 27 (by decide)])
      have hne : ¬ B 27 d = -1 := fun z => g (by rw [z]; decide)
      obtain ⟨j, hj, ej⟩ := hlt.at hne
      refine ⟨vin2 (e17.trans ej) (by omega) (by omega), ?_⟩
      rw [e17]
      refine w104 _ ?_ ?_ ?_ ?_ ?_ (fun k hk => ?_)
      · simpa [va_up] using c5
      · simpa [va_up] using c6
      · simpa [va_up] using c7
      · rw [if_neg g]; simp [va_up, c8]
      · simp [va_up, ck 9 (by decide), hy]
      · simp at hk
        simp only [va_up, hk, if_false]
        exact ck k (by simp [hk])
  rw [h8, h10]
  refine ⟨fun g => w76 0 (by rw [e20] at g; rw [if_pos g]) _ ?_ ?_ ?_ ?_ (fun k hk => ?_), fun g => w76 1 (by rw [e20] at g; rw [if_neg g]) _ ?_ ?_ ?_ ?_ (fun k hk => ?_)⟩
  all_goals first | (simp [va_up, e19]; done) | (simp at hk; simp [va_up, hk])
end ZE2
