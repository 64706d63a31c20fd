/-! The class at the end of a process. -/
section ZH8
variable {I : Nat → Int32} {J : Nat → Int64} {B : Nat → Nat → Int32} {D : Nat → Nat → Int64}
/-- the masks behind the statements before k -/
def fdk (B : Nat → Nat → Int32) (p bs0 : Nat) : Nat → Nat → Int64 → Int64
  | 0, _, v => v
  | k + 1, j, v => if B 18 k = 0 then cuv B p (bitL (bs0 + cnt B k)) 7 (nI k) j (fdk B p bs0 k j v) else fdk B p bs0 k j v
/-- what the class has behind a process -/
def TP (sz bs0 p pt : Nat) (B : Nat → Nat → Int32) (D : Nat → Nat → Int64) (B' : Nat → Nat → Int32) (D' : Nat → Nat → Int64) : Prop :=
  (∀ k, k < sz → B 18 k = 0 → B' 11 (bs0 + cnt B k) = pnt B (nI pt) (stl B sz (beh B (nI k))) ∧ B' 12 (bs0 + cnt B k) = kpv B sz k) ∧
  (∀ b, b < bs0 → B' 11 b = B 11 b ∧ B' 12 b = B 12 b) ∧ (∀ j, D' 1 j = fdk B p bs0 sz j (D 1 j)) ∧
  (∀ l, l < 8 → B' 14 (8 * p + l) = if B 28 l = -3 then B 14 (8 * p + l) else pnt B (nI pt) (stl B sz (B 28 l))) ∧ (∀ j, ¬ (8 * p ≤ j ∧ j < 8 * p + 8) → B' 14 j = B 14 j) ∧
  B' 13 = upd (B 13) p (pnt B (nI pt) (stl B sz (nI 0))) ∧ (∀ k, k ∉ [11, 12, 13, 14] → B' k = B k) ∧ (∀ k, k ≠ 1 → D' k = D k)
theorem pnt_cg {B' : Nat → Nat → Int32} (h : tr8 B B') (pt x : Int32) : pnt B' pt x = pnt B pt x := by
  unfold pnt; rw [h 25 (by omega) (by omega)]
theorem kpv_cg {B' : Nat → Nat → Int32} (h : tr8 B B') (sz k : Nat) : kpv B' sz k = kpv B sz k := by
  unfold kpv; rw [h 21 (by omega) (by omega), beh_cg h, stl_cg h]
/-- the first loop: statements -/
theorem q_takeP_a {Post : (Nat → Int32) → (Nat → Int64) → (Nat → Nat → Int32) → (Nat → Nat → Int64) → Prop} {sz p pt bs0 : Nat} (hT : TT sz B) (h16 : I 16 = nI sz) (h10 : I 10 = nI p) (hp : p < 4) (h17 : I 17 = nI pt) (hC : ∀ k, k < sz → C1 B pt bs0 k) (hpt : pt ≤ 30) (hbs : bs0 + cnt B sz ≤ 48)
    (h : ∀ B' D', (∀ k, k < sz → B 18 k = 0 → B' 11 (bs0 + cnt B k) = pnt B (nI pt) (stl B sz (beh B (nI k))) ∧ B' 12 (bs0 + cnt B k) = kpv B sz k) → (∀ b, b < bs0 → B' 11 b = B 11 b ∧ B' 12 b = B 12 b) → (∀ j, D' 1 j = fdk B p bs0 sz j (D 1 j)) → (∀ k, k ≠ 11 → k ≠ 12 → B' k = B k) → (∀ k, k ≠ 1 → D' k = D k) → ∃ n : Nat, wl_Program_takeProcess_ad6_39 Post n 0 I J B' D') : wp_Program_takeProcess_ad6 I J B D Post := by
  have hz := hT.1
  suffices key : ∀ (m k : Nat) (B1 : Nat → Nat → Int32) (D1 : Nat → Nat → Int64), k + m = sz → (∀ i, i < k → B 18 i = 0 → B1 11 (bs0 + cnt B i) = pnt B (nI pt) (stl B sz (beh B (nI i))) ∧ B1 12 (bs0 + cnt B i) = kpv B sz i) → (∀ b, b < bs0 → B1 11 b = B 11 b ∧ B1 12 b = B 12 b) → (∀ j, D1 1 j = fdk B p bs0 k j (D 1 j)) → (∀ k, k ≠ 11 → k ≠ 12 → B1 k = B k) → (∀ k, k ≠ 1 → D1 k = D k) → wl_Program_takeProcess_ad6_2 Post (m + 1) (nI k) I J B1 D1 by
    exact ⟨sz + 1, key sz 0 B D (by omega) (fun i hi => by omega) (fun _ _ => ⟨rfl, rfl⟩) (fun _ => rfl) (fun _ _ _ => rfl) (fun _ _ => rfl)⟩
  intro m
  induction m with
  | zero =>
    intro k B1 D1 hm a1 a2 a3 a4 a5
    have ek : k = sz := by omega
    subst ek
    refine ⟨fun _ => h B1 D1 a1 a2 a3 a4 a5, fun z => absurd ?_ z⟩
    rw [leI h16 (y := nI k) rfl (by omega) (by omega)]; omega
  | succ m ih =>
    intro k B1 D1 hm a1 a2 a3 a4 a5
    have hv : vp_in (nI k) 240 := vin2 rfl (by omega) (by omega)
    have hc : (nI k).toNatClampNeg = k := clI rfl (by omega)
    have ht : tr8 B B1 := fun i h1 h2 => a4 i (by omega) (by omega)
    have hT1 := TT_cg ht hT
    obtain ⟨c1, c2, c3, c4⟩ := hC k (by omega)
    refine ⟨fun z => ?_, fun _ => ⟨hv, fun z14 e14 => ⟨fun g z12 e12 => ?_, fun g => ?_⟩⟩⟩
    · rw [leI h16 (y := nI k) rfl (by omega) (by omega)] at z; omega
    · rw [e14, hc, a4 18 (by omega) (by omega)] at g
      rw [inI rfl e12]
      refine ih (k + 1) B1 D1 (by omega) (fun i hi hi0 => ?_) a2 (fun j => ?_) a4 a5
      · by_cases e : i = k
        · subst e; exact absurd hi0 g
        · exact a1 i (by omega) hi0
      · rw [a3, fdk, if_neg g]
    · rw [e14, hc, a4 18 (by omega) (by omega)] at g
      have hb := cnt_lt (b := sz) (a := k) (by omega) g
      have e26 : B1 26 k = nI (bs0 + cnt B k) := by rw [a4 26 (by omega) (by omega)]; exact c4 g
      refine q_takeWay hT1 (k := k) (b := bs0 + cnt B k) (by omega) e26 (by omega) (fun B2 b1 b2 b3 => ?_)
      have ht2 : tr8 B1 B2 := fun i h1 h2 => b3 i (by omega) (by omega)
      refine q_takePlaces (TT_cg ht2 hT1) (k := k) (b := bs0 + cnt B k) (by omega) (by rw [b3 26 (by omega) (by omega)]; exact e26) (by omega) h10 hp (fun i hi => ?_) (fun D2 d1 d2 => ?_)
      · rw [b3 25 (by omega) (by omega), a4 25 (by omega) (by omega)]
        rcases (hC i hi).2.2.1 with w | ⟨q, hq, w⟩
        · exact Or.inl w
        · exact Or.inr ⟨q, by omega, w⟩
      · intro z12 e12
        rw [inI rfl e12]
        refine ih (k + 1) B2 D2 (by omega) (fun i hi hi0 => ?_) (fun b hb => ?_) (fun j => ?_) (fun i h1 h2 => (b3 i h1 h2).trans (a4 i h1 h2)) (fun i hi => (d2 i hi).trans (a5 i hi))
        · rw [b1, b2, pnt_cg ht, stl_cg ht, beh_cg ht, kpv_cg ht, h17]
          by_cases e : i = k
          · subst e; simp [upd]
          · have : ¬ bs0 + cnt B i = bs0 + cnt B k := fun z => e (cnt_inj hi0 g (by omega))
            simp only [upd, this, if_false]
            exact a1 i (by omega) hi0
        · have : ¬ b = bs0 + cnt B k := by omega
          rw [b1, b2]; simp only [upd, this, if_false]; exact a2 b hb
        · rw [d1, cuv_cg (ht.tr ht2), a3, fdk, if_pos g]
/-- the second loop: labels -/
theorem q_takeP_b {Post : (Nat → Int32) → (Nat → Int64) → (Nat → Nat → Int32) → (Nat → Nat → Int64) → Prop} {sz p pt : Nat} (hT : TT sz B) (h0 : 0 < sz) (h10 : I 10 = nI p) (hp : p < 4) (h17 : I 17 = nI pt)
    (h : ∀ B', (∀ l, l < 8 → B' 14 (8 * p + l) = if B 28 l = -3 then B 14 (8 * p + l) else pnt B (nI pt) (stl B sz (B 28 l))) → (∀ j, ¬ (8 * p ≤ j ∧ j < 8 * p + 8) → B' 14 j = B 14 j) → B' 13 = upd (B 13) p (pnt B (nI pt) (stl B sz (nI 0))) → (∀ k, k ≠ 13 → k ≠ 14 → B' k = B k) → Post (upd I 10 (nI (p + 1))) J B' D) : ∃ n : Nat, wl_Program_takeProcess_ad6_39 Post n 0 I J B D := by
  have hz := hT.1
  suffices key : ∀ (m l : Nat) (B1 : Nat → Nat → Int32), l + m = 8 → (∀ i, i < l → B1 14 (8 * p + i) = if B 28 i = -3 then B 14 (8 * p + i) else pnt B (nI pt) (stl B sz (B 28 i))) → (∀ j, ¬ (8 * p ≤ j ∧ j < 8 * p + l) → B1 14 j = B 14 j) → (∀ k, k ≠ 14 → B1 k = B k) → wl_Program_takeProcess_ad6_39 Post (m + 1) (nI l) I J B1 D by
    exact ⟨9, key 8 0 B (by omega) (fun i hi => by omega) (fun _ _ => rfl) (fun _ _ => rfl)⟩
  have hvp : vp_in (I 10) 4 := vin2 h10 (by omega) (by omega)
  have hcp : (I 10).toNatClampNeg = p := clI h10 (by omega)
  intro m
  induction m with
  | zero =>
    intro l B1 hm a1 a2 a3
    have el : l = 8 := by omega
    subst el
    have ht : tr8 B B1 := fun i h1 h2 => a3 i (by omega)
    have hT1 := TT_cg ht hT
    have hx : okX 0 sz := Or.inr (Or.inr ⟨0, h0, rfl⟩)
    refine ⟨fun _ => q_settled hT1 hx (q_pointAt hz (stl_ok2 hT1 hx) ⟨hvp, fun z5 e5 => ?_⟩), fun z => absurd ?_ z⟩
    · rw [inI h10 e5, hcp]
      refine h _ (fun l hl => ?_) (fun j hj => ?_) ?_ (fun k h1 h2 => ?_)
      · rw [← a1 l hl]; simp [va_up]
      · rw [← a2 j hj]; simp [va_up]
      · rw [pnt_cg ht, stl_cg ht, h17, a3 13 (by omega)]; simp [va_up]; rfl
      · rw [← a3 k h2]; simp [va_up, h1]
    · exact (leI (x := 8) (a := 8) rfl (y := nI 8) rfl (by omega) (by omega)).mpr (by omega)
  | succ m ih =>
    intro l B1 hm a1 a2 a3
    have hv : vp_in (nI l) 8 := vin2 rfl (by omega) (by omega)
    have hc : (nI l).toNatClampNeg = l := clI rfl (by omega)
    have ht : tr8 B B1 := fun i h1 h2 => a3 i (by omega)
    have hT1 := TT_cg ht hT
    have hT0 := hT
    obtain ⟨_, dp, hTk, hl⟩ := hT0
    refine ⟨fun z => ?_, fun _ => ⟨hv, fun z6 e6 => ⟨fun g z1 e1 => ?_, fun g z8 e8 z9 e9 => ?_⟩⟩⟩
    · have := (leI (x := 8) (a := 8) rfl (y := nI l) rfl (by omega) (by omega)).mp z; omega
    · rw [e6, hc, a3 28 (by omega)] at g
      rw [inI rfl e1]
      refine ih (l + 1) B1 (by omega) (fun i hi => ?_) (fun j hj => ?_) a3
      · by_cases e : i = l
        · subst e; rw [if_pos g]; exact a2 _ (by omega)
        · exact a1 i (by omega)
      · exact a2 j (by omega)
    · rw [hc, a3 28 (by omega)] at e6
      rw [e6] at g
      have n9 : z9 = nI (8 * p + l) := by
        have q8 : (8 : Int32) = nI 8 := rfl
        rw [e9, e8, h10, q8, nI_mul, nI_add, Nat.mul_comm]
      have hx : okX (B 28 l) sz := (hl l (by omega)).elim (fun w => absurd w g) (fun w => Or.inr (Or.inr w))
      rw [e6]
      refine q_settled hT1 hx (q_pointAt hz (stl_ok2 hT1 hx) ⟨vin2 n9 (by omega) (by omega), fun z1 e1 => ?_⟩)
      rw [inI rfl e1, clI n9 (by omega)]
      refine ih (l + 1) _ (by omega) (fun i hi => ?_) (fun j hj => ?_) (fun k hk => by rw [← a3 k hk]; simp [va_up, hk])
      · by_cases e : i = l
        · subst e
          rw [if_neg g, pnt_cg ht, stl_cg ht, h17]; simp [va_up, upd]
        · have : ¬ 8 * p + i = 8 * p + l := by omega
          rw [← a1 i (by omega)]
          simp [va_up, upd, e]
      · have : ¬ j = 8 * p + l := by omega
        rw [← a2 j (by omega)]
        simp [va_up, upd, this]
theorem q_takeProcess {Post : (Nat → Int32) → (Nat → Int64) → (Nat → Nat → Int32) → (Nat → Nat → Int64) → Prop} {sz p pt bs0 : Nat} (hT : TT sz B) (h0 : 0 < sz) (h16 : I 16 = nI sz) (h10 : I 10 = nI p) (hp : p < 4) (h17 : I 17 = nI pt) (hC : ∀ k, k < sz → C1 B pt bs0 k) (hpt : pt ≤ 30) (hbs : bs0 + cnt B sz ≤ 48)
    (h : ∀ B' D', TP sz bs0 p pt B D B' D' → Post (upd I 10 (nI (p + 1))) J B' D') : wp_Program_takeProcess_ad6 I J B D Post := by
  refine q_takeP_a hT h16 h10 hp h17 hC hpt hbs (fun B1 D1 a1 a2 a3 a4 a5 => ?_)
  have ht : tr8 B B1 := fun i h1 h2 => a4 i (by omega) (by omega)
  refine q_takeP_b (TT_cg ht hT) h0 h10 hp h17 (fun B2 b1 b2 b3 b4 => h B2 D1 ⟨fun k hk h0 => ?_, fun b hb => ?_, a3, fun l hl => ?_, fun j hj => ?_, ?_, fun k hk => ?_, a5⟩)
  · rw [b4 11 (by omega) (by omega), b4 12 (by omega) (by omega)]; exact a1 k hk h0
  · rw [b4 11 (by omega) (by omega), b4 12 (by omega) (by omega)]; exact a2 b hb
  · rw [b1 l hl, pnt_cg ht, stl_cg ht, a4 28 (by omega) (by omega), a4 14 (by omega) (by omega)]
  · rw [b2 j hj, a4 14 (by omega) (by omega)]
  · rw [b3, pnt_cg ht, stl_cg ht, a4 13 (by omega) (by omega)]
  · simp at hk; rw [b4 k hk.2.2.1 hk.2.2.2, a4 k hk.1 hk.2.1]
end ZH8
