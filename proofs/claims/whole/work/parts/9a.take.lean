/-! What the class takes from a process's tree. -/
section ZH6
variable {I : Nat → Int32} {J : Nat → Int64} {B : Nat → Nat → Int32} {D : Nat → Nat → Int64} {I9 : Nat → Int32} {J9 : Nat → Int64} {B9 : Nat → Nat → Int32} {D9 : Nat → Nat → Int64}
def tr8 (B B' : Nat → Nat → Int32) : Prop := ∀ k, 18 ≤ k → k ≤ 28 → B' k = B k
theorem tr8.rf : tr8 B B := fun _ _ _ => rfl
theorem tr8.tr {B' B'' : Nat → Nat → Int32} (h : tr8 B B') (g : tr8 B' B'') : tr8 B B'' := fun k h1 h2 => (g k h1 h2).trans (h k h1 h2)
theorem bh_cg {B' : Nat → Nat → Int32} (h : tr8 B B') : ∀ (m : Nat) (x : Int32), bh B' m x = bh B m x := by
  intro m
  induction m with
  | zero => intro x; rfl
  | succ m ih => intro x; simp only [bh]; rw [h 23 (by omega) (by omega), h 19 (by omega) (by omega), h 18 (by omega) (by omega), ih]
theorem beh_cg {B' : Nat → Nat → Int32} (h : tr8 B B') (x : Int32) : beh B' x = beh B x := bh_cg h 7 x
theorem sv_cg {B' : Nat → Nat → Int32} (h : tr8 B B') : ∀ (m : Nat) (x : Int32), sv B' m x = sv B m x := by
  intro m
  induction m with
  | zero => intro x; rfl
  | succ m ih =>
    intro x
    have e : stp B' x = stp B x := by
      unfold stp
      rw [h 18 (by omega) (by omega), h 24 (by omega) (by omega), h 20 (by omega) (by omega), h 28 (by omega) (by omega), h 26 (by omega) (by omega), beh_cg h]
    simp only [sv, isS]
    rw [e, ih, h 18 (by omega) (by omega)]
theorem stl_cg {B' : Nat → Nat → Int32} (h : tr8 B B') (sz : Nat) (x : Int32) : stl B' sz x = stl B sz x := sv_cg h (sz + 1) x
theorem TT_cg {B' : Nat → Nat → Int32} {sz : Nat} (h : tr8 B B') (hT : TT sz B) : TT sz B' := by
  obtain ⟨hz, dp, h1, h2⟩ := hT
  refine ⟨hz, dp, fun k hk => ?_, fun l hl => by rw [h 28 (by omega) (by omega)]; exact h2 l hl⟩
  obtain ⟨t, a, b, c⟩ := h1 k hk
  unfold T1 A1 lpi ati at *
  rw [h 18 (by omega) (by omega), h 19 (by omega) (by omega), h 20 (by omega) (by omega), h 21 (by omega) (by omega), h 22 (by omega) (by omega), h 23 (by omega) (by omega), h 24 (by omega) (by omega), h 26 (by omega) (by omega)]
  exact ⟨t, a, b, c⟩
def pnt (B : Nat → Nat → Int32) (pt : Int32) (x : Int32) : Int32 := if x < 0 then pt else B 25 x.toNatClampNeg
theorem q_pointAt {Post : Int32 → (Nat → Int32) → (Nat → Int64) → (Nat → Nat → Int32) → (Nat → Nat → Int64) → Prop} {x : Int32} {sz : Nat} (hz : sz ≤ 140) (hx : x < 0 ∨ ∃ k, k < sz ∧ x = nI k) (h : Post (pnt B (I 17) x) I J B D) : wp_Tree_pointAt I J B D x Post := by
  unfold pnt at h
  rcases hx with w | ⟨k, hk, e⟩
  · rw [if_pos w] at h
    exact ⟨fun z => absurd w (Int32.not_lt.mpr z), fun _ => h⟩
  · have w : ¬ x < 0 := by rw [e]; exact nI_pos (by omega)
    rw [if_neg w] at h
    exact ⟨fun _ => ⟨vin2 e (by omega) (by omega), fun z2 e2 => by rw [e2]; exact h⟩, fun z => absurd (Int32.not_lt.mp w) z⟩
theorem stl_ok2 {sz : Nat} (hT : TT sz B) {x : Int32} (hx : okX x sz) : stl B sz x < 0 ∨ ∃ k, k < sz ∧ stl B sz x = nI k := by
  rcases stl_ok hT hx with w | w | w | ⟨k, hk, e, _⟩
  · left; rw [w]; decide
  · left; rw [w]; decide
  · left; rw [w]; decide
  · exact Or.inr ⟨k, hk, e⟩
/-- does the process keep its turn behind statement k -/
def kpv (B : Nat → Nat → Int32) (sz k : Nat) : Int32 := if ¬ B 21 k = -1 ∧ ¬ stl B sz (beh B (nI k)) < 0 ∧ B 21 (stl B sz (beh B (nI k))).toNatClampNeg = B 21 k then 1 else 0
theorem beh_okX {sz k : Nat} (hT : TT sz B) (hk : k < sz) : okX (beh B (nI k)) sz := by
  rcases beh_ok hT (x := nI k) (Or.inr ⟨k, hk, rfl⟩) with w | w
  · exact Or.inl w
  · exact Or.inr (Or.inr w)
theorem q_takeWay {Post : (Nat → Int32) → (Nat → Int64) → (Nat → Nat → Int32) → (Nat → Nat → Int64) → Prop} {sz k b : Nat} (hT : TT sz B) (hk : k < sz) (hb : B 26 k = nI b) (hb8 : b < 48)
    (h : ∀ B', B' 11 = upd (B 11) b (pnt B (I 17) (stl B sz (beh B (nI k)))) → B' 12 = upd (B 12) b (kpv B sz k) → (∀ j, j ≠ 11 → j ≠ 12 → B' j = B j) → Post I J B' D) : wp_Program_takeWay_ad6 I J B D (nI k) Post := by
  have hz := hT.1
  have hv : vp_in (nI k) 240 := vin2 rfl (by omega) (by omega)
  have hc : (nI k).toNatClampNeg = k := clI rfl (by omega)
  have n0 : vp_nar .boolean 0 = 0 := by decide
  have n1 : vp_nar .boolean 1 = 1 := by decide
  refine ⟨hv, fun z1 e1 => ?_⟩
  rw [hc, hb] at e1
  subst e1
  refine q_behind hT (Or.inr ⟨k, hk, rfl⟩) (q_settled hT (beh_okX hT hk) ⟨hv, fun z4 e4 => q_pointAt hz (stl_ok2 hT (beh_okX hT hk)) ?_⟩)
  rw [hc] at e4
  have hvb : vp_in (nI b) 48 := vin2 rfl (by omega) (by omega)
  have hcb : (nI b).toNatClampNeg = b := clI rfl (by omega)
  have fin : ∀ y, kpv B sz k = vp_nar .boolean y → wc_Program_takeWay_ad6_71 (nI k) Post y (nI b) I J (va_up B 11 (upd (B 11) (nI b).toNatClampNeg (pnt B (I 17) (stl B sz (beh B (nI k)))))) D := by
    intro y ey
    refine ⟨hvb, ?_⟩
    rw [hcb]
    refine h _ (by simp [va_up]) (by simp [va_up, ey]) (fun j h1 h2 => by simp [va_up, h1, h2])
  have f0 : ¬ (¬ B 21 k = -1 ∧ ¬ stl B sz (beh B (nI k)) < 0 ∧ B 21 (stl B sz (beh B (nI k))).toNatClampNeg = B 21 k) → wc_Program_takeWay_ad6_70 (nI k) Post (nI b) I J (va_up B 11 (upd (B 11) (nI b).toNatClampNeg (pnt B (I 17) (stl B sz (beh B (nI k)))))) D := by
    intro g
    refine fin 0 ?_
    unfold kpv; rw [if_neg g, n0]
  refine ⟨hvb, fun g => f0 (fun z => z.1 (by rw [← e4]; exact g)), fun g => ⟨fun g2 => f0 (fun z => z.2.1 g2), fun g2 => ?_⟩⟩
  have hr := (stl_ok2 hT (beh_okX hT hk)).resolve_left g2
  obtain ⟨j, hj, ej⟩ := hr
  refine ⟨vin2 ej (by omega) (by omega), fun z8 e8 => ⟨fun g3 => f0 (fun z => g3 (by rw [e8, e4]; exact z.2.2)), fun g3 => fin 1 ?_⟩⟩
  unfold kpv
  rw [if_pos ⟨by rw [← e4]; exact g, g2, by rw [← e8, ← e4]; exact g3⟩, n1]
/-- a bit's places: a value of the masks behind it -/
def cuv (B : Nat → Nat → Int32) (p : Nat) (bit : Int64) : Nat → Int32 → Nat → Int64 → Int64
  | 0, _, _, v => v
  | m + 1, x, j, v => if x = -1 then v else cuv B p bit m (if B 22 x.toNatClampNeg = 0 then -1 else B 19 x.toNatClampNeg) j (if ¬ B 25 x.toNatClampNeg = -1 ∧ j = 31 * p + (B 25 x.toNatClampNeg).toNatClampNeg then v ||| bit else v)
theorem cuv_cg {B' : Nat → Nat → Int32} (h : tr8 B B') {p : Nat} {bit : Int64} : ∀ (m : Nat) (x : Int32) (j : Nat) (v : Int64), cuv B' p bit m x j v = cuv B p bit m x j v := by
  intro m
  induction m with
  | zero => intro x j v; rfl
  | succ m ih => intro x j v; simp only [cuv]; rw [h 22 (by omega) (by omega), h 19 (by omega) (by omega), h 25 (by omega) (by omega), ih]
theorem q_places_l {Post : (Nat → Int32) → (Nat → Int64) → (Nat → Nat → Int32) → (Nat → Nat → Int64) → Prop} {a1 : Int32} {bit : Int64} {sz p : Nat} {dp : Nat → Nat} (hz : sz ≤ 140) (hT : ∀ k, k < sz → T1 B sz dp k) (h10 : I 10 = nI p) (hp : p < 4) (hpt : ∀ k, k < sz → B 25 k = -1 ∨ ∃ q, q < 31 ∧ B 25 k = nI q) : ∀ (m i : Nat) (x : Int32) (D : Nat → Nat → Int64), (x = -1 ∨ ∃ k, k < sz ∧ x = nI k ∧ dp k < m) → i + m ≤ 100 →
    (∀ D', (∀ j, D' 1 j = cuv B p bit m x j (D 1 j)) → (∀ k, k ≠ 1 → D' k = D k) → Post I J B D') → wl_Program_takePlaces_ad6_15 a1 Post (m + 1) bit x (nI i) I J B D := by
  intro m
  induction m with
  | zero =>
    intro i x D hx hi h
    have e : x = -1 := hx.resolve_right (fun ⟨k, _, _, h⟩ => by omega)
    have := h D (fun _ => rfl) (fun _ _ => rfl)
    exact ⟨fun _ => this, fun _ => ⟨fun _ => this, fun z => absurd e z⟩⟩
  | succ m ih =>
    intro i x D hx hi h
    refine ⟨fun z => ?_, fun _ => ⟨fun z => h D (fun j => by rw [cuv, if_pos z]) (fun _ _ => rfl), fun g => ?_⟩⟩
    · have := (leI (x := 240) (a := 240) rfl (y := nI i) rfl (by omega) (by omega)).mp z; omega
    · obtain ⟨k, hk, e, hd⟩ := hx.resolve_left g
      have hv : vp_in x 240 := vin2 e (by omega) (by omega)
      have hc : x.toNatClampNeg = k := clI e (by omega)
      obtain ⟨t1, t2, t3, t4, t5, t6, t7⟩ := hT k hk
      have go : ∀ D2, (∀ j, D2 1 j = (if ¬ B 25 k = -1 ∧ j = 31 * p + (B 25 k).toNatClampNeg then D 1 j ||| bit else D 1 j)) → (∀ k, k ≠ 1 → D2 k = D k) → wc_Program_takePlaces_ad6_64 a1 (wl_Program_takePlaces_ad6_15 a1 Post (m + 1)) Post bit x (nI i) I J B D2 := by
        intro D2 hD2 hDk
        have next : ∀ y, y = (if B 22 k = 0 then -1 else B 19 k) → (y = -1 ∨ ∃ k, k < sz ∧ y = nI k ∧ dp k < m) → wc_Program_takePlaces_ad6_85 a1 (wl_Program_takePlaces_ad6_15 a1 Post (m + 1)) Post bit (nI i) y I J B D2 := by
          intro y ey hy z1 e1
          rw [inI rfl e1]
          refine ih (i + 1) y D2 hy (by omega) (fun D' h1 h2 => h D' (fun j => ?_) (fun k hk => (h2 k hk).trans (hDk k hk)))
          rw [h1, cuv, if_neg g, hc, hD2, ey]
        refine ⟨hv, fun z2 e2 => ⟨fun g2 => next _ ?_ (Or.inl rfl), fun g2 => ⟨hv, fun z4 e4 => next _ ?_ ?_⟩⟩⟩
        · rw [e2, hc] at g2; rw [if_pos g2]
        · rw [e2, hc] at g2; rw [if_neg g2, e4, hc]
        · rw [e4, hc]
          rcases t1 with w | ⟨j, hj, ej, ed, _⟩
          · exact Or.inl w.1
          · exact Or.inr ⟨j, by omega, ej, by omega⟩
      refine ⟨hv, fun z7 e7 => ⟨fun g2 => go D (fun j => ?_) (fun _ _ => rfl), fun g2 z9 e9 => ⟨hv, fun z10 e10 z11 e11 => ?_⟩⟩⟩
      · rw [e7, hc] at g2
        rw [if_neg (fun z => z.1 g2)]
      · rw [e7, hc] at g2
        obtain ⟨q, hq, eq⟩ := (hpt k hk).resolve_left g2
        have n11 : z11 = nI (31 * p + q) := by
          have q31 : (31 : Int32) = nI 31 := rfl
          rw [e11, e9, e10, hc, eq, h10, q31, nI_mul, nI_add, Nat.mul_comm]
        have hv11 : vp_in z11 124 := vin2 n11 (by omega) (by omega)
        refine ⟨hv11, fun z12 e12 z13 e13 => ⟨hv11, go _ (fun j => ?_) (fun k hk => by simp [va_up, hk])⟩⟩
        have hcq : (B 25 k).toNatClampNeg = q := clI eq (by omega)
        rw [clI n11 (by omega)] at e12 ⊢
        rw [hcq]
        by_cases ej : j = 31 * p + q
        · rw [if_pos ⟨g2, ej⟩, ej]; simp [va_up, vp_updL, e13, e12]
        · rw [if_neg (fun z => ej z.2)]; simp [va_up, vp_updL, ej]
theorem q_takePlaces {Post : (Nat → Int32) → (Nat → Int64) → (Nat → Nat → Int32) → (Nat → Nat → Int64) → Prop} {sz k b p : Nat} (hT : TT sz B) (hk : k < sz) (hb : B 26 k = nI b) (hb8 : b < 48) (h10 : I 10 = nI p) (hp : p < 4) (hpt : ∀ k, k < sz → B 25 k = -1 ∨ ∃ q, q < 31 ∧ B 25 k = nI q)
    (h : ∀ D', (∀ j, D' 1 j = cuv B p (bitL b) 7 (nI k) j (D 1 j)) → (∀ k, k ≠ 1 → D' k = D k) → Post I J B D') : wp_Program_takePlaces_ad6 I J B D (nI k) Post := by
  have hz := hT.1
  obtain ⟨_, dp, hTk, _⟩ := hT
  have hc : (nI k).toNatClampNeg = k := clI rfl (by omega)
  refine ⟨vin2 rfl (by omega) (by omega), fun z14 e14 z15 e15 => ⟨8, ?_⟩⟩
  have : z15 = bitL b := by rw [e15, e14, hc, hb]; rfl
  rw [this]
  exact q_places_l (i := 0) hz (fun k hk => (hTk k hk).1) h10 hp hpt 7 _ D (Or.inr ⟨k, hk, rfl, by have := (hTk k hk).1.2.1; omega⟩) (by omega) h
end ZH6
