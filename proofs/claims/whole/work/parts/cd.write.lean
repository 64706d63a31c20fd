/-! write. -/
section ZT6
variable {I : Nat → Int32} {J : Nat → Int64} {B : Nat → Nat → Int32} {D : Nat → Nat → Int64} {I9 : Nat → Int32} {J9 : Nat → Int64} {B9 : Nat → Nat → Int32} {D9 : Nat → Nat → Int64}
theorem zBad_r {b : Int32} (h : zBadB b = false) (h0 : ¬ b = 0) : 33 ≤ b ∧ b ≤ 126 := by
  have h1 : ¬ b < 33 := fun z => by rw [zBadB_t h0 (Or.inl z)] at h; exact absurd h (by decide)
  have h2 : ¬ 126 < b := fun z => by rw [zBadB_t h0 (Or.inr z)] at h; exact absurd h (by decide)
  exact ⟨Int32.not_lt.mp h1, Int32.not_lt.mp h2⟩
theorem zOk_2 {w : Int64} {sh : Int32} {r : List Int32} (h : zOkL w (sh :: r) = true) : zBadB (zB w sh) = false ∧ zOkL w r = true := by
  simp only [zOkL, Bool.and_eq_true, Bool.not_eq_true'] at h
  exact h
theorem zPut_eq {w : Int64} : ∀ (r : List Int32) (f g : Nat → Int32) (n : Nat), (∀ k, k < n → g k = f k) → ∀ k, k < n + zSum w r → zPutF w r g n k = zPutF w r f n k := by
  intro r
  induction r with
  | nil => intro f g n h k hk; exact h k (by simpa [zSum] using hk)
  | cons sh r ih =>
    intro f g n h k hk
    have hk' : k < n + (zC1 (zB w sh) + zSum w r) := hk
    by_cases e : zB w sh = 0
    · rw [zPutF_0 e, zPutF_0 e]
      rw [zC1_0 e] at hk'
      exact ih f g n h k (by omega)
    · rw [zPutF_1 e, zPutF_1 e]
      rw [zC1_1 e] at hk'
      refine ih _ _ (n + 1) (fun j hj => ?_) k (by omega)
      by_cases e2 : j = n
      · subst e2; simp [upd]
      · simp [upd, e2]; exact h j (by omega)
theorem zPut_ok {w : Int64} : ∀ (r : List Int32) (f : Nat → Int32) (n : Nat), zOkL w r = true → okC f n → okC (zPutF w r f n) (n + zSum w r) := by
  intro r
  induction r with
  | nil => intro f n _ h; exact h
  | cons sh r ih =>
    intro f n hz h
    obtain ⟨h1, h2⟩ := zOk_2 hz
    have hs : zSum w (sh :: r) = zC1 (zB w sh) + zSum w r := rfl
    by_cases e : zB w sh = 0
    · rw [zPutF_0 e, hs, zC1_0 e, Nat.zero_add]; exact ih f n h2 h
    · rw [zPutF_1 e, hs, zC1_1 e, show n + (1 + zSum w r) = n + 1 + zSum w r by omega]
      refine ih _ (n + 1) h2 (fun k hk => ?_)
      by_cases e2 : k = n
      · subst e2
        have := zBad_r h1 e
        simpa [upd] using this
      · simp [upd, e2]; exact h k (by omega)
theorem q_append {P : Int32 → (Nat → Int32) → (Nat → Int64) → (Nat → Nat → Int32) → (Nat → Nat → Int64) → Prop} {w : Int64} {n : Nat} (hn : n ≤ 240) (h3 : I 3 = nI n) (hP0 : zWrB w n = false → P 0 I J B D)
    (hP1 : zWrB w n = true → ∀ I' B', (∀ k, k ≠ 3 → I' k = I k) → I' 3 = nI (n + zSum w zSh) → (∀ k, k ≠ 1 → B' k = B k) → B' 1 = zPutF w zSh (B 1) n → P 1 I' J B' D) : wp_Text_append I J B D w P := by
  have hT : zSum w zSh ≤ 8 := zSum_le w zSh
  have lp2 : zWrB w n = true → ∀ (r : List Int32) (k : Nat) (I1 : Nat → Int32) (B1 : Nat → Nat → Int32), zSuf r = true → k + zSum w r = n + zSum w zSh → n + zSum w zSh ≤ 240 → (∀ k, k ≠ 3 → I1 k = I k) → I1 3 = nI k → (∀ k, k ≠ 1 → B1 k = B k) → zPutF w r (B1 1) k = zPutF w zSh (B 1) n → wl_Text_append_80 w P (r.length + 1) w (zHd r) I1 J B1 D := by
    intro hok r
    induction r with
    | nil =>
      intro k I1 B1 _ hk hle hI h1 hB hp
      refine ⟨fun _ => hP1 hok I1 B1 hI (by rw [h1]; congr 1) hB hp, fun z => absurd (by decide) z⟩
    | cons sh r ih =>
      intro k I1 B1 hs hk hle hI h1 hB hp
      obtain ⟨s1, s2, s3⟩ := zSuf_c hs
      have hsum : zSum w (sh :: r) = zC1 (zB w sh) + zSum w r := rfl
      refine ⟨fun z => absurd z s1, fun _ z3 e3 z4 e4 z5 e5 => ?_⟩
      have n5 : z5 = zB w sh := by rw [e5, e4, e3]; rfl
      refine ⟨fun z z1 e1 => ?_, fun z z7 e7 => ?_⟩
      · have hz : zB w sh = 0 := by rw [← n5]; exact z
        rw [e1, show zHd (sh :: r) = sh from rfl, s2]
        rw [hsum, zC1_0 hz] at hk
        exact ih k I1 B1 s3 (by omega) hle hI h1 hB (by rw [← hp, zPutF_0 hz])
      · have hz : ¬ zB w sh = 0 := by rw [← n5]; exact z
        rw [hsum, zC1_1 hz] at hk
        refine ⟨vin2 h1 (by omega) (by omega), fun z8 e8 z1 e1 => ?_⟩
        rw [e1, show zHd (sh :: r) = sh from rfl, s2, clI h1 (by omega)]
        have hch : vp_nar .char z7 = zB w sh := by rw [e7, n5]; exact zChar w sh
        rw [hch]
        refine ih (k + 1) _ _ s3 (by omega) hle (fun x hx => by simp [upd, hx]; exact hI x hx) (by simp [upd]; exact inI h1 e8) (fun x hx => by simp [va_up, hx]; exact hB x hx) ?_
        rw [← hp, zPutF_1 hz]
        simp [va_up]
  have lp1 : ∀ (r : List Int32) (acc : Nat), zSuf r = true → acc + zSum w r = zSum w zSh → (zOkL w r = zOkL w zSh) → wl_Text_append_6 w P (r.length + 1) w (nI acc) (zHd r) I J B D := by
    intro r
    induction r with
    | nil =>
      intro acc _ hacc hok
      have hacc' : acc = zSum w zSh := by simpa [zSum] using hacc
      refine ⟨fun _ z13 e13 => ?_, fun z => absurd (by decide) z⟩
      rw [h3] at e13
      have q := zLe240 (n := n) (T := acc) hn (by omega)
      rw [← e13] at q
      have hok' : zOkL w zSh = true := hok.symm
      refine ⟨fun z => ⟨9, ?_⟩, fun z => hP0 (zWrB_full (by rw [← hacc']; exact fun y => z (q.mpr y)))⟩
      have hle := q.mp z
      rw [hacc'] at hle
      exact lp2 (zWrB_ok hok' hle) zSh n I B zSuf_sh rfl hle (fun _ _ => rfl) h3 (fun _ _ => rfl) rfl
    | cons sh r ih =>
      intro acc hs hacc hok
      obtain ⟨s1, s2, s3⟩ := zSuf_c hs
      have hsum : zSum w (sh :: r) = zC1 (zB w sh) + zSum w r := rfl
      refine ⟨fun z => absurd z s1, fun _ z15 e15 z16 e16 z17 e17 => ?_⟩
      have n17 : z17 = zB w sh := by rw [e17, e16, e15]; rfl
      have bad : zBadB (zB w sh) = true → P 0 I J B D := fun hb => hP0 (zWrB_bad (by rw [← hok]; exact zOk_b hb))
      have good : zBadB (zB w sh) = false → zOkL w r = zOkL w zSh := fun hb => by
        rw [← hok]; simp [zOkL, hb]
      have nxt : zBadB (zB w sh) = false → wc_Text_append_43 w (wl_Text_append_6 w P (r.length + 1)) P w (nI acc) sh z17 I J B D := fun hb => by
        rw [hsum] at hacc
        refine ⟨fun z z9 e9 z10 e10 => ?_, fun z z9 e9 z10 e10 => ?_⟩
        · have hz : ¬ zB w sh = 0 := by rw [← n17]; exact z
          rw [zC1_1 hz] at hacc
          rw [e10, s2, show z9 = nI (acc + 1) by rw [e9]; exact (nI_succ acc).symm]
          exact ih (acc + 1) s3 (by omega) (good hb)
        · have hz : zB w sh = 0 := by rw [← n17]; exact z
          rw [zC1_0 hz] at hacc
          rw [e10, s2, show z9 = nI acc by rw [e9]; exact Int32.add_zero _]
          exact ih acc s3 (by omega) (good hb)
      refine ⟨fun z => nxt (zBadB_z (by rw [← n17]; exact z)), fun z => ⟨fun z2 => bad (zBadB_t (by rw [← n17]; exact z) (Or.inl (by rw [← n17]; exact z2))), fun z2 => ⟨fun z4 => nxt (zBadB_f (by rw [← n17]; exact z2) (by rw [← n17]; exact z4)), fun z4 => bad (zBadB_t (by rw [← n17]; exact z) (Or.inr ?_))⟩⟩⟩
      rw [← n17]
      exact Int32.not_le.mp z4
  exact ⟨9, lp1 zSh 0 zSuf_sh (by omega) rfl⟩
theorem r_write {P : Int32 → (Nat → Int32) → (Nat → Int64) → (Nat → Nat → Int32) → (Nat → Nat → Int64) → Prop} {w : Int64} {n : Nat} (hn : n ≤ 240) (h3 : I9 1 = nI n) (hP0 : zWrB w n = false → P 0 (upd I9 0 0) J9 B9 D9)
    (hP1 : zWrB w n = true → ∀ I' B', (∀ k, k ∉ [0, 1] → I' k = I9 k) → I' 1 = nI (n + zSum w zSh) → (∀ k, k ≠ 0 → B' k = B9 k) → B' 0 = zPutF w zSh (B9 0) n → P 1 I' J9 B' D9) : wp_LassoFinderModel_write I9 J9 B9 D9 w P := by
  have hT : zSum w zSh ≤ 8 := zSum_le w zSh
  have lp2 : zWrB w n = true → ∀ (r : List Int32) (k : Nat) (I1 : Nat → Int32) (B1 : Nat → Nat → Int32), zSuf r = true → k + zSum w r = n + zSum w zSh → n + zSum w zSh ≤ 240 → (∀ k, k ∉ [0, 1] → I1 k = I9 k) → I1 1 = nI k → (∀ k, k ≠ 0 → B1 k = B9 k) → zPutF w r (B1 0) k = zPutF w zSh (B9 0) n → wl_LassoFinderModel_write_83 w P (r.length + 1) w (zHd r) I1 J9 B1 D9 := by
    intro hok r
    induction r with
    | nil =>
      intro k I1 B1 _ hk hle hI h1 hB hp
      refine ⟨fun _ => hP1 hok I1 B1 hI (by rw [h1]; congr 1) hB hp, fun z => absurd (by decide) z⟩
    | cons sh r ih =>
      intro k I1 B1 hs hk hle hI h1 hB hp
      obtain ⟨s1, s2, s3⟩ := zSuf_c hs
      have hsum : zSum w (sh :: r) = zC1 (zB w sh) + zSum w r := rfl
      refine ⟨fun z => absurd z s1, fun _ z3 e3 z4 e4 z5 e5 => ?_⟩
      have n5 : z5 = zB w sh := by rw [e5, e4, e3]; rfl
      refine ⟨fun z z1 e1 => ?_, fun z => ?_⟩
      · have hz : zB w sh = 0 := by rw [← n5]; exact z
        rw [e1, show zHd (sh :: r) = sh from rfl, s2]
        rw [hsum, zC1_0 hz] at hk
        exact ih k I1 B1 s3 (by omega) hle hI h1 hB (by rw [← hp, zPutF_0 hz])
      · have hz : ¬ zB w sh = 0 := by rw [← n5]; exact z
        rw [hsum, zC1_1 hz] at hk
        refine ⟨vin2 h1 (by omega) (by omega), fun z8 e8 z1 e1 => ?_⟩
        rw [e1, show zHd (sh :: r) = sh from rfl, s2, clI h1 (by omega), n5]
        refine ih (k + 1) _ _ s3 (by omega) hle (fun x hx => by
          have : ¬ x = 1 := by simp at hx; omega
          simp [upd, this]; exact hI x hx) (by simp [upd]; exact inI h1 e8) (fun x hx => by simp [va_up, hx]; exact hB x hx) ?_
        rw [← hp, zPutF_1 hz]
        simp [va_up]
  have h30 : upd I9 0 0 1 = nI n := by simp [upd]; exact h3
  have lp1 : ∀ (r : List Int32) (acc : Nat), zSuf r = true → acc + zSum w r = zSum w zSh → (zOkL w r = zOkL w zSh) → wl_LassoFinderModel_write_11 w P (r.length + 1) w (nI acc) (zHd r) (upd I9 0 0) J9 B9 D9 := by
    intro r
    induction r with
    | nil =>
      intro acc _ hacc hok
      have hacc' : acc = zSum w zSh := by simpa [zSum] using hacc
      refine ⟨fun _ z13 e13 => ?_, fun z => absurd (by decide) z⟩
      rw [h30] at e13
      have q := zLe240 (n := n) (T := acc) hn (by omega)
      rw [← e13] at q
      have hok' : zOkL w zSh = true := hok.symm
      refine ⟨fun z => ⟨9, ?_⟩, fun z => hP0 (zWrB_full (by rw [← hacc']; exact fun y => z (q.mpr y)))⟩
      have hle := q.mp z
      rw [hacc'] at hle
      exact lp2 (zWrB_ok hok' hle) zSh n (upd I9 0 0) B9 zSuf_sh rfl hle (fun x hx => by
        have : ¬ x = 0 := by simp at hx; omega
        simp [upd, this]) h30 (fun _ _ => rfl) rfl
    | cons sh r ih =>
      intro acc hs hacc hok
      obtain ⟨s1, s2, s3⟩ := zSuf_c hs
      have hsum : zSum w (sh :: r) = zC1 (zB w sh) + zSum w r := rfl
      refine ⟨fun z => absurd z s1, fun _ z15 e15 z16 e16 z17 e17 => ?_⟩
      have n17 : z17 = zB w sh := by rw [e17, e16, e15]; rfl
      have bad : zBadB (zB w sh) = true → P 0 (upd I9 0 0) J9 B9 D9 := fun hb => hP0 (zWrB_bad (by rw [← hok]; exact zOk_b hb))
      have good : zBadB (zB w sh) = false → zOkL w r = zOkL w zSh := fun hb => by
        rw [← hok]; simp [zOkL, hb]
      have nxt : zBadB (zB w sh) = false → wc_LassoFinderModel_write_46 w (wl_LassoFinderModel_write_11 w P (r.length + 1)) P w (nI acc) sh z17 (upd I9 0 0) J9 B9 D9 := fun hb => by
        rw [hsum] at hacc
        refine ⟨fun z z9 e9 z10 e10 => ?_, fun z z9 e9 z10 e10 => ?_⟩
        · have hz : zB w sh = 0 := by rw [← n17]; exact z
          rw [zC1_0 hz] at hacc
          rw [e10, s2, show z9 = nI acc by rw [e9]; exact Int32.add_zero _]
          exact ih acc s3 (by omega) (good hb)
        · have hz : ¬ zB w sh = 0 := by rw [← n17]; exact z
          rw [zC1_1 hz] at hacc
          rw [e10, s2, show z9 = nI (acc + 1) by rw [e9]; exact (nI_succ acc).symm]
          exact ih (acc + 1) s3 (by omega) (good hb)
      refine ⟨fun z => nxt (zBadB_z (by rw [← n17]; exact z)), fun z => ⟨fun z2 => ⟨Or.inl rfl, fun y => absurd rfl y, fun _ => bad (zBadB_t (by rw [← n17]; exact z) (Or.inl (by rw [← n17]; exact z2)))⟩, fun z2 => ⟨fun z4 => ⟨Or.inl rfl, fun y => absurd rfl y, fun _ => bad (zBadB_t (by rw [← n17]; exact z) (Or.inr (by rw [← n17]; exact z4)))⟩, fun z4 => ⟨Or.inr rfl, fun _ => nxt (zBadB_f (by rw [← n17]; exact z2) (by rw [← n17]; exact Int32.not_lt.mp z4)), fun y => absurd y (by decide)⟩⟩⟩⟩
  exact ⟨9, lp1 zSh 0 zSuf_sh (by omega) rfl⟩
/-- more text -/
theorem KK.tx {sh : Bool} {I' : Nat → Int32} {B' : Nat → Nat → Int32} {D' : Nat → Nat → Int64} {I9' : Nat → Int32} {B9' : Nat → Nat → Int32} (h : KK sh I J B D I9 J9 B9 D9) (ht : TXk I' B' I9' B9') (hI : ∀ k, k ≠ 3 → I' k = I k) (hB : ∀ k, k ≠ 1 → B' k = B k) (hD : ∀ k, k < 3 → D' k = D k) (h9I : ∀ k, k ∉ [0, 1] → I9' k = I9 k) (h9B : ∀ k, k ≠ 0 → B9' k = B9 k) : KK sh I' J B' D' I9' J9 B9' D9 := by
  obtain ⟨h1, h2, h3⟩ := h
  refine ⟨ht, by rw [hI 6 (by decide), h9I 4 (by decide)]; exact h2, ?_⟩
  rw [hI 1 (by decide), hI 2 (by decide), hI 0 (by decide), hI 38 (by decide), h9I 5 (by decide), h9I 18 (by decide), h9I 26 (by decide), h9I 24 (by decide)]
  rcases h3 with w | ⟨a1, a2, d, Q, X, mc, LP, k1, k2, k3, k4⟩
  · exact Or.inl w
  · refine Or.inr ⟨a1, a2, d, Q, X, mc, LP, k1.cg (fun k hk => hI k (by simp at hk; omega)) rfl (fun k hk => hB k (by omega)) hD (fun k hk => h9I k (by simp at hk ⊢; omega)) (fun k hk => h9B k (by omega)) (fun k _ => by rw [h9B 24 (by decide)]) (fun _ _ => rfl), k2.cg (hI 0 (by decide)) (hB 0 (by decide)) (h9I 26 (by decide)) (h9B 54 (by decide)), ?_, k4.cg (fun k hk => hI k (by simp at hk; omega)) (fun k hk => hB k (by simp at hk; omega)) (fun k hk => h9I k (by simp at hk ⊢; omega)) (h9B 52 (by decide))⟩
    rcases k3 with w | ⟨b1, b2, out, b3⟩
    · exact Or.inl w
    · exact Or.inr ⟨b1, b2, out, b3.cg (fun k hk => hI k (by simp at hk; omega)) (fun k _ _ => hB k (by omega)) (fun k hk => h9I k (by simp at hk ⊢; omega)) (fun k hk => h9B k (by omega))⟩
theorem lc0N {a b : Int32} (h : KK false I J B D I9 J9 B9 D9) : lc0_N (KK false) a b I J B D I9 J9 B9 D9 := by
  obtain ⟨n, hn, t1, t2, t3, t4⟩ := h.1
  intro z2 e2 z3 e3 z5 e5 z6 e6 z7 e7
  have m32 : ∀ f : Nat → Int32, zmix 32 f f = f := fun f => funext (fun k => by unfold zmix; split <;> rfl)
  have m50 : ∀ f : Nat → Nat → Int32, zmix 50 f f = f := fun f => funext (fun k => by unfold zmix; split <;> rfl)
  refine q_append hn t1 (fun hw => ⟨Or.inl rfl, fun y2 f2 y3 f3 y5 f5 y6 f6 y7 f7 => ?_⟩) (fun hw I' B' c1 c2 c3 c4 => ⟨Or.inr rfl, fun y2 f2 y3 f3 y5 f5 y6 f6 y7 f7 => ?_⟩)
  · have e : y7 = z7 := by rw [f7, f3, f6, f5, f2, e7, e3, e6, e5, e2]
    subst e
    try rw [m32, m50]
    exact r_write hn t2 (fun _ => ⟨fun _ => (h.th 0).dd zdd, fun z => z rfl⟩) (fun hw2 => by rw [hw] at hw2; exact absurd hw2 (by decide))
  · have e : y7 = z7 := by rw [f7, f3, f6, f5, f2, e7, e3, e6, e5, e2]
    subst e
    refine r_write hn t2 (fun hw2 => by rw [hw] at hw2; exact absurd hw2 (by decide)) (fun _ I9' B9' d1 d2 d3 d4 => ⟨fun _ => ?_, fun z => z rfl⟩)
    have hT : zSum y7 zSh ≤ 8 := zSum_le y7 zSh
    have hwb := hw
    unfold zWrB at hwb
    simp only [Bool.and_eq_true, decide_eq_true_eq] at hwb
    have htx : ∀ (I2 : Nat → Int32) (B2 : Nat → Nat → Int32), I2 3 = I' 3 → B2 1 = B' 1 → TXk I2 B2 I9' B9' := fun I2 B2 g1 g2 => ⟨n + zSum y7 zSh, hwb.2, by rw [g1]; exact c2, d2, by rw [g2, c4]; exact zPut_ok zSh _ n hwb.1 t3, fun k hk => by rw [g2, c4, d4]; exact zPut_eq zSh _ _ n t4 k hk⟩
    exact h.tx (htx I' B' rfl rfl) c1 c3 zdd d1 d3
theorem lc0S {a b : Int32} (h : KK true I J B D I9 J9 B9 D9) : lc0_S (KK true) a b I J B D I9 J9 B9 D9 := by
  obtain ⟨n, hn, t1, t2, t3, t4⟩ := h.1
  intro z2 e2 z3 e3 z5 e5 z6 e6 z7 e7
  have m32 : ∀ f : Nat → Int32, zmix 32 f f = f := fun f => funext (fun k => by unfold zmix; split <;> rfl)
  have m50 : ∀ f : Nat → Nat → Int32, zmix 50 f f = f := fun f => funext (fun k => by unfold zmix; split <;> rfl)
  refine q_append hn t1 (fun hw => ⟨Or.inl rfl, fun y2 f2 y3 f3 y5 f5 y6 f6 y7 f7 => ?_⟩) (fun hw I' B' c1 c2 c3 c4 => ⟨Or.inr rfl, fun y2 f2 y3 f3 y5 f5 y6 f6 y7 f7 => ?_⟩)
  · have e : y7 = z7 := by rw [f7, f3, f6, f5, f2, e7, e3, e6, e5, e2]
    subst e
    try rw [m32, m50]
    exact r_write hn t2 (fun _ => ⟨fun _ => (h.th 0).dd zdd, fun z => z rfl⟩) (fun hw2 => by rw [hw] at hw2; exact absurd hw2 (by decide))
  · have e : y7 = z7 := by rw [f7, f3, f6, f5, f2, e7, e3, e6, e5, e2]
    subst e
    refine r_write hn t2 (fun hw2 => by rw [hw] at hw2; exact absurd hw2 (by decide)) (fun _ I9' B9' d1 d2 d3 d4 => ⟨fun _ => ?_, fun z => z rfl⟩)
    have hT : zSum y7 zSh ≤ 8 := zSum_le y7 zSh
    have hwb := hw
    unfold zWrB at hwb
    simp only [Bool.and_eq_true, decide_eq_true_eq] at hwb
    have htx : ∀ (I2 : Nat → Int32) (B2 : Nat → Nat → Int32), I2 3 = I' 3 → B2 1 = B' 1 → TXk I2 B2 I9' B9' := fun I2 B2 g1 g2 => ⟨n + zSum y7 zSh, hwb.2, by rw [g1]; exact c2, d2, by rw [g2, c4]; exact zPut_ok zSh _ n hwb.1 t3, fun k hk => by rw [g2, c4, d4]; exact zPut_eq zSh _ _ n t4 k hk⟩
    refine h.tx (htx _ _ (zl (by omega)) (zl (by omega))) (fun k hk => ?_) (fun k hk => ?_) zdd d1 d3
    · by_cases e : k < 32
      · rw [zl e]; exact c1 k hk
      · rw [zg e]
    · by_cases e : k < 50
      · rw [zl e]; exact c3 k hk
      · rw [zg e]
end ZT6
