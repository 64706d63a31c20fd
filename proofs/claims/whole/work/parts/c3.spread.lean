/-! The reference's layers. -/
section ZS4
variable {I9 : Nat → Int32} {J9 : Nat → Int64} {B9 : Nat → Nat → Int32} {D9 : Nat → Nat → Int64}
/-- a step on -/
def Fw (d : zD) (X : zG) (out : List zIt) (v w : Nat) : Prop := Er d X out w v ∧ w % 8 < 2 ^ ntm out
def S0x (d : zD) (X : zG) (out : List zIt) (g : Nat) : Prop := g < 2 ^ ntm out ∧ sat (atv d (gK X 0)) out g = false
def pf (d : zD) (X : zG) (out : List zIt) (n w : Nat) : Prop := pt (Fw d X out) (S0x d X out) n w
/-- the layers up to d -/
def LYR (d : zD) (X : zG) (out : List zIt) (n : Nat) (dp : Nat → Nat) : Prop := (∀ w, ¬ dp w = 0 → dp w ≤ n + 1 ∧ pf d X out (dp w - 1) w) ∧ (∀ m w, m ≤ n → pf d X out m w → ¬ dp w = 0 ∧ dp w ≤ m + 1)
theorem Fw_lt {d : zD} {Q : zQ} {X : zG} {out : List zIt} (hX : XI d Q X) {v w : Nat} (h : Fw d X out v w) : w < 8 * gN X := by
  obtain ⟨j, j1, j2, _⟩ := Er_in h.1
  have := (hX.2.2.2.2 j j1).2
  omega
theorem pf_lt {d : zD} {Q : zQ} {X : zG} {out : List zIt} (hX : XI d Q X) (h3 : ntm out ≤ 3) (h0 : 0 < gN X) {n w : Nat} (h : pf d X out n w) : w < 8 * gN X ∧ w % 8 < 2 ^ ntm out := by
  have p8 := p2_3 h3
  obtain ⟨s, hs, hp⟩ := h
  match n, hp with
  | 0, hp =>
    have e : s = w := hp
    have := hs.1
    omega
  | n + 1, ⟨z, _, hz⟩ => exact ⟨Fw_lt hX hz, hz.2⟩
theorem cv_add {f g : Nat → Nat} (h : ∀ w, ¬ f w = 0 → ¬ g w = 0) : ∀ N, cv f N ≤ cv g N ∧ ((∃ w, w < N ∧ f w = 0 ∧ ¬ g w = 0) → cv f N + 1 ≤ cv g N) := by
  intro N
  induction N with
  | zero => exact ⟨Nat.le_refl _, fun ⟨w, h1, _⟩ => by omega⟩
  | succ N ih =>
    have e1 : cv f (N + 1) = cv f N + (if f N = 0 then 0 else 1) := rfl
    have e2 : cv g (N + 1) = cv g N + (if g N = 0 then 0 else 1) := rfl
    have hN := h N
    refine ⟨?_, fun ⟨w, h1, h2, h3⟩ => ?_⟩
    · rw [e1, e2]
      by_cases a : f N = 0
      · rw [if_pos a]; split <;> omega
      · rw [if_neg a, if_neg (hN a)]; omega
    · rw [e1, e2]
      by_cases e : w = N
      · subst e; rw [if_pos h2, if_neg h3]; omega
      · have := ih.2 ⟨w, by omega, h2, h3⟩
        by_cases a : f N = 0
        · rw [if_pos a]; split <;> omega
        · rw [if_neg a, if_neg (hN a)]; omega
theorem dpr {k : Nat} (h : k ≤ 100000) : (0 : Int32) ≤ nI k - 1 ↔ ¬ k = 0 := by
  constructor
  · intro z e
    rw [e] at z
    exact absurd z (by decide)
  · intro e
    have : nI k - 1 = nI (k - 1) := deI (k := k - 1) (by rw [show k - 1 + 1 = k by omega]) rfl
    rw [this]; exact nI_nn (by omega)
theorem r_spread {Post : Int32 → (Nat → Int32) → (Nat → Int64) → (Nat → Nat → Int32) → (Nat → Nat → Int64) → Prop} {mc : Nat} {d : zD} {Q : zQ} {X : zG} {out : List zIt} {n : Nat} {dp : Nat → Nat} (hS : SV mc d Q X out I9 B9) (hF : XF X (gN X)) (h0 : 0 < gN X) (hn : n ≤ 800) (hrow : ∀ k, k < 8 * gN X → B9 49 k = nI (dp k) - 1) (hL : LYR d X out n dp)
    (h : ∀ dp' nw B', (∀ k, k < 8 * gN X → B' 49 k = nI (dp' k) - 1) → LYR d X out (n + 1) dp' → (∀ w, ¬ dp w = 0 → dp' w = dp w) → (nw = 0 ∧ (∀ w, dp w = 0 → dp' w = 0) ∨ nw = 1 ∧ ∃ w, w < 8 * gN X ∧ dp w = 0 ∧ ¬ dp' w = 0) → (∀ k, k ≠ 49 → B' k = B9 k) → Post nw I9 J9 B' D9) : wp_LassoFinderModel_spread I9 J9 B9 D9 (nI n) Post := by
  have x1 := hS.1.1
  have x2 := hS.1.2.1
  have h3 := hS.2.1
  have p8 := p2_3 h3
  have i14 := hS.2.2.2.1
  have fr : ∀ B1 : Nat → Nat → Int32, (∀ k, k ≠ 49 → B1 k = B9 k) → SV mc d Q X out I9 B1 := fun B1 hB => hS.b (fun k hk => hB k (by omega))
  -- what holds all along
  let SP : (Nat → Nat) → Int32 → (Nat → Nat → Int32) → Prop := fun dp' nw B1 => (∀ k, k < 8 * gN X → B1 49 k = nI (dp' k) - 1) ∧ (∀ w, ¬ dp w = 0 → dp' w = dp w) ∧ (∀ w, dp w = 0 → ¬ dp' w = 0 → dp' w = n + 2 ∧ w < 8 * gN X ∧ pf d X out (n + 1) w) ∧ (nw = 0 ∧ (∀ w, dp w = 0 → dp' w = 0) ∨ nw = 1 ∧ ∃ w, w < 8 * gN X ∧ dp w = 0 ∧ ¬ dp' w = 0) ∧ (∀ k, k ≠ 49 → B1 k = B9 k)
  have dle : ∀ dp' nw B1, SP dp' nw B1 → ∀ w, dp' w ≤ n + 2 := fun dp' nw B1 hs w => by
    by_cases e : dp w = 0
    · by_cases e2 : dp' w = 0
      · omega
      · have := (hs.2.2.1 w e e2).1; omega
    · rw [hs.2.1 w e]; have := (hL.1 w e).1; omega
  have fin : ∀ dp' nw B1, SP dp' nw B1 → (∀ k w, k < 8 * gN X → dp k = n + 1 → Fw d X out k w → ¬ dp' w = 0) → Post nw I9 J9 B1 D9 := by
    intro dp' nw B1 hs hall
    have hd := dle dp' nw B1 hs
    obtain ⟨s1, s2, s3, s4, s5⟩ := hs
    refine h dp' nw B1 s1 ⟨fun w hw => ⟨by have := hd w; omega, ?_⟩, fun m w hm hp => ?_⟩ s2 s4 s5
    · by_cases e : dp w = 0
      · obtain ⟨a1, _, a3⟩ := s3 w e hw
        rw [a1]; exact a3
      · rw [s2 w e]; exact (hL.1 w e).2
    · by_cases e : m ≤ n
      · obtain ⟨a1, a2⟩ := hL.2 m w e hp
        rw [s2 w a1]; exact ⟨a1, a2⟩
      · have em : m = n + 1 := by omega
        subst em
        refine ⟨?_, by have := hd w; omega⟩
        obtain ⟨s, hs0, z, hz1, hz2⟩ := hp
        have hpz : pf d X out n z := ⟨s, hs0, hz1⟩
        obtain ⟨a1, a2⟩ := hL.2 n z (Nat.le_refl _) hpz
        by_cases e2 : dp z = n + 1
        · exact hall z w (pf_lt hS.1 h3 h0 hpz).1 e2 hz2
        · obtain ⟨b1, b2⟩ := hL.1 z a1
          obtain ⟨s', hs1, hz3⟩ := b2
          obtain ⟨c1, _⟩ := hL.2 (dp z - 1 + 1) w (by omega) ⟨s', hs1, z, hz3, hz2⟩
          rw [s2 w c1]; exact c1
  have inner2 : ∀ (K4 : Int32 → Int32 → Int32 → (Nat → Int32) → (Nat → Int64) → (Nat → Nat → Int32) → (Nat → Nat → Int64) → Prop) (K38 : Int32 → Int32 → Int32 → Int32 → (Nat → Int32) → (Nat → Int64) → (Nat → Nat → Int32) → (Nat → Nat → Int64) → Prop) (k j : Nat), k < 8 * gN X → dp k = n + 1 → j < gM X → gS X j = k / 8 →
      ∀ u t dp' nw B1, t + u = 2 ^ ntm out → SP dp' nw B1 → (∀ t', t' < t → bfx d X out (k / 8) t' = k % 8 → ¬ dp' (8 * gT X j + t') = 0) →
      (∀ dp2 nw2 B2, SP dp2 nw2 B2 → (∀ w, ¬ dp' w = 0 → ¬ dp2 w = 0) → (∀ t', t' < 2 ^ ntm out → bfx d X out (k / 8) t' = k % 8 → ¬ dp2 (8 * gT X j + t') = 0) → K38 (nI n) nw2 (nI k) (nI (j + 1)) I9 J9 B2 D9) →
      wl_LassoFinderModel_spread_56 (nI n) K4 K38 Post (u + 1) (nI n) nw (nI k) (nI j) (nI t) I9 J9 B1 D9 := by
    intro K4 K38 k j hk hdk hj hjs u
    obtain ⟨_, ht⟩ := hS.1.2.2.2.2 j hj
    induction u with
    | zero =>
      intro t dp' nw B1 htu hs hdone hK z3 e3
      have hS1 := fr B1 hs.2.2.2.2
      rw [tw hS1] at e3
      refine ⟨fun _ z5 e5 => ?_, fun z => absurd ((leI e3 (y := nI t) rfl (by omega) (by omega)).mpr (by omega)) z⟩
      rw [inI rfl e5]
      exact hK dp' nw B1 hs (fun _ hw => hw) (fun t' ht' => hdone t' (by omega))
    | succ u ih =>
      intro t dp' nw B1 htu hs hdone hK z3 e3
      have hS1 := fr B1 hs.2.2.2.2
      have hd := dle dp' nw B1 hs
      rw [tw hS1] at e3
      refine ⟨fun z => ?_, fun _ => ⟨vin2 rfl (by omega) (by omega), fun z6 e6 z7 e7 z8 e8 => ?_⟩⟩
      · have := (leI e3 (y := nI t) rfl (by omega) (by omega)).mp z; omega
      rw [clI rfl (by omega), (hS1.2.2.2.2.2.2.2.2 j hj).2] at e6
      have n8 : z8 = nI (8 * gT X j + t) := by rw [e8, e7, e6, show (8 : Int32) = nI 8 from rfl, nI_mul, nI_add]
      have hwl : 8 * gT X j + t < 8 * gN X := by omega
      refine ⟨vin2 n8 (by omega) (by omega), fun z9 e9 => ?_⟩
      rw [clI n8 (by omega), hs.1 _ hwl] at e9
      have q9 := dpr (k := dp' (8 * gT X j + t)) (by have := hd (8 * gT X j + t); omega)
      rw [← e9] at q9
      have skip : (bfx d X out (k / 8) t = k % 8 → ¬ dp' (8 * gT X j + t) = 0) → wc_LassoFinderModel_spread_123 (nI n) K4 K38 (wl_LassoFinderModel_spread_56 (nI n) K4 K38 Post (u + 1)) Post (nI n) nw (nI k) (nI j) (nI t) I9 J9 B1 D9 := by
        intro hn2 y2 f2
        rw [inI rfl f2]
        refine ih (t + 1) dp' nw B1 (by omega) hs (fun t' ht' => ?_) hK
        by_cases e : t' = t
        · subst e; exact hn2
        · exact hdone t' (by omega)
      refine ⟨fun z => skip (fun _ => q9.mp z), fun z z11 e11 => ?_⟩
      have hz : dp' (8 * gT X j + t) = 0 := Classical.byContradiction (fun e => z (q9.mpr e))
      rw [sh3 (by omega)] at e11
      refine r_bf hS1 e11 rfl (by omega) (by omega) (fun z13 e13 => ?_)
      rw [an7] at e13
      have hbl := (bfx_lt (d := d) (X := X) (q := k / 8) (g := t) h3).2
      have qb : nI (bfx d X out (k / 8) t) = z13 ↔ bfx d X out (k / 8) t = k % 8 := eqI rfl e13 (by omega) (by omega)
      refine ⟨fun w z15 e15 => ⟨vin2 n8 (by omega) (by omega), ?_⟩, fun w => skip (fun e => absurd (qb.mpr e) w)⟩
      have hdz : dp (8 * gT X j + t) = 0 := Classical.byContradiction (fun e => e (by rw [← hs.2.1 _ e]; exact hz))
      have n15 : z15 = nI (n + 1) := inI rfl e15
      intro y2 f2
      rw [inI rfl f2, clI n8 (by omega), n15]
      have hEr : Fw d X out k (8 * gT X j + t) := by
        refine ⟨?_, by omega⟩
        have := Er_st (d := d) (out := out) hS.1 hj (show t < 8 by omega)
        rw [hjs, qb.mp w, show 8 * (k / 8) + k % 8 = k by omega] at this; exact this
      have hpk : pf d X out n k := by
        have := (hL.1 k (by omega)).2
        rw [hdk, Nat.add_sub_cancel] at this; exact this
      have hs2 : SP (upn dp' (8 * gT X j + t) (n + 2)) 1 (va_up B1 49 (upd (B1 49) (8 * gT X j + t) (nI (n + 1)))) := by
        refine ⟨fun w hw => ?_, fun w hw => ?_, fun w hw1 hw2 => ?_, Or.inr ⟨rfl, 8 * gT X j + t, hwl, hdz, by rw [upn_at]; omega⟩, fun x hx => by simp [va_up, hx]; exact hs.2.2.2.2 x hx⟩
        · by_cases e : w = 8 * gT X j + t
          · subst e; simp [va_up, upd, upn]; exact (nI_pred (n + 1)).symm
          · simp [va_up, upd, upn, e]; exact hs.1 w hw
        · rw [upn_ne (fun e => hw (by rw [e]; exact hdz))]; exact hs.2.1 w hw
        · by_cases e : w = 8 * gT X j + t
          · subst e
            obtain ⟨s, hs0, hp⟩ := hpk
            exact ⟨upn_at _ _ _, hwl, s, hs0, k, hp, hEr⟩
          · rw [upn_ne e] at hw2 ⊢; exact hs.2.2.1 w hw1 hw2
      refine ih (t + 1) _ 1 _ (by omega) hs2 (fun t' ht' hb' => ?_) (fun dp2 nw2 B2 c1 c2 c3 => hK dp2 nw2 B2 c1 (fun w hw => c2 w ?_) c3)
      · by_cases e : t' = t
        · subst e; rw [upn_at]; omega
        · rw [upn_ne (by omega)]; exact hdone t' (by omega) hb'
      · rw [upn_ne (fun e => hw (by rw [e]; exact hz))]; exact hw
  have inner1 : ∀ (K4 : Int32 → Int32 → Int32 → (Nat → Int32) → (Nat → Int64) → (Nat → Nat → Int32) → (Nat → Nat → Int64) → Prop) (k : Nat), k < 8 * gN X → dp k = n + 1 →
      ∀ u j dp' nw B1, j + u = gF X (k / 8 + 1) → gF X (k / 8) ≤ j → SP dp' nw B1 → (∀ j' t', j' < j → gS X j' = k / 8 → t' < 2 ^ ntm out → bfx d X out (k / 8) t' = k % 8 → ¬ dp' (8 * gT X j' + t') = 0) →
      (∀ dp2 nw2 B2, SP dp2 nw2 B2 → (∀ w, ¬ dp' w = 0 → ¬ dp2 w = 0) → (∀ w, Fw d X out k w → ¬ dp2 w = 0) → K4 (nI n) nw2 (nI (k + 1)) I9 J9 B2 D9) →
      wl_LassoFinderModel_spread_38 (nI n) K4 Post (u + 1) (nI n) nw (nI k) (nI j) I9 J9 B1 D9 := by
    intro K4 k hk hdk u
    have hgl := gF_le hF (show k / 8 < gN X by omega)
    induction u with
    | zero =>
      intro j dp' nw B1 hj hlo hs hdone hK z16 e16 z17 e17
      have hS1 := fr B1 hs.2.2.2.2
      rw [sh3 (by omega)] at e16
      have n17 := inI e16 e17
      refine ⟨vin2 n17 (by omega) (by omega), fun z18 e18 => ?_⟩
      rw [clI n17 (by omega), hS1.2.2.2.2.2.2.2.1 _ (by omega)] at e18
      refine ⟨fun _ z1 e1 => ?_, fun z => absurd ((leI e18 (y := nI j) rfl (by omega) (by omega)).mpr (by omega)) z⟩
      rw [inI rfl e1]
      refine hK dp' nw B1 hs (fun _ hw => hw) (fun w hw => ?_)
      obtain ⟨j', j1, j2, j3⟩ := Er_in hw.1
      have hbl := (bfx_lt (d := d) (X := X) (q := gS X j') (g := w % 8) h3).2
      have e1 : gS X j' = k / 8 := by omega
      have e2 : bfx d X out (gS X j') (w % 8) = k % 8 := by omega
      have hj' := gF_all hF j1 (show k / 8 < gN X by omega) e1
      have := hdone j' (w % 8) (by omega) e1 hw.2 (by rw [e1] at e2; exact e2)
      rw [j2, show 8 * (w / 8) + w % 8 = w by omega] at this; exact this
    | succ u ih =>
      intro j dp' nw B1 hj hlo hs hdone hK z16 e16 z17 e17
      have hS1 := fr B1 hs.2.2.2.2
      rw [sh3 (by omega)] at e16
      have n17 := inI e16 e17
      refine ⟨vin2 n17 (by omega) (by omega), fun z18 e18 => ?_⟩
      rw [clI n17 (by omega), hS1.2.2.2.2.2.2.2.1 _ (by omega)] at e18
      refine ⟨fun z => ?_, fun _ => ⟨2 ^ ntm out + 1, ?_⟩⟩
      · have := (leI e18 (y := nI j) rfl (by omega) (by omega)).mp z; omega
      have hjM : j < gM X := by omega
      have hjs : gS X j = k / 8 := (gF_q hF hjM (by omega)).mp ⟨hlo, by omega⟩
      refine inner2 K4 (wl_LassoFinderModel_spread_38 (nI n) K4 Post (u + 1)) k j hk hdk hjM hjs (2 ^ ntm out) 0 dp' nw B1 (by omega) hs (fun t' ht' => by omega) (fun dp2 nw2 B2 c1 c2 c3 => ?_)
      refine ih (j + 1) dp2 nw2 B2 (by omega) (by omega) c1 (fun j' t' h1 h2 h4 h5 => ?_) (fun dp3 nw3 B3 d1 d2 d3 => hK dp3 nw3 B3 d1 (fun w hw => d2 w (c2 w hw)) d3)
      by_cases e : j' = j
      · subst e; exact c3 t' h4 h5
      · exact c2 _ (hdone j' t' (by omega) h2 h4 h5)
  have outer : ∀ u k dp' nw B1, k + u = 8 * gN X → SP dp' nw B1 → (∀ k' w, k' < k → dp k' = n + 1 → Fw d X out k' w → ¬ dp' w = 0) → wl_LassoFinderModel_spread_4 (nI n) Post (u + 1) (nI n) nw (nI k) I9 J9 B1 D9 := by
    intro u
    induction u with
    | zero =>
      intro k dp' nw B1 hk hs hdone z20 e20
      rw [i14, show (8 : Int32) = nI 8 from rfl, nI_mul] at e20
      refine ⟨fun _ => ⟨?_, fin dp' nw B1 hs (fun k' w hk' => hdone k' w (by omega))⟩, fun z => absurd ((leI e20 (y := nI k) rfl (by omega) (by omega)).mpr (by omega)) z⟩
      rcases hs.2.2.2.1 with ⟨e, _⟩ | ⟨e, _⟩
      · exact Or.inl e
      · exact Or.inr e
    | succ u ih =>
      intro k dp' nw B1 hk hs hdone z20 e20
      have hS1 := fr B1 hs.2.2.2.2
      have hd := dle dp' nw B1 hs
      rw [i14, show (8 : Int32) = nI 8 from rfl, nI_mul] at e20
      refine ⟨fun z => ?_, fun _ => ⟨vin2 rfl (by omega) (by omega), fun z22 e22 => ?_⟩⟩
      · have := (leI e20 (y := nI k) rfl (by omega) (by omega)).mp z; omega
      rw [clI rfl (by omega), hs.1 k (by omega)] at e22
      have q22 : z22 = nI n ↔ dp' k = n + 1 := by
        rw [e22, show nI n = nI (n + 1) - 1 from (nI_pred n).symm]
        exact (nI_md (by have := hd k; omega) (by omega)).1
      have same : dp' k = n + 1 ↔ dp k = n + 1 := by
        by_cases e : dp k = 0
        · constructor
          · intro g
            have := (hs.2.2.1 k e (by omega)).1
            omega
          · intro g; omega
        · rw [hs.2.1 k e]
      refine ⟨fun z z24 e24 => ?_, fun z z1 e1 => ?_⟩
      · have hdk := same.mp (q22.mp z)
        have hgl := gF_le hF (show k / 8 < gN X by omega)
        have hgm := gF_mono hF (k / 8) (k / 8 + 1) (by omega) (by omega)
        rw [sh3 (by omega)] at e24
        refine ⟨vin2 e24 (by omega) (by omega), fun z25 e25 => ?_⟩
        rw [clI e24 (by omega), hS1.2.2.2.2.2.2.2.1 _ (by omega)] at e25
        rw [e25]
        refine ⟨gF X (k / 8 + 1) - gF X (k / 8) + 1, inner1 (wl_LassoFinderModel_spread_4 (nI n) Post (u + 1)) k (by omega) hdk (gF X (k / 8 + 1) - gF X (k / 8)) (gF X (k / 8)) dp' nw B1 (by omega) (Nat.le_refl _) hs (fun j' t' h1 h2 => ?_) (fun dp2 nw2 B2 c1 c2 c3 => ?_)⟩
        · have hj' : j' < gM X := by omega
          have := gF_all hF hj' (show k / 8 < gN X by omega) h2
          omega
        · refine ih (k + 1) dp2 nw2 B2 (by omega) c1 (fun k' w h1 h2 h4 => ?_)
          by_cases e : k' = k
          · subst e; exact c3 w h4
          · exact c2 w (hdone k' w (by omega) h2 h4)
      · rw [inI rfl e1]
        refine ih (k + 1) dp' nw B1 (by omega) hs (fun k' w h1 h2 h4 => ?_)
        by_cases e : k' = k
        · subst e; exact absurd (q22.mpr (same.mpr h2)) z
        · exact hdone k' w (by omega) h2 h4
  exact ⟨8 * gN X + 1, outer (8 * gN X) 0 dp 0 B9 (by omega) ⟨hrow, fun _ _ => rfl, fun w h1 h2 => absurd h1 h2, Or.inl ⟨rfl, fun _ hw => hw⟩, fun _ _ => rfl⟩ (fun k' w hk' => by omega)⟩
end ZS4
