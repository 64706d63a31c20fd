/-! The reference: how long the shortest stem is. -/
section ZS5
variable {I9 : Nat → Int32} {J9 : Nat → Int64} {B9 : Nat → Nat → Int32} {D9 : Nat → Nat → Int64}
theorem Pnx_pf {d : zD} {Q : zQ} {X : zG} {out : List zIt} (hX : XI d Q X) (h3 : ntm out ≤ 3) : ∀ n m v, Pnx d X out n v → pf d X out m v → ∃ u, gd d X out u ∧ pf d X out (m + n) u := by
  intro n
  induction n with
  | zero =>
    rintro m v ⟨s, hs, hp⟩ hf
    rw [← show s = v from hp] at hf
    exact ⟨s, hs, hf⟩
  | succ n ih =>
    rintro m v ⟨s, hs, z, hz1, hz2⟩ ⟨g, hg, hf⟩
    have hz : Pnx d X out n z := ⟨s, hs, hz1⟩
    obtain ⟨u, u1, u2⟩ := ih (m + 1) z hz ⟨g, hg, v, hf, hz2, (Pnx_lt hX h3 hz).2⟩
    exact ⟨u, u1, by rw [show m + (n + 1) = m + 1 + n by omega]; exact u2⟩
theorem pf_Pnx {d : zD} {X : zG} {out : List zIt} : ∀ n k u, pf d X out n u → Pnx d X out k u → ∃ g, S0x d X out g ∧ Pnx d X out (k + n) g := by
  intro n
  induction n with
  | zero =>
    rintro k u ⟨g, hg, hp⟩ hk
    rw [← show g = u from hp] at hk
    exact ⟨g, hg, hk⟩
  | succ n ih =>
    rintro k u ⟨g, hg, z, hz1, hz2⟩ hk
    obtain ⟨t, t1, t2⟩ := ih (k + 1) z ⟨g, hg, hz1⟩ (Pnx_s hk hz2.1)
    exact ⟨t, t1, by rw [show k + (n + 1) = k + 1 + n by omega]; exact t2⟩
theorem Pnx_0 {d : zD} {X : zG} {out : List zIt} {w : Nat} : Pnx d X out 0 w ↔ gd d X out w := ⟨fun ⟨s, hs, hp⟩ => by rw [← show s = w from hp]; exact hs, fun h => ⟨w, h, rfl⟩⟩
/-- layers and what of them leads to a round in time -/
def DPx (d : zD) (X : zG) (out : List zIt) (n : Nat) (dp : Nat → Nat) (B : Nat → Nat → Int32) : Prop := (∀ k, k < 8 * gN X → B 49 k = nI (dp k) - 1) ∧ (∀ k, k < 8 * gN X → (B 50 k = 0 ∨ B 50 k = 1) ∧ (B 50 k = 1 ↔ 0 < dp k ∧ Pnx d X out (n + 1 - dp k) k)) ∧ LYR d X out n dp ∧ (∀ m u, pf d X out m u → gd d X out u → n ≤ m) ∧ (∃ u, pf d X out n u ∧ gd d X out u) ∧ n < 768
/-- the step from a layer to the next -/
theorem DP_n {d : zD} {Q : zQ} {X : zG} {out : List zIt} (hX : XI d Q X) (h3 : ntm out ≤ 3) {n e : Nat} {dp : Nat → Nat} (hL : LYR d X out n dp) (hmin : ∀ m u, pf d X out m u → gd d X out u → n ≤ m) (he : e ≤ n) {v w : Nat} (hv : dp v = e) (he0 : 0 < e) (hw : Fw d X out v w) : (dp w = e + 1 ∧ Pnx d X out (n - e) w) ↔ Pnx d X out (n - e) w := by
  refine ⟨fun z => z.2, fun hp => ⟨?_, hp⟩⟩
  obtain ⟨s, hs, hpv⟩ := (hL.1 v (by omega)).2
  rw [hv] at hpv
  obtain ⟨a1, a2⟩ := hL.2 (e - 1 + 1) w (by omega) ⟨s, hs, v, hpv, hw⟩
  obtain ⟨_, b2⟩ := hL.1 w a1
  obtain ⟨u, u1, u2⟩ := Pnx_pf hX h3 (n - e) (dp w - 1) w hp b2
  have := hmin _ u u2 u1
  omega
theorem r_shortest {Post : Int32 → (Nat → Int32) → (Nat → Int64) → (Nat → Nat → Int32) → (Nat → Nat → Int64) → Prop} {mc : Nat} {d : zD} {Q : zQ} {X : zG} {out : List zIt} (hS : SV mc d Q X out I9 B9) (hF : XF X (gN X)) (h0 : 0 < gN X)
    (hn : ∀ B', NLx d X out → (∀ k, k ∉ [49, 50, 51] → B' k = B9 k) → Post (-1) I9 J9 B' D9) (hy : ∀ n dp B', DPx d X out n dp B' → (∀ k, k ∉ [49, 50, 51] → B' k = B9 k) → Post (nI n) I9 J9 B' D9) : wp_LassoFinderModel_shortest I9 J9 B9 D9 Post := by
  have x1 := hS.1.1
  have x2 := hS.1.2.1
  have h3 := hS.2.1
  have p8 := p2_3 h3
  have i14 := hS.2.2.2.1
  have fr : ∀ B1 : Nat → Nat → Int32, (∀ k, k ∉ [49, 50, 51] → B1 k = B9 k) → SV mc d Q X out I9 B1 := fun B1 hB => hS.b (fun k hk => hB k (by simp; omega))
  have n0 : vp_nar .boolean 0 = (0 : Int32) := by decide
  have n1 : vp_nar .boolean 1 = (1 : Int32) := by decide
  -- backwards through the layers
  have back : ∀ n dp, LYR d X out n dp → (∀ m u, pf d X out m u → gd d X out u → n ≤ m) → (∃ u, pf d X out n u ∧ gd d X out u) → n < 768 → ∀ E B1, E ≤ n → (∀ k, k < 8 * gN X → B1 49 k = nI (dp k) - 1) → (∀ k, k < 8 * gN X → (B1 50 k = 0 ∨ B1 50 k = 1) ∧ (B1 50 k = 1 ↔ E < dp k ∧ Pnx d X out (n + 1 - dp k) k)) → (∀ k, k ∉ [49, 50, 51] → B1 k = B9 k) → wl_LassoFinderModel_shortest_193 Post (E + 1) (nI n) (nI E - 1) I9 J9 B1 D9 := by
    intro n dp hL hmin hex hn768 E
    have dN : ∀ w, dp w ≤ n + 1 := fun w => by
      by_cases e : dp w = 0
      · omega
      · exact (hL.1 w e).1
    induction E with
    | zero =>
      intro B1 hE h49 h50 hB
      exact ⟨fun _ => hy n dp B1 ⟨h49, h50, hL, hmin, hex, hn768⟩ hB, fun z => absurd (by decide) z⟩
    | succ E ihE =>
      intro B1 hE h49 h50 hB
      have e7 : nI (E + 1) - 1 = nI E := nI_pred E
      rw [e7]
      -- one spot of the layer
      have in2 : ∀ (K200 : Int32 → Int32 → Int32 → (Nat → Int32) → (Nat → Int64) → (Nat → Nat → Int32) → (Nat → Nat → Int64) → Prop) (K223 : Int32 → Int32 → Int32 → Int32 → (Nat → Int32) → (Nat → Int64) → (Nat → Nat → Int32) → (Nat → Nat → Int64) → Prop) (k j : Nat), k < 8 * gN X → dp k = E + 1 → j < gM X → gS X j = k / 8 →
          ∀ u t (P : Prop) B2, t + u = 2 ^ ntm out → (∀ x, x ≠ 50 → B2 x = B1 x) → (B2 50 k = 0 ∨ B2 50 k = 1) → (B2 50 k = 1 ↔ (P ∨ ∃ t', t' < t ∧ bfx d X out (k / 8) t' = k % 8 ∧ Pnx d X out (n - (E + 1)) (8 * gT X j + t'))) → (∀ w, w < 8 * gN X → E + 1 < dp w → (B2 50 w = 0 ∨ B2 50 w = 1) ∧ (B2 50 w = 1 ↔ Pnx d X out (n + 1 - dp w) w)) →
          (∀ B3, (∀ x, x ≠ 50 → B3 x = B1 x) → (B3 50 k = 0 ∨ B3 50 k = 1) → (B3 50 k = 1 ↔ (P ∨ ∃ t', t' < 2 ^ ntm out ∧ bfx d X out (k / 8) t' = k % 8 ∧ Pnx d X out (n - (E + 1)) (8 * gT X j + t'))) → (∀ w, ¬ w = k → B3 50 w = B2 50 w) → K223 (nI n) (nI E) (nI k) (nI (j + 1)) I9 J9 B3 D9) →
          wl_LassoFinderModel_shortest_253 (wl_LassoFinderModel_shortest_193 Post (E + 1)) K200 K223 Post (u + 1) (nI n) (nI E) (nI k) (nI j) (nI t) I9 J9 B2 D9 := by
        intro K200 K223 k j hk hdk hj hjs u
        obtain ⟨_, ht⟩ := hS.1.2.2.2.2 j hj
        induction u with
        | zero =>
          intro t P B2 htu hB2 hb hiff hup hK z3 e3
          have hS2 : SV mc d Q X out I9 B2 := fr B2 (fun x hx => (hB2 x (by simp at hx; omega)).trans (hB x hx))
          rw [tw hS2] at e3
          refine ⟨fun _ z5 e5 => ?_, fun z => absurd ((leI e3 (y := nI t) rfl (by omega) (by omega)).mpr (by omega)) z⟩
          rw [inI rfl e5]
          exact hK B2 hB2 hb (by rw [show 2 ^ ntm out = t by omega]; exact hiff) (fun _ _ => rfl)
        | succ u ih =>
          intro t P B2 htu hB2 hb hiff hup hK z3 e3
          have hS2 : SV mc d Q X out I9 B2 := fr B2 (fun x hx => (hB2 x (by simp at hx; omega)).trans (hB x hx))
          rw [tw hS2] at e3
          refine ⟨fun z => ?_, fun _ => ⟨vin2 rfl (by omega) (by omega), fun z6 e6 z7 e7 z8 e8 => ⟨vin2 rfl (by omega) (by omega), fun z9 e9 => ?_⟩⟩⟩
          · have := (leI e3 (y := nI t) rfl (by omega) (by omega)).mp z; omega
          rw [clI rfl (by omega), (hS2.2.2.2.2.2.2.2.2 j hj).2] at e6
          have n8 : z8 = nI (8 * gT X j + t) := by rw [e8, e7, e6, show (8 : Int32) = nI 8 from rfl, nI_mul, nI_add]
          have hwl : 8 * gT X j + t < 8 * gN X := by omega
          rw [clI rfl (by omega)] at e9
          -- the spot's row is written
          have wr : ∀ c : Int32, (c = 0 ∨ c = 1) → (c = 1 ↔ (P ∨ ∃ t', t' < t + 1 ∧ bfx d X out (k / 8) t' = k % 8 ∧ Pnx d X out (n - (E + 1)) (8 * gT X j + t'))) → wc_LassoFinderModel_shortest_341 (wl_LassoFinderModel_shortest_193 Post (E + 1)) K200 K223 (wl_LassoFinderModel_shortest_253 (wl_LassoFinderModel_shortest_193 Post (E + 1)) K200 K223 Post (u + 1)) Post (nI n) (nI E) (nI k) (nI j) (nI t) c (nI k) I9 J9 B2 D9 := by
            intro c hc hci
            refine ⟨vin2 rfl (by omega) (by omega), fun y2 f2 => ?_⟩
            rw [inI rfl f2, clI rfl (by omega)]
            have hnar : vp_nar .boolean c = c := by rcases hc with e | e <;> rw [e] <;> assumption
            rw [hnar]
            refine ih (t + 1) P _ (by omega) (fun x hx => by simp [va_up, hx]; exact hB2 x hx) (by simp [va_up, upd]; exact hc) (by simp only [va_up, upd, if_true]; exact hci) (fun w hw hd => ?_) (fun B3 c1 c2 c3 c4 => hK B3 c1 c2 c3 (fun w hw => ?_))
            · have : ¬ w = k := fun e => by rw [e] at hd; omega
              simp only [va_up, upd, this, if_true, if_false]; exact hup w hw hd
            · rw [c4 w hw]; simp only [va_up, upd, hw, if_true, if_false]
          have old1 : B2 50 k = 1 → (P ∨ ∃ t', t' < t + 1 ∧ bfx d X out (k / 8) t' = k % 8 ∧ Pnx d X out (n - (E + 1)) (8 * gT X j + t')) := fun hb1 => by
            rcases hiff.mp hb1 with p | ⟨t', a1, a2⟩
            · exact Or.inl p
            · exact Or.inr ⟨t', by omega, a2⟩
          have no : B2 50 k = 0 → ¬ (bfx d X out (k / 8) t = k % 8 ∧ Pnx d X out (n - (E + 1)) (8 * gT X j + t)) → ((0 : Int32) = 1 ↔ (P ∨ ∃ t', t' < t + 1 ∧ bfx d X out (k / 8) t' = k % 8 ∧ Pnx d X out (n - (E + 1)) (8 * gT X j + t'))) := fun hb0 hn2 => by
            refine ⟨fun z => absurd z (by decide), fun z => ?_⟩
            have : B2 50 k = 1 := hiff.mpr (by
              rcases z with p | ⟨t', a1, a2⟩
              · exact Or.inl p
              · by_cases e : t' = t
                · subst e; exact absurd a2 hn2
                · exact Or.inr ⟨t', by omega, a2⟩)
            rw [hb0] at this; exact this
          refine ⟨fun z => wr 1 (Or.inr rfl) ⟨fun _ => old1 (hb.resolve_left (fun y => z (by rw [e9]; exact y))), fun _ => rfl⟩, fun z => ⟨vin2 n8 (by omega) (by omega), fun z11 e11 z12 e12 => ?_⟩⟩
          have hb0 : B2 50 k = 0 := by rw [← e9]; exact z
          have hFwk : bfx d X out (k / 8) t = k % 8 → Fw d X out k (8 * gT X j + t) := fun e => by
            refine ⟨?_, by omega⟩
            have := Er_st (d := d) (out := out) hS.1 hj (show t < 8 by omega)
            rw [hjs, e, show 8 * (k / 8) + k % 8 = k by omega] at this; exact this
          have core : bfx d X out (k / 8) t = k % 8 → Pnx d X out (n - (E + 1)) (8 * gT X j + t) → dp (8 * gT X j + t) = E + 1 + 1 := fun e hp => ((DP_n hS.1 h3 hL hmin hE hdk (by omega) (hFwk e)).mpr hp).1
          rw [clI n8 (by omega), hB2 49 (by decide), h49 _ hwl] at e11
          have n12 := inI rfl e12
          have q11 : z11 = z12 ↔ dp (8 * gT X j + t) = E + 1 + 1 := by
            rw [e11, n12, show nI (E + 1) = nI (E + 1 + 1) - 1 from (nI_pred (E + 1)).symm]
            exact (nI_md (by have := dN (8 * gT X j + t); omega) (by omega)).1
          refine ⟨fun y => wr 0 (Or.inl rfl) (no hb0 (fun w => y (q11.mpr (core w.1 w.2)))), fun y => ⟨vin2 n8 (by omega) (by omega), fun z14 e14 => ?_⟩⟩
          have hdt := q11.mp y
          rw [clI n8 (by omega)] at e14
          obtain ⟨h01, hupt⟩ := hup _ hwl (by omega)
          rw [hdt, show n + 1 - (E + 1 + 1) = n - (E + 1) by omega] at hupt
          refine ⟨fun g => wr 0 (Or.inl rfl) (no hb0 (fun w => ?_)), fun g z16 e16 => ?_⟩
          · have := hupt.mpr w.2
            rw [← e14, g] at this; exact absurd this (by decide)
          · rw [sh3 (by omega)] at e16
            refine r_bf hS2 e16 rfl (by omega) (by omega) (fun z18 e18 => ?_)
            rw [an7] at e18
            have hbl := (bfx_lt (d := d) (X := X) (q := k / 8) (g := t) h3).2
            have qb : nI (bfx d X out (k / 8) t) = z18 ↔ bfx d X out (k / 8) t = k % 8 := eqI rfl e18 (by omega) (by omega)
            have hpt : Pnx d X out (n - (E + 1)) (8 * gT X j + t) := hupt.mp (h01.resolve_left (fun w => g (by rw [e14]; exact w)))
            exact ⟨fun w => wr 0 (Or.inl rfl) (no hb0 (fun v => w (qb.mpr v.1))), fun w => wr 1 (Or.inr rfl) ⟨fun _ => Or.inr ⟨t, by omega, qb.mp w, hpt⟩, fun _ => rfl⟩⟩
      have in1 : ∀ (K200 : Int32 → Int32 → Int32 → (Nat → Int32) → (Nat → Int64) → (Nat → Nat → Int32) → (Nat → Nat → Int64) → Prop) (k : Nat), k < 8 * gN X → dp k = E + 1 →
          ∀ u j B2, j + u = gF X (k / 8 + 1) → gF X (k / 8) ≤ j → (∀ x, x ≠ 50 → B2 x = B1 x) → (B2 50 k = 0 ∨ B2 50 k = 1) → (B2 50 k = 1 ↔ ∃ j' t', j' < j ∧ j' < gM X ∧ gS X j' = k / 8 ∧ t' < 2 ^ ntm out ∧ bfx d X out (k / 8) t' = k % 8 ∧ Pnx d X out (n - (E + 1)) (8 * gT X j' + t')) → (∀ w, w < 8 * gN X → E + 1 < dp w → (B2 50 w = 0 ∨ B2 50 w = 1) ∧ (B2 50 w = 1 ↔ Pnx d X out (n + 1 - dp w) w)) →
          (∀ B3, (∀ x, x ≠ 50 → B3 x = B1 x) → (B3 50 k = 0 ∨ B3 50 k = 1) → (B3 50 k = 1 ↔ Pnx d X out (n + 1 - (E + 1)) k) → (∀ w, ¬ w = k → B3 50 w = B2 50 w) → K200 (nI n) (nI E) (nI (k + 1)) I9 J9 B3 D9) →
          wl_LassoFinderModel_shortest_223 (wl_LassoFinderModel_shortest_193 Post (E + 1)) K200 Post (u + 1) (nI n) (nI E) (nI k) (nI j) I9 J9 B2 D9 := by
        intro K200 k hk hdk u
        have hgl := gF_le hF (show k / 8 < gN X by omega)
        induction u with
        | zero =>
          intro j B2 hj hlo hB2 hb hiff hup hK z20 e20 z21 e21
          have hS2 : SV mc d Q X out I9 B2 := fr B2 (fun x hx => (hB2 x (by simp at hx; omega)).trans (hB x hx))
          rw [sh3 (by omega)] at e20
          have n21 := inI e20 e21
          refine ⟨vin2 n21 (by omega) (by omega), fun z22 e22 => ?_⟩
          rw [clI n21 (by omega), hS2.2.2.2.2.2.2.2.1 _ (by omega)] at e22
          refine ⟨fun _ y1 f1 => ?_, fun z => absurd ((leI e22 (y := nI j) rfl (by omega) (by omega)).mpr (by omega)) z⟩
          rw [inI rfl f1]
          refine hK B2 hB2 hb (hiff.trans ⟨?_, ?_⟩) (fun _ _ => rfl)
          · rintro ⟨j', t', _, a2, a3, a4, a5, a6⟩
            have := Er_st (d := d) (out := out) hS.1 a2 (show t' < 8 by omega)
            rw [a3, a5, show 8 * (k / 8) + k % 8 = k by omega] at this
            have := Pnx_s a6 this
            rw [show n - (E + 1) + 1 = n + 1 - (E + 1) by omega] at this; exact this
          · intro hp
            rw [show n + 1 - (E + 1) = n - (E + 1) + 1 by omega] at hp
            obtain ⟨s, hs, z, hz1, hz2⟩ := hp
            have hz : Pnx d X out (n - (E + 1)) z := ⟨s, hs, hz1⟩
            obtain ⟨j', j1, j2, j3⟩ := Er_in hz2
            have hbl := (bfx_lt (d := d) (X := X) (q := gS X j') (g := z % 8) h3).2
            have g1 : gS X j' = k / 8 := by omega
            have g2 : bfx d X out (gS X j') (z % 8) = k % 8 := by omega
            have hj' := gF_all hF j1 (show k / 8 < gN X by omega) g1
            refine ⟨j', z % 8, by omega, j1, g1, (Pnx_lt hS.1 h3 hz).2, by rw [g1] at g2; exact g2, ?_⟩
            rw [j2, show 8 * (z / 8) + z % 8 = z by omega]; exact hz
        | succ u ih =>
          intro j B2 hj hlo hB2 hb hiff hup hK z20 e20 z21 e21
          have hS2 : SV mc d Q X out I9 B2 := fr B2 (fun x hx => (hB2 x (by simp at hx; omega)).trans (hB x hx))
          rw [sh3 (by omega)] at e20
          have n21 := inI e20 e21
          refine ⟨vin2 n21 (by omega) (by omega), fun z22 e22 => ?_⟩
          rw [clI n21 (by omega), hS2.2.2.2.2.2.2.2.1 _ (by omega)] at e22
          refine ⟨fun z => ?_, fun _ => ⟨vin2 rfl (by omega) (by omega), fun z24 e24 => ?_⟩⟩
          · have := (leI e22 (y := nI j) rfl (by omega) (by omega)).mp z; omega
          rw [clI rfl (by omega), hB2 49 (by decide), h49 k hk, hdk] at e24
          refine ⟨fun z => absurd (e24.trans (nI_pred E)) z, fun _ => ⟨2 ^ ntm out + 1, ?_⟩⟩
          have hjM : j < gM X := by omega
          have hjs : gS X j = k / 8 := (gF_q hF hjM (by omega)).mp ⟨hlo, by omega⟩
          refine in2 K200 (wl_LassoFinderModel_shortest_223 (wl_LassoFinderModel_shortest_193 Post (E + 1)) K200 Post (u + 1)) k j hk hdk hjM hjs (2 ^ ntm out) 0 (∃ j' t', j' < j ∧ j' < gM X ∧ gS X j' = k / 8 ∧ t' < 2 ^ ntm out ∧ bfx d X out (k / 8) t' = k % 8 ∧ Pnx d X out (n - (E + 1)) (8 * gT X j' + t')) B2 (by omega) hB2 hb (hiff.trans ⟨Or.inl, fun w => w.elim id (fun ⟨t', a, _⟩ => by omega)⟩) hup (fun B3 c1 c2 c3 c4 => ?_)
          refine ih (j + 1) B3 (by omega) (by omega) c1 c2 (c3.trans ⟨?_, ?_⟩) (fun w hw hd => ?_) (fun B4 d1 d2 d3 d4 => hK B4 d1 d2 d3 (fun w hw => (d4 w hw).trans (c4 w hw)))
          · rintro (⟨j', t', a1, a2⟩ | ⟨t', a1, a2, a3⟩)
            · exact ⟨j', t', by omega, a2⟩
            · exact ⟨j, t', by omega, hjM, hjs, a1, a2, a3⟩
          · rintro ⟨j', t', a1, a2, a3, a4, a5, a6⟩
            by_cases e : j' = j
            · subst e; exact Or.inr ⟨t', a4, a5, a6⟩
            · exact Or.inl ⟨j', t', by omega, a2, a3, a4, a5, a6⟩
          · have : ¬ w = k := fun e => by rw [e] at hd; omega
            rw [c4 w this]; exact hup w hw hd
      have lay : ∀ u k B2, k + u = 8 * gN X → (∀ x, x ≠ 50 → B2 x = B1 x) → (∀ w, w < 8 * gN X → (B2 50 w = 0 ∨ B2 50 w = 1) ∧ (B2 50 w = 1 ↔ (E + 1 < dp w ∨ (dp w = E + 1 ∧ w < k)) ∧ Pnx d X out (n + 1 - dp w) w)) → wl_LassoFinderModel_shortest_200 (wl_LassoFinderModel_shortest_193 Post (E + 1)) Post (u + 1) (nI n) (nI E) (nI k) I9 J9 B2 D9 := by
        intro u
        induction u with
        | zero =>
          intro k B2 hk hB2 hall z26 e26
          rw [i14, show (8 : Int32) = nI 8 from rfl, nI_mul] at e26
          refine ⟨fun _ z28 e28 => ?_, fun z => absurd ((leI e26 (y := nI k) rfl (by omega) (by omega)).mpr (by omega)) z⟩
          have n28 : z28 = nI E - 1 := by
            rw [e28]
            generalize nI E = y
            grind
          rw [n28]
          refine ihE B2 (by omega) (by rw [hB2 49 (by decide)]; exact h49) (fun w hw => ⟨(hall w hw).1, (hall w hw).2.trans (and_congr_left (fun _ => ?_))⟩) (fun x hx => (hB2 x (by simp at hx; omega)).trans (hB x hx))
          constructor
          · rintro (a | a) <;> omega
          · intro a
            by_cases e : dp w = E + 1
            · exact Or.inr ⟨e, by omega⟩
            · exact Or.inl (by omega)
        | succ u ih =>
          intro k B2 hk hB2 hall z26 e26
          have hS2 : SV mc d Q X out I9 B2 := fr B2 (fun x hx => (hB2 x (by simp at hx; omega)).trans (hB x hx))
          have hgl := gF_le hF (show k / 8 < gN X by omega)
          have hgm := gF_mono hF (k / 8) (k / 8 + 1) (by omega) (by omega)
          rw [i14, show (8 : Int32) = nI 8 from rfl, nI_mul] at e26
          refine ⟨fun z => ?_, fun _ z29 e29 => ?_⟩
          · have := (leI e26 (y := nI k) rfl (by omega) (by omega)).mp z; omega
          rw [sh3 (by omega)] at e29
          refine ⟨vin2 e29 (by omega) (by omega), fun z30 e30 => ?_⟩
          rw [clI e29 (by omega), hS2.2.2.2.2.2.2.2.1 _ (by omega)] at e30
          rw [e30]
          by_cases hdk : dp k = E + 1
          · refine ⟨gF X (k / 8 + 1) - gF X (k / 8) + 1, in1 (wl_LassoFinderModel_shortest_200 (wl_LassoFinderModel_shortest_193 Post (E + 1)) Post (u + 1)) k (by omega) hdk (gF X (k / 8 + 1) - gF X (k / 8)) (gF X (k / 8)) B2 (by omega) (Nat.le_refl _) hB2 (hall k (by omega)).1 ⟨fun z => ?_, ?_⟩ (fun w hw hd => ⟨(hall w hw).1, (hall w hw).2.trans ⟨fun a => a.2, fun a => ⟨Or.inl hd, a⟩⟩⟩) (fun B3 c1 c2 c3 c4 => ?_)⟩
            · have := ((hall k (by omega)).2.mp z).1
              omega
            · rintro ⟨j', t', a1, a2, a3, _⟩
              have := gF_all hF a2 (show k / 8 < gN X by omega) a3
              omega
            · refine ih (k + 1) B3 (by omega) c1 (fun w hw => ?_)
              by_cases e : w = k
              · subst e
                refine ⟨c2, c3.trans ⟨fun a => ⟨Or.inr ⟨hdk, by omega⟩, by rw [hdk]; exact a⟩, fun a => by rw [hdk] at a; exact a.2⟩⟩
              · rw [c4 w e]
                refine ⟨(hall w hw).1, (hall w hw).2.trans (and_congr_left (fun _ => ?_))⟩
                exact or_congr Iff.rfl (and_congr_right (fun _ => by omega))
          · have go : wc_LassoFinderModel_shortest_354 (wl_LassoFinderModel_shortest_193 Post (E + 1)) (wl_LassoFinderModel_shortest_200 (wl_LassoFinderModel_shortest_193 Post (E + 1)) Post (u + 1)) Post (nI n) (nI E) (nI k) I9 J9 B2 D9 := by
              intro y1 f1
              rw [inI rfl f1]
              refine ih (k + 1) B2 (by omega) hB2 (fun w hw => ⟨(hall w hw).1, (hall w hw).2.trans (and_congr_left (fun _ => or_congr Iff.rfl (and_congr_right (fun hd => ?_))))⟩)
              constructor
              · intro a; omega
              · intro a
                by_cases e : w = k
                · subst e; exact absurd hd hdk
                · omega
            refine ⟨1, ?_⟩
            intro z20 e20 z21 e21
            rw [sh3 (by omega)] at e20
            have n21 := inI e20 e21
            refine ⟨vin2 n21 (by omega) (by omega), fun z22 e22 => ⟨fun _ => go, fun _ => ⟨vin2 rfl (by omega) (by omega), fun z24 e24 => ⟨fun _ => go, fun z => ?_⟩⟩⟩⟩
            rw [clI rfl (by omega), hB2 49 (by decide), h49 k (by omega)] at e24
            rw [e24, show nI E = nI (E + 1) - 1 from (nI_pred E).symm] at z
            exact absurd ((nI_md (by have := dN k; omega) (by omega)).1.mp z) hdk
      refine ⟨fun z => ?_, fun _ => ⟨8 * gN X + 1, lay (8 * gN X) 0 B1 (by omega) (fun _ _ => rfl) (fun w hw => ⟨(h50 w hw).1, (h50 w hw).2.trans (and_congr_left (fun _ => ⟨Or.inl, fun a => a.elim id (fun b => by omega)⟩))⟩)⟩⟩
      have := (ltI (x := nI E) rfl (y := 0) (b := 0) rfl (by omega) (by omega)).mp z; omega
  -- forwards, layer by layer
  have main : ∀ u n dp B1, n + u = 8 * gN X → LYR d X out n dp → (∀ k, k < 8 * gN X → B1 49 k = nI (dp k) - 1) → (∀ w, ¬ dp w = 0 → dp w ≤ n → ¬ gd d X out w) → n ≤ cv dp (8 * gN X) → (∀ w, dp w = n + 1 → n + 1 ≤ cv dp (8 * gN X)) → (∀ k, k ∉ [49, 50, 51] → B1 k = B9 k) → wl_LassoFinderModel_shortest_62 Post (u + 2) (nI n) 0 (nI n) I9 J9 B1 D9 := by
    intro u
    induction u using Nat.strongRecOn with
    | ind u ihu =>
      intro n dp B1 hnu hL h49 hno hcv hcv2 hB
      have dN : ∀ w, dp w ≤ n + 1 := fun w => by
        by_cases e : dp w = 0
        · omega
        · exact (hL.1 w e).1
      have hcvl := cv_le dp (8 * gN X)
      -- all spots have been asked
      have chk : ∀ t k (fd : Int32) B2, k + t = 8 * gN X → (∀ x, x ∉ [50, 51] → B2 x = B1 x) → (∀ w, w < k → (B2 50 w = 0 ∨ B2 50 w = 1) ∧ (B2 50 w = 1 ↔ dp w = n + 1 ∧ gd d X out w)) → (fd = 0 ∧ (∀ w, w < k → ¬ (dp w = n + 1 ∧ gd d X out w)) ∨ fd = 1 ∧ ∃ w, w < k ∧ dp w = n + 1 ∧ gd d X out w) → wl_LassoFinderModel_shortest_80 (wl_LassoFinderModel_shortest_62 Post (u + 1)) Post (t + 1) (nI n) fd (nI n) (nI k) I9 J9 B2 D9 := by
        intro t
        induction t with
        | zero =>
          intro k fd B2 hk hB2 hall hfd z40 e40
          have hB29 : ∀ x, x ∉ [49, 50, 51] → B2 x = B9 x := fun x hx => (hB2 x (by simp at hx ⊢; omega)).trans (hB x hx)
          have hS2 : SV mc d Q X out I9 B2 := fr B2 hB29
          have h492 : ∀ k, k < 8 * gN X → B2 49 k = nI (dp k) - 1 := by rw [hB2 49 (by decide)]; exact h49
          rw [i14, show (8 : Int32) = nI 8 from rfl, nI_mul] at e40
          refine ⟨fun _ => ⟨fun z => ?_, fun z => ?_⟩, fun z => absurd ((leI e40 (y := nI k) rfl (by omega) (by omega)).mpr (by omega)) z⟩
          · -- found
            rcases hfd with ⟨e, _⟩ | ⟨e, w, w1, w2, w3⟩
            · exact absurd e z
            subst e
            have h189 : wc_LassoFinderModel_shortest_189 Post (nI n) I9 J9 B2 D9 := by
              intro z32 e32
              rw [e32]
              refine ⟨n + 1, back n dp hL (fun m v hm hg => ?_) ⟨w, ?_, w3⟩ ?_ n B2 (Nat.le_refl _) h492 (fun x hx => ?_) hB29⟩
              · refine Nat.le_of_not_lt (fun hlt => ?_)
                obtain ⟨a1, a2⟩ := hL.2 m v (by omega) hm
                exact hno v a1 (by omega) hg
              · have := (hL.1 w (by omega)).2
                rw [w2, Nat.add_sub_cancel] at this; exact this
              · have := hcv2 w w2
                omega
              · obtain ⟨a1, a2⟩ := hall x (by omega)
                refine ⟨a1, a2.trans ⟨fun ⟨b1, b2⟩ => ⟨by omega, by rw [b1, Nat.sub_self]; exact Pnx_0.mpr b2⟩, fun ⟨b1, b2⟩ => ?_⟩⟩
                have hx1 : dp x = n + 1 := by have := dN x; omega
                rw [hx1, Nat.sub_self] at b2
                exact ⟨hx1, Pnx_0.mp b2⟩
            refine ⟨fun y => absurd y (by decide), fun _ y33 f33 y34 f34 => ?_⟩
            have m33 : y33 = nI n := by
              rw [f33]
              generalize nI n = y
              grind
            rw [m33]
            intro y51 f51
            exact ⟨fun _ => h189, fun _ => ⟨fun _ => h189, fun y => absurd y (by decide)⟩⟩
          · -- not found: the next layer
            rcases hfd with ⟨efd, hnone⟩ | ⟨e, _⟩
            · subst efd
              have hno2 : ∀ w, ¬ dp w = 0 → ¬ gd d X out w := fun w hw hg => by
                by_cases e : dp w ≤ n
                · exact hno w hw e hg
                · have hx1 : dp w = n + 1 := by have := dN w; omega
                  exact hnone w (by have := (pf_lt hS.1 h3 h0 (hL.1 w hw).2).1; omega) ⟨hx1, hg⟩
              refine r_spread hS2 hF h0 (by omega) h492 hL (fun dp' nw B3 c1 c2 c3 c4 c5 => ?_)
              have hB39 : ∀ x, x ∉ [49, 50, 51] → B3 x = B9 x := fun x hx => (c5 x (by simp at hx; omega)).trans (hB29 x hx)
              rcases c4 with ⟨ew, hsame⟩ | ⟨ew, w, w1, w2, w3⟩
              · refine ⟨fun y => absurd ew y, fun _ => hn B3 ?_ hB39⟩
                -- nothing further is reached
                have all : ∀ m w, pf d X out m w → ¬ dp w = 0 := by
                  intro m
                  induction m with
                  | zero => intro w hp; exact (hL.2 0 w (by omega) hp).1
                  | succ m ihm =>
                    rintro w ⟨s, hs, x, hx1, hx2⟩
                    have hxz := ihm x ⟨s, hs, hx1⟩
                    obtain ⟨d1, s', d2, d3⟩ := hL.1 x hxz
                    have := (c2.2 (dp x - 1 + 1) w (by omega) ⟨s', d2, x, d3, hx2⟩).1
                    exact fun e => this (hsame w e)
                intro g m hg hs hp
                obtain ⟨v, v1, v2⟩ := Pnx_pf hS.1 h3 m 0 g hp ⟨g, ⟨hg, hs⟩, rfl⟩
                exact hno2 v (all _ v v2) v1
              · subst ew
                refine ⟨fun _ => ⟨fun _ y33 f33 y34 f34 => ?_, fun y => absurd z y⟩, fun y => absurd y (by decide)⟩
                rw [inI rfl f33, inI rfl f34]
                have hmn : ∀ x, ¬ dp x = 0 → ¬ dp' x = 0 := fun x hx => by rw [c3 x hx]; exact hx
                have hca := cv_add hmn (8 * gN X)
                have hc1 := hca.2 ⟨w, w1, w2, w3⟩
                have hcvl' := cv_le dp' (8 * gN X)
                -- the new spot's layer
                have hw' : dp' w = n + 2 := by
                  obtain ⟨e1, e2⟩ := c2.1 w w3
                  have : ¬ dp' w ≤ n + 1 := fun g => (hL.2 (dp' w - 1) w (by omega) e2).1 w2
                  omega
                have hn1 : n + 1 ≤ cv dp (8 * gN X) := by
                  obtain ⟨s, hs, x, hx1, hx2⟩ := (show pf d X out (n + 1) w by have := (c2.1 w w3).2; rw [hw', show n + 2 - 1 = n + 1 by omega] at this; exact this)
                  obtain ⟨d1, d2⟩ := hL.2 n x (Nat.le_refl _) ⟨s, hs, hx1⟩
                  refine hcv2 x ?_
                  refine Classical.byContradiction (fun ne => ?_)
                  obtain ⟨_, s', d4, d5⟩ := hL.1 x d1
                  exact (hL.2 (dp x - 1 + 1) w (by omega) ⟨s', d4, x, d5, hx2⟩).1 w2
                obtain ⟨u', rfl⟩ : ∃ u', u = u' + 1 := ⟨u - 1, by omega⟩
                refine ihu u' (by omega) (n + 1) dp' B3 (by omega) c2 c1 (fun x hx hle => ?_) (by omega) (fun _ _ => by omega) hB39
                by_cases e : dp x = 0
                · obtain ⟨_, e2⟩ := c2.1 x hx
                  exact absurd e (hL.2 (dp' x - 1) x (by omega) e2).1
                · exact hno2 x e
            · rw [e] at z; exact absurd z (by decide)
        | succ t ih =>
          intro k fd B2 hk hB2 hall hfd z40 e40
          have hB29 : ∀ x, x ∉ [49, 50, 51] → B2 x = B9 x := fun x hx => (hB2 x (by simp at hx ⊢; omega)).trans (hB x hx)
          have hS2 : SV mc d Q X out I9 B2 := fr B2 hB29
          rw [i14, show (8 : Int32) = nI 8 from rfl, nI_mul] at e40
          refine ⟨fun z => ?_, fun _ => ⟨vin2 rfl (by omega) (by omega), fun z45 e45 => ?_⟩⟩
          · have := (leI e40 (y := nI k) rfl (by omega) (by omega)).mp z; omega
          rw [clI rfl (by omega), hB2 49 (by decide), h49 k (by omega)] at e45
          have q45 : z45 = nI n ↔ dp k = n + 1 := by
            rw [e45, show nI n = nI (n + 1) - 1 from (nI_pred n).symm]
            exact (nI_md (by have := dN k; omega) (by omega)).1
          -- the spot's row is written
          have wr : ∀ (c : Int32) (B3 : Nat → Nat → Int32), (∀ x, x ≠ 51 → B3 x = B2 x) → (c = 0 ∨ c = 1) → (c = 1 ↔ dp k = n + 1 ∧ gd d X out k) → wc_LassoFinderModel_shortest_130 (wl_LassoFinderModel_shortest_62 Post (u + 1)) (wl_LassoFinderModel_shortest_80 (wl_LassoFinderModel_shortest_62 Post (u + 1)) Post (t + 1)) Post (nI n) fd (nI n) (nI k) c (nI k) I9 J9 B3 D9 := by
            intro c B3 hB3 hc hci
            have hnar : vp_nar .boolean c = c := by rcases hc with e | e <;> rw [e] <;> assumption
            have hBn : ∀ x, x ∉ [50, 51] → va_up B3 50 (upd (B3 50) k c) x = B1 x := fun x hx => by
              have h1 : ¬ x = 50 := by simp at hx; omega
              simp only [va_up, h1, if_false]
              exact (hB3 x (by simp at hx; omega)).trans (hB2 x hx)
            have hall' : ∀ w, w < k + 1 → (va_up B3 50 (upd (B3 50) k c) 50 w = 0 ∨ va_up B3 50 (upd (B3 50) k c) 50 w = 1) ∧ (va_up B3 50 (upd (B3 50) k c) 50 w = 1 ↔ dp w = n + 1 ∧ gd d X out w) := fun w hw => by
              by_cases e : w = k
              · subst e
                simp only [va_up, upd, if_true]
                exact ⟨hc, hci⟩
              · simp only [va_up, upd, e, if_true, if_false]
                rw [hB3 50 (by decide)]
                exact hall w (by omega)
            refine ⟨vin2 rfl (by omega) (by omega), fun y z36 e36 => ?_, fun y => ⟨vin2 rfl (by omega) (by omega), fun z38 e38 => ?_⟩⟩
            · rw [inI rfl e36, clI rfl (by omega), hnar]
              refine ih (k + 1) 1 _ (by omega) hBn hall' (Or.inr ⟨rfl, ?_⟩)
              rcases hfd with ⟨e, _⟩ | ⟨_, w, w1, w2⟩
              · exact absurd e y
              · exact ⟨w, by omega, w2⟩
            · rw [clI rfl (by omega), hnar] at e38
              simp only [upd, if_true] at e38
              have hno1 : ∀ w, w < k → ¬ (dp w = n + 1 ∧ gd d X out w) := by
                rcases hfd with ⟨_, e⟩ | ⟨e, _⟩
                · exact e
                · rw [e] at y; exact absurd y (by decide)
              refine ⟨fun g z36 e36 => ?_, fun g z36 e36 => ?_⟩
              · rw [inI rfl e36, clI rfl (by omega), hnar]
                refine ih (k + 1) 0 _ (by omega) hBn hall' (Or.inl ⟨rfl, fun w hw => ?_⟩)
                by_cases e : w = k
                · subst e
                  intro hh
                  have := hci.mpr hh
                  rw [← e38, g] at this; exact absurd this (by decide)
                · exact hno1 w (by omega)
              · rw [inI rfl e36, clI rfl (by omega), hnar]
                exact ih (k + 1) 1 _ (by omega) hBn hall' (Or.inr ⟨rfl, k, by omega, hci.mp (hc.resolve_left (fun e => g (by rw [e38]; exact e)))⟩)
          refine ⟨fun z => wr 0 B2 (fun _ _ => rfl) (Or.inl rfl) ⟨fun y => absurd y (by decide), fun y => absurd (q45.mpr y.1) z⟩, fun z z47 e47 z48 e48 => ?_⟩
          have hdk := q45.mp z
          rw [sh3 (by omega)] at e47
          rw [an7] at e48
          have hkg := (pf_lt hS.1 h3 h0 (hL.1 k (by omega)).2).2
          refine r_nearest hS2 hF e47 e48 (by omega) hkg (fun b ds B3 hb _ _ hB3 => ?_)
          rcases hb with ⟨e, hng⟩ | hcl
          · subst e
            exact ⟨fun _ => wr 0 B3 hB3 (Or.inl rfl) ⟨fun y => absurd y (by decide), fun y => absurd y.2 hng⟩, fun y => absurd (by decide) y⟩
          · have hg : gd d X out k := (gd_fw h3).mpr ⟨b - 1, by rw [show b - 1 + 1 = b by have := hcl.1; omega]; exact hcl.2.1⟩
            refine ⟨fun y => ?_, fun _ => wr 1 B3 hB3 (Or.inr rfl) ⟨fun _ => ⟨hdk, hg⟩, fun _ => rfl⟩⟩
            have := (leI (x := nI b) rfl (y := 0) (b := 0) rfl (by have := hcl.2.2.2; omega) (by omega)).mp y
            have := hcl.1
            omega
      intro z51 e51
      rw [i14, show (8 : Int32) = nI 8 from rfl, nI_mul] at e51
      refine ⟨fun z => ?_, fun _ => ⟨fun z => absurd rfl z, fun _ => ⟨8 * gN X + 1, chk (8 * gN X) 0 0 B1 (by omega) (fun _ _ => rfl) (fun w hw => by omega) (Or.inl ⟨rfl, fun w hw => by omega⟩)⟩⟩⟩
      have := (ltI e51 (y := nI n) rfl (by omega) (by omega)).mp z
      omega
  -- the first layer
  have hL0 : LYR d X out 0 (fun k => if k < 2 ^ ntm out ∧ sat (atv d (gK X 0)) out k = false then 1 else 0) := by
    refine ⟨fun w hw => ?_, fun m w hm hp => ?_⟩
    · by_cases e : w < 2 ^ ntm out ∧ sat (atv d (gK X 0)) out w = false
      · simp only [e, and_self, if_true]
        exact ⟨by omega, w, e, rfl⟩
      · exact absurd (if_neg e) hw
    · have em : m = 0 := by omega
      subst em
      obtain ⟨s, hs, hp⟩ := hp
      have e : w < 2 ^ ntm out ∧ sat (atv d (gK X 0)) out w = false := by rw [← show s = w from hp]; exact hs
      simp only [e, and_self, if_true]
      omega
  have init : ∀ u k B1, k + u = 8 * gN X → (∀ w, w < k → B1 49 w = nI (if w < 2 ^ ntm out ∧ sat (atv d (gK X 0)) out w = false then 1 else 0) - 1) → (∀ x, x ∉ [49, 50, 51] → B1 x = B9 x) → wl_LassoFinderModel_shortest_2 Post (u + 1) (nI k) I9 J9 B1 D9 := by
    intro u
    induction u with
    | zero =>
      intro k B1 hk h49 hB z55 e55
      rw [i14, show (8 : Int32) = nI 8 from rfl, nI_mul] at e55
      refine ⟨fun _ => ⟨8 * gN X + 2, ?_⟩, fun z => absurd ((leI e55 (y := nI k) rfl (by omega) (by omega)).mpr (by omega)) z⟩
      refine main (8 * gN X) 0 (fun k => if k < 2 ^ ntm out ∧ sat (atv d (gK X 0)) out k = false then 1 else 0) B1 (by omega) hL0 (fun w hw => h49 w (by omega)) (fun w hw hle => absurd (by omega) hw) (Nat.zero_le _) (fun w hw => ?_) hB
      have hw1 : ¬ (fun k => if k < 2 ^ ntm out ∧ sat (atv d (gK X 0)) out k = false then 1 else 0) w = 0 := fun e => by
        have := hw.symm.trans e
        omega
      have hwl := (pf_lt hS.1 h3 h0 (hL0.1 w hw1).2).1
      have := (cv_add (f := fun _ => 0) (g := fun k => if k < 2 ^ ntm out ∧ sat (atv d (gK X 0)) out k = false then 1 else 0) (fun w hw => absurd rfl hw) (8 * gN X)).2 ⟨w, hwl, rfl, hw1⟩
      omega
    | succ u ih =>
      intro k B1 hk h49 hB z55 e55
      have hS1 := fr B1 hB
      rw [i14, show (8 : Int32) = nI 8 from rfl, nI_mul] at e55
      refine ⟨fun z => ?_, fun _ z57 e57 => ?_⟩
      · have := (leI e55 (y := nI k) rfl (by omega) (by omega)).mp z; omega
      rw [tw hS1] at e57
      have wr : ∀ c : Int32, c = nI (if k < 2 ^ ntm out ∧ sat (atv d (gK X 0)) out k = false then 1 else 0) - 1 → wc_LassoFinderModel_shortest_42 (wl_LassoFinderModel_shortest_2 Post (u + 1)) Post (nI k) c (nI k) I9 J9 B1 D9 := by
        intro c hc
        refine ⟨vin2 rfl (by omega) (by omega), vin2 rfl (by omega) (by omega), fun z54 e54 => ?_⟩
        rw [inI rfl e54, clI rfl (by omega)]
        refine ih (k + 1) _ (by omega) (fun w hw => ?_) (fun x hx => by simp at hx; simp [va_up, hx]; exact hB x (by simp; omega))
        by_cases e : w = k
        · subst e; simpa [va_up, upd] using hc
        · have := h49 w (by omega)
          simpa [va_up, upd, e] using this
      have q57 : z57 ≤ nI k ↔ 2 ^ ntm out ≤ k := leI e57 rfl (by omega) (by omega)
      refine ⟨fun z => wr (-1) ?_, fun z => ?_⟩
      · rw [if_neg (fun y => by have := q57.mp z; omega)]; rfl
      · have hkG : k < 2 ^ ntm out := Nat.lt_of_not_le (fun y => z (q57.mpr y))
        refine r_isTrue (q := 0) (g := k) rfl rfl hS1.2.2.2.2.2.1 h3 h0 x1 (by omega) ?_
        cases hb : sat (atv d (gK X 0)) out k
        · refine ⟨fun y => absurd rfl y, fun _ => wr 0 ?_⟩
          rw [if_pos ⟨hkG, hb⟩]; rfl
        · refine ⟨fun _ => wr (-1) ?_, fun y => absurd y (by decide)⟩
          rw [if_neg (fun y => by rw [hb] at y; exact absurd y.2 (by decide))]; rfl
  exact ⟨8 * gN X + 1, init (8 * gN X) 0 B9 (by omega) (fun w hw => by omega) (fun _ _ => rfl)⟩
end ZS5
