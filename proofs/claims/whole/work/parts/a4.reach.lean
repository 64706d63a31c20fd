/-! The reference explores. -/
section ZL5
variable {I9 : Nat → Int32} {J9 : Nat → Int64} {B9 : Nat → Nat → Int32} {D9 : Nat → Nat → Int64}
/-- the reference keeps the steps turned round -/
def RT9 (X : zG) (B9 : Nat → Nat → Int32) : Prop := (∀ q, q ≤ gN X → B9 34 q = nI (cl (gT X) q (gM X))) ∧ (∀ j, j < gM X → B9 35 (ps (gT X) (gM X) j) = nI j)
theorem cl_ce {f : Nat → Nat} {t m j : Nat} (hj : j < m) (h : f j = t) : ps f m j = cl f t m + ce f t j := by unfold ps; rw [h]
theorem r_into {Post : Int32 → (Nat → Int32) → (Nat → Int64) → (Nat → Nat → Int32) → (Nat → Nat → Int64) → Prop} {d : zD} {Q : zQ} {X : zG} (hX : XI d Q X) (hG : RG9 d Q X I9 B9 D9) (h : ∀ B', RT9 X B' → B' 29 (gN X) = nI (gM X) → (∀ q, q ≠ gN X → B' 29 q = B9 29 q) → (∀ k, k ∉ [29, 34, 35] → B' k = B9 k) → Post (if I9 16 = 0 then 1 else 0) I9 J9 B' D9) : wc_LassoFinderModel_reach_146 Post I9 J9 B9 D9 := by
  obtain ⟨x1, xm, xw, xk, xs⟩ := id hX
  obtain ⟨g14, g15, gk, gs⟩ := id hG
  refine ⟨vin2 g14 (by omega) (by omega), gN X + 1, ?_⟩
  rw [clI g14 (by omega), g15]
  have K0 : va_up B9 29 (upd (B9 29) (gN X) (nI (gM X))) 29 (gN X) = nI (gM X) := by simp [va_up, upd]
  have K1 : ∀ q, q ≠ gN X → va_up B9 29 (upd (B9 29) (gN X) (nI (gM X))) 29 q = B9 29 q := fun q hq => by simp [va_up, upd, hq]
  have K2 : ∀ k, k ∉ [29, 34, 35] → va_up B9 29 (upd (B9 29) (gN X) (nI (gM X))) k = B9 k := fun k hk => by simp at hk; simp [va_up, hk]
  have gs0 : ∀ j, j < gM X → va_up B9 29 (upd (B9 29) (gN X) (nI (gM X))) 30 j = nI (gT X j) := fun j hj => by simpa [va_up] using (gs j hj).2.1
  generalize va_up B9 29 (upd (B9 29) (gN X) (nI (gM X))) = B0 at K0 K1 K2 gs0
  have l2 : ∀ (K163 : Int32 → Int32 → (Nat → Int32) → (Nat → Int64) → (Nat → Nat → Int32) → (Nat → Nat → Int64) → Prop) (t : Nat), t < gN X → ∀ (m j : Nat) (B1 : Nat → Nat → Int32), j + m = gM X → (∀ B2, (∀ i, i < gM X → gT X i = t → B2 35 (ps (gT X) (gM X) i) = nI i) → (∀ i, i < gM X → ¬ gT X i = t → B2 35 (ps (gT X) (gM X) i) = B1 35 (ps (gT X) (gM X) i)) → (∀ k, k ≠ 35 → B2 k = B1 k) → K163 (nI (cl (gT X) (t + 1) (gM X))) (nI (t + 1)) I9 J9 B2 D9) → (∀ i, i < j → gT X i = t → B1 35 (ps (gT X) (gM X) i) = nI i) → (∀ k, k ∉ [34, 35] → B1 k = B0 k) → wl_LassoFinderModel_reach_180 K163 Post (m + 1) (nI (cl (gT X) t (gM X) + ce (gT X) t j)) (nI t) (nI j) I9 J9 B1 D9 := by
    intro K163 t ht m
    induction m with
    | zero =>
      intro j B1 hj hK a1 a2
      have e : j = gM X := by omega
      subst e
      refine ⟨fun _ z3 e3 => ?_, fun z => absurd ((leI g15 (y := nI (gM X)) rfl (by omega) (by omega)).mpr (Nat.le_refl _)) z⟩
      rw [inI rfl e3, ← cl_s]
      exact hK B1 a1 (fun _ _ _ => rfl) (fun _ _ => rfl)
    | succ m ih =>
      intro j B1 hj hK a1 a2
      have hle := cl_le (gT X) (t + 1) (gM X)
      have hs1 := cl_s (gT X) t (gM X)
      refine ⟨fun z => ?_, fun _ => ⟨vin2 rfl (by omega) (by omega), fun z4 e4 => ?_⟩⟩
      · have := (leI g15 (y := nI j) rfl (by omega) (by omega)).mp z; omega
      rw [clI rfl (by omega), a2 30 (by decide), gs0 j (by omega)] at e4
      have hT := (xs j (by omega)).2
      have q4 : z4 = nI t ↔ gT X j = t := eqI e4 rfl (by omega) (by omega)
      refine ⟨fun g z1 e1 => ?_, fun g => ?_⟩
      · have gn : ¬ gT X j = t := fun e => g (q4.mpr e)
        have c2 : ce (gT X) t (j + 1) = ce (gT X) t j := by simp [ce, gn]
        rw [inI rfl e1, ← c2]
        refine ih (j + 1) B1 (by omega) hK (fun i hi hti => ?_) a2
        by_cases e : i = j
        · subst e; exact absurd hti gn
        · exact a1 i (by omega) hti
      · have gt := q4.mp g
        have hps := ps_lt (f := gT X) (show j < gM X by omega)
        rw [cl_ce (f := gT X) (show j < gM X by omega) gt] at hps
        have c2 : ce (gT X) t (j + 1) = ce (gT X) t j + 1 := by simp [ce, gt]
        refine ⟨vin2 rfl (by omega) (by omega), fun z6 e6 z1 e1 => ?_⟩
        rw [inI rfl e1, inI rfl e6, clI (x := nI (cl (gT X) t (gM X) + ce (gT X) t j)) rfl (by omega), Nat.add_assoc, ← c2, ← cl_ce (f := gT X) (show j < gM X by omega) gt]
        refine ih (j + 1) _ (by omega) (fun B2 h1 h2 h3 => hK B2 h1 (fun i hi hti => ?_) (fun k hk => ?_)) (fun i hi hti => ?_) (fun k hk => ?_)
        · rw [h2 i hi hti]
          have : ¬ ps (gT X) (gM X) i = ps (gT X) (gM X) j := fun w => by
            have := ps_inj hi (show j < gM X by omega) w
            subst this; exact hti gt
          simp [va_up, upd, this]
        · rw [h3 k hk]; simp [va_up, hk]
        · by_cases e : i = j
          · subst e; simp [va_up, upd]
          · have : ¬ ps (gT X) (gM X) i = ps (gT X) (gM X) j := fun w => e (ps_inj (by omega) (show j < gM X by omega) w)
            simp [va_up, upd, this]; exact a1 i (by omega) hti
        · rw [← a2 k hk]; simp at hk; simp [va_up, hk]
  have l1 : ∀ (m t : Nat) (B1 : Nat → Nat → Int32), t + m = gN X → (∀ q, q < t → B1 34 q = nI (cl (gT X) q (gM X))) → (∀ i, i < gM X → gT X i < t → B1 35 (ps (gT X) (gM X) i) = nI i) → (∀ k, k ∉ [34, 35] → B1 k = B0 k) → wl_LassoFinderModel_reach_163 Post (m + 1) (nI (cl (gT X) t (gM X))) (nI t) I9 J9 B1 D9 := by
    intro m
    induction m with
    | zero =>
      intro t B1 ht a1 a2 a3
      have e : t = gN X := by omega
      subst e
      refine ⟨fun _ => ⟨vin2 g14 (by omega) (by omega), ?_⟩, fun z => absurd ((leI g14 (y := nI (gN X)) rfl (by omega) (by omega)).mpr (Nat.le_refl _)) z⟩
      rw [clI g14 (by omega)]
      have fi := h (va_up B1 34 (upd (B1 34) (gN X) (nI (cl (gT X) (gN X) (gM X))))) ⟨fun q hq => ?_, fun j hj => ?_⟩ ?_ (fun q hq => ?_) (fun k hk => ?_)
      · refine ⟨fun g => ⟨Or.inl rfl, ?_⟩, fun g => ⟨Or.inr rfl, ?_⟩⟩
        · rw [if_neg g] at fi; exact fi
        · rw [if_pos g] at fi; exact fi
      · by_cases e : q = gN X
        · subst e; simp [va_up, upd]
        · simp [va_up, upd, e]; exact a1 q (by omega)
      · simp [va_up]; exact a2 j hj (xs j hj).2
      · simp [va_up]; rw [a3 29 (by decide)]; exact K0
      · simp [va_up]; rw [a3 29 (by decide)]; exact K1 q hq
      · rw [← K2 k hk, ← a3 k (by simp at hk ⊢; omega)]; simp at hk; simp [va_up, hk]
    | succ m ih =>
      intro t B1 ht a1 a2 a3
      refine ⟨fun z => ?_, fun _ => ⟨vin2 rfl (by omega) (by omega), gM X + 1, ?_⟩⟩
      · have := (leI g14 (y := nI t) rfl (by omega) (by omega)).mp z; omega
      rw [clI (x := nI t) rfl (by omega)]
      have := l2 (wl_LassoFinderModel_reach_163 Post (m + 1)) t (by omega) (gM X) 0 (va_up B1 34 (upd (B1 34) t (nI (cl (gT X) t (gM X))))) (by omega) (fun B2 h1 h2 h3 => ih (t + 1) B2 (by omega) (fun q hq => ?_) (fun i hi hti => ?_) (fun k hk => ?_)) (fun i hi => by omega) (fun k hk => by rw [← a3 k hk]; simp at hk; simp [va_up, hk])
      · exact this
      · rw [h3 34 (by decide)]
        by_cases e : q = t
        · subst e; simp [va_up, upd]
        · simp [va_up, upd, e]; exact a1 q (by omega)
      · by_cases e : gT X i = t
        · exact h1 i hi e
        · rw [h2 i hi e]; simp [va_up]; exact a2 i hi (by omega)
      · rw [h3 k (by simp at hk; omega), ← a3 k hk]; simp at hk; simp [va_up, hk]
  have := l1 (gN X) 0 B0 (by omega) (fun q hq => by omega) (fun i hi hti => by omega) (fun _ _ => rfl)
  rw [cl_0] at this
  exact this
/-- the reference's loop over all states -/
theorem r_exL {Post : Int32 → (Nat → Int32) → (Nat → Int64) → (Nat → Nat → Int32) → (Nat → Nat → Int64) → Prop} {d : zD} {Q : zQ} (hW : QW d Q) (hP : PR d Q I9 B9 D9) (h0 : gall d Q = none → ∀ I' B' D', FX9 I9 B9 D9 I' B' D' → Post 0 I' J9 B' D') (h1 : ∀ X I' B' D', gall d Q = some X → XI d Q X → RG9 d Q X I' B' D' → (∀ j, j ≤ gN X → B' 29 j = nI (gF X j)) → RT9 X B' → FX9 I9 B9 D9 I' B' D' → I' 16 = 0 → Post 1 I' J9 B' D') : ∀ (m q : Nat) (X : zG) (I1 : Nat → Int32) (B1 : Nat → Nat → Int32) (D1 : Nat → Nat → Int64), q + m = 96 → q ≤ gN X → XI d Q X → RG9 d Q X I1 B1 D1 → I1 16 = 0 → (∀ j, j < q → B1 29 j = nI (gF X j)) → (0 < q → gF X q = gM X) → 0 < gN X → FX9 I9 B9 D9 I1 B1 D1 → exG d Q m q X = gall d Q → wl_LassoFinderModel_reach_120 Post (m + 1) (nI q) I1 J9 B1 D1 := by
  -- the end
  have en : ∀ (q : Nat) (X : zG) (I1 : Nat → Int32) (B1 : Nat → Nat → Int32) (D1 : Nat → Nat → Int64), q = gN X → XI d Q X → RG9 d Q X I1 B1 D1 → I1 16 = 0 → (∀ j, j < q → B1 29 j = nI (gF X j)) → (0 < q → gF X q = gM X) → 0 < gN X → FX9 I9 B9 D9 I1 B1 D1 → gall d Q = some X → wc_LassoFinderModel_reach_146 Post I1 J9 B1 D1 := by
    intro q X I1 B1 D1 hq hX hG h16 h29 hgF hpos hF ho
    subst hq
    refine r_into hX hG (fun B2 t2 k0 k1 k2 => ?_)
    rw [if_pos h16]
    obtain ⟨g14, g15, gk, gs⟩ := hG
    refine h1 X I1 B2 D1 ho hX ⟨g14, g15, gk, fun j hj => ?_⟩ (fun j hj => ?_) t2 (hF.tr ⟨fun _ _ => rfl, fun k hk => k2 k (by simp at hk ⊢; omega), fun _ _ => rfl⟩) h16
    · rw [k2 31 (by decide), k2 30 (by decide), k2 32 (by decide), k2 33 (by decide)]; exact gs j hj
    · by_cases e : j = gN X
      · subst e; rw [k0, hgF hpos]
      · rw [k1 j e]; exact h29 j (by omega)
  intro m
  induction m with
  | zero =>
    intro q X I1 B1 D1 hq hqn hX hG h16 h29 hgF hpos hF ho
    have x1 := hX.1
    have e := en q X I1 B1 D1 (by omega) hX hG h16 h29 hgF hpos hF ho.symm
    exact ⟨fun _ => e, fun z => absurd ((leI hG.1 (y := nI q) rfl (by omega) (by omega)).mpr (by omega)) z⟩
  | succ m ih =>
    intro q X I1 B1 D1 hq hqn hX hG h16 h29 hgF hpos hF ho
    have x1 := hX.1
    unfold exG at ho
    refine ⟨fun z => ?_, fun z => ⟨fun w => absurd h16 w, fun _ => ?_⟩⟩
    · have hle := (leI hG.1 (y := nI q) rfl (by omega) (by omega)).mp z
      rw [if_neg (by omega)] at ho
      exact en q X I1 B1 D1 (by omega) hX hG h16 h29 hgF hpos hF ho.symm
    · have hlt : q < gN X := by
        have : ¬ gN X ≤ q := fun e => z ((leI hG.1 (y := nI q) rfl (by omega) (by omega)).mpr e)
        omega
      rw [if_pos hlt] at ho
      refine r_expand hW (hP.fx hF) hX hG hlt h16 (fun I2 B2 D2 hO F2 k0 k1 z12 e12 => ?_)
      rw [inI rfl e12]
      have hF2 := hF.tr F2
      rcases hO with ⟨hn, h2, Y, hG2, hX2⟩ | ⟨Y, hn, h2, hG2, hX2⟩
      · rw [hn] at ho
        have fi : wc_LassoFinderModel_reach_146 Post I2 J9 B2 D2 := by
          refine r_into hX2 hG2 (fun B3 _ _ _ k3 => ?_)
          rw [if_neg (by rw [h2]; decide)]
          exact h0 ho.symm I2 B3 D2 (hF2.tr ⟨fun _ _ => rfl, fun k hk => k3 k (by simp at hk ⊢; omega), fun _ _ => rfl⟩)
        exact ⟨fun _ => fi, fun _ => ⟨fun _ => fi, fun w => by rw [h2] at w; exact absurd w (by decide)⟩⟩
      · rw [hn] at ho
        obtain ⟨a1, a2, a3⟩ := of1_ok hP.nc hW hX hlt hn
        refine ih (q + 1) (sF Y (upn (upn (gF X) q (gM X)) (q + 1) (gM Y))) I2 B2 D2 (by omega) (by have := a2.1; show q + 1 ≤ gN Y; omega) hX2 hG2 h2 (fun j hj => ?_) (fun _ => upn_at _ _ _) (by have := a2.1; show 0 < gN Y; omega) hF2 ho
        show B2 29 j = nI (upn (upn (gF X) q (gM X)) (q + 1) (gM Y) j)
        rw [upn_ne (by omega)]
        by_cases e : j = q
        · subst e; rw [k0, upn_at]
        · rw [upn_ne e, k1 j e]; exact h29 j (by omega)
theorem r_reach {Post : Int32 → (Nat → Int32) → (Nat → Int64) → (Nat → Nat → Int32) → (Nat → Nat → Int64) → Prop} {d : zD} {Q : zQ} (hW : QW d Q) (hP : PR d Q I9 B9 D9) (hst : ∀ p, p < qP Q → ∀ (B1 : Nat → Nat → Int32) (P : Int32 → (Nat → Int32) → (Nat → Int64) → (Nat → Nat → Int32) → (Nat → Nat → Int64) → Prop), (∀ k, k ∉ [36, 37, 39] → B1 k = B9 k) → P (nI (qS Q p)) I9 J9 B1 D9 → wp_LassoFinderModel_instead I9 J9 B1 D9 (B1 21 p) (fun r16 I16 J16 B16 D16 => wp_LassoFinderModel_pointOf I16 J16 B16 D16 (nI p) r16 P)) (h0 : gall d Q = none → ∀ I' B' D', FX9 I9 B9 D9 I' B' D' → Post 0 I' J9 B' D') (h1 : ∀ X I' B' D', gall d Q = some X → XI d Q X → RG9 d Q X I' B' D' → (∀ j, j ≤ gN X → B' 29 j = nI (gF X j)) → RT9 X B' → FX9 I9 B9 D9 I' B' D' → I' 16 = 0 → Post 1 I' J9 B' D') : wp_LassoFinderModel_reach I9 J9 B9 D9 Post := by
  have hN := hP.nc
  have hP4 := hW.1
  obtain ⟨n6, n7, hv6, hc2, hNR⟩ := id hP.1
  have p10 := hP.2.1
  have W0 := WC_0 hN hW
  have l3 : ∀ (m p : Nat) (B1 : Nat → Nat → Int32), p + m = qP Q → (∀ v, v < d.2.1 → B1 36 v = nI (ini d v)) → (∀ k, k < d.2.2.1 → B1 37 k = 0) → (∀ q, q < p → B1 39 q = nI (qS Q q)) → (∀ k, k ∉ [36, 37, 39] → B1 k = B9 k) → wl_LassoFinderModel_reach_53 Post (m + 1) (nI p) I9 J9 B1 D9 := by
    intro m
    induction m with
    | zero =>
      intro p B1 hp a1 a2 a3 a4
      have e : p = qP Q := by omega
      subst e
      refine ⟨fun _ => ?_, fun z => absurd ((leI p10 (y := nI (qP Q)) rfl (by omega) (by omega)).mpr (Nat.le_refl _)) z⟩
      have F1 : FX9 I9 B9 D9 (upd I9 17 (-1)) B1 D9 := ⟨fun k hk => by simp at hk; simp [upd, hk], fun k hk => a4 k (by simp at hk ⊢; omega), fun _ _ => rfl⟩
      have S1 : RS d (qP Q) (c0 d Q) (upd I9 17 (-1)) B1 := by
        refine ⟨fun v hv => ?_, fun k hk => ?_, fun k hk i hi => ?_, fun p hp => a3 p hp, by simp [upd]; rfl⟩
        · rw [a1 v hv]; show nI (ini d v) = nI (if v < d.2.1 then ini d v else 0); rw [if_pos hv]
        · rw [a2 k hk]; rfl
        · have : i < 0 := hi
          omega
      refine r_packed ((hP.fx F1).kr hW) W0.1 S1 ?_
      refine ⟨vin2 (k := 0) rfl (by omega) (by omega), 97, ?_⟩
      have e0 : (0 : Int32).toNatClampNeg = 0 := by decide
      rw [e0]
      refine r_exL hW hP h0 h1 96 0 (g0 d Q) _ _ _ (by omega) (Nat.zero_le _) (XI_0 hN hW) ⟨by simp [upd]; rfl, by simp [upd]; rfl, fun t ht => ?_, fun j hj => absurd hj (Nat.not_lt_zero j)⟩ (by simp [upd]) (fun j hj => by omega) (fun z => absurd z (by omega)) (Nat.succ_pos 0) (F1.tr ⟨fun k hk => by simp at hk; simp [upd, hk], fun _ _ => rfl, fun k hk => by simp [va_up, hk]⟩) rfl
      have ht' : t < 0 + 1 := ht
      have : t = 0 := by omega
      subst this
      simp [va_up, vp_updL]
      show lN (packR d.2.1 d.2.2.1 (qP Q) (c0 d Q)) = lN (packR d.2.1 d.2.2.1 (qP Q) (upK (fun _ => c0 d Q) 0 (c0 d Q) 0))
      rfl
    | succ m ih =>
      intro p B1 hp a1 a2 a3 a4
      refine ⟨fun z => ?_, fun _ => ⟨vin2 rfl (by omega) (by omega), fun z15 e15 => ?_⟩⟩
      · have := (leI p10 (y := nI p) rfl (by omega) (by omega)).mp z; omega
      rw [clI rfl (by omega)] at e15
      rw [e15]
      refine hst p (by omega) B1 _ a4 ⟨vin2 rfl (by omega) (by omega), fun z18 e18 => ?_⟩
      rw [inI rfl e18, clI (x := nI p) rfl (by omega)]
      refine ih (p + 1) _ (by omega) (fun v hv => by simpa [va_up] using a1 v hv) (fun k hk => by simpa [va_up] using a2 k hk) (fun q hq => ?_) (fun k hk => by rw [← a4 k hk]; simp at hk; simp [va_up, hk])
      by_cases e : q = p
      · subst e; simp [va_up, upd]
      · simp [va_up, upd, e]; exact a3 q (by omega)
  have l2 : ∀ (m k : Nat) (B1 : Nat → Nat → Int32), k + m = d.2.2.1 → (∀ v, v < d.2.1 → B1 36 v = nI (ini d v)) → (∀ j, j < k → B1 37 j = 0) → (∀ k, k ∉ [36, 37, 39] → B1 k = B9 k) → wl_LassoFinderModel_reach_30 Post (m + 1) (nI k) I9 J9 B1 D9 := by
    intro m
    induction m with
    | zero =>
      intro k B1 hk a1 a2 a4
      have e : k = d.2.2.1 := by omega
      subst e
      exact ⟨fun _ => ⟨qP Q + 1, l3 (qP Q) 0 B1 (by omega) a1 a2 (fun q hq => by omega) a4⟩, fun z => absurd ((leI n7 (y := nI d.2.2.1) rfl (by omega) (by omega)).mpr (Nat.le_refl _)) z⟩
    | succ m ih =>
      intro k B1 hk a1 a2 a4
      refine ⟨fun z => ?_, fun _ => ⟨vin2 rfl (by omega) (by omega), fun z20 e20 => ?_⟩⟩
      · have := (leI n7 (y := nI k) rfl (by omega) (by omega)).mp z; omega
      rw [inI rfl e20, clI (x := nI k) rfl (by omega)]
      refine ih (k + 1) _ (by omega) (fun v hv => by simpa [va_up] using a1 v hv) (fun j hj => ?_) (fun k hk => by rw [← a4 k hk]; simp at hk; simp [va_up, hk])
      by_cases e : j = k
      · subst e; simp [va_up, upd]
      · simp [va_up, upd, e]; exact a2 j (by omega)
  have l1 : ∀ (m v : Nat) (B1 : Nat → Nat → Int32), v + m = d.2.1 → (∀ j, j < v → B1 36 j = nI (ini d j)) → (∀ k, k ∉ [36, 37, 39] → B1 k = B9 k) → wl_LassoFinderModel_reach_2 Post (m + 1) (nI v) I9 J9 B1 D9 := by
    intro m
    induction m with
    | zero =>
      intro v B1 hv a1 a4
      have e : v = d.2.1 := by omega
      subst e
      exact ⟨fun _ => ⟨d.2.2.1 + 1, l2 d.2.2.1 0 B1 (by omega) a1 (fun q hq => by omega) a4⟩, fun z => absurd ((leI n6 (y := nI d.2.1) rfl (by omega) (by omega)).mpr (Nat.le_refl _)) z⟩
    | succ m ih =>
      intro v B1 hv a1 a4
      refine ⟨fun z => ?_, fun _ => ⟨vin2 rfl (by omega) (by omega), fun z22 e22 => ⟨vin2 rfl (by omega) (by omega), fun z23 e23 => ?_⟩⟩⟩
      · have := (leI n6 (y := nI v) rfl (by omega) (by omega)).mp z; omega
      rw [clI rfl (by omega), a4 3 (by decide), hP.ini (k := v) (by omega)] at e22
      rw [inI rfl e23, clI (x := nI v) rfl (by omega)]
      refine ih (v + 1) _ (by omega) (fun j hj => ?_) (fun k hk => by rw [← a4 k hk]; simp at hk; simp [va_up, hk])
      by_cases e : j = v
      · subst e; simp [va_up, upd, e22]
      · simp [va_up, upd, e]; exact a1 j (by omega)
  exact ⟨d.2.1 + 1, l1 d.2.1 0 B9 (by omega) (fun j hj => by omega) (fun _ _ => rfl)⟩
end ZL5
