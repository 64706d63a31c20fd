/-! Expressions: what they are worth to the reference. -/
section ZZ2
variable {I : Nat → Int32} {J : Nat → Int64} {B : Nat → Nat → Int32} {D : Nat → Nat → Int64}
/-- the numbers of known names, as the reference keeps them -/
def nmv (B : Nat → Nat → Int32) (kd am : Nat → Int32) : Prop := ∀ j, j < 8 → ¬ kd j = 0 → (¬ B 1 j < 0 → vp_in (B 1 j) 6 ∧ B 36 (B 1 j).toNatClampNeg = am j) ∧ (B 1 j < 0 → vp_in (B 2 j) 2 ∧ B 37 (B 2 j).toNatClampNeg = am j)
theorem om_opd {x : Int32} (h : opd x) : om x = x := by
  unfold om
  rw [if_neg (fun e => opd_ns h (Or.inl e)), if_neg (fun e => opd_ns h (Or.inr (Or.inl e))), if_neg (fun e => opd_ns h (Or.inr (Or.inr (Or.inl e)))), if_neg (fun e => opd_ns h (Or.inr (Or.inr (Or.inr (Or.inl e))))), if_neg (fun e => opd_ns h (Or.inr (Or.inr (Or.inr (Or.inr e)))))]
theorem q_worthloop {Post : Int32 → (Nat → Int32) → (Nat → Int64) → (Nat → Nat → Int32) → (Nat → Nat → Int64) → Prop} {b : Nat} {out : List Int32} {kd am : Nat → Int32} {a0 a1 : Int32} (hb : b + out.length ≤ 480) (hR : okR out) (h1 : ht out = 1) (h12 : nod out ≤ 12) (hK : KN kd out) : ∀ (rem suf : List Int32) (B : Nat → Nat → Int32), out = rem.reverse ++ suf → rep (B 24) b (out.map om) → nmv B kd am → rep (B 40) 0 (ev am suf) → (∀ B', (∀ k, k ≠ 40 → B' k = B k) → Post ((ev am out).headD 0) I J B' D) → wl_LassoFinderModel_worth_5 a0 a1 Post (rem.length + 1) (nI (b + out.length)) (nI (ht suf)) (nI (b + suf.length)) I J B D := by
  intro rem
  induction rem with
  | nil =>
    intro suf B ho hC hm hV k
    have ho : out = suf := by simpa using ho
    subst ho
    refine ⟨fun _ => ⟨vin2 (k := 0) rfl (by omega) (by omega), fun z1 e1 => ?_⟩, fun g => ?_⟩
    · have hl := ev_len (am := am) hR
      rw [h1] at hl
      match he : ev am out with
      | [] => rw [he] at hl; simp at hl
      | [v] =>
        have := k B (fun _ _ => rfl)
        rw [he] at this hV
        have hv : z1 = v := e1.trans hV.1
        rw [hv]; exact this
      | _ :: _ :: _ => rw [he] at hl; simp at hl
    · exact absurd ((leI rfl rfl (by omega) (by omega)).mpr (Nat.le_refl _)) g
  | cons x rem ih =>
    intro suf B ho hC hm hV k
    have ho2 : out = rem.reverse ++ (x :: suf) := by simpa using ho
    have hlen : suf.length < out.length := by rw [ho2]; simp; omega
    have hR2 : okR (x :: suf) := okR_app (by rw [← ho2]; exact hR)
    have hn2 : nod (x :: suf) ≤ 12 := by have := nod_app rem.reverse (x :: suf); rw [← ho2] at this; omega
    have hC2 : rep (B 24) b ((x :: suf).map om) := rep_app (l := rem.reverse.map om) (by rw [← List.map_append, ← ho2]; exact hC)
    have ex : (B 24) (b + suf.length) = om x := by have := hC2.1; simpa using this
    have hx := hR2.2
    have hls := ev_len (am := am) hR2.1
    have hht := ht_le suf
    have hni : nod suf ≤ nod (x :: suf) := nod_app [x] suf
    have hxm : x ∈ out := by rw [ho2]; simp
    refine ⟨fun g => ?_, fun _ => ⟨vin2 rfl (by omega) (by omega), fun z5 e5 => ?_⟩⟩
    · have := (leI rfl rfl (by omega) (by omega)).mp g; omega
    rw [clI rfl (by omega), ex] at e5
    have next : ∀ (h : Nat) (B' : Nat → Nat → Int32), ht (x :: suf) = h → (∀ k, k ≠ 40 → B' k = B k) → rep (B' 40) 0 (ev am (x :: suf)) → wc_LassoFinderModel_worth_223 a0 a1 (wl_LassoFinderModel_worth_5 a0 a1 Post (rem.length + 1)) Post (nI (b + out.length)) (nI h) (nI (b + suf.length)) I J B' D := by
      intro h B' hh hB hV' z2 e2
      have n2 : z2 = nI (b + (x :: suf).length) := inI rfl e2
      rw [n2, ← hh]
      refine ih (x :: suf) B' ho2 (by rw [hB 24 (by decide)]; exact hC) ?_ hV' (fun B2 h2 => k B2 (fun j hj => (h2 j hj).trans (hB j hj)))
      unfold nmv
      rw [hB 1 (by decide), hB 2 (by decide), hB 36 (by decide), hB 37 (by decide)]; exact hm
    have push : ∀ v, ev am (x :: suf) = v :: ev am suf → x < 16 → vp_in (nI (ht suf)) 240 ∧ ∀ z3, z3 = nI (ht suf) + 1 → wc_LassoFinderModel_worth_223 a0 a1 (wl_LassoFinderModel_worth_5 a0 a1 Post (rem.length + 1)) Post (nI (b + out.length)) z3 (nI (b + suf.length)) I J (va_up B 40 (upd (B 40) (nI (ht suf)).toNatClampNeg v)) D := by
      intro v hv g
      have e12 : ht suf < 240 := by omega
      refine ⟨vin2 rfl e12 (by omega), fun z3 e3 => ?_⟩
      have n3 : z3 = nI (ht suf + 1) := inI rfl e3
      rw [n3, clI rfl (by omega)]
      refine next _ _ (by simp [ht, g]) (fun j hj => by simp [va_up, hj]) ?_
      simp only [va_up, if_true]
      rw [hv]
      exact rep_push hV v (by omega)
    by_cases hod : opd x
    · rw [om_opd hod] at e5
      subst e5
      have g16 : ¬ (16 : Int32) ≤ z5 := Int32.not_le.mpr hod.2
      refine ⟨fun g8 => ⟨fun g => absurd g g16, fun _ z25 e25 => ?_⟩, fun g8 => push _ (by simp [ev, hod.2, Int32.not_le.mp g8]) hod.2⟩
      have g8' : ¬ z5 < 8 := Int32.not_lt.mpr g8
      obtain ⟨v1, v2, v3⟩ := opd_name hod g8'
      subst e25
      have hkj := hK _ hxm hod.2 g8
      have hnm := hm _ v2 hkj
      have hev : ∀ v, v = am (z5 - 8).toNatClampNeg → ev am (z5 :: suf) = v :: ev am suf := by
        intro v hv
        rw [hv]; simp [ev, hod.2, g8']
      refine ⟨v1, fun z26 e26 => ⟨fun g => fun z28 e28 => ?_, fun g => fun z31 e31 => ?_⟩⟩
      · subst e28
        rw [e26] at g
        refine ⟨v1, fun z29 e29 => ?_⟩
        subst e29
        refine ⟨(hnm.2 g).1, fun z30 e30 => push _ (hev _ (e30.trans (hnm.2 g).2)) hod.2⟩
      · subst e31
        rw [e26] at g
        refine ⟨v1, fun z32 e32 => ?_⟩
        subst e32
        refine ⟨(hnm.1 g).1, fun z33 e33 => push _ (hev _ (e33.trans (hnm.1 g).2)) hod.2⟩
    · have hs2 : okS x ∧ 2 ≤ ht suf := hx.elim (fun w => absurd w hod) id
      have g : ¬ x < 16 := sg_lt hs2.1
      have ho16 : (16 : Int32) ≤ om x ∧ (8 : Int32) ≤ om x := by rcases hs2.1 with rfl | rfl | rfl | rfl | rfl <;> decide
      rw [← e5] at ho16
      refine ⟨fun _ => ⟨fun _ => ?_, fun w => absurd ho16.1 w⟩, fun w => absurd ho16.2 w⟩
      match he : ev am suf with
      | [] => rw [he] at hls; simp at hls; omega
      | [_] => rw [he] at hls; simp at hls; omega
      | rr :: ll :: rest =>
        rw [he] at hls hV
        simp at hls
        have hrl : rest.length ≤ 10 := by omega
        intro z8 e8 z9 e9
        have n8 : z8 = nI (rest.length + 1) := deM (by rw [← hls]) e8
        have n9 : z9 = nI rest.length := deI n8 e9
        refine ⟨vin2 n9 (by omega) (by omega), fun z10 e10 => ⟨vin2 n8 (by omega) (by omega), fun z11 e11 z12 e12 => ?_⟩⟩
        have n12 : z12 = nI rest.length := deI n8 e12
        rw [clI n9 (by omega)] at e10
        rw [clI n8 (by omega)] at e11
        have v1 := hV.1; have v2 := hV.2.1
        simp at v1 v2
        have hev : ev am (x :: suf) = jn x ll rr :: rest := by simp only [ev, if_neg g, he]
        have fin : ∀ v, v = jn x z10 z11 → wc_LassoFinderModel_worth_222 a0 a1 (wl_LassoFinderModel_worth_5 a0 a1 Post (rem.length + 1)) Post (nI (b + out.length)) z8 (nI (b + suf.length)) v z12 I J B D := by
          intro v hv
          refine ⟨vin2 n12 (by omega) (by omega), ?_⟩
          rw [n8, clI n12 (by omega)]
          refine next _ _ (by simp [ht, g]; omega) (fun j hj => by simp [va_up, hj]) ?_
          rw [hev]
          simp only [va_up, if_true]
          have hj : v = jn x ll rr := by rw [hv, e10, e11, v1, v2]
          rw [hj]
          exact rep_push hV.2.2 _ (by simp)
        clear next push
        rcases hs2.1 with rfl | rfl | rfl | rfl | rfl <;> simp only [om] at e5 <;> subst e5
        · refine ⟨fun _ => ⟨fun _ => ⟨fun _ => ⟨fun w => absurd rfl w, fun _ => ⟨fun w => fin _ ?_, fun w => fin _ ?_⟩⟩, fun w => absurd w (by decide)⟩, fun w => absurd w (by decide)⟩, fun w => absurd w (by decide)⟩
          · simp [jn, w]
          · simp [jn, w]
        · refine ⟨fun _ => ⟨fun _ => ⟨fun _ => ⟨fun _ => ⟨fun w => fin _ ?_, fun w => fin _ ?_⟩, fun w => absurd w (by decide)⟩, fun w => absurd w (by decide)⟩, fun w => absurd w (by decide)⟩, fun w => absurd w (by decide)⟩
          · simp [jn, w]
          · simp [jn, w]
        · refine ⟨fun w => absurd rfl w, fun _ z23 e23 z24 e24 => fin _ ?_⟩
          rw [e24, e23]; simp [jn]
        · refine ⟨fun _ => ⟨fun w => absurd rfl w, fun _ z23 e23 z24 e24 => fin _ ?_⟩, fun w => absurd w (by decide)⟩
          rw [e24, e23]; simp [jn]
        · refine ⟨fun _ => ⟨fun _ => ⟨fun w => absurd rfl w, fun _ z23 e23 z24 e24 => fin _ ?_⟩, fun w => absurd w (by decide)⟩, fun w => absurd w (by decide)⟩
          rw [e24, e23]; simp [jn]
/-- the reference reckons an expression -/
theorem q_worth {Post : Int32 → (Nat → Int32) → (Nat → Int64) → (Nat → Nat → Int32) → (Nat → Nat → Int64) → Prop} {b : Nat} {out : List Int32} {kd am : Nat → Int32} (hb : b + out.length ≤ 480) (hR : okR out) (h1 : ht out = 1) (h12 : nod out ≤ 12) (hK : KN kd out) (hC : rep (B 24) b (out.map om)) (hm : nmv B kd am)
    (k : ∀ B', (∀ k, k ≠ 40 → B' k = B k) → Post ((ev am out).headD 0) I J B' D) : wp_LassoFinderModel_worth I J B D (nI b) (nI (b + out.length)) Post :=
  ⟨out.reverse.length + 1, q_worthloop hb hR h1 h12 hK out.reverse [] B (by simp) hC hm trivial k⟩
end ZZ2
