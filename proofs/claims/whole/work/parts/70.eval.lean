/-! Expressions: what they are worth. -/
section ZZ1
variable {I : Nat → Int32} {J : Nat → Int64} {B : Nat → Nat → Int32} {D : Nat → Nat → Int64}
def jn (x l r : Int32) : Int32 := if x = 16 then (if l = r then 1 else 0) else if x = 17 then (if r ≤ l then 0 else 1) else if x = 18 then (l + r) &&& 7 else if x = 19 then (l - r) &&& 7 else (l * r) &&& 7
/-- the numbers that codes (the last one first) leave, the topmost first -/
def ev (am : Nat → Int32) : List Int32 → List Int32
  | [] => []
  | x :: l => if x < 16 then (if x < 8 then x else am (x - 8).toNatClampNeg) :: ev am l else
      match ev am l with
      | r :: l' :: rest => jn x l' r :: rest
      | s => s
theorem ev_len {am : Nat → Int32} {l : List Int32} (h : okR l) : (ev am l).length = ht l := by
  induction l with
  | nil => rfl
  | cons x l ih =>
    have := ih h.1
    unfold ev ht
    split
    · simp [this]
    · rename_i g
      have h2 : 2 ≤ ht l := by
        rcases h.2 with w | w
        · exact absurd w.2 g
        · exact w.2
      match he : ev am l with
      | [] => rw [he] at this; simp at this; omega
      | [_] => rw [he] at this; simp at this; omega
      | r :: l' :: rest => rw [he] at this; simp at this ⊢; omega
theorem okR_app {l m : List Int32} (h : okR (l ++ m)) : okR m := by
  induction l with
  | nil => exact h
  | cons x l ih => exact ih h.1
theorem nod_app (l m : List Int32) : nod m ≤ nod (l ++ m) := by
  induction l with
  | nil => exact Nat.le_refl _
  | cons x l ih => simp only [List.cons_append, nod]; split <;> omega
theorem rep_app {f : Nat → Int32} {b : Nat} {l m : List Int32} (h : rep f b (l ++ m)) : rep f b m := by
  induction l with
  | nil => exact h
  | cons x l ih => exact ih h.2
theorem q_joined {Post : Int32 → (Nat → Int32) → (Nat → Int64) → (Nat → Nat → Int32) → (Nat → Nat → Int64) → Prop} {x l r : Int32} (h : Post (jn x l r) I J B D) : wp_Terms_joined I J B D x l r Post := by
  unfold jn at h
  refine ⟨fun g => ⟨fun g2 => ?_, fun g2 => ?_⟩, fun g => ⟨fun g2 => ?_, fun g2 => ?_⟩, fun g z6 e6 z7 e7 => ?_, fun g z6 e6 z7 e7 => ?_, fun g1 g2 g3 g4 z6 e6 z7 e7 => ?_⟩
  · rw [if_pos g, if_neg g2] at h; exact h
  · rw [if_pos g, if_pos g2] at h; exact h
  · subst g; rw [if_neg (by decide), if_pos rfl, if_pos g2] at h; exact h
  · subst g; rw [if_neg (by decide), if_pos rfl, if_neg g2] at h; exact h
  · subst g; subst e7; subst e6; exact h
  · subst g; subst e7; subst e6; exact h
  · subst e7; subst e6; rw [if_neg g1, if_neg g2, if_neg g3, if_neg g4] at h; exact h
theorem deM {x z : Int32} {k : Nat} (h1 : x = nI (k + 1)) (hz : z = x + (-1)) : z = nI k := by
  refine deI h1 ?_
  rw [hz]; grind
theorem opd_name {x : Int32} (h : opd x) (g : ¬ x < 8) : vp_in (x - 8) 8 ∧ (x - 8).toNatClampNeg < 8 ∧ 8 ≤ x := by
  have h0 : 0 ≤ x - 8 ∧ x - 8 < 8 ∧ 8 ≤ x := by obtain ⟨a, b⟩ := h; grind
  have hlt : (x - 8).toInt < 8 := by have := Int32.lt_iff_toInt_lt.mp h0.2.1; exact this
  have e : (x - 8).toNatClampNeg = (x - 8).toInt.toNat := rfl
  exact ⟨vin h0.1 (by omega), by omega, h0.2.2⟩
theorem code_ne {x : Int32} (h : opd x ∨ okS x) : ¬ x = 22 := by
  rcases h with h | h
  · rintro rfl; exact absurd h.2 (by decide)
  · rcases h with rfl | rfl | rfl | rfl | rfl <;> decide
theorem q_reckonloop_A {Post : Int32 → (Nat → Int32) → (Nat → Int64) → (Nat → Nat → Int32) → (Nat → Nat → Int64) → Prop} {b L : Nat} {out : List Int32} {am : Nat → Int32} {a0 : Int32} (hL : I 11 = nI L) (hbL : b + out.length < L) (hL8 : L ≤ 480) (hR : okR out) (h1 : ht out = 1) (h12 : nod out ≤ 12) : ∀ (rem suf : List Int32) (B : Nat → Nat → Int32), out = rem.reverse ++ suf → rep (B 15) b (22 :: out) → (∀ j, j < 8 → B 29 j = am j) → rep (B 17) 0 (ev am suf) → (∀ B', (∀ k, k ≠ 17 → B' k = B k) → Post ((ev am out).headD 0) I J B' D) → wl_Terms_reckon_ad43_A_5 a0 Post (rem.length + 1) (nI (ht suf)) (nI (b + suf.length)) I J B D := by
  intro rem
  induction rem with
  | nil =>
    intro suf B ho hC hm hV k
    have ho : out = suf := by simpa using ho
    subst ho
    have e22 : (B 15) (b + out.length) = 22 := hC.1
    have wend : wc_Terms_reckon_ad43_A_109 a0 Post I J B D := by
      refine ⟨vin2 (k := 0) rfl (by omega) (by omega), fun z1 e1 => ?_⟩
      have hl := ev_len (am := am) hR
      rw [h1] at hl
      match he : ev am out with
      | [] => rw [he] at hl; simp at hl
      | [v] =>
        have := k B (fun _ _ => rfl)
        rw [he] at this hV
        have hv : z1 = v := e1.trans hV.1
        rw [hv]; exact this
      | _ :: _ :: _ => rw [he] at hl; simp at hl
    refine ⟨fun _ => wend, fun _ => ⟨vin2 rfl (by omega) (by omega), fun z5 e5 => ⟨fun _ => wend, fun g => ?_⟩⟩⟩
    rw [clI rfl (by omega)] at e5
    exact absurd (e5.trans e22) g
  | cons x rem ih =>
    intro suf B ho hC hm hV k
    have ho2 : out = rem.reverse ++ (x :: suf) := by simpa using ho
    have hlen : suf.length < out.length := by rw [ho2]; simp; omega
    have hR2 : okR (x :: suf) := okR_app (by rw [← ho2]; exact hR)
    have hn2 : nod (x :: suf) ≤ 12 := by have := nod_app rem.reverse (x :: suf); rw [← ho2] at this; omega
    have hC2 : rep (B 15) b (x :: suf) := rep_app (l := rem.reverse) (by rw [← ho2]; exact hC.2)
    have ex : (B 15) (b + suf.length) = x := hC2.1
    have hx := hR2.2
    have hne : ¬ x = 22 := code_ne (hx.elim Or.inl (fun w => Or.inr w.1))
    have hls := ev_len (am := am) hR2.1
    have hht := ht_le suf
    have hni : nod suf ≤ nod (x :: suf) := nod_app [x] suf
    refine ⟨fun g => ?_, fun _ => ⟨vin2 rfl (by omega) (by omega), fun z5 e5 => ?_⟩⟩
    · have := (leI hL rfl (by omega) (by omega)).mp g; omega
    rw [clI rfl (by omega), ex] at e5
    subst e5
    refine ⟨fun g => absurd g hne, fun _ => ⟨vin2 rfl (by omega) (by omega), fun z7 e7 => ?_⟩⟩
    rw [clI rfl (by omega), ex] at e7
    subst e7
    have next : ∀ (h : Nat) (B' : Nat → Nat → Int32), ht (z7 :: suf) = h → (∀ k, k ≠ 17 → B' k = B k) → rep (B' 17) 0 (ev am (z7 :: suf)) → wc_Terms_reckon_ad43_A_103 a0 (wl_Terms_reckon_ad43_A_5 a0 Post (rem.length + 1)) Post (nI h) (nI (b + suf.length)) I J B' D := by
      intro h B' hh hB hV' z2 e2
      have n2 : z2 = nI (b + (z7 :: suf).length) := inI rfl e2
      rw [n2, ← hh]
      refine ih (z7 :: suf) B' ho2 (by rw [hB 15 (by decide)]; exact hC) (by rw [hB 29 (by decide)]; exact hm) hV' (fun B2 h2 => k B2 (fun j hj => (h2 j hj).trans (hB j hj)))
    refine ⟨fun g => ?_, fun g => ?_⟩
    · have hod : opd z7 := hx.elim id (fun w => absurd g (sg_lt w.1))
      have push : ∀ v, ev am (z7 :: suf) = v :: ev am suf → wc_Terms_reckon_ad43_A_99 a0 (wl_Terms_reckon_ad43_A_5 a0 Post (rem.length + 1)) Post (nI (ht suf)) (nI (b + suf.length)) v (nI (ht suf)) I J B D := by
        intro v hv
        have e12 : ht suf < 13 := by omega
        refine ⟨vin2 rfl e12 (by omega), fun z3 e3 => ?_⟩
        have n3 : z3 = nI (ht suf + 1) := inI rfl e3
        rw [n3, clI rfl (by omega)]
        refine next _ _ (by simp [ht, g]) (fun j hj => by simp [va_up, hj]) ?_
        simp only [va_up, if_true]
        rw [hv]
        exact rep_push hV v (by omega)
      refine ⟨fun g8 => push _ (by simp [ev, g, g8]), fun g8 z10 e10 => ?_⟩
      obtain ⟨v1, v2, v3⟩ := opd_name hod g8
      subst e10
      refine ⟨v1, fun z11 e11 => push _ ?_⟩
      rw [e11, hm _ v2]
      simp [ev, g, g8]
    · have hs2 : okS z7 ∧ 2 ≤ ht suf := hx.elim (fun w => absurd w.2 g) id
      match he : ev am suf with
      | [] => rw [he] at hls; simp at hls; omega
      | [_] => rw [he] at hls; simp at hls; omega
      | rr :: ll :: rest =>
        rw [he] at hls hV
        simp at hls
        have hrl : rest.length ≤ 10 := by omega
        intro z12 e12 z13 e13 z14 e14
        have n12 : z12 = nI (rest.length + 1) := deM (by rw [← hls]) e12
        have n13 : z13 = nI rest.length := deI n12 e13
        have n14 : z14 = nI rest.length := deI n12 e14
        refine ⟨vin2 n14 (by omega) (by omega), fun z15 e15 => ⟨vin2 n12 (by omega) (by omega), fun z16 e16 => q_joined ?_⟩⟩
        rw [clI n14 (by omega)] at e15
        rw [clI n12 (by omega)] at e16
        have v1 := hV.1; have v2 := hV.2.1
        simp at v1 v2
        refine ⟨vin2 n13 (by omega) (by omega), ?_⟩
        rw [n12, clI n13 (by omega)]
        refine next _ _ (by simp [ht, g]; omega) (fun j hj => by simp [va_up, hj]) ?_
        have hev : ev am (z7 :: suf) = jn z7 ll rr :: rest := by simp only [ev, if_neg g, he]
        rw [hev]
        simp only [va_up, if_true]
        have hj : jn z7 z15 z16 = jn z7 ll rr := by rw [e15, e16, v1, v2]
        rw [hj]
        exact rep_push hV.2.2 _ (by simp)
/-- the class reckons an expression -/
theorem q_reckon_A {Post : Int32 → (Nat → Int32) → (Nat → Int64) → (Nat → Nat → Int32) → (Nat → Nat → Int64) → Prop} {b L : Nat} {out : List Int32} {am : Nat → Int32} (hL : I 11 = nI L) (hbL : b + out.length < L) (hL8 : L ≤ 480) (hR : okR out) (h1 : ht out = 1) (h12 : nod out ≤ 12) (hC : rep (B 15) b (22 :: out)) (hm : ∀ j, j < 8 → B 29 j = am j)
    (k : ∀ B', (∀ k, k ≠ 17 → B' k = B k) → Post ((ev am out).headD 0) I J B' D) : wp_Terms_reckon_ad43_A I J B D (nI b) Post :=
  ⟨out.reverse.length + 1, q_reckonloop_A hL hbL hL8 hR h1 h12 out.reverse [] B (by simp) hC hm trivial k⟩
theorem q_reckonloop_B {Post : Int32 → (Nat → Int32) → (Nat → Int64) → (Nat → Nat → Int32) → (Nat → Nat → Int64) → Prop} {b L : Nat} {out : List Int32} {am : Nat → Int32} {a0 : Int32} (hL : I 25 = nI L) (hbL : b + out.length < L) (hL8 : L ≤ 480) (hR : okR out) (h1 : ht out = 1) (h12 : nod out ≤ 12) : ∀ (rem suf : List Int32) (B : Nat → Nat → Int32), out = rem.reverse ++ suf → rep (B 43) b (22 :: out) → (∀ j, j < 8 → B 29 j = am j) → rep (B 45) 0 (ev am suf) → (∀ B', (∀ k, k ≠ 45 → B' k = B k) → Post ((ev am out).headD 0) I J B' D) → wl_Terms_reckon_ad43_B_5 a0 Post (rem.length + 1) (nI (ht suf)) (nI (b + suf.length)) I J B D := by
  intro rem
  induction rem with
  | nil =>
    intro suf B ho hC hm hV k
    have ho : out = suf := by simpa using ho
    subst ho
    have e22 : (B 43) (b + out.length) = 22 := hC.1
    have wend : wc_Terms_reckon_ad43_B_109 a0 Post I J B D := by
      refine ⟨vin2 (k := 0) rfl (by omega) (by omega), fun z1 e1 => ?_⟩
      have hl := ev_len (am := am) hR
      rw [h1] at hl
      match he : ev am out with
      | [] => rw [he] at hl; simp at hl
      | [v] =>
        have := k B (fun _ _ => rfl)
        rw [he] at this hV
        have hv : z1 = v := e1.trans hV.1
        rw [hv]; exact this
      | _ :: _ :: _ => rw [he] at hl; simp at hl
    refine ⟨fun _ => wend, fun _ => ⟨vin2 rfl (by omega) (by omega), fun z5 e5 => ⟨fun _ => wend, fun g => ?_⟩⟩⟩
    rw [clI rfl (by omega)] at e5
    exact absurd (e5.trans e22) g
  | cons x rem ih =>
    intro suf B ho hC hm hV k
    have ho2 : out = rem.reverse ++ (x :: suf) := by simpa using ho
    have hlen : suf.length < out.length := by rw [ho2]; simp; omega
    have hR2 : okR (x :: suf) := okR_app (by rw [← ho2]; exact hR)
    have hn2 : nod (x :: suf) ≤ 12 := by have := nod_app rem.reverse (x :: suf); rw [← ho2] at this; omega
    have hC2 : rep (B 43) b (x :: suf) := rep_app (l := rem.reverse) (by rw [← ho2]; exact hC.2)
    have ex : (B 43) (b + suf.length) = x := hC2.1
    have hx := hR2.2
    have hne : ¬ x = 22 := code_ne (hx.elim Or.inl (fun w => Or.inr w.1))
    have hls := ev_len (am := am) hR2.1
    have hht := ht_le suf
    have hni : nod suf ≤ nod (x :: suf) := nod_app [x] suf
    refine ⟨fun g => ?_, fun _ => ⟨vin2 rfl (by omega) (by omega), fun z5 e5 => ?_⟩⟩
    · have := (leI hL rfl (by omega) (by omega)).mp g; omega
    rw [clI rfl (by omega), ex] at e5
    subst e5
    refine ⟨fun g => absurd g hne, fun _ => ⟨vin2 rfl (by omega) (by omega), fun z7 e7 => ?_⟩⟩
    rw [clI rfl (by omega), ex] at e7
    subst e7
    have next : ∀ (h : Nat) (B' : Nat → Nat → Int32), ht (z7 :: suf) = h → (∀ k, k ≠ 45 → B' k = B k) → rep (B' 45) 0 (ev am (z7 :: suf)) → wc_Terms_reckon_ad43_B_103 a0 (wl_Terms_reckon_ad43_B_5 a0 Post (rem.length + 1)) Post (nI h) (nI (b + suf.length)) I J B' D := by
      intro h B' hh hB hV' z2 e2
      have n2 : z2 = nI (b + (z7 :: suf).length) := inI rfl e2
      rw [n2, ← hh]
      refine ih (z7 :: suf) B' ho2 (by rw [hB 43 (by decide)]; exact hC) (by rw [hB 29 (by decide)]; exact hm) hV' (fun B2 h2 => k B2 (fun j hj => (h2 j hj).trans (hB j hj)))
    refine ⟨fun g => ?_, fun g => ?_⟩
    · have hod : opd z7 := hx.elim id (fun w => absurd g (sg_lt w.1))
      have push : ∀ v, ev am (z7 :: suf) = v :: ev am suf → wc_Terms_reckon_ad43_B_99 a0 (wl_Terms_reckon_ad43_B_5 a0 Post (rem.length + 1)) Post (nI (ht suf)) (nI (b + suf.length)) v (nI (ht suf)) I J B D := by
        intro v hv
        have e12 : ht suf < 13 := by omega
        refine ⟨vin2 rfl e12 (by omega), fun z3 e3 => ?_⟩
        have n3 : z3 = nI (ht suf + 1) := inI rfl e3
        rw [n3, clI rfl (by omega)]
        refine next _ _ (by simp [ht, g]) (fun j hj => by simp [va_up, hj]) ?_
        simp only [va_up, if_true]
        rw [hv]
        exact rep_push hV v (by omega)
      refine ⟨fun g8 => push _ (by simp [ev, g, g8]), fun g8 z10 e10 => ?_⟩
      obtain ⟨v1, v2, v3⟩ := opd_name hod g8
      subst e10
      refine ⟨v1, fun z11 e11 => push _ ?_⟩
      rw [e11, hm _ v2]
      simp [ev, g, g8]
    · have hs2 : okS z7 ∧ 2 ≤ ht suf := hx.elim (fun w => absurd w.2 g) id
      match he : ev am suf with
      | [] => rw [he] at hls; simp at hls; omega
      | [_] => rw [he] at hls; simp at hls; omega
      | rr :: ll :: rest =>
        rw [he] at hls hV
        simp at hls
        have hrl : rest.length ≤ 10 := by omega
        intro z12 e12 z13 e13 z14 e14
        have n12 : z12 = nI (rest.length + 1) := deM (by rw [← hls]) e12
        have n13 : z13 = nI rest.length := deI n12 e13
        have n14 : z14 = nI rest.length := deI n12 e14
        refine ⟨vin2 n14 (by omega) (by omega), fun z15 e15 => ⟨vin2 n12 (by omega) (by omega), fun z16 e16 => q_joined ?_⟩⟩
        rw [clI n14 (by omega)] at e15
        rw [clI n12 (by omega)] at e16
        have v1 := hV.1; have v2 := hV.2.1
        simp at v1 v2
        refine ⟨vin2 n13 (by omega) (by omega), ?_⟩
        rw [n12, clI n13 (by omega)]
        refine next _ _ (by simp [ht, g]; omega) (fun j hj => by simp [va_up, hj]) ?_
        have hev : ev am (z7 :: suf) = jn z7 ll rr :: rest := by simp only [ev, if_neg g, he]
        rw [hev]
        simp only [va_up, if_true]
        have hj : jn z7 z15 z16 = jn z7 ll rr := by rw [e15, e16, v1, v2]
        rw [hj]
        exact rep_push hV.2.2 _ (by simp)
/-- the class reckons an expression -/
theorem q_reckon_B {Post : Int32 → (Nat → Int32) → (Nat → Int64) → (Nat → Nat → Int32) → (Nat → Nat → Int64) → Prop} {b L : Nat} {out : List Int32} {am : Nat → Int32} (hL : I 25 = nI L) (hbL : b + out.length < L) (hL8 : L ≤ 480) (hR : okR out) (h1 : ht out = 1) (h12 : nod out ≤ 12) (hC : rep (B 43) b (22 :: out)) (hm : ∀ j, j < 8 → B 29 j = am j)
    (k : ∀ B', (∀ k, k ≠ 45 → B' k = B k) → Post ((ev am out).headD 0) I J B' D) : wp_Terms_reckon_ad43_B I J B D (nI b) Post :=
  ⟨out.reverse.length + 1, q_reckonloop_B hL hbL hL8 hR h1 h12 out.reverse [] B (by simp) hC hm trivial k⟩
end ZZ1
