/-! Expressions: signs that wait, codes. -/
section ZT
variable {I : Nat → Int32} {J : Nat → Int64} {B : Nat → Nat → Int32} {D : Nat → Nat → Int64}
/-- how strongly a sign that waits binds; "(" not at all -/
def sg (x : Int32) : Nat := if x = 16 ∨ x = 17 then 1 else if x = 18 ∨ x = 19 then 2 else if x = 20 then 3 else 0
def okS (x : Int32) : Prop := x = 16 ∨ x = 17 ∨ x = 18 ∨ x = 19 ∨ x = 20
def okG (x : Int32) : Prop := okS x ∨ x = 21
/-- the reference's numbers for the same codes -/
def om (x : Int32) : Int32 := if x = 16 then 19 else if x = 17 then 20 else if x = 18 then 16 else if x = 19 then 17 else if x = 20 then 18 else x
/-- signs that bind so strongly go from those that wait to the codes -/
def popw (least : Nat) : List Int32 → List Int32 → List Int32 × List Int32
  | [], out => ([], out)
  | x :: st, out => if sg x < least then (x :: st, out) else popw least st (x :: out)
theorem sg_str {x : Int32} (h : okS x) : vp_in (x - 16) 5 ∧ zStr (x - 16).toNatClampNeg = nI (sg x - 1) ∧ 1 ≤ sg x ∧ sg x ≤ 3 := by
  rcases h with rfl | rfl | rfl | rfl | rfl <;> (unfold vp_in; decide +kernel)
theorem sg_neq {x : Int32} (h : okS x) : ¬ x = 21 := by
  rcases h with rfl | rfl | rfl | rfl | rfl <;> decide
theorem sg_le {x : Int32} : sg x ≤ 3 := by
  unfold sg; split <;> (try split) <;> (try split) <;> omega
theorem popw_len (least : Nat) : ∀ st out : List Int32, (popw least st out).1.length + (popw least st out).2.length = st.length + out.length ∧ (popw least st out).1.length ≤ st.length := by
  intro st
  induction st with
  | nil => intro out; simp [popw]
  | cons x st ih =>
    intro out
    unfold popw
    split
    · simp
    · have := ih (x :: out); simp at this ⊢; omega
theorem popw_mem (least : Nat) {P : Int32 → Prop} : ∀ st out : List Int32, (∀ x ∈ st, P x) → ∀ x ∈ (popw least st out).1, P x := by
  intro st
  induction st with
  | nil => intro out h x hx; simp [popw] at hx
  | cons y st ih =>
    intro out h
    unfold popw
    split
    · exact h
    · exact ih _ (fun x hx => h x (List.mem_cons_of_mem _ hx))
/-- the class's row of signs that wait, and its codes from b on -/
def TSA (I : Nat → Int32) (B : Nat → Nat → Int32) (b : Nat) (st out : List Int32) : Prop := I 12 = nI st.length ∧ rep (B 16) 0 st ∧ I 11 = nI (b + out.length) ∧ rep (B 15) b out
theorem q_release_A {Post : (Nat → Int32) → (Nat → Int64) → (Nat → Nat → Int32) → (Nat → Nat → Int64) → Prop} {PX : String → (Nat → Int32) → (Nat → Int64) → (Nat → Nat → Int32) → (Nat → Nat → Int64) → Prop} {a0 : Int32} (ha : okS a0) {b : Nat} : ∀ (st out : List Int32) (c : Nat) (I : Nat → Int32) (B : Nat → Nat → Int32), (∀ x ∈ st, okG x) → TSA I B b st out → c + st.length ≤ 20 → b + out.length + st.length ≤ 480 → (∀ I' B', (∀ k, k ∉ [11, 12] → I' k = I k) → (∀ k, k ∉ [15] → B' k = B k) → (∀ k, k < b → B' 15 k = B 15 k) → TSA I' B' b (popw (sg a0) st out).1 (popw (sg a0) st out).2 → Post I' J B' D) → wl_Terms_release_A_2 a0 Post PX (st.length + 1) a0 (nI c) I J B D := by
  intro st
  induction st with
  | nil =>
    intro out c I B hG hS hc hb k
    have hk : Post I J B D := k I B (fun _ _ => rfl) (fun _ _ => rfl) (fun _ _ => rfl) hS
    refine ⟨fun _ => hk, fun _ => ⟨fun _ => hk, fun g => ?_⟩⟩
    exact absurd (by rw [hS.1]; decide) g
  | cons x st ih =>
    intro out c I B hG hS hc hb k
    simp only [List.length_cons] at hc hb
    obtain ⟨h1, h2, h3, h4⟩ := hS
    refine ⟨fun g => ?_, fun _ => ⟨fun g => ?_, fun _ => ?_⟩⟩
    · have g := (leI (x := 20) (a := 20) rfl rfl (by omega) (by omega)).mp g; omega
    · have g := (leI (y := 0) (b := 0) h1 rfl (by simp; omega) (by omega)).mp g; simp at g
    intro z3 e3
    have z3n : z3 = nI st.length := deI (by simpa using h1) e3
    refine ⟨vin2 z3n (by omega) (by omega), fun z4 e4 => ?_⟩
    have hz4 : z4 = x := by rw [e4, clI z3n (by omega)]; have := h2.1; simpa using this
    subst hz4
    refine ⟨fun g => ?_, fun g => ?_⟩
    · have hp : popw (sg a0) (z4 :: st) out = (z4 :: st, out) := by
        refine if_pos ?_; subst g; have := (sg_str ha).2.2.1; have : sg 21 = 0 := rfl; omega
      rw [hp] at k
      exact k I B (fun _ _ => rfl) (fun _ _ => rfl) (fun _ _ => rfl) ⟨h1, h2, h3, h4⟩
    · have hx : okS z4 := (hG z4 List.mem_cons_self).resolve_right g
      intro z7 e7
      subst e7
      refine ⟨(sg_str hx).1, fun z8 e8 z10 e10 => ?_⟩
      subst e10
      refine ⟨(sg_str ha).1, fun z11 e11 => ?_⟩
      rw [(sg_str hx).2.1] at e8
      rw [(sg_str ha).2.1] at e11
      have g1 := (sg_str hx).2.2; have g2 := (sg_str ha).2.2
      have hle : z11 ≤ z8 ↔ ¬ sg z4 < sg a0 := by rw [leI e11 e8 (by omega) (by omega)]; omega
      refine ⟨fun q => ?_, fun q => ?_⟩
      · refine ⟨vin2 h3 (by omega) (by omega), fun z13 e13 z14 e14 z15 e15 => ?_⟩
        have n13 := inI h3 e13
        have n15 : z15 = nI (c + 1) := inI rfl e15
        subst n15
        have n14 : z14 = nI st.length := deI (by simpa using h1) e14
        have hp : popw (sg a0) (z4 :: st) out = popw (sg a0) st (z4 :: out) := if_neg (hle.mp q)
        rw [hp] at k
        rw [clI h3 (by omega)]
        refine ih (z4 :: out) (c + 1) _ _ (fun y hy => hG y (List.mem_cons_of_mem _ hy)) ⟨?_, ?_, ?_, ?_⟩ (by omega) (by simp; omega) ?_
        · simp [upd, n14]
        · simpa [va_up] using h2.2
        · simp [upd, n13, Nat.add_assoc]
        · simp only [va_up, if_true]; exact rep_push h4 z4 rfl
        · intro I' B' f1 f2 f3 f4
          refine k I' B' (fun j hj => ?_) (fun j hj => ?_) (fun j hj => ?_) f4
          · rw [f1 j hj]; simp at hj; simp [upd, hj]
          · rw [f2 j hj]; simp at hj; simp [va_up, hj]
          · rw [f3 j hj]; simp [va_up, upd]; intro q2; omega
      · have hp : popw (sg a0) (z4 :: st) out = (z4 :: st, out) := by
          exact if_pos (Decidable.byContradiction (fun q2 => q (hle.mpr q2)))
        rw [hp] at k
        exact k I B (fun _ _ => rfl) (fun _ _ => rfl) (fun _ _ => rfl) ⟨h1, h2, h3, h4⟩
/-- the class's row of signs that wait, and its codes from b on -/
def TSB (I : Nat → Int32) (B : Nat → Nat → Int32) (b : Nat) (st out : List Int32) : Prop := I 26 = nI st.length ∧ rep (B 44) 0 st ∧ I 25 = nI (b + out.length) ∧ rep (B 43) b out
theorem q_release_B {Post : (Nat → Int32) → (Nat → Int64) → (Nat → Nat → Int32) → (Nat → Nat → Int64) → Prop} {PX : String → (Nat → Int32) → (Nat → Int64) → (Nat → Nat → Int32) → (Nat → Nat → Int64) → Prop} {a0 : Int32} (ha : okS a0) {b : Nat} : ∀ (st out : List Int32) (c : Nat) (I : Nat → Int32) (B : Nat → Nat → Int32), (∀ x ∈ st, okG x) → TSB I B b st out → c + st.length ≤ 20 → b + out.length + st.length ≤ 480 → (∀ I' B', (∀ k, k ∉ [25, 26] → I' k = I k) → (∀ k, k ∉ [43] → B' k = B k) → (∀ k, k < b → B' 43 k = B 43 k) → TSB I' B' b (popw (sg a0) st out).1 (popw (sg a0) st out).2 → Post I' J B' D) → wl_Terms_release_B_2 a0 Post PX (st.length + 1) a0 (nI c) I J B D := by
  intro st
  induction st with
  | nil =>
    intro out c I B hG hS hc hb k
    have hk : Post I J B D := k I B (fun _ _ => rfl) (fun _ _ => rfl) (fun _ _ => rfl) hS
    refine ⟨fun _ => hk, fun _ => ⟨fun _ => hk, fun g => ?_⟩⟩
    exact absurd (by rw [hS.1]; decide) g
  | cons x st ih =>
    intro out c I B hG hS hc hb k
    simp only [List.length_cons] at hc hb
    obtain ⟨h1, h2, h3, h4⟩ := hS
    refine ⟨fun g => ?_, fun _ => ⟨fun g => ?_, fun _ => ?_⟩⟩
    · have g := (leI (x := 20) (a := 20) rfl rfl (by omega) (by omega)).mp g; omega
    · have g := (leI (y := 0) (b := 0) h1 rfl (by simp; omega) (by omega)).mp g; simp at g
    intro z3 e3
    have z3n : z3 = nI st.length := deI (by simpa using h1) e3
    refine ⟨vin2 z3n (by omega) (by omega), fun z4 e4 => ?_⟩
    have hz4 : z4 = x := by rw [e4, clI z3n (by omega)]; have := h2.1; simpa using this
    subst hz4
    refine ⟨fun g => ?_, fun g => ?_⟩
    · have hp : popw (sg a0) (z4 :: st) out = (z4 :: st, out) := by
        refine if_pos ?_; subst g; have := (sg_str ha).2.2.1; have : sg 21 = 0 := rfl; omega
      rw [hp] at k
      exact k I B (fun _ _ => rfl) (fun _ _ => rfl) (fun _ _ => rfl) ⟨h1, h2, h3, h4⟩
    · have hx : okS z4 := (hG z4 List.mem_cons_self).resolve_right g
      intro z7 e7
      subst e7
      refine ⟨(sg_str hx).1, fun z8 e8 z10 e10 => ?_⟩
      subst e10
      refine ⟨(sg_str ha).1, fun z11 e11 => ?_⟩
      rw [(sg_str hx).2.1] at e8
      rw [(sg_str ha).2.1] at e11
      have g1 := (sg_str hx).2.2; have g2 := (sg_str ha).2.2
      have hle : z11 ≤ z8 ↔ ¬ sg z4 < sg a0 := by rw [leI e11 e8 (by omega) (by omega)]; omega
      refine ⟨fun q => ?_, fun q => ?_⟩
      · refine ⟨vin2 h3 (by omega) (by omega), fun z13 e13 z14 e14 z15 e15 => ?_⟩
        have n13 := inI h3 e13
        have n15 : z15 = nI (c + 1) := inI rfl e15
        subst n15
        have n14 : z14 = nI st.length := deI (by simpa using h1) e14
        have hp : popw (sg a0) (z4 :: st) out = popw (sg a0) st (z4 :: out) := if_neg (hle.mp q)
        rw [hp] at k
        rw [clI h3 (by omega)]
        refine ih (z4 :: out) (c + 1) _ _ (fun y hy => hG y (List.mem_cons_of_mem _ hy)) ⟨?_, ?_, ?_, ?_⟩ (by omega) (by simp; omega) ?_
        · simp [upd, n14]
        · simpa [va_up] using h2.2
        · simp [upd, n13, Nat.add_assoc]
        · simp only [va_up, if_true]; exact rep_push h4 z4 rfl
        · intro I' B' f1 f2 f3 f4
          refine k I' B' (fun j hj => ?_) (fun j hj => ?_) (fun j hj => ?_) f4
          · rw [f1 j hj]; simp at hj; simp [upd, hj]
          · rw [f2 j hj]; simp at hj; simp [va_up, hj]
          · rw [f3 j hj]; simp [va_up, upd]; intro q2; omega
      · have hp : popw (sg a0) (z4 :: st) out = (z4 :: st, out) := by
          exact if_pos (Decidable.byContradiction (fun q2 => q (hle.mpr q2)))
        rw [hp] at k
        exact k I B (fun _ _ => rfl) (fun _ _ => rfl) (fun _ _ => rfl) ⟨h1, h2, h3, h4⟩
/-- the reference's -/
def TS9 (I : Nat → Int32) (B : Nat → Nat → Int32) (b : Nat) (st out : List Int32) : Prop := I 13 = nI st.length ∧ rep (B 28) 0 (st.map om) ∧ I 11 = nI (b + out.length) ∧ rep (B 24) b (out.map om)
theorem q_strength {Post : Int32 → (Nat → Int32) → (Nat → Int64) → (Nat → Nat → Int32) → (Nat → Nat → Int64) → Prop} {x : Int32} (hx : okG x) (h : Post (nI (sg x)) I J B D) : wp_LassoFinderModel_strength I J B D (om x) Post := by
  unfold wp_LassoFinderModel_strength wc_LassoFinderModel_strength_22 wc_LassoFinderModel_strength_38 wc_LassoFinderModel_strength_43
  rcases hx with (rfl | rfl | rfl | rfl | rfl) | rfl <;> simp [om, sg, nI] at h ⊢ <;> exact h
theorem q_settle {Post : (Nat → Int32) → (Nat → Int64) → (Nat → Nat → Int32) → (Nat → Nat → Int64) → Prop} {least : Nat} (hl : 1 ≤ least) (hl3 : least ≤ 3) {b : Nat} : ∀ (st out : List Int32) (I : Nat → Int32) (B : Nat → Nat → Int32), (∀ x ∈ st, okG x) → TS9 I B b st out → st.length ≤ 240 → b + out.length + st.length ≤ 480 → (∀ I' B', (∀ k, k ∉ [11, 13] → I' k = I k) → (∀ k, k ∉ [24] → B' k = B k) → (∀ k, k < b → B' 24 k = B 24 k) → TS9 I' B' b (popw least st out).1 (popw least st out).2 → Post I' J B' D) → wl_LassoFinderModel_settle_0 (nI least) Post (st.length + 1) (nI least) I J B D := by
  intro st
  induction st with
  | nil =>
    intro out I B hG hS hc hb k
    have hk : Post I J B D := k I B (fun _ _ => rfl) (fun _ _ => rfl) (fun _ _ => rfl) hS
    refine ⟨fun _ => hk, fun g => ?_⟩
    exact absurd (by rw [hS.1]; decide) g
  | cons x st ih =>
    intro out I B hG hS hc hb k
    simp only [List.length_cons] at hc hb
    obtain ⟨h1, h2, h3, h4⟩ := hS
    refine ⟨fun g => ?_, fun _ => ?_⟩
    · have g := (leI (y := 0) (b := 0) h1 rfl (by simp; omega) (by omega)).mp g; simp at g
    intro z2 e2
    have z2n : z2 = nI st.length := deI (by simpa using h1) e2
    refine ⟨vin2 z2n (by omega) (by omega), fun z3 e3 => ?_⟩
    have hz3 : z3 = om x := by rw [e3, clI z2n (by omega)]; have := h2.1; simpa using this
    subst hz3
    refine q_strength (hG x List.mem_cons_self) ?_
    have hlt : nI (sg x) < nI least ↔ sg x < least := ltI rfl rfl (by have := @sg_le x; omega) (by omega)
    refine ⟨fun q => ?_, fun q => ?_⟩
    · have hp : popw least (x :: st) out = (x :: st, out) := if_pos (hlt.mp q)
      rw [hp] at k
      exact k I B (fun _ _ => rfl) (fun _ _ => rfl) (fun _ _ => rfl) ⟨h1, h2, h3, h4⟩
    · have hp : popw least (x :: st) out = popw least st (x :: out) := if_neg (fun q2 => q (hlt.mpr q2))
      rw [hp] at k
      intro z6 e6
      have z6n : z6 = nI st.length := deI (by simpa using h1) e6
      refine ⟨vin2 z6n (by omega) (by omega), fun z7 e7 => ?_⟩
      have hz7 : z7 = om x := by rw [e7, clI z6n (by omega)]; have := h2.1; simpa using this
      subst hz7
      refine ⟨by simp only [upd]; exact vin2 h3 (by omega) (by omega), fun z1 e1 => ?_⟩
      have e1 : z1 = I 11 + 1 := e1
      have n1 := inI h3 e1
      refine ih (x :: out) _ _ (fun y hy => hG y (List.mem_cons_of_mem _ hy)) ⟨?_, ?_, ?_, ?_⟩ (by omega) (by simp; omega) ?_
      · simp [upd, z6n]
      · simpa [va_up] using h2.2
      · simp [upd, n1, Nat.add_assoc]
      · have e9 : (upd I 13 z6 11).toNatClampNeg = b + out.length := clI (by simpa [upd] using h3) (by omega)
        rw [e9]
        simp only [va_up, if_true, List.map_cons]
        exact rep_push h4 _ (by simp)
      · intro I' B' f1 f2 f3 f4
        have e9 : (upd I 13 z6 11).toNatClampNeg = b + out.length := clI (by simpa [upd] using h3) (by omega)
        rw [e9] at f2 f3
        refine k I' B' (fun j hj => ?_) (fun j hj => ?_) (fun j hj => ?_) f4
        · rw [f1 j hj]; simp at hj; simp [upd, hj]
        · rw [f2 j hj]; simp at hj; simp [va_up, hj]
        · rw [f3 j hj]; simp [va_up, upd]; intro q2; omega
end ZT
