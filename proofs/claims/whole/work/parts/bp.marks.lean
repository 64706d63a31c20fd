/-! All spots that lie on rounds are marked. -/
section ZQ8
variable {I : Nat → Int32} {J : Nat → Int64} {B : Nat → Nat → Int32} {D : Nat → Nat → Int64}
theorem TC_cg {N : Nat} {X : zG} {ord low ix : Nat → Nat} {opn pth : List Nat} {cnt : Nat} {mq : List Nat} {I' : Nat → Int32} (h : TC N X ord low ix opn pth cnt mq I B) (hI : ∀ k, k ∈ [32, 33, 34, 35] → I' k = I k) : TC N X ord low ix opn pth cnt mq I' B := by
  obtain ⟨b50, bv, ⟨i34, i33, r55, i32, r54⟩, hn, ⟨i35, r57, b56, hml, hm⟩⟩ := h
  exact ⟨b50, bv, ⟨by rw [hI 34 (by decide)]; exact i34, by rw [hI 33 (by decide)]; exact i33, r55, by rw [hI 32 (by decide)]; exact i32, r54⟩, hn, ⟨by rw [hI 35 (by decide)]; exact i35, r57, b56, hml, hm⟩⟩
theorem q_searchFrom {Post : (Nat → Int32) → (Nat → Int64) → (Nat → Nat → Int32) → (Nat → Nat → Int64) → Prop} {d : zD} {Q : zQ} {X : zG} {out : List zIt} {ord low ix : Nat → Nat} {cnt v : Nat} {mq : List Nat} (hR : SR d Q X out I B) (hF : XF X (gN X)) (hS : SIx d X out ord low ix [] [] cnt mq (upd I 32 0) B) (hv : v < 8 * gN X) (h0 : ord v = 0) (hg : v % 8 < 2 ^ ntm out)
    (h : ∀ ord' low' ix' cnt' mq' I' B', SIx d X out ord' low' ix' [] [] cnt' mq' I' B' → (∀ w, ¬ ord w = 0 → ¬ ord' w = 0) → ¬ ord' v = 0 → FS I B I' B' → Post I' J B' D) : wp_LassoSearch_searchFrom I J B D (nI v) Post := by
  obtain ⟨hT, hC, hG, hix, hg8⟩ := hS
  have hFS0 : FS I B (upd I 32 0) B := ⟨fun k hk => by simp at hk; simp [upd, hk], fun _ _ => rfl⟩
  have hR1 := hR.fs hFS0
  have hT2 := T_enter (u := v) (ix' := ix) hT h0 (Or.inl ⟨rfl, rfl, rfl⟩)
  refine q_enterSpot hR1 hT hC hv h0 (fun I' B' hC' hFS' => ⟨4001, ?_⟩)
  refine q_searchLoop (ord0 := upn ord v (cnt + 1)) hF hR (fun o1 l1 x1 c1 m1 I1 B1 hS1 hm1 hf1 => h o1 l1 x1 c1 m1 I1 B1 hS1 (fun w hw => hm1 w (by
    by_cases e : w = v
    · rw [e, upn_at]; omega
    · rw [upn_ne e]; exact hw)) (hm1 v (by rw [upn_at]; omega)) hf1) 4000 0 _ _ _ [v] [v] (cnt + 1) mq I' B' (by omega) ⟨hT2, hC', ⟨fun w hw hwo => ?_, hG.2⟩, fun w hw => ?_, fun w hw => ?_⟩ (fun _ h => h) (hFS0.tr hFS') (by simp; omega)
  · have e : ¬ w = v := fun e => hwo (by rw [e]; exact List.mem_cons_self ..)
    rw [upn_ne e] at hw
    exact hG.1 w hw (by simp)
  · by_cases e : w = v
    · subst e; rw [upn_at]; omega
    · rw [upn_ne e] at hw ⊢; exact hix w hw
  · by_cases e : w = v
    · subst e; exact hg
    · rw [upn_ne e] at hw; exact hg8 w hw
/-- entered ones stay entered -/
theorem good_lt {d : zD} {Q : zQ} {X : zG} {out : List zIt} (hX : XI d Q X) (h3 : ntm out ≤ 3) {al w : Nat} (h : good (dgX X) (nbX d X out) (Sx d X out) al w) : w < 8 * gN X ∧ w % 8 < 2 ^ ntm out := by
  obtain ⟨u, ⟨k, hk, e⟩, hs⟩ := h
  have key := hs (fun y => y.1 < 8 * gN X ∧ y.1 % 8 < 2 ^ ntm out) (by
    have := nb_lt (d := d) (out := out) hX h3 hk
    rw [e] at this; exact ⟨this.1, this.2.2⟩) (fun a b _ g => by
    obtain ⟨⟨k, hk, e⟩, _⟩ := g
    have := nb_lt (d := d) (out := out) hX h3 hk
    rw [e] at this; exact ⟨this.1, this.2.2⟩)
  exact key
/-- what is in the queue when all is marked -/
def MQx (d : zD) (X : zG) (out : List zIt) (mq : List Nat) (I : Nat → Int32) (B : Nat → Nat → Int32) : Prop := I 35 = nI mq.length ∧ rep (B 57) 0 (mq.map nI) ∧ (∀ v, v < 6144 → B 56 v = (if v ∈ mq then 0 else -1)) ∧ mq.Nodup ∧ (∀ v, v ∈ mq ↔ good (dgX X) (nbX d X out) (Sx d X out) (2 ^ ntm out - 1) v)
theorem q_markCycles {Post : (Nat → Int32) → (Nat → Int64) → (Nat → Nat → Int32) → (Nat → Nat → Int64) → Prop} {d : zD} {Q : zQ} {X : zG} {out : List zIt} (hR : SR d Q X out I B) (hF : XF X (gN X)) (h35 : I 35 = 0) (h56 : ∀ v, v < 6144 → B 56 v = -1)
    (h : ∀ mq I' B', MQx d X out mq I' B' → FS I B I' B' → Post I' J B' D) : wp_LassoSearch_markCycles I J B D Post := by
  have x1 := hR.1.1
  have h3 := hR.2.1
  have p8 := p2_3 h3
  have lp : ∀ m i ord low ix cnt mq I1 B1, i + m = 8 * gN X → (∀ v, v < i → v % 8 < 2 ^ ntm out → ¬ ord v = 0) → SIx d X out ord low ix [] [] cnt mq (upd I1 32 0) B1 → FS I B I1 B1 → wl_LassoSearch_markCycles_20 Post (m + 1) (nI i) I1 J B1 D := by
    intro m
    induction m with
    | zero =>
      intro i ord low ix cnt mq I1 B1 hi hall hS hFS z2 e2
      have hR1 := hR.fs hFS
      rw [hR1.2.2.1, show (8 : Int32) = nI 8 from rfl, nI_mul, Nat.mul_comm] at e2
      obtain ⟨hT, hC, hG, hix, hg8⟩ := hS
      obtain ⟨b50, bv, _, ⟨on, oz, ecv⟩, ⟨i35, r57, b56, hml, hm⟩⟩ := hC
      refine ⟨fun _ => h mq I1 B1 ⟨by simpa [upd] using i35, r57, b56, hG.2, fun v => ⟨fun hv => ?_, fun hv => ?_⟩⟩ hFS, fun z => absurd ((leI e2 (y := nI i) rfl (by omega) (by omega)).mpr (by omega)) z⟩
      · exact (hG.1 v (hm v hv).2.1 (by simp)).mp hv
      · obtain ⟨a1, a2⟩ := good_lt hR.1 h3 hv
        exact (hG.1 v (hall v (by omega) a2) (by simp)).mpr hv
    | succ m ih =>
      intro i ord low ix cnt mq I1 B1 hi hall hS hFS z2 e2
      have hR1 := hR.fs hFS
      rw [hR1.2.2.1, show (8 : Int32) = nI 8 from rfl, nI_mul, Nat.mul_comm] at e2
      have hSS := hS
      obtain ⟨hT, hC, hG, hix, hg8⟩ := hS
      have hcnt := hT.1 i
      have := cv_le ord (8 * gN X)
      have hcv := hC.2.2.2.1.2.2
      refine ⟨fun z => ?_, fun _ => ⟨vin2 rfl (by omega) (by omega), fun z4 e4 => ?_⟩⟩
      · have := (leI e2 (y := nI i) rfl (by omega) (by omega)).mp z; omega
      rw [clI rfl (by omega), hC.1 i (by omega)] at e4
      have q4 : z4 = 0 ↔ ord i = 0 := eqI e4 (b := 0) rfl (by omega) (by omega)
      refine ⟨fun z z1 e1 => ?_, fun z z6 e6 => ?_⟩
      · rw [inI rfl e1]
        refine ih (i + 1) ord low ix cnt mq I1 B1 (by omega) (fun v hv hg => ?_) hSS hFS
        by_cases e : v = i
        · subst e; exact fun w => z (q4.mpr w)
        · exact hall v (by omega) hg
      · rw [mod8 i (by omega)] at e6
        have i30 := hR1.2.2.2.1
        have q6 : I1 30 ≤ z6 ↔ 2 ^ ntm out ≤ i % 8 := leI i30 e6 (by omega) (by omega)
        refine ⟨fun w z1 e1 => ?_, fun w => ?_⟩
        · rw [inI rfl e1]
          refine ih (i + 1) ord low ix cnt mq I1 B1 (by omega) (fun v hv hg => ?_) hSS hFS
          by_cases e : v = i
          · subst e; exact absurd (q6.mp w) (by omega)
          · exact hall v (by omega) hg
        · have hg : i % 8 < 2 ^ ntm out := Nat.lt_of_not_le (fun y => w (q6.mpr y))
          refine q_searchFrom hR1 hF hSS (by omega) (q4.mp z) hg (fun ord' low' ix' cnt' mq' I' B' hS' hext hi' hFS' z1 e1 => ?_)
          rw [inI rfl e1]
          refine ih (i + 1) ord' low' ix' cnt' mq' I' B' (by omega) (fun v hv hg => ?_) ?_ (hFS.tr hFS')
          · by_cases e : v = i
            · subst e; exact hi'
            · exact hext v (hall v (by omega) hg)
          · exact ⟨hS'.1, TC_cg hS'.2.1 (fun k hk => by
              by_cases e : k = 32
              · subst e; rw [hS'.2.1.2.2.1.2.2.2.1]; simp [upd]; rfl
              · simp [upd, e]), hS'.2.2⟩
  refine ⟨8 * gN X + 1, lp (8 * gN X) 0 (fun _ => 0) (fun _ => 0) (fun _ => 0) 0 [] _ _ (by omega) (fun v hv => by omega) ⟨?_, ⟨fun v hv => ?_, fun v _ hv => absurd rfl hv, ⟨by simp [upd]; rfl, by simp [upd]; rfl, trivial, by simp [upd]; rfl, trivial⟩, ⟨fun w hw => by simp at hw, fun _ _ => rfl, ?_⟩, ⟨by simp [upd]; exact h35, trivial, fun v hv => by simp [va_up]; exact h56 v hv, by simp, fun v hv => by simp at hv⟩⟩, ⟨fun w hw => absurd rfl hw, List.nodup_nil⟩, fun v hv => absurd rfl hv, fun v hv => absurd rfl hv⟩ ⟨fun k hk => by simp at hk; simp [upd, hk], fun k hk => by simp at hk; simp [va_up, hk]⟩⟩
  · exact ⟨fun _ => Nat.le_refl _, fun v w _ hv => absurd rfl hv, fun w hw => by simp at hw, fun w hw => by simp at hw, fun v hv => absurd rfl hv, fun w hw => by simp at hw, fun w hw => by simp at hw, fun w hw => by simp at hw, fun w hw => by simp at hw, fun w hw => by simp at hw, trivial, trivial, fun w hw => by simp at hw⟩
  · have : v < 768 := by omega
    simp [va_up, zFill, this]; rfl
  · have : ∀ n, cv (fun _ => 0) n = 0 := by
      intro n
      induction n with
      | zero => rfl
      | succ n ih => show cv (fun _ => 0) n + (if 0 = 0 then 0 else 1) = 0; rw [ih]; rfl
    exact (this _).symm
end ZQ8
