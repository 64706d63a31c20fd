/-! The class leaves a spot, searches from one, marks all that lie on rounds. -/
section ZQ6
variable {I : Nat → Int32} {J : Nat → Int64} {B : Nat → Nat → Int32} {D : Nat → Nat → Int64}
/-- what was closed is marked where it is good -/
def GM (d : zD) (X : zG) (out : List zIt) (ord : Nat → Nat) (opn mq : List Nat) : Prop := (∀ w, ¬ ord w = 0 → w ∉ opn → (w ∈ mq ↔ good (dgX X) (nbX d X out) (Sx d X out) (2 ^ ntm out - 1) w)) ∧ mq.Nodup
theorem Srt_nd {ord : Nat → Nat} : ∀ {l : List Nat}, Srt ord l → l.Nodup := by
  intro l
  induction l with
  | nil => intro _; exact List.nodup_nil
  | cons x l ih => intro h; exact List.nodup_cons.mpr ⟨fun z => Nat.lt_irrefl _ (h.1 x z), ih h.2⟩
theorem nd_one {l : List Nat} {v : Nat} (h : l.Nodup) (hv : v ∈ l) : (¬ ∃ w ∈ l, ¬ w = v) ↔ l.length = 1 := by
  constructor
  · intro hn
    have only : ∀ w ∈ l, w = v := fun w hw => Classical.byContradiction (fun e => hn ⟨w, hw, e⟩)
    match l, h, hv, only with
    | [], _, hv, _ => simp at hv
    | [x], _, _, _ => rfl
    | x :: y :: r, h, _, only =>
      have e1 := only x (by simp)
      have e2 := only y (by simp)
      have := (List.nodup_cons.mp h).1
      exact absurd (by rw [e1, e2]; simp) this
  · rintro h1 ⟨w, hw, e⟩
    match l, h1, hv, hw with
    | [x], _, hv, hw =>
      have e1 : v = x := by simpa using hv
      have e2 : w = x := by simpa using hw
      exact e (e2.trans e1.symm)
theorem q_leaveSpot {Post : (Nat → Int32) → (Nat → Int64) → (Nat → Nat → Int32) → (Nat → Nat → Int64) → Prop} {d : zD} {Q : zQ} {X : zG} {out : List zIt} {ord low ix : Nat → Nat} {opn rest mq : List Nat} {cnt v : Nat} (hR : SR d Q X out I B) (hF : XF X (gN X)) (hT : TJ (dgX X) (nbX d X out) ord low ix opn (v :: rest) cnt) (hC : TC (8 * gN X) X ord low ix opn (v :: rest) cnt mq I B) (hG : GM d X out ord opn mq) (hk : ix v = dgX X v)
    (h : ∀ low' opn' mq' I' B', TJ (dgX X) (nbX d X out) ord low' ix opn' rest cnt → TC (8 * gN X) X ord low' ix opn' rest cnt mq' I' B' → GM d X out ord opn' mq' → FS I B I' B' → Post I' J B' D) : wp_LassoSearch_leaveSpot I J B D (nI v) Post := by
  have hCC := hC
  have hTT := hT
  have x1 := hR.1.1
  have h3 := hR.2.1
  obtain ⟨b50, bv, ⟨i34, i33, r55, i32, r54⟩, ⟨on, oz, ecv⟩, ⟨i35, r57, b56, hml, hm⟩⟩ := hC
  obtain ⟨c1, c2, c3, c4, c5, c6, c7, c8, c9, c10, c11, c12, c13⟩ := hT
  have hcn := cv_le ord (8 * gN X)
  have hvo : v ∈ opn := c4 v (List.mem_cons_self ..)
  have hvN := on v hvo
  have hvz := c3 v hvo
  have hvl := (c8 v hvo).1
  have hvc := c1 v
  have hpl : (v :: rest).length ≤ cnt := Srt_len c11 (fun x hx => ⟨c3 x (c4 x hx), c1 x⟩)
  rw [List.length_cons] at hpl
  have vv : vp_in (nI v) 768 := vin2 rfl (by omega) (by omega)
  have cvv : (nI v).toNatClampNeg = v := clI rfl (by omega)
  have h50 : ∀ (low1 : Nat → Nat) (I1 : Nat → Int32) (B1 : Nat → Nat → Int32), TC (8 * gN X) X ord low1 ix opn rest cnt mq I1 B1 → low1 v = low v → FS I B I1 B1 → (¬ low v = ord v → TJ (dgX X) (nbX d X out) ord low1 ix opn rest cnt) → (low v = ord v → low1 = low) → wc_LassoSearch_leaveSpot_50 (nI v) Post (nI v) I1 J B1 D := by
    intro low1 I1 B1 hC1 hl1 hFS hj1 hj2
    refine ⟨vv, fun z1 e1 => ⟨vv, fun z2 e2 => ?_⟩⟩
    rw [cvv, (hC1.2.1 v hvN hvz).1, hl1] at e1
    rw [cvv, hC1.1 v hvN] at e2
    have q : z1 = z2 ↔ low v = ord v := eqI e1 e2 (by omega) (by omega)
    refine ⟨fun z => h low1 opn mq I1 B1 (hj1 (fun w => z (q.mpr w))) hC1 hG hFS, fun z => ?_⟩
    have hlow := q.mp z
    have el := hj2 hlow
    subst el
    obtain ⟨C, opn', ho⟩ := List.append_of_mem hvo
    subst ho
    obtain ⟨s1, s2, s3⟩ := Srt_app c12
    have ho2 : C ++ v :: opn' = (C ++ [v]) ++ opn' := by simp
    have hCo : ∀ w ∈ C ++ [v], ord v ≤ ord w := fun w hw => by
      rcases List.mem_append.mp hw with e | e
      · exact Nat.le_of_lt (s1 w e v (List.mem_cons_self ..))
      · have : w = v := by simpa using e
        rw [this]; exact Nat.le_refl _
    obtain ⟨k1, k2, k3⟩ := T_close hTT hk hlow ho2 (by simp) hCo (fun w hw => s3.1 w hw)
    refine q_closePart (hR.fs hFS) hF hC1 c12 c3 (fun I' B' mq' hq hC' hFS' => ?_)
    refine h low1 opn' mq' I' B' k1 hC' ?_ (hFS.tr hFS')
    have inO : ∀ w ∈ C ++ [v], w ∈ C ++ v :: opn' := fun w hw => by rw [ho2]; exact List.mem_append_left _ hw
    have hnd : (C ++ [v]).Nodup := Srt_nd (Srt_app (by rw [← ho2]; exact c12)).2.1
    have gC := good_C (S := Sx d X out) (al := 2 ^ ntm out - 1) (v := v) (C := C ++ [v]) (clo := fun u => ¬ ord u = 0 ∧ u ∉ C ++ v :: opn') (fun w => sub_al (Sx_lt h3 w).1) (by simp) k2 k3 (fun x hx u hu => c5 x hx.1 hx.2 u hu) (fun w hw z => z.2 (inO w hw)) (nd_one hnd (by simp))
    refine ⟨fun w hw hwo => ?_, ?_⟩
    · by_cases e : w ∈ C ++ v :: opn'
      · have e2 : w ∈ C ++ [v] := by
          rw [ho2] at e
          exact (List.mem_append.mp e).resolve_right hwo
        have := gC w e2
        rcases hq with ⟨q1, q2⟩ | ⟨q1, q2⟩
        · exact ⟨fun _ => this.mpr q2, fun _ => by rw [q1]; exact List.mem_append_left _ e2⟩
        · exact ⟨fun z => absurd e (by rw [q1] at z; exact (hm w z).2.2), fun z => absurd (this.mp z) q2⟩
      · rw [← hG.1 w hw e]
        rcases hq with ⟨q1, q2⟩ | ⟨q1, q2⟩
        · rw [q1]
          exact ⟨fun z => (List.mem_append.mp z).resolve_left (fun y => e (inO w y)), fun z => List.mem_append_right _ z⟩
        · rw [q1]
    · rcases hq with ⟨q1, q2⟩ | ⟨q1, q2⟩
      · rw [q1]
        exact List.nodup_append.mpr ⟨hnd, hG.2, fun a ha b hb e => (hm b hb).2.2 (by rw [← e]; exact inO a ha)⟩
      · rw [q1]; exact hG.2
  have hI0 : ∀ (z5 : Int32) k, k ∉ [32, 33, 34, 35] → upd I 32 z5 k = I k := fun z5 k hk => by simp at hk; simp [upd, hk]
  intro z5 e5
  have n5 : z5 = nI rest.length := deI (by rw [i32]; rfl) e5
  refine ⟨fun z => ?_, fun z z7 e7 => ?_⟩
  · have hr0 : rest = [] := by
      have := (leI n5 (y := 0) (b := 0) rfl (by omega) (by omega)).mp z
      exact List.eq_nil_of_length_eq_zero (by omega)
    subst hr0
    have hrt := T_root hTT
    refine h50 low _ _ ⟨b50, bv, ⟨by simp [upd]; exact i34, by simp [upd]; exact i33, r55, by simp [upd]; exact n5, trivial⟩, ⟨on, oz, ecv⟩, ⟨by simp [upd]; exact i35, r57, b56, hml, hm⟩⟩ rfl ⟨hI0 z5, fun _ _ => rfl⟩ (fun w => absurd hrt.2 w) (fun _ => rfl)
  · match rest, hTT, hCC, c4, c11, r54, hpl, n5, e7, h, h50 with
    | [], _, _, _, _, _, _, n5, _, _, _ => exact absurd ((leI n5 (y := 0) (b := 0) rfl (by simp) (by omega)).mpr (by simp)) z
    | p2 :: rs, hTT, hCC, c4, c11, r54, hpl, n5, e7, h, h50 =>
      have hp2 : p2 ∈ v :: p2 :: rs := by simp
      have hp2o := c4 p2 hp2
      have hp2N := on p2 hp2o
      have hp2z := c3 p2 hp2o
      have hp2l := (c8 p2 hp2o).1
      have hp2c := c1 p2
      have hlt : ord p2 < ord v := c11.1 p2 (by simp)
      have hne : ¬ v = p2 := fun e => by rw [e] at hlt; omega
      rw [List.length_cons] at hpl n5
      have n7 := deI n5 e7
      refine ⟨vin2 n7 (by omega) (by omega), fun z8 e8 => ?_⟩
      have r2 : rep (B 54) 0 (([v] ++ p2 :: rs).map nI) := r54
      rw [clI n7 (by omega), rep_mid r2] at e8
      refine ⟨vin2 e8 (by omega) (by omega), fun z9 e9 => ⟨vv, fun z10 e10 z11 e11 => ⟨vin2 e8 (by omega) (by omega), ?_⟩⟩⟩
      rw [clI e8 (by omega), (bv p2 hp2N hp2z).1] at e9
      rw [cvv, (bv v hvN hvz).1] at e10
      have n11 : z11 = nI (Nat.min (low p2) (low v)) := by
        have q : z10 < z9 ↔ low v < low p2 := ltI e10 e9 (by omega) (by omega)
        rw [e11]
        by_cases g : low v < low p2
        · rw [if_pos (q.mpr g), e10]; congr 1; exact (Nat.min_eq_right (by omega)).symm
        · rw [if_neg (fun w => g (q.mp w)), e9]; congr 1; exact (Nat.min_eq_left (by omega)).symm
      rw [clI e8 (by omega)]
      refine h50 (upn low p2 (Nat.min (low p2) (low v))) _ _ ⟨by simpa [va_up] using b50, fun w hw hwz => ?_, ⟨by simp [upd]; exact i34, by simp [upd]; exact i33, by simpa [va_up] using r55, by simp [upd]; exact n5, by simpa [va_up] using r2.2⟩, ⟨on, oz, ecv⟩, ⟨by simp [upd]; exact i35, by simpa [va_up] using r57, by simpa [va_up] using b56, hml, hm⟩⟩ (upn_ne hne) ⟨hI0 z5, fun k hk => by simp at hk; simp [va_up, hk]⟩ (fun w => T_leave hTT hk w) (fun w => ?_)
      · obtain ⟨a1, a2, a3⟩ := bv w hw hwz
        by_cases e : w = p2
        · subst e; exact ⟨by simp [va_up, upd, upn]; exact n11, by simpa [va_up] using a2, by simpa [va_up] using a3⟩
        · exact ⟨by simp [va_up, upd, upn, e]; exact a1, by simpa [va_up] using a2, by simpa [va_up] using a3⟩
      · funext w
        have : Nat.min (low p2) (low v) = low p2 := Nat.min_eq_left (by omega)
        rw [this]
        by_cases e : w = p2
        · subst e; rw [upn_at]
        · rw [upn_ne e]
end ZQ6
