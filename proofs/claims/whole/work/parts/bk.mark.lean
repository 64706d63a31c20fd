/-! The class searches for parts: spots, edges, rows. -/
section ZQ3
variable {I : Nat → Int32} {J : Nat → Int64} {B : Nat → Nat → Int32} {D : Nat → Nat → Int64}
theorem div8 : ∀ v, v < 768 → nI v / 8 = nI (v / 8) := by decide +kernel
theorem mod8 : ∀ v, v < 768 → nI v - nI v / 8 * 8 = nI (v % 8) := by decide +kernel
theorem ce_at {f : Nat → Nat} {q : Nat} : ∀ (m e : Nat), e < ce f q m → ∃ j, j < m ∧ f j = q ∧ ce f q j = e := by
  intro m
  induction m with
  | zero => intro e h; simp [ce] at h
  | succ m ih =>
    intro e h
    have hs : ce f q (m + 1) = ce f q m + (if f m = q then 1 else 0) := rfl
    by_cases g : e < ce f q m
    · obtain ⟨j, h1, h2, h3⟩ := ih e g
      exact ⟨j, by omega, h2, h3⟩
    · by_cases g2 : f m = q
      · rw [if_pos g2] at hs
        exact ⟨m, by omega, g2, by omega⟩
      · rw [if_neg g2] at hs; omega
/-- the step into a state that stands at this place -/
def jx (X : zG) (i : Nat) : Nat := lk (ps (gT X) (gM X)) i (gM X)
theorem jx_at {X : zG} {q k : Nat} (hk : cl (gT X) q (gM X) + k < cl (gT X) (q + 1) (gM X)) : jx X (cl (gT X) q (gM X) + k) < gM X ∧ gT X (jx X (cl (gT X) q (gM X) + k)) = q ∧ ps (gT X) (gM X) (jx X (cl (gT X) q (gM X) + k)) = cl (gT X) q (gM X) + k := by
  rw [cl_s] at hk
  obtain ⟨j, h1, h2, h3⟩ := ce_at (f := gT X) (q := q) (gM X) k (by omega)
  have hp : ps (gT X) (gM X) j = cl (gT X) q (gM X) + k := by unfold ps; rw [h2, h3]
  have hj : jx X (cl (gT X) q (gM X) + k) = j := lk_eq (x := ps (gT X) (gM X)) (gM X) h1 hp (fun a b ha hb e => ps_inj ha hb e)
  rw [hj]; exact ⟨h1, h2, hp⟩
def cq (X : zG) (v : Nat) : Nat := cl (gT X) (v / 8) (gM X)
def dgX (X : zG) (v : Nat) : Nat := cl (gT X) (v / 8 + 1) (gM X) - cl (gT X) (v / 8) (gM X)
def nbX (d : zD) (X : zG) (out : List zIt) (v k : Nat) : Nat := 8 * gS X (jx X (cq X v + k)) + bef (atv d (gK X (gS X (jx X (cq X v + k))))) out (v % 8)
def Sx (d : zD) (X : zG) (out : List zIt) (v : Nat) : Nat := stN (atv d (gK X (v / 8))) out (v % 8)
theorem bef_8 {av : zIt → Bool} {out : List zIt} {g : Nat} (h : ntm out ≤ 3) : bef av out g < 2 ^ ntm out ∧ bef av out g < 8 := by
  have := bN_lt (cT av (fun t => g.testBit t) out) (ntm out)
  have h8 := p2_3 h
  exact ⟨this, Nat.lt_of_lt_of_le this h8⟩
theorem dg_k {X : zG} {v k : Nat} : k < dgX X v ↔ cl (gT X) (v / 8) (gM X) + k < cl (gT X) (v / 8 + 1) (gM X) := by
  unfold dgX
  have := cl_q (f := gT X) (show v / 8 ≤ v / 8 + 1 by omega) (gM X)
  omega
theorem nb_lt {d : zD} {Q : zQ} {X : zG} {out : List zIt} (hX : XI d Q X) (h3 : ntm out ≤ 3) {v k : Nat} (hk : k < dgX X v) : nbX d X out v k < 8 * gN X ∧ nbX d X out v k / 8 = gS X (jx X (cq X v + k)) ∧ nbX d X out v k % 8 < 2 ^ ntm out := by
  have hj := (jx_at (dg_k.mp hk)).1
  have hs := (hX.2.2.2.2 _ hj).1
  have hb := bef_8 (av := atv d (gK X (gS X (jx X (cq X v + k))))) (g := v % 8) h3
  unfold nbX
  unfold cq at hs hb ⊢
  refine ⟨by omega, by omega, ?_⟩
  have : (8 * gS X (jx X (cl (gT X) (v / 8) (gM X) + k)) + bef (atv d (gK X (gS X (jx X (cl (gT X) (v / 8) (gM X) + k))))) out (v % 8)) % 8 = bef (atv d (gK X (gS X (jx X (cl (gT X) (v / 8) (gM X) + k))))) out (v % 8) := by omega
  rw [this]; exact hb.1
/-- what the searches stand on -/
def SR (d : zD) (Q : zQ) (X : zG) (out : List zIt) (I : Nat → Int32) (B : Nat → Nat → Int32) : Prop := XI d Q X ∧ ntm out ≤ 3 ∧ I 19 = nI (gN X) ∧ I 30 = nI (2 ^ ntm out) ∧ TRU d X (gN X) out B ∧ CT X B ∧ (∀ j, j ≤ gN X → B 32 j = nI (gF X j)) ∧ (∀ j, j < gM X → B 33 j = nI (gS X j) ∧ B 34 j = nI (gT X j))
theorem SR.cg {d : zD} {Q : zQ} {X : zG} {out : List zIt} {I' : Nat → Int32} {B' : Nat → Nat → Int32} (h : SR d Q X out I B) (hI : ∀ k, k ∈ [19, 30] → I' k = I k) (hB : ∀ k, k ∈ [32, 33, 34, 37, 38, 47, 48, 49] → B' k = B k) : SR d Q X out I' B' := by
  obtain ⟨h1, h2, h3, h4, h5, h6, h7, h8⟩ := h
  refine ⟨h1, h2, by rw [hI 19 (by decide)]; exact h3, by rw [hI 30 (by decide)]; exact h4, ?_, ?_, by rw [hB 32 (by decide)]; exact h7, by rw [hB 33 (by decide), hB 34 (by decide)]; exact h8⟩
  · unfold TRU; rw [hB 47 (by decide), hB 48 (by decide), hB 49 (by decide)]; exact h5
  · unfold CT; rw [hB 37 (by decide), hB 38 (by decide)]; exact h6
theorem q_spotBefore {Post : Int32 → (Nat → Int32) → (Nat → Int64) → (Nat → Nat → Int32) → (Nat → Nat → Int64) → Prop} {d : zD} {Q : zQ} {X : zG} {out : List zIt} {s g : Nat} {x y : Int32} (hx : x = nI s) (hy : y = nI g) (hR : SR d Q X out I B) (hs : s < gN X) (hg : g < 8) (h : Post (nI (8 * s + bef (atv d (gK X s)) out g)) I J B D) : wp_LassoSearch_spotBefore I J B D x y Post := by
  subst hx; subst hy
  have x1 := hR.1.1
  intro z1 e1 z2 e2 z3 e3
  have q8 : nI s * (8 : Int32) = nI (8 * s) := by rw [show (8 : Int32) = nI 8 from rfl, nI_mul, Nat.mul_comm]
  have n3 : z3 = nI (8 * s + g) := by rw [e3, e2, q8, nI_add]
  refine ⟨vin2 n3 (by omega) (by omega), fun z4 e4 z5 e5 => ?_⟩
  rw [clI n3 (by omega), (hR.2.2.2.2.1 s hs g hg).1] at e4
  rw [e5, e1, q8, e4, nI_add]; exact h
def cv (ord : Nat → Nat) : Nat → Nat
  | 0 => 0
  | n + 1 => cv ord n + (if ord n = 0 then 0 else 1)
theorem cv_le (ord : Nat → Nat) : ∀ n, cv ord n ≤ n := by
  intro n
  induction n with
  | zero => exact Nat.le_refl _
  | succ n ih => show cv ord n + (if ord n = 0 then 0 else 1) ≤ n + 1; split <;> omega
theorem cv_cg {ord ord' : Nat → Nat} : ∀ n, (∀ v, v < n → ord' v = ord v) → cv ord' n = cv ord n := by
  intro n
  induction n with
  | zero => intro _; rfl
  | succ n ih => intro h; show cv ord' n + (if ord' n = 0 then 0 else 1) = cv ord n + (if ord n = 0 then 0 else 1); rw [ih (fun v hv => h v (by omega)), h n (by omega)]
theorem cv_up {ord : Nat → Nat} {u c : Nat} (hu : ord u = 0) : ∀ n, u < n → cv (upn ord u (c + 1)) n = cv ord n + 1 := by
  intro n
  induction n with
  | zero => intro h; omega
  | succ n ih =>
    intro h
    show cv (upn ord u (c + 1)) n + (if upn ord u (c + 1) n = 0 then 0 else 1) = cv ord n + (if ord n = 0 then 0 else 1) + 1
    by_cases e : u = n
    · subst e
      rw [upn_at, if_neg (by omega), if_pos hu, cv_cg u (fun v hv => upn_ne (by omega))]
    · rw [ih (by omega), upn_ne (fun w => e w.symm)]; omega
theorem cv_lt {ord : Nat → Nat} {u : Nat} (hu : ord u = 0) : ∀ n, u < n → cv ord n < n := by
  intro n
  induction n with
  | zero => intro h; omega
  | succ n ih =>
    intro h
    show cv ord n + (if ord n = 0 then 0 else 1) < n + 1
    by_cases e : u = n
    · subst e; rw [if_pos hu]; have := cv_le ord u; omega
    · have := ih (by omega); split <;> omega
theorem Srt_len {ord : Nat → Nat} : ∀ {l : List Nat} {c : Nat}, Srt ord l → (∀ x ∈ l, ¬ ord x = 0 ∧ ord x ≤ c) → l.length ≤ c := by
  intro l
  induction l with
  | nil => intro c _ _; exact Nat.zero_le _
  | cons x l ih =>
    intro c h hx
    have h0 := hx x (List.mem_cons_self ..)
    have := ih (c := ord x - 1) h.2 (fun y hy => ⟨(hx y (List.mem_cons_of_mem _ hy)).1, by have := h.1 y hy; omega⟩)
    rw [List.length_cons]; omega
/-- the class's rows of the search -/
def TC (N : Nat) (X : zG) (ord low ix : Nat → Nat) (opn pth : List Nat) (cnt : Nat) (mq : List Nat) (I : Nat → Int32) (B : Nat → Nat → Int32) : Prop :=
  (∀ v, v < N → B 50 v = nI (ord v)) ∧ (∀ v, v < N → ¬ ord v = 0 → B 51 v = nI (low v) ∧ B 52 v = nI (cq X v + ix v) ∧ B 53 v = (if v ∈ opn then 1 else 0)) ∧
  (I 34 = nI cnt ∧ I 33 = nI opn.length ∧ rep (B 55) 0 (opn.map nI) ∧ I 32 = nI pth.length ∧ rep (B 54) 0 (pth.map nI)) ∧ ((∀ w ∈ opn, w < N) ∧ (∀ v, N ≤ v → ord v = 0) ∧ cnt = cv ord N) ∧
  (I 35 = nI mq.length ∧ rep (B 57) 0 (mq.map nI) ∧ (∀ v, v < 6144 → B 56 v = (if v ∈ mq then 0 else -1)) ∧ mq.length + opn.length ≤ cnt ∧ (∀ v ∈ mq, v < N ∧ ¬ ord v = 0 ∧ v ∉ opn))
def FS (I : Nat → Int32) (B : Nat → Nat → Int32) (I' : Nat → Int32) (B' : Nat → Nat → Int32) : Prop := (∀ k, k ∉ [32, 33, 34, 35] → I' k = I k) ∧ (∀ k, k ∉ [50, 51, 52, 53, 54, 55, 56, 57] → B' k = B k)
theorem FS.rf : FS I B I B := ⟨fun _ _ => rfl, fun _ _ => rfl⟩
theorem FS.tr {I1 I2 : Nat → Int32} {B1 B2 : Nat → Nat → Int32} (h : FS I B I1 B1) (g : FS I1 B1 I2 B2) : FS I B I2 B2 := ⟨fun k hk => (g.1 k hk).trans (h.1 k hk), fun k hk => (g.2 k hk).trans (h.2 k hk)⟩
theorem SR.fs {d : zD} {Q : zQ} {X : zG} {out : List zIt} {I' : Nat → Int32} {B' : Nat → Nat → Int32} (h : SR d Q X out I B) (g : FS I B I' B') : SR d Q X out I' B' := h.cg (fun k hk => g.1 k (by simp at hk ⊢; omega)) (fun k hk => g.2 k (by simp at hk ⊢; omega))
theorem q_enterSpot {Post : (Nat → Int32) → (Nat → Int64) → (Nat → Nat → Int32) → (Nat → Nat → Int64) → Prop} {d : zD} {Q : zQ} {X : zG} {out : List zIt} {dg : Nat → Nat} {nb : Nat → Nat → Nat} {ord low ix ix' : Nat → Nat} {opn pth mq : List Nat} {cnt u : Nat} (hR : SR d Q X out I B) (hT : TJ dg nb ord low ix opn pth cnt) (hC : TC (8 * gN X) X ord low ix' opn pth cnt mq I B) (hu : u < 8 * gN X) (h0 : ord u = 0)
    (h : ∀ I' B', TC (8 * gN X) X (upn ord u (cnt + 1)) (upn low u (cnt + 1)) (upn ix' u 0) (u :: opn) (u :: pth) (cnt + 1) mq I' B' → FS I B I' B' → Post I' J B' D) : wp_LassoSearch_enterSpot I J B D (nI u) Post := by
  obtain ⟨b50, bv, ⟨i34, i33, r55, i32, r54⟩, ⟨on, oz, ecv⟩, ⟨i35, r57, b56, hml, hm⟩⟩ := hC
  have x1 := hR.1.1
  have hcl := cv_lt (ord := ord) h0 (8 * gN X) hu
  have hol : opn.length ≤ cnt := Srt_len hT.2.2.2.2.2.2.2.2.2.2.2.1 (fun x hx => ⟨hT.2.2.1 x hx, hT.1 x⟩)
  have hpl : pth.length ≤ cnt := Srt_len hT.2.2.2.2.2.2.2.2.2.2.1 (fun x hx => ⟨hT.2.2.1 x (hT.2.2.2.1 x hx), hT.1 x⟩)
  have vu : vp_in (nI u) 768 := vin2 rfl (by omega) (by omega)
  have cu : (nI u).toNatClampNeg = u := clI rfl (by omega)
  have uo : u ∉ opn := fun z => hT.2.2.1 u z h0
  intro z1 e1
  have n1 := inI i34 e1
  refine ⟨vu, vu, fun z2 e2 => ?_⟩
  rw [div8 u (by omega)] at e2
  refine ⟨vin2 e2 (by omega) (by omega), fun z3 e3 => ⟨vu, vu, vin2 i33 (by omega) (by omega), fun z4 e4 => ⟨vin2 i32 (by omega) (by omega), fun z5 e5 => ?_⟩⟩⟩
  rw [clI e2 (by omega), hR.2.2.2.2.2.1.1 _ (by omega)] at e3
  have n4 := inI i33 e4
  have n5 := inI i32 e5
  rw [cu, clI i33 (by omega), clI i32 (by omega)]
  refine h _ _ ⟨fun v hv => ?_, fun v hv hne => ?_, ⟨by simp [upd]; exact n1, by simp [upd]; exact n4, ?_, by simp [upd]; exact n5, ?_⟩, ⟨fun w hw => ?_, fun v hv => ?_, ?_⟩, ⟨by simp [upd]; exact i35, by simpa [va_up] using r57, fun v hv => by simp [va_up]; exact b56 v hv, by simp; omega, fun v hv => ?_⟩⟩ ⟨fun k hk => by simp at hk; simp [upd, hk], fun k hk => by simp at hk; simp [va_up, hk]⟩
  · by_cases e : v = u
    · subst e; simp [va_up, upd, upn, n1]
    · simp [va_up, upd, upn, e]; exact b50 v hv
  · by_cases e : v = u
    · subst e
      refine ⟨by simp [va_up, upd, upn, n1], ?_, ?_⟩
      · simp [va_up, upd, upn]; exact e3
      · simp [va_up, upd]; rfl
    · rw [upn_ne e] at hne
      obtain ⟨a1, a2, a3⟩ := bv v hv hne
      refine ⟨by simp [va_up, upd, upn, e]; exact a1, by simp [va_up, upd, upn, e]; exact a2, ?_⟩
      simp only [List.mem_cons, e, false_or]
      simp [va_up, upd, e]; exact a3
  · have := rep_push r55 (nI u) (k := opn.length) (by simp)
    simpa [va_up] using this
  · have := rep_push r54 (nI u) (k := pth.length) (by simp)
    simpa [va_up] using this
  · rcases List.mem_cons.mp hw with e | e
    · rw [e]; exact hu
    · exact on w e
  · rw [upn_ne (by omega)]; exact oz v hv
  · rw [cv_up h0 _ hu, ecv]
  · obtain ⟨a1, a2, a3⟩ := hm v hv
    have e : ¬ v = u := fun w => a2 (by rw [w]; exact h0)
    exact ⟨a1, by rw [upn_ne e]; exact a2, fun z => (List.mem_cons.mp z).elim e a3⟩
theorem q_reach0 {Post : (Nat → Int32) → (Nat → Int64) → (Nat → Nat → Int32) → (Nat → Nat → Int64) → Prop} {mq : List Nat} {v : Nat} {y : Int32} (hy : y = nI v) (hv : v < 768) (hml : mq.length < 6144) (i35 : I 35 = nI mq.length) (r57 : rep (B 57) 0 (mq.map nI)) (b56 : ∀ v, v < 6144 → B 56 v = (if v ∈ mq then 0 else -1)) (hnv : v ∉ mq)
    (h : ∀ I' B', I' 35 = nI (v :: mq).length → rep (B' 57) 0 ((v :: mq).map nI) → (∀ w, w < 6144 → B' 56 w = (if w ∈ v :: mq then 0 else -1)) → (∀ k, k ≠ 35 → I' k = I k) → (∀ k, k ∉ [56, 57] → B' k = B k) → Post I' J B' D) : wp_LassoSearch_reach I J B D y 0 Post := by
  subst hy
  have vv : vp_in (nI v) 6144 := vin2 rfl (by omega) (by omega)
  have cv' : (nI v).toNatClampNeg = v := clI rfl (by omega)
  refine ⟨vv, fun z1 e1 => ?_⟩
  rw [cv', b56 v (by omega), if_neg hnv] at e1
  refine ⟨fun z => absurd e1 z, fun _ => ⟨vv, vin2 i35 hml (by omega), fun z3 e3 => ?_⟩⟩
  have n3 := inI i35 e3
  rw [cv', clI i35 (by omega)]
  refine h _ _ (by simp [upd]; exact n3) ?_ (fun w hw => ?_) (fun k hk => by simp [upd, hk]) (fun k hk => by simp at hk; simp [va_up, hk])
  · have := rep_push r57 (nI v) (k := mq.length) (by simp)
    simpa [va_up] using this
  · by_cases e : w = v
    · subst e; simp [va_up, upd]
    · simp only [List.mem_cons, e, false_or]
      simp [va_up, upd, e]; exact b56 w hw
end ZQ3
