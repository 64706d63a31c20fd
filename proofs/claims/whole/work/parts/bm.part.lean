/-! The class closes a part of the search: its loops. -/
section ZQ5
variable {I : Nat → Int32} {J : Nat → Int64} {B : Nat → Nat → Int32} {D : Nat → Nat → Int64}
theorem nI_sk (a b : Nat) : nI (a + b) - nI b = nI a := by
  rw [← nI_add]
  generalize nI a = x
  generalize nI b = y
  grind
theorem nI_dm {x z : Int32} {k : Nat} (h : x = nI (k + 1)) (e : z = x + -1) : z = nI k := by
  refine deI h ?_
  rw [e]
  generalize x = y
  grind
theorem nI_nz {k : Nat} (h : 0 < k) (h2 : k ≤ 100000) : ¬ nI k = 0 := fun e => by
  have := nI_inj h2 (b := 0) (by omega) e
  omega
theorem orL_app {S : Nat → Nat} : ∀ (P : List Nat) (x : Nat), orL S (P ++ [x]) = orL S P ||| S x := by
  intro P x
  induction P with
  | nil => rfl
  | cons p P ih =>
    show orL S (P ++ [x]) ||| S p = (orL S P ||| S p) ||| S x
    rw [ih, Nat.or_assoc, Nat.or_comm (S x), ← Nat.or_assoc]
theorem rep_mid {f : Nat → Int32} {A T : List Nat} {x : Nat} (h : rep f 0 ((A ++ x :: T).map nI)) : f T.length = nI x := by
  rw [List.map_append] at h
  have := (rep_app h).1
  simpa using this
theorem Srt_app {ord : Nat → Nat} : ∀ {A T : List Nat}, Srt ord (A ++ T) → (∀ a ∈ A, ∀ b ∈ T, ord b < ord a) ∧ Srt ord A ∧ Srt ord T := by
  intro A
  induction A with
  | nil => intro T h; exact ⟨fun a ha => by simp at ha, trivial, h⟩
  | cons x A ih =>
    intro T h
    obtain ⟨a1, a2, a3⟩ := ih h.2
    refine ⟨fun a ha b hb => ?_, ⟨fun y hy => h.1 y (List.mem_append_left _ hy), a2⟩, a3⟩
    rcases List.mem_cons.mp ha with e | e
    · rw [e]; exact h.1 b (List.mem_append_right _ hb)
    · exact a1 a e b hb
theorem B48 {d : zD} {Q : zQ} {X : zG} {out : List zIt} (hR : SR d Q X out I B) {v : Nat} (hv : v < 8 * gN X) : B 48 v = nI (Sx d X out v) := by
  have := (hR.2.2.2.2.1 (v / 8) (by omega) (v % 8) (by omega)).2.1
  rw [show 8 * (v / 8) + v % 8 = v by omega] at this
  exact this
theorem Sx_lt {d : zD} {X : zG} {out : List zIt} (h : ntm out ≤ 3) (v : Nat) : Sx d X out v < 2 ^ ntm out ∧ Sx d X out v < 8 := by
  have := bN_lt (fun t => stb (tk out t) (ag (atv d (gK X (v / 8))) (fun t => (v % 8).testBit t) out t).1 (ag (atv d (gK X (v / 8))) (fun t => (v % 8).testBit t) out t).2 ((v % 8).testBit t)) (ntm out)
  have h8 := p2_3 h
  exact ⟨this, Nat.lt_of_lt_of_le this h8⟩
theorem sub_al {a k : Nat} (h : a < 2 ^ k) : sub a (2 ^ k - 1) := fun i hi => by
  rw [Nat.testBit_two_pow_sub_one]
  have h1 : 2 ^ i ≤ a := Nat.ge_two_pow_of_testBit hi
  have h2 : i < k := Nat.lt_of_not_le (fun z => by have := Nat.pow_le_pow_right (n := 2) (by omega) z; omega)
  simpa using h2
theorem orL_lt {S : Nat → Nat} {k : Nat} (h : ∀ w, S w < 2 ^ k) : ∀ C : List Nat, orL S C < 2 ^ k := by
  intro C
  induction C with
  | nil => exact Nat.two_pow_pos k
  | cons x l ih => exact Nat.or_lt_two_pow ih (h x)
theorem q_closePart {Post : (Nat → Int32) → (Nat → Int64) → (Nat → Nat → Int32) → (Nat → Nat → Int64) → Prop} {d : zD} {Q : zQ} {X : zG} {out : List zIt} {ord low ix : Nat → Nat} {C opn' pth mq : List Nat} {cnt v : Nat} (hR : SR d Q X out I B) (hF : XF X (gN X)) (hC : TC (8 * gN X) X ord low ix (C ++ v :: opn') pth cnt mq I B) (hS : Srt ord (C ++ v :: opn')) (hnz : ∀ w ∈ C ++ v :: opn', ¬ ord w = 0)
    (h : ∀ I' B' mq', ((mq' = (C ++ [v]) ++ mq ∧ (¬ (C ++ [v]).length = 1 ∨ Ed (dgX X) (nbX d X out) v v) ∧ orL (Sx d X out) (C ++ [v]) = 2 ^ ntm out - 1) ∨ (mq' = mq ∧ ¬ ((¬ (C ++ [v]).length = 1 ∨ Ed (dgX X) (nbX d X out) v v) ∧ orL (Sx d X out) (C ++ [v]) = 2 ^ ntm out - 1))) → TC (8 * gN X) X ord low ix opn' pth cnt mq' I' B' → FS I B I' B' → Post I' J B' D) : wp_LassoSearch_closePart I J B D (nI v) Post := by
  have x1 := hR.1.1
  have h3 := hR.2.1
  have p8 := p2_3 h3
  have p1 : 0 < 2 ^ ntm out := Nat.two_pow_pos _
  obtain ⟨b50, bv, ⟨i34, i33, r55, i32, r54⟩, ⟨on, oz, ecv⟩, ⟨i35, r57, b56, hml, hm⟩⟩ := hC
  have hcn := cv_le ord (8 * gN X)
  have hlen : (C ++ v :: opn').length = C.length + 1 + opn'.length := by simp; omega
  have hCl : (C ++ [v]).length = C.length + 1 := by simp
  rw [hlen] at i33 hml
  obtain ⟨s1, s2, s3⟩ := Srt_app hS
  have hvC : v ∉ C := fun z => Nat.lt_irrefl _ (s1 v z v (List.mem_cons_self ..))
  have hspl : C ++ v :: opn' = (C ++ [v]) ++ opn' := by simp
  have hS2 : Srt ord ((C ++ [v]) ++ opn') := by rw [← hspl]; exact hS
  obtain ⟨t1, t2, t3⟩ := Srt_app hS2
  have hdis : ∀ w ∈ C ++ [v], w ∉ opn' := fun w hw z => Nat.lt_irrefl _ (t1 w hw w z)
  have inO : ∀ w ∈ C ++ [v], w ∈ C ++ v :: opn' := fun w hw => by rw [hspl]; exact List.mem_append_left _ hw
  have hvN : v < 8 * gN X := on v (inO v (by simp))
  have sl := fun w => (Sx_lt (d := d) (X := X) h3 w).1
  have hor := orL_lt sl (C ++ [v])
  -- behind the parts: the row of open ones is shorter, the part is marked or not
  have h74 : ∀ B1 : Nat → Nat → Int32, (∀ k, k ≠ 53 → B1 k = B k) → (∀ w, w < 8 * gN X → B1 53 w = if w ∈ C ++ [v] then 0 else B 53 w) → wc_LassoSearch_closePart_74 (nI v) Post (nI v) (nI (C ++ [v]).length) (nI (orL (Sx d X out) (C ++ [v]))) I J B1 D := by
    intro B1 hB h53 z9 e9
    have n9 : z9 = nI opn'.length := by
      rw [e9, i33, hCl, show C.length + 1 + opn'.length = opn'.length + (C.length + 1) by omega]; exact nI_sk _ _
    have hR1 : SR d Q X out (upd I 33 z9) B1 := hR.cg (fun k hk => by simp at hk; simp [upd]; omega) (fun k hk => hB k (by simp at hk; omega))
    have tcE : ∀ I' B' mq', (∀ k, k ∉ [33, 35] → I' k = I k) → I' 33 = nI opn'.length → (∀ k, k ∉ [53, 56, 57] → B' k = B k) → B' 53 = B1 53 → I' 35 = nI mq'.length → rep (B' 57) 0 (mq'.map nI) → (∀ w, w < 6144 → B' 56 w = if w ∈ mq' then 0 else -1) → (mq' = (C ++ [v]) ++ mq ∨ mq' = mq) → TC (8 * gN X) X ord low ix opn' pth cnt mq' I' B' := by
      intro I' B' mq' hI h33 hB' h53' h35 h57 h56 hq
      refine ⟨by rw [hB' 50 (by decide)]; exact b50, fun w hw hne => ?_, ⟨by rw [hI 34 (by decide)]; exact i34, h33, ?_, by rw [hI 32 (by decide)]; exact i32, by rw [hB' 54 (by decide)]; exact r54⟩, ⟨fun w hw => on w (by rw [hspl]; exact List.mem_append_right _ hw), oz, ecv⟩, ⟨h35, h57, h56, ?_, fun w hw => ?_⟩⟩
      · obtain ⟨a1, a2, a3⟩ := bv w hw hne
        refine ⟨by rw [hB' 51 (by decide)]; exact a1, by rw [hB' 52 (by decide)]; exact a2, ?_⟩
        rw [h53', h53 w hw, a3]
        by_cases e : w ∈ C ++ [v]
        · rw [if_pos e, if_neg (hdis w e)]
        · rw [if_neg e]
          by_cases e2 : w ∈ opn'
          · rw [if_pos e2, if_pos (by rw [hspl]; exact List.mem_append_right _ e2)]
          · rw [if_neg e2, if_neg (by rw [hspl]; exact fun z => (List.mem_append.mp z).elim e e2)]
      · rw [hB' 55 (by decide)]
        rw [hspl, List.map_append] at r55
        exact rep_app r55
      · rcases hq with e | e
        · rw [e, List.length_append, hCl]; omega
        · rw [e]; omega
      · have old : w ∈ mq → w < 8 * gN X ∧ ¬ ord w = 0 ∧ w ∉ opn' := fun z => by
          obtain ⟨a1, a2, a3⟩ := hm w z
          exact ⟨a1, a2, fun q => a3 (by rw [hspl]; exact List.mem_append_right _ q)⟩
        rcases hq with e | e
        · rw [e] at hw
          rcases List.mem_append.mp hw with z | z
          · exact ⟨on w (inO w z), hnz w (inO w z), hdis w z⟩
          · exact old z
        · rw [e] at hw; exact old hw
    have fsE : ∀ I' B', (∀ k, k ∉ [33, 35] → I' k = I k) → (∀ k, k ∉ [53, 56, 57] → B' k = B k) → FS I B I' B' := fun I' B' hI hB' => ⟨fun k hk => hI k (by simp at hk ⊢; omega), fun k hk => hB' k (by simp at hk ⊢; omega)⟩
    have hI0 : ∀ k, k ∉ [33, 35] → upd I 33 z9 k = I k := fun k hk => by simp at hk; simp [upd, hk]
    have hB0 : ∀ k, k ∉ [53, 56, 57] → B1 k = B k := fun k hk => hB k (by simp at hk; omega)
    -- nothing is marked
    have none : ¬ ((¬ (C ++ [v]).length = 1 ∨ Ed (dgX X) (nbX d X out) v v) ∧ orL (Sx d X out) (C ++ [v]) = 2 ^ ntm out - 1) → Post (upd I 33 z9) J B1 D := fun hn => h _ _ mq (Or.inr ⟨rfl, hn⟩) (tcE _ _ mq hI0 (by simp [upd]; exact n9) hB0 rfl (by simp [upd]; exact i35) (by rw [hB 57 (by decide)]; exact r57) (by rw [hB 56 (by decide)]; exact b56) (Or.inr rfl)) (fsE _ _ hI0 hB0)
    -- all of it is marked
    have lp : (¬ (C ++ [v]).length = 1 ∨ Ed (dgX X) (nbX d X out) v v) → orL (Sx d X out) (C ++ [v]) = 2 ^ ntm out - 1 → ∀ (r T : List Nat) (I2 : Nat → Int32) (B2 : Nat → Nat → Int32), C ++ [v] = r.reverse ++ T → (∀ k, k ≠ 35 → I2 k = upd I 33 z9 k) → (∀ k, k ∉ [56, 57] → B2 k = B1 k) → I2 35 = nI (T ++ mq).length → rep (B2 57) 0 ((T ++ mq).map nI) → (∀ w, w < 6144 → B2 56 w = if w ∈ T ++ mq then 0 else -1) → wl_LassoSearch_closePart_128 (nI v) Post (r.length + 1) (nI (C ++ [v]).length) (nI (opn'.length + T.length)) I2 J B2 D := by
      intro hc1 hc2 r
      induction r with
      | nil =>
        intro T I2 B2 hT hI2 hB2 g35 g57 g56 z1 e1
        have i33' : I2 33 = nI opn'.length := by rw [hI2 33 (by decide)]; simp [upd]; exact n9
        rw [i33', nI_add] at e1
        have eT : T = C ++ [v] := by simpa using hT.symm
        have hI3 : ∀ k, k ∉ [33, 35] → I2 k = I k := fun k hk => by rw [hI2 k (by simp at hk; omega)]; exact hI0 k hk
        have hB3 : ∀ k, k ∉ [53, 56, 57] → B2 k = B k := fun k hk => by rw [hB2 k (by simp at hk ⊢; omega)]; exact hB0 k hk
        refine ⟨fun _ => h _ _ (T ++ mq) (Or.inl ⟨by rw [eT], hc1, hc2⟩) (tcE _ _ (T ++ mq) hI3 i33' hB3 (hB2 53 (by decide)) g35 g57 g56 (Or.inl (by rw [eT]))) (fsE _ _ hI3 hB3), fun z => absurd ((leI e1 rfl (by omega) (by rw [eT]; omega)).mpr (by rw [eT]; omega)) z⟩
      | cons x r ih =>
        intro T I2 B2 hT hI2 hB2 g35 g57 g56 z1 e1
        have i33' : I2 33 = nI opn'.length := by rw [hI2 33 (by decide)]; simp [upd]; exact n9
        rw [i33', nI_add] at e1
        have hT2 : C ++ [v] = r.reverse ++ x :: T := by rw [hT]; simp
        have hTl : C.length + 1 = r.length + 1 + T.length := by
          have := congrArg List.length hT2
          rw [hCl] at this; simp at this; omega
        refine ⟨fun z => ?_, fun _ => ⟨vin2 rfl (by omega) (by omega), fun z3 e3 => ?_⟩⟩
        · have := (leI e1 rfl (by omega) (by omega)).mp z
          rw [hCl] at this; omega
        have hxm : x ∈ C ++ [v] := by rw [hT2]; simp
        have r55' : rep (B 55) 0 ((r.reverse ++ x :: (T ++ opn')).map nI) := by
          rw [hspl, hT2] at r55
          simpa using r55
        have g3 := rep_mid r55'
        rw [List.length_append] at g3
        rw [clI rfl (by omega), hB2 55 (by decide), hB 55 (by decide), Nat.add_comm opn'.length, g3] at e3
        have xT : x ∉ T := by
          have hS3 := t2
          rw [hT2] at hS3
          have := (Srt_app hS3).2.2
          exact fun z => Nat.lt_irrefl _ (this.1 x z)
        have xm : x ∉ mq := fun z => (hm x z).2.2 (inO x hxm)
        have hxN := on x (inO x hxm)
        refine q_reach0 (mq := T ++ mq) e3 (by omega) (by rw [List.length_append]; omega) g35 g57 g56 (fun z => (List.mem_append.mp z).elim xT xm) (fun I3 B3 k1 k2 k3 k4 k5 z5 e5 => ?_)
        have n5 := inI rfl e5
        rw [n5]
        exact ih (x :: T) I3 B3 (by rw [hT2]) (fun k hk => by rw [k4 k hk]; exact hI2 k hk) (fun k hk => by rw [k5 k hk]; exact hB2 k hk) k1 k2 k3
    have mark : (¬ (C ++ [v]).length = 1 ∨ Ed (dgX X) (nbX d X out) v v) → wc_LassoSearch_closePart_102 (nI v) Post (nI (C ++ [v]).length) (nI (orL (Sx d X out) (C ++ [v]))) 1 (upd I 33 z9) J B1 D := by
      intro hc1
      refine ⟨fun z => absurd z (by decide), fun _ z7 e7 => ?_⟩
      have i30 : upd I 33 z9 30 = nI (2 ^ ntm out - 1 + 1) := by
        rw [show 2 ^ ntm out - 1 + 1 = 2 ^ ntm out by omega]; simp [upd]; exact hR.2.2.2.1
      have n7 := deI i30 e7
      refine ⟨fun z => none (fun q => z (by rw [n7, q.2])), fun z => ?_⟩
      have hc2 := (eqI rfl n7 (by omega) (by omega)).mp z
      refine ⟨(C ++ [v]).reverse.length + 1, ?_⟩
      have := lp hc1 hc2 (C ++ [v]).reverse [] (upd I 33 z9) B1 (by simp) (fun _ _ => rfl) (fun _ _ => rfl) (by simp [upd]; exact i35) (by rw [hB 57 (by decide)]; simpa using r57) (by rw [hB 56 (by decide)]; simpa using b56)
      rw [show upd I 33 z9 33 = nI (opn'.length + ([] : List Nat).length) by simp [upd]; exact n9]
      exact this
    refine ⟨fun z => ?_, fun z => ?_⟩
    · have := (ltI (x := 1) (a := 1) rfl rfl (by omega) (by rw [hCl]; omega)).mp z
      exact mark (Or.inl (by omega))
    · have hl1 : (C ++ [v]).length = 1 := by
        have : ¬ 1 < (C ++ [v]).length := fun q => z ((ltI (x := 1) (a := 1) rfl rfl (by omega) (by rw [hCl]; omega)).mpr q)
        omega
      refine q_leadsToItself hR1 hF hvN (fun hE => ?_) (fun hE => ?_)
      · exact ⟨fun z => absurd z (by decide), fun _ => mark (Or.inr hE)⟩
      · exact ⟨fun _ => ⟨fun _ => none (fun q => q.1.elim (fun w => w hl1) hE), fun w => absurd rfl w⟩, fun w => absurd rfl w⟩
  -- the loop over the open spots
  have fin : ∀ (B1 : Nat → Nat → Int32) (z18 : Int32), z18 = nI opn'.length + -1 → (∀ k, k ≠ 53 → B1 k = B k) → (∀ w, w < 8 * gN X → B1 53 w = if w ∈ C ++ [v] then 0 else B 53 w) → wl_LassoSearch_closePart_12 (nI v) Post 1 (nI v) (nI (C ++ [v]).length) (nI (orL (Sx d X out) (C ++ [v]))) z18 I J B1 D := by
    intro B1 z18 e18 hB h53
    refine ⟨fun _ => h74 B1 hB h53, fun _ => ⟨fun z => absurd z (nI_nz (by rw [hCl]; omega) (by rw [hCl]; omega)), fun _ z21 e21 => ?_⟩⟩
    have n21 : z21 = nI opn'.length := by
      rw [e21, e18]
      generalize nI opn'.length = y
      grind
    refine ⟨vin2 n21 (by omega) (by omega), fun z22 e22 => ?_⟩
    rw [clI n21 (by omega), hB 55 (by decide), rep_mid r55] at e22
    exact ⟨fun _ => h74 B1 hB h53, fun z => absurd e22 z⟩
  have body : ∀ (A T : List Nat) (x : Nat) (K : Int32 → Int32 → Int32 → Int32 → (Nat → Int32) → (Nat → Int64) → (Nat → Nat → Int32) → (Nat → Nat → Int64) → Prop) (B1 : Nat → Nat → Int32), C ++ v :: opn' = A ++ x :: T → x ∈ C ++ [v] → (∀ k, k ≠ 53 → B1 k = B k) → (∀ w, w < 8 * gN X → B1 53 w = if w ∈ A then 0 else B 53 w) → (∀ B2 z18, z18 = nI T.length + -1 → (∀ k, k ≠ 53 → B2 k = B k) → (∀ w, w < 8 * gN X → B2 53 w = if w ∈ A ++ [x] then 0 else B 53 w) → K (nI v) (nI (A ++ [x]).length) (nI (orL (Sx d X out) (A ++ [x]))) z18 I J B2 D) → wc_LassoSearch_closePart_34 (nI v) K Post (nI v) (nI A.length) (nI (orL (Sx d X out) A)) (nI T.length) I J B1 D := by
    intro A T x K B1 hA hx hB h53 hK
    have hal : A.length + 1 + T.length = C.length + 1 + opn'.length := by
      have := congrArg List.length hA
      rw [hlen] at this; simp at this; omega
    have hxN := on x (inO x hx)
    have g55 : B1 55 T.length = nI x := by
      rw [hB 55 (by decide)]
      rw [hA] at r55
      exact rep_mid r55
    refine ⟨vin2 rfl (by omega) (by omega), fun z13 e13 => ?_⟩
    rw [clI rfl (by omega), g55] at e13
    refine ⟨vin2 e13 (by omega) (by omega), fun z14 e14 z15 e15 => ⟨vin2 rfl (by omega) (by omega), fun z16 e16 => ?_⟩⟩
    rw [clI e13 (by omega), hB 48 (by decide), B48 hR hxN] at e14
    rw [clI rfl (by omega), g55] at e16
    refine ⟨vin2 e16 (by omega) (by omega), fun z17 e17 z18 e18 => ?_⟩
    have n15 : z15 = nI (orL (Sx d X out) (A ++ [x])) := by rw [e15, e14, nI_or, orL_app]
    have n17 : z17 = nI (A ++ [x]).length := by rw [inI rfl e17]; simp
    rw [n15, n17, clI e16 (by omega)]
    refine hK _ _ e18 (fun k hk => by simp [va_up, hk]; exact hB k hk) (fun w hw => ?_)
    by_cases e : w = x
    · subst e; rw [if_pos (by simp)]; simp [va_up, upd]; rfl
    · simp only [va_up, upd, e, if_false, if_true]
      rw [h53 w hw]
      by_cases e2 : w ∈ A
      · rw [if_pos e2, if_pos (List.mem_append_left _ e2)]
      · rw [if_neg e2, if_neg (fun z => (List.mem_append.mp z).elim e2 (fun q => e (by simpa using q)))]
  have lp1 : ∀ (L A : List Nat) (B1 : Nat → Nat → Int32), C = A ++ L → (∀ k, k ≠ 53 → B1 k = B k) → (∀ w, w < 8 * gN X → B1 53 w = if w ∈ A then 0 else B 53 w) → wl_LassoSearch_closePart_12 (nI v) Post (L.length + 2) (nI v) (nI A.length) (nI (orL (Sx d X out) A)) (nI (L.length + opn'.length)) I J B1 D := by
    intro L
    induction L with
    | nil =>
      intro A B1 hA hB h53
      have eA : A = C := by simpa using hA.symm
      subst eA
      have bd := body A opn' v (wl_LassoSearch_closePart_12 (nI v) Post 1) B1 rfl (by simp) hB h53 (fun B2 z18 e18 k1 k2 => fin B2 z18 e18 k1 k2)
      rw [show ([] : List Nat).length + opn'.length = opn'.length by simp]
      refine ⟨fun z => absurd z (fun z => ?_), fun _ => ⟨fun _ => bd, fun z z21 e21 => ?_⟩⟩
      · have := (ltI (y := 0) (b := 0) rfl rfl (by omega) (by omega)).mp z; omega
      have n21 := inI rfl e21
      have hne : ¬ A = [] := fun e => z (by rw [e]; rfl)
      have hAl : 0 < A.length := List.length_pos_iff.mpr hne
      have hlen' := hlen
      simp only [List.length_append, List.length_cons] at hlen'
      refine ⟨vin2 n21 (by first | omega | (simp only [List.length_cons] at *; omega)) (by omega), fun z22 e22 => ?_⟩
      have eL : A = A.dropLast ++ [A.getLast hne] := (List.dropLast_concat_getLast hne).symm
      have r2 : rep (B 55) 0 ((A.dropLast ++ A.getLast hne :: (v :: opn')).map nI) := by
        have : A.dropLast ++ A.getLast hne :: (v :: opn') = A ++ v :: opn' := by
          rw [show A.getLast hne :: (v :: opn') = [A.getLast hne] ++ (v :: opn') from rfl, ← List.append_assoc, ← eL]
        rw [this]; exact r55
      have g := rep_mid r2
      have gN := on (A.getLast hne) (List.mem_append_left _ (List.getLast_mem hne))
      rw [clI n21 (by omega), hB 55 (by decide), show opn'.length + 1 = (v :: opn').length by simp, g] at e22
      refine ⟨fun q => absurd ((eqI e22 rfl (by omega) (by omega)).mp q) (fun q => hvC (by rw [← q]; exact List.getLast_mem hne)), fun _ => bd⟩
    | cons x L ih =>
      intro A B1 hA hB h53
      have hA2 : C ++ v :: opn' = A ++ x :: (L ++ v :: opn') := by rw [hA]; simp
      have hTl : (L ++ v :: opn').length = (x :: L).length + opn'.length := by simp; omega
      have hxC : x ∈ C := by rw [hA]; simp
      have bd := body A (L ++ v :: opn') x (wl_LassoSearch_closePart_12 (nI v) Post (L.length + 2)) B1 hA2 (List.mem_append_left _ hxC) hB h53 (fun B2 z18 e18 k1 k2 => by
        have n18 : z18 = nI (L.length + opn'.length) := by
          refine nI_dm ?_ e18
          rw [hTl]; simp; congr 1; omega
        rw [n18]
        exact ih (A ++ [x]) B2 (by rw [hA]; simp) k1 k2)
      rw [hTl] at bd
      have hCL : C.length = A.length + (L.length + 1) := by rw [hA]; simp
      have hxl : (x :: L).length = L.length + 1 := rfl
      refine ⟨fun z => absurd z (fun z => ?_), fun _ => ⟨fun _ => bd, fun z z21 e21 => ?_⟩⟩
      · have := (ltI (y := 0) (b := 0) rfl rfl (by omega) (by omega)).mp z; omega
      have n21 := inI rfl e21
      have hne : ¬ A = [] := fun e => z (by rw [e]; rfl)
      have hAl : 0 < A.length := List.length_pos_iff.mpr hne
      have hlen' := hlen
      simp only [List.length_append, List.length_cons] at hlen'
      refine ⟨vin2 n21 (by first | omega | (simp only [List.length_cons] at *; omega)) (by omega), fun z22 e22 => ?_⟩
      have eL : A = A.dropLast ++ [A.getLast hne] := (List.dropLast_concat_getLast hne).symm
      have r2 : rep (B 55) 0 ((A.dropLast ++ A.getLast hne :: (x :: (L ++ v :: opn'))).map nI) := by
        have : A.dropLast ++ A.getLast hne :: (x :: (L ++ v :: opn')) = A ++ x :: (L ++ v :: opn') := by
          rw [show A.getLast hne :: (x :: (L ++ v :: opn')) = [A.getLast hne] ++ (x :: (L ++ v :: opn')) from rfl, ← List.append_assoc, ← eL]
        rw [this, ← hA2]; exact r55
      have g := rep_mid r2
      have gC : A.getLast hne ∈ C := by rw [hA]; exact List.mem_append_left _ (List.getLast_mem hne)
      have gN := on (A.getLast hne) (List.mem_append_left _ gC)
      rw [clI n21 (by omega), hB 55 (by decide), show (x :: L).length + opn'.length + 1 = (x :: (L ++ v :: opn')).length by simp; omega, g] at e22
      refine ⟨fun q => absurd ((eqI e22 rfl (by omega) (by omega)).mp q) (fun q => hvC (by rw [← q]; exact gC)), fun _ => bd⟩
  intro z24 e24
  have n24 : z24 = nI (C.length + opn'.length) := deI (by rw [i33]; congr 1; omega) e24
  rw [n24]
  exact ⟨C.length + 2, lp1 C [] B (by simp) (fun _ _ => rfl) (fun w _ => by simp)⟩
end ZQ5
