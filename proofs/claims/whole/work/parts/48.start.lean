theorem zs_235 : Cond.arrayClass .int ∈ zTB := z_in (zt_1 _ (List.mem_of_getElem? (i := 89) rfl)) rfl
theorem zs_236 : Cond.arrayClass .long ∈ zTB := z_in (zt_1 _ (List.mem_of_getElem? (i := 158) rfl)) rfl
theorem zs_237 : Cond.arrayClass .boolean ∈ zTB := z_in (zt_1 _ (List.mem_of_getElem? (i := 157) rfl)) rfl
theorem zs_238 : Cond.arrayClass .char ∈ zTB := z_in (zt_1 _ (List.mem_of_getElem? (i := 55) rfl)) rfl
theorem zArr_of {args : Array Value} {s : State} {ty : FieldType} (h : (Cond.arrayClass ty).before args s = true) : ∃ cA : ClassId, ArrOfT s cA ty ∧ s.vm.findClass ("[" ++ ty.toString) = some cA := by
  obtain ⟨cA, kA, comp, h1, h2, h3⟩ := Cond.arrayClass_spec h
  exact ⟨cA, fun n z => ⟨fun k h => (by cases h), kA, h2, comp, h3⟩, h1⟩
theorem zK_start {args : Array Value} {s : State} (hts : ∀ w ∈ zTB, w.before args s = true) : ∃ (G : va_G) (K : Nat → ClassId), va_K G vwCl (zK K) s := by
  obtain ⟨kI, aI, fI⟩ := zArr_of (hts _ zs_235)
  obtain ⟨kJ, aJ, fJ⟩ := zArr_of (hts _ zs_236)
  obtain ⟨kZ, aZ, fZ⟩ := zArr_of (hts _ zs_237)
  obtain ⟨kC, aC, fC⟩ := zArr_of (hts _ zs_238)
  obtain ⟨c0, i0, u0⟩ := u_known hts zi0 (hts _ zm_0)
  obtain ⟨c1, i1, u1⟩ := u_known hts zi1 (hts _ zm_2)
  obtain ⟨c2, i2, u2⟩ := u_known hts zi2 (hts _ zm_4)
  obtain ⟨c3, i3, u3⟩ := u_known hts zi3 (hts _ zm_6)
  obtain ⟨c4, i4, u4⟩ := u_known hts zi4 (hts _ zm_8)
  obtain ⟨c5, i5, u5⟩ := u_known hts zi5 (hts _ zm_10)
  obtain ⟨c6, i6, u6⟩ := u_known hts zi6 (hts _ zm_12)
  obtain ⟨c7, i7, u7⟩ := u_known hts zi7 (hts _ zm_14)
  obtain ⟨c8, i8, u8⟩ := u_known hts zi8 (hts _ zm_16)
  obtain ⟨c9, i9, u9⟩ := u_known hts zi9 (hts _ zm_18)
  obtain ⟨c10, i10, u10⟩ := u_known hts zi10 (hts _ zm_20)
  obtain ⟨c11, i11, u11⟩ := u_known hts zi11 (hts _ zm_22)
  obtain ⟨c12, i12, u12⟩ := u_known hts zi12 (hts _ zm_24)
  refine ⟨(fun i => ([c0, c1, c2, c3, c4, c5, c6, c7, c8, c9, c10, c11, c12] : List ClassId).getD i c0, fun i => ([i0, i1, i2, i3, i4, i5, i6, i7, i8, i9, i10, i11, i12] : List (Nat → Nat)).getD i i0), fun i => ([kI, kJ, kZ, kC] : List ClassId).getD i kI, ?_, ?_⟩
  · intro c q hq
    have hc : c < 13 := (List.getElem?_eq_some_iff.mp hq).1
    have hc9 : c = 0 ∨ c = 1 ∨ c = 2 ∨ c = 3 ∨ c = 4 ∨ c = 5 ∨ c = 6 ∨ c = 7 ∨ c = 8 ∨ c = 9 ∨ c = 10 ∨ c = 11 ∨ c = 12 := by omega
    rcases hc9 with rfl | rfl | rfl | rfl | rfl | rfl | rfl | rfl | rfl | rfl | rfl | rfl | rfl
    · cases hq; exact u0
    · cases hq; exact u1
    · cases hq; exact u2
    · cases hq; exact u3
    · cases hq; exact u4
    · cases hq; exact u5
    · cases hq; exact u6
    · cases hq; exact u7
    · cases hq; exact u8
    · cases hq; exact u9
    · cases hq; exact u10
    · cases hq; exact u11
    · cases hq; exact u12
  · intro k q hk
    have hc : k < 4 := (List.getElem?_eq_some_iff.mp hk).1
    have hc9 : k = 0 ∨ k = 1 ∨ k = 2 ∨ k = 3 := by omega
    rcases hc9 with rfl | rfl | rfl | rfl
    · cases hk; exact ⟨aI, fI⟩
    · cases hk; exact ⟨aJ, fJ⟩
    · cases hk; exact ⟨aZ, fZ⟩
    · cases hk; exact ⟨aC, fC⟩
theorem zTh_start {b : Nat} {s : State} {A : Nat → Prop} (hts0 : ∀ w ∈ lw_tbl, w.before #[Value.ref b] s = true) (hgv : (Jvm.Cond.and given_1 narrow_1).before #[Value.ref b] s = true) (hA : ∀ a : Nat, a < s.heap.size → ¬ A a) : zTh A s s.heap := by
  have hs := flat_of_before _ hgv
  exact ⟨zSt_of (hts0 _ (zt_3 _ (List.mem_of_getElem? (i := 174) rfl))) (hs _ (by decide +kernel)) hA, zSt_of (hts0 _ (zt_3 _ (List.mem_of_getElem? (i := 176) rfl))) (hs _ (by decide +kernel)) hA, zDC_moved (Vm.Alike.refl s.vm) (a := #[Value.ref b]) (fun w h => hts0 w (List.mem_filter.mp h).1)⟩
theorem z_eqI {args : Array Value} {s : State} {t : Term} {k : Int32} (h : (Cond.eq t (.int k)).before args s = true) : t.eval args s none [] s = some (.int k) := by
  obtain ⟨w, h1, h2⟩ := Cond.eq_one (show (Cond.eq t (.int k)).holds args s none s [] = true from h)
  cases (show (Term.int k).eval args s none [] s = some (.int k) from rfl).symm.trans h2
  exact h1
theorem zSA_STRENGTHS {b : Nat} {s : State} {A : Nat → Prop} (hts0 : ∀ w ∈ lw_tbl, w.before #[Value.ref b] s = true) (hgv : (Jvm.Cond.and given_1 narrow_1).before #[Value.ref b] s = true) (hA : ∀ a : Nat, a < s.heap.size → ¬ A a) : zSA "LassoFinder$Terms" "STRENGTHS" 5 zStr A s s.heap := by
  have hs := flat_of_before _ hgv
  have hel : ∀ j : Nat, j < 5 → (Term.elem (Term.static "LassoFinder$Terms" "STRENGTHS" "[I") (.int (Int32.ofNat j))).eval #[Value.ref b] s none [] s = some (.int (zStr j)) := by
    intro j hj
    have hj9 : j = 0 ∨ j = 1 ∨ j = 2 ∨ j = 3 ∨ j = 4 := by omega
    rcases hj9 with rfl | rfl | rfl | rfl | rfl
    all_goals exact z_eqI (hs _ (by decide +kernel))
  obtain ⟨t, h1, h2⟩ := va_Tof (args := #[Value.ref b]) (s := s) (tm := (Term.static "LassoFinder$Terms" "STRENGTHS" "[I")) (ty := .int) (N := 5) (f := fun j => .int (zStr j)) (A := A) (by decide) (hs _ (by decide +kernel)) (z_eqI (hs _ (by decide +kernel))) hel hA
  exact ⟨t, va_Zof (hts0 _ (zt_4 _ (List.mem_of_getElem? (i := 84) rfl))) (hts0 _ (zt_1 _ (List.mem_of_getElem? (i := 5) rfl))) h1 hA, h2⟩
theorem zSA_GUESSED {b : Nat} {s : State} {A : Nat → Prop} (hts0 : ∀ w ∈ lw_tbl, w.before #[Value.ref b] s = true) (hgv : (Jvm.Cond.and given_1 narrow_1).before #[Value.ref b] s = true) (hA : ∀ a : Nat, a < s.heap.size → ¬ A a) : zSA "LassoFinder$Truths" "GUESSED" 3 zGue A s s.heap := by
  have hs := flat_of_before _ hgv
  have hel : ∀ j : Nat, j < 3 → (Term.elem (Term.static "LassoFinder$Truths" "GUESSED" "[I") (.int (Int32.ofNat j))).eval #[Value.ref b] s none [] s = some (.int (zGue j)) := by
    intro j hj
    have hj9 : j = 0 ∨ j = 1 ∨ j = 2 := by omega
    rcases hj9 with rfl | rfl | rfl
    all_goals exact z_eqI (hs _ (by decide +kernel))
  obtain ⟨t, h1, h2⟩ := va_Tof (args := #[Value.ref b]) (s := s) (tm := (Term.static "LassoFinder$Truths" "GUESSED" "[I")) (ty := .int) (N := 3) (f := fun j => .int (zGue j)) (A := A) (by decide) (hs _ (by decide +kernel)) (z_eqI (hs _ (by decide +kernel))) hel hA
  exact ⟨t, va_Zof (hts0 _ (zt_5 _ (List.mem_of_getElem? (i := 100) rfl))) (hts0 _ (zt_1 _ (List.mem_of_getElem? (i := 11) rfl))) h1 hA, h2⟩
theorem zTH_start {b : Nat} {s : State} {A : Nat → Prop} (hts0 : ∀ w ∈ lw_tbl, w.before #[Value.ref b] s = true) (hgv : (Jvm.Cond.and given_1 narrow_1).before #[Value.ref b] s = true) (hA : ∀ a : Nat, a < s.heap.size → ¬ A a) : zTH A s s.heap := by
  have hs := flat_of_before _ hgv
  exact ⟨zTh_start hts0 hgv hA, zSA_STRENGTHS hts0 hgv hA, zSA_GUESSED hts0 hgv hA, zNA_of (hs _ (by decide +kernel)), zNA_of (hs _ (by decide +kernel)), zNA_of (hs _ (by decide +kernel)), zNA_of (hs _ (by decide +kernel)), zNA_of (hs _ (by decide +kernel))⟩
