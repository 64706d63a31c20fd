/-! The reference reads a model's text: declarations, and all. -/
section ZI6
variable {I : Nat → Int32} {J : Nat → Int64} {B : Nat → Nat → Int32} {D : Nat → Nat → Int64} {I9 : Nat → Int32} {J9 : Nat → Int64} {B9 : Nat → Nat → Int32} {D9 : Nat → Nat → Int64}
def Z0 (I9 : Nat → Int32) (B9 : Nat → Nat → Int32) : Prop := I9 8 = nI 0 ∧ I9 9 = nI 0 ∧ I9 10 = nI 0 ∧ I9 11 = nI 0 ∧ ∀ j, j < 32 → B9 22 j = -1
def WD (J9 : Nat → Int64) (D9 : Nat → Nat → Int64) (Post : Int32 → (Nat → Int32) → (Nat → Int64) → (Nat → Nat → Int32) → (Nat → Nat → Int64) → Prop) (f : Nat → Int32) (n : Nat) (I90 : Nat → Int32) (B90 : Nat → Nat → Int32) (d : zD) : Prop := ∃ m, ∀ I9 B9, DM f n I9 B9 d → Z0 I9 B9 → FMo I90 B90 I9 B9 → wl_LassoFinderModel_wholeModel_89 Post m I9 J9 B9 D9
theorem FD9.fmo {I1 : Nat → Int32} {B1 : Nat → Nat → Int32} (h : FD9 I9 B9 I1 B1) : FMo I9 B9 I1 B1 := ⟨fun k hk => h.1 k (by simp at hk ⊢; omega), fun k hk => h.2 k (by simp at hk ⊢; omega)⟩
theorem Z0.fd {I1 : Nat → Int32} {B1 : Nat → Nat → Int32} (h : Z0 I9 B9) (g : FD9 I9 B9 I1 B1) : Z0 I1 B1 := by
  obtain ⟨h1, h2, h3, h4, h5⟩ := h
  exact ⟨(g.1 8 (by decide)).trans h1, (g.1 9 (by decide)).trans h2, (g.1 10 (by decide)).trans h3, (g.1 11 (by decide)).trans h4, fun j hj => by rw [g.2 22 (by decide)]; exact h5 j hj⟩
theorem WD_step {Post : Int32 → (Nat → Int32) → (Nat → Int64) → (Nat → Nat → Int32) → (Nat → Nat → Int64) → Prop} {f : Nat → Int32} {n : Nat} {I90 : Nat → Int32} {B90 : Nat → Nat → Int32} {d e : zD} (h : dst f n d e) (hw : WD J9 D9 Post f n I90 B90 e) : WD J9 D9 Post f n I90 B90 d := by
  obtain ⟨m, hw⟩ := hw
  refine ⟨m + 1, fun I9 B9 hD hZ hF => ?_⟩
  refine q_here hD.1.tx ?_
  rw [hD.1.tk]
  refine ⟨fun z => absurd z (dst_123 h), fun _ => q_decl9 hD (fun I' B' t hd hF' hD' => ?_) (fun I' B' q hd _ _ => absurd hd (dst_nf h))⟩
  have et := dst_det h hd
  subst et
  exact ⟨fun _ => hw I' B' hD' (hZ.fd hF') (hF.trn hF'.fmo), fun z => absurd z (by decide)⟩
theorem WD_bad {Post : Int32 → (Nat → Int32) → (Nat → Int64) → (Nat → Nat → Int32) → (Nat → Nat → Int64) → Prop} {f : Nat → Int32} {n q : Nat} {I90 : Nat → Int32} {B90 : Nat → Nat → Int32} {d : zD} (h : dfail f n d q) (h123 : ¬ tkn f n d.1 = 123) (k : ∀ I9' B9', FMo I90 B90 I9' B9' → I9' 3 = nI q → Post 0 I9' J9 B9' D9) : WD J9 D9 Post f n I90 B90 d := by
  refine ⟨1, fun I9 B9 hD hZ hF => ?_⟩
  refine q_here hD.1.tx ?_
  rw [hD.1.tk]
  refine ⟨fun z => absurd z h123, fun _ => q_decl9 hD (fun I' B' t hd hF' hD' => absurd h (dst_nf hd)) (fun I' B' q' hd hF' h2 => ⟨fun z => absurd rfl z, fun _ => ?_⟩)⟩
  have eq := dfail_det h hd
  subst eq
  refine k _ _ (hF.trn (hF'.fmo.trn ⟨fun j hj => ?_, fun _ _ => rfl⟩)) (by simp [upd, h2])
  have : ¬ j = 3 := by simp at hj; omega
  simp [upd, this]
theorem NR.knm {nv nc : Nat} {kd dg vn cn : Nat → Int32} (h : NR B nv nc kd dg vn cn) (hv : nv ≤ 6) (hc : nc ≤ 2) : knm B kd := by
  obtain ⟨h1, h2, h3, h4, h5, h6, h7⟩ := h
  intro j hj
  refine ⟨(h1 j hj).1, ⟨fun z => ?_, fun z => ?_⟩, ⟨fun z => ?_, fun z => ?_⟩⟩
  · refine Classical.not_not.mp (fun w => ?_)
    rw [h4 j hj w] at z; exact absurd z (by decide)
  · obtain ⟨v, hv', _, e⟩ := h3 j hj z
    rw [e]; exact Int32.not_lt.mp (nI_pos (by omega))
  · refine Classical.not_not.mp (fun w => ?_)
    rw [h7 j hj w] at z; exact absurd z (by decide)
  · obtain ⟨v, hv', _, e⟩ := h6 j hj z
    rw [e]; exact Int32.not_lt.mp (nI_pos (by omega))
/-- the first process stands ahead -/
theorem WD_end {Post : Int32 → (Nat → Int32) → (Nat → Int64) → (Nat → Nat → Int32) → (Nat → Nat → Int64) → Prop} {f : Nat → Int32} {n : Nat} {I90 : Nat → Int32} {B90 : Nat → Nat → Int32} {d : zD} {s s1 : zS} (h123 : tkn f n d.1 = 123) (hDC : DC f n s1.1 s1.2.2.1 d) (hFD : FD (s00 s).1 (s00 s).2.2.1 s1.1 s1.2.2.1) (hDD : s1.2.2.2 = (s00 s).2.2.2) (hw : WP J9 D9 Post f n d I90 B90 s1) : WD J9 D9 Post f n I90 B90 d := by
  obtain ⟨m, hw⟩ := hw
  refine ⟨1, fun I9 B9 hD hZ hF => ?_⟩
  refine q_here hD.1.tx ?_
  rw [hD.1.tk]
  refine ⟨fun _ => ⟨m, hw I9 B9 ?_ ⟨hD.2.1, hD.2.2.1, hD.2.2.2.1, hD.2.2.2.2.1, hD.2.2.2.2.2⟩ hF⟩, fun z => absurd h123 z⟩
  obtain ⟨z8, z9, z10, z11, z22⟩ := hZ
  refine ⟨d.1, 0, 0, 0, 0, 0, fun _ _ v => v, ⟨hDC.1.1, ?_, ?_, ?_, by omega, by omega, by omega⟩, ⟨hD.1, z8, z9, z10, z11, by omega, by omega⟩, fun b hb => by omega, fun j _ hj => ⟨z22 j hj, ?_⟩, hD.2.2.2.2.2.knm hD.2.2.2.1 hD.2.2.2.2.1, fun b hb => by omega, fun q hq => by omega, fun j hj => ?_, fun b b' hb => by omega⟩
  · exact (hFD.1 10 (by decide)).trans (by simp [s00, upd]; rfl)
  · exact (hFD.1 9 (by decide)).trans (by simp [s00, upd]; rfl)
  · exact (hFD.1 11 (by decide)).trans (by simp [s00, upd]; rfl)
  · rw [hFD.2 14 (by decide)]; simp [s00, va_up, zFill, hj]
  · rw [hDD]; simp [s00, va_up, zFill, hj, fdv]
theorem WD_star {Post : Int32 → (Nat → Int32) → (Nat → Int64) → (Nat → Nat → Int32) → (Nat → Nat → Int64) → Prop} {f : Nat → Int32} {n : Nat} {I90 : Nat → Int32} {B90 : Nat → Nat → Int32} {d e : zD} (h : star (dst f n) d e) (hw : WD J9 D9 Post f n I90 B90 e) : WD J9 D9 Post f n I90 B90 d := by
  have := h (fun v => WD J9 D9 Post f n I90 B90 v → WD J9 D9 Post f n I90 B90 d) (fun z => z) (fun x y c g z => c (WD_step g z))
  exact this hw
theorem CM_1 {f : Nat → Int32} {n : Nat} {d : zD} {s s1 : zS} (hDC : DC f n s1.1 s1.2.2.1 d) (hFD : FD (s00 s).1 (s00 s).2.2.1 s1.1 s1.2.2.1) : CM f n d.2.2.2.1 s1 := by
  refine ⟨d.1, 0, 0, 0, hDC.1, ?_, ?_, ?_, by omega, by omega, by omega, fun j _ => by rw [hDC.2.2.2.1]⟩
  · exact (hFD.1 9 (by decide)).trans (by simp [s00, upd]; rfl)
  · exact (hFD.1 10 (by decide)).trans (by simp [s00, upd]; rfl)
  · exact (hFD.1 11 (by decide)).trans (by simp [s00, upd]; rfl)
/-- the start, up to the declarations -/
theorem r_whole0 {Post : Int32 → (Nat → Int32) → (Nat → Int64) → (Nat → Nat → Int32) → (Nat → Nat → Int64) → Prop} {f : Nat → Int32} {n : Nat} {s : zS} (h1 : I9 1 = nI n) (hn : n ≤ 240) (h0 : ∀ k, k < n → B9 0 k = f k) (hok : okC f n)
    (hw : WD J9 D9 Post f n I9 B9 (d00 s)) : wp_LassoFinderModel_wholeModel I9 J9 B9 D9 Post := by
  obtain ⟨m, hw⟩ := hw
  generalize hI : upd (upd (upd (upd (upd (upd (upd (upd I9 2 0) 3 (-1)) 6 0) 7 0) 8 0) 9 0) 10 0) 11 0 = I1
  have key2 : ∀ (c j : Nat) (B1 : Nat → Nat → Int32), j + c = 32 → (∀ i, i < 8 → B1 1 i = -1 ∧ B1 2 i = -1) → (∀ i, i < j → B1 22 i = -1) → (∀ r, r ∉ [1, 2, 22] → B1 r = B9 r) → wl_LassoFinderModel_wholeModel_70 Post (c + 1) (nI j) I1 J9 B1 D9 := by
    intro c
    induction c with
    | zero =>
      intro j B1 hj a1 a2 a3
      refine ⟨fun _ => ⟨m, hw I1 B1 ?_ ?_ ⟨fun r hr => ?_, fun r hr => a3 r (by simp at hr ⊢; omega)⟩⟩, fun z => absurd ?_ z⟩
      · refine ⟨⟨?_, ?_, ?_, hn, fun k hk => by rw [a3 0 (by decide)]; exact h0 k hk, hok⟩, ?_, ?_, by simp [d00], by simp [d00], ?_⟩
        · rw [← hI]; simp [upd, d00]; rfl
        · rw [← hI]; simpa [upd] using h1
        · simp [d00]
        · rw [← hI]; simp [upd, d00]; rfl
        · rw [← hI]; simp [upd, d00]; rfl
        · have hk0 : ∀ i, i < 8 → (d00 s).2.2.2.1 i = 0 := fun i hi => by simp [d00, s00, va_up, zFill, hi]
          refine ⟨fun i hi => ⟨Or.inl (hk0 i hi), fun z => ?_, fun z => ?_⟩, fun v hv => by simp [d00] at hv, fun i hi z => ?_, fun i hi _ => (a1 i hi).1, fun v hv => by simp [d00] at hv, fun i hi z => ?_, fun i hi _ => (a1 i hi).2⟩
          all_goals (rw [hk0 i hi] at z; exact absurd z (by decide))
      · refine ⟨?_, ?_, ?_, ?_, fun i hi => a2 i (by omega)⟩
        all_goals (rw [← hI]; simp [upd]; rfl)
      · rw [← hI]; simp at hr; simp [upd, hr]
      · exact (leI (x := 32) (a := 32) rfl (y := nI j) rfl (by omega) (by omega)).mpr (by omega)
    | succ c ih =>
      intro j B1 hj a1 a2 a3
      refine ⟨fun z => ?_, fun _ => ⟨vin2 rfl (by omega) (by omega), fun z17 e17 => ?_⟩⟩
      · have := (leI (x := 32) (a := 32) rfl (y := nI j) rfl (by omega) (by omega)).mp z; omega
      · rw [inI rfl e17, clI (x := nI j) rfl (by omega)]
        refine ih (j + 1) _ (by omega) (fun i hi => ?_) (fun i hi => ?_) (fun r hr => ?_)
        · simpa [va_up] using a1 i hi
        · by_cases e : i = j
          · simp [va_up, upd, e]
          · simp [va_up, upd, e]; exact a2 i (by omega)
        · rw [← a3 r hr]; simp at hr; simp [va_up, hr]
  have key1 : ∀ (c j : Nat) (B1 : Nat → Nat → Int32), j + c = 8 → (∀ i, i < j → B1 1 i = -1 ∧ B1 2 i = -1) → (∀ r, r ∉ [1, 2] → B1 r = B9 r) → wl_LassoFinderModel_wholeModel_42 Post (c + 1) (nI j) I1 J9 B1 D9 := by
    intro c
    induction c with
    | zero =>
      intro j B1 hj a1 a3
      refine ⟨fun _ => ⟨33, key2 32 0 B1 (by omega) (fun i hi => a1 i (by omega)) (fun i hi => by omega) (fun r hr => a3 r (by simp at hr ⊢; omega))⟩, fun z => absurd ?_ z⟩
      exact (leI (x := 8) (a := 8) rfl (y := nI j) rfl (by omega) (by omega)).mpr (by omega)
    | succ c ih =>
      intro j B1 hj a1 a3
      have hv : vp_in (nI j) 8 := vin2 rfl (by omega) (by omega)
      refine ⟨fun z => ?_, fun _ => ⟨hv, hv, fun z17 e17 => ?_⟩⟩
      · have := (leI (x := 8) (a := 8) rfl (y := nI j) rfl (by omega) (by omega)).mp z; omega
      · rw [inI rfl e17, clI (x := nI j) rfl (by omega)]
        refine ih (j + 1) _ (by omega) (fun i hi => ?_) (fun r hr => ?_)
        · by_cases e : i = j
          · simp [va_up, upd, e]
          · simp [va_up, upd, e]; exact a1 i (by omega)
        · rw [← a3 r hr]; simp at hr; simp [va_up, hr]
  have := key1 8 0 B9 (by omega) (fun i hi => by omega) (fun _ _ => rfl)
  exact ⟨9, by rw [hI]; exact this⟩
/-- a model that the class has read -/
theorem r_whole_ok {Post : Int32 → (Nat → Int32) → (Nat → Int64) → (Nat → Nat → Int32) → (Nat → Nat → Int64) → Prop} {f : Nat → Int32} {n : Nat} {s t : zS} (h1 : I9 1 = nI n) (hn : n ≤ 240) (h0 : ∀ k, k < n → B9 0 k = f k) (hok : okC f n) {d1 : zD} {s1 : zS} (hM : MAT f n s t d1 s1) (hend : t.1 5 = nI n)
    (k : ∀ I9' B9', RM f n d1.2.2.2.1 t I9' B9' → NM d1 I9' B9' → FMo I9 B9 I9' B9' → Post 1 I9' J9 B9' D9) : wp_LassoFinderModel_wholeModel I9 J9 B9 D9 Post := by
  obtain ⟨m1, m2, m3, m4, m5, m6, m7⟩ := hM
  exact r_whole0 h1 hn h0 hok (WD_star m1 (WD_end m2 m3 m4 m6 (WP_star (CM_1 m3 m4) m7 (WP_ok hend k))))
/-- .. or refused -/
theorem r_whole_bad {Post : Int32 → (Nat → Int32) → (Nat → Int64) → (Nat → Nat → Int32) → (Nat → Nat → Int64) → Prop} {f : Nat → Int32} {n : Nat} {s : zS} {q : Int32} (h1 : I9 1 = nI n) (hn : n ≤ 240) (h0 : ∀ k, k < n → B9 0 k = f k) (hok : okC f n) (hM : MBAD f n s q)
    (k : ∀ I9' B9', FMo I9 B9 I9' B9' → I9' 3 = q → Post 0 I9' J9 B9' D9) : wp_LassoFinderModel_wholeModel I9 J9 B9 D9 Post := by
  rcases hM with ⟨d1, q1, m1, m2, m3, rfl⟩ | ⟨t, d1, s1, ⟨m1, m2, m3, m4, m5, m6, m7⟩, hne, hpf⟩
  · exact r_whole0 h1 hn h0 hok (WD_star m1 (WD_bad m3 m2 k))
  · exact r_whole0 h1 hn h0 hok (WD_star m1 (WD_end m2 m3 m4 m6 (WP_star (CM_1 m3 m4) m7 (WP_bad (CM_star (CM_1 m3 m4) m7) hne hpf k))))
end ZI6
