/-! Expressions: read whole. -/
section ZY1
variable {I : Nat → Int32} {J : Nat → Int64} {B : Nat → Nat → Int32} {D : Nat → Nat → Int64}
/-- the text from place a on is an expression up to a', with these codes (the last one first) -/
def EXP (f : Nat → Int32) (n : Nat) (kd : Nat → Int32) (ob a a' : Nat) (out : List Int32) : Prop := ∃ s : zN, star (est f n kd ob) (1, a, [], [], 0, ob) s ∧ estop f n ob s ∧ s.2.2.2.2.2 = ob ∧ s.2.1 = a' ∧ (popw 1 s.2.2.1 s.2.2.2.1).2 = out
/-- .. or none, wrong at a' -/
def EXPF (f : Nat → Int32) (n : Nat) (kd : Nat → Int32) (ob a a' : Nat) : Prop := ∃ s : zN, star (est f n kd ob) (1, a, [], [], 0, ob) s ∧ s.2.1 = a' ∧ (efail f n kd s ∨ (estop f n ob s ∧ ob < s.2.2.2.2.2))
def KN (kd : Nat → Int32) (out : List Int32) : Prop := ∀ x ∈ out, x < 16 → 8 ≤ x → ¬ kd (x - 8).toNatClampNeg = 0
theorem popw_KN {kd : Nat → Int32} (l : Nat) (hl : 1 ≤ l) : ∀ st out : List Int32, okst st → KN kd out → KN kd (popw l st out).2 := by
  intro st
  induction st with
  | nil => intro out _ h; exact h
  | cons x st ih =>
    intro out h h1
    unfold popw
    split
    · exact h1
    · rename_i q
      have g : ¬ x = 21 := fun e => q (by rw [e]; exact Nat.lt_of_lt_of_le (by decide) hl)
      refine ih _ h.1 (fun y hy => ?_)
      rcases List.mem_cons.mp hy with rfl | hy
      · intro z; exact absurd z (sg_lt (h.2.1.resolve_right g))
      · exact h1 y hy
theorem KN_step {f : Nat → Int32} {n : Nat} {kd : Nat → Int32} {ob a0 : Nat} {s t : zN} (h : NI n ob a0 s) (hk : KN kd s.2.2.2.1) (e : est f n kd ob s t) : KN kd t.2.2.2.1 := by
  obtain ⟨p, a, st, out, q, o⟩ := s
  have h1 := h.1
  dsimp only at h1 hk
  rcases e with ⟨e0, e1, e2, rfl⟩ | ⟨e0, e1, e2, e3, rfl⟩ | ⟨e0, e1, e2, rfl⟩ | ⟨e0, e1, e2, rfl⟩
  · exact hk
  · dsimp only at e3 ⊢
    intro y hy
    rcases List.mem_cons.mp hy with rfl | hy
    · intro _ g
      unfold pcode at g ⊢
      split at g
      · rename_i z
        have g2 := (e3.resolve_left (fun w => w z)).2
        rw [if_pos z]
        have : 8 + one (tkn f n a) 97 8 - 8 = one (tkn f n a) 97 8 := by grind
        rw [this]; exact g2
      · rename_i z
        have := one_in z
        grind
    · exact hk y hy
  · exact popw_KN 1 (Nat.le_refl 1) st out h1 hk
  · exact popw_KN _ (sg_str (sgn_ok e1)).2.2.1 st out h1 hk
theorem KN_star {f : Nat → Int32} {n : Nat} {kd : Nat → Int32} {ob a : Nat} {t : zN} (ho : ob ≤ 4) (ha : a ≤ n) (e : star (est f n kd ob) (1, a, [], [], 0, ob) t) : NI n ob a t ∧ KN kd t.2.2.2.1 :=
  e (fun t => NI n ob a t ∧ KN kd t.2.2.2.1) ⟨NI_0 ho ha, fun x hx => by simp at hx⟩ (fun _ _ c g => ⟨NI_step c.1 g, KN_step c.1 c.2 g⟩)
theorem EXP.facts {f : Nat → Int32} {n : Nat} {kd : Nat → Int32} {ob a a' : Nat} {out : List Int32} (ho : ob ≤ 4) (ha : a ≤ n) (h : EXP f n kd ob a a' out) : okR out ∧ ht out = 1 ∧ nod out ≤ 12 ∧ KN kd out ∧ out.length + a ≤ a' ∧ a < a' ∧ a' ≤ n := by
  obtain ⟨⟨p, b, st, o, q, op⟩, h1, h2, h3, h4, h5⟩ := h
  dsimp only at h3 h4 h5
  obtain ⟨hN, hK⟩ := KN_star ho ha h1
  obtain ⟨g1, g2, g3, g4, g5, g6, g7, g8, g9, g10, g11⟩ := hN
  have hp : p = 0 := h2.1
  dsimp only at g1 g2 g3 g4 g5 g6 g7 g8 g9 g10 g11 hK
  have hpo := popw_out 1 (Nat.le_refl 1) st o g1 g6 (by omega)
  have hpl := popw_len 1 st o
  have hpk := popw_KN 1 (Nat.le_refl 1) st o g1 hK
  have he : (popw 1 st o).1 = [] := by
    rcases popw_1 st o g1 with q1 | ⟨r, q1, q2, q3, q4⟩
    · exact q1.1
    · omega
  rw [he, h5] at hpo hpl
  rw [h5] at hpk
  simp [nsg] at hpo hpl
  exact ⟨hpo.1, hpo.2.1, by omega, hpk, by omega, by have := g11 hp; omega, by omega⟩
theorem EXPF.facts {f : Nat → Int32} {n : Nat} {kd : Nat → Int32} {ob a a' : Nat} (ho : ob ≤ 4) (ha : a ≤ n) (h : EXPF f n kd ob a a') : a ≤ a' ∧ a' ≤ n := by
  obtain ⟨s, h1, h2, _⟩ := h
  have hN := (KN_star ho ha h1).1
  have g8 := hN.2.2.2.2.2.2.2.1
  have g9 := hN.2.2.2.2.2.2.2.2.1
  omega
theorem q_readloop_A {Post : Int32 → (Nat → Int32) → (Nat → Int64) → (Nat → Nat → Int32) → (Nat → Nat → Int64) → Prop} {PX : String → (Nat → Int32) → (Nat → Int64) → (Nat → Nat → Int32) → (Nat → Nat → Int64) → Prop} {f : Nat → Int32} {n b ob a0 : Nat} {kd : Nat → Int32} {I0 : Nat → Int32} {B0 : Nat → Nat → Int32} {v : Int32} (hb : b ≤ 2 * a0) (ho : ob ≤ 4) (ha0 : a0 ≤ n) (hk : ∀ j, j < 8 → B0 2 j = kd j)
    (kok : ∀ I' B' a' out, EXP f n kd ob a0 a' out → FCA b I0 B0 I' B' → TY (B' 1) f (I' 5) (I' 4) a' n → I' 11 = nI (b + out.length + 1) → rep (B' 15) b (22 :: out) → Post v I' J B' D)
    (kf : ∀ I' B' a', EXPF f n kd ob a0 a' → FCA b I0 B0 I' B' → I' 5 = nI a' → PX IAE (upd I' 6 (I' 5)) J B' D) :
    ∀ (d a : Nat) (st out : List Int32) (q o c : Nat) (I : Nat → Int32) (B : Nat → Nat → Int32), n - a ≤ d → 2 * c ≤ a → star (est f n kd ob) (1, a0, [], [], 0, ob) (1, a, st, out, q, o) → FCA b I0 B0 I B → CEA f n b I B (1, a, st, out, q, o) → wl_Terms_read_A_30 (nI ob) Post PX (d + 2) (nI ob) v 1 (nI c) I J B D := by
  -- the end of the loop
  have exit : ∀ (s : zN) (I : Nat → Int32) (B : Nat → Nat → Int32), star (est f n kd ob) (1, a0, [], [], 0, ob) s → estop f n ob s → FCA b I0 B0 I B → CEA f n b I B s → wc_Terms_read_A_66 (nI ob) Post PX (nI ob) v I J B D := by
    intro s I B h1 h2 h3 h4
    have hN := (KN_star ho ha0 h1).1
    obtain ⟨p, a, st, out, q, o⟩ := s
    have hE1 : TY (B 1) f (I 5) (I 4) a n := h4.1
    obtain ⟨_, ⟨t1, t2, t3, t4⟩, hP, hO, hM⟩ := h4
    dsimp only at t1 t2 t3 t4 hP hO hM
    have ho4 : o ≤ 4 := hN.2.2.1
    have hno := hN.2.1
    have hrm := NI_room hN hE1.2.2.2.1 hb
    have hln := NI_len hN
    have hd3 := hd_le st
    have hp : p = 0 := h2.1
    have ha1 := hN.2.2.2.2.2.2.2.2.2.2 hp
    dsimp only at hno hrm hln ha1
    have hob : I 14 ≤ nI ob ↔ o ≤ ob := leI hO rfl (by omega) (by omega)
    refine ⟨fun g => ?_, fun g => ?_⟩
    · have g := hob.mp g
      have he : (popw 1 st out).1 = [] := by
        rcases popw_1 st out hN.1 with q1 | ⟨r, q1, q2, q3, q4⟩
        · exact q1.1
        · omega
      have hpl := popw_len 1 st out
      refine ⟨_, q_release_A (a0 := 16) (Or.inl rfl) (b := b) st out 0 _ _ (okst_G hN.1) ⟨t1, t2, t3, t4⟩ (by omega) hrm.1 ?_⟩
      intro I6 B6 f1 f2 f3 f4
      have f4 : TSA I6 B6 b (popw 1 st out).1 (popw 1 st out).2 := f4
      obtain ⟨u1, u2, u3, u4⟩ := f4
      have hlen : b + (popw 1 st out).2.length < 480 := by have := hrm.2 ha1; omega
      refine ⟨vin2 u3 hlen (by omega), fun z7 e7 => ?_⟩
      have n7 := inI u3 e7
      rw [clI u3 (by omega)]
      refine kok _ _ a (popw 1 st out).2 ⟨_, h1, h2, by dsimp only; omega, rfl, rfl⟩ (h3.tr ⟨fun k hk => ?_, fun k hk => ?_, fun k hk => ?_⟩) ?_ ?_ ?_
      · simp at hk; simp only [upd, hk, if_false]; exact f1 k (by simp [hk])
      · simp at hk; simp only [va_up, hk, if_false]; exact f2 k (by simp [hk])
      · have : ¬ k = b + (popw 1 st out).2.length := by omega
        simp only [va_up, upd, if_true, this, if_false]; exact f3 k hk
      · obtain ⟨y1, y2, y3, y4, y5, y6⟩ := hE1
        refine ⟨?_, ?_, y3, y4, ?_, y6⟩
        · show I6 5 = _
          rw [f1 5 (by decide)]; exact y1
        · show I6 4 = _
          rw [f1 4 (by decide)]; exact y2
        · show ∀ k, k < n → (B6 1) k = f k
          rw [f2 1 (by decide)]; exact y5
      · simp [upd, n7]
      · simp only [va_up, if_true]; exact rep_push u4 22 rfl
    · have g : ob < o := by
        have : ¬ o ≤ ob := fun z => g (hob.mpr z)
        omega
      exact kf I B a ⟨_, h1, rfl, Or.inr ⟨h2, g⟩⟩ h3 hE1.1
  intro d
  induction d with
  | zero =>
    intro a st out q o c I B hd hc hs hF hE
    have hN := (KN_star ho ha0 hs).1
    have hE1 : TY (B 1) f (I 5) (I 4) a n := hE.1
    refine ⟨fun g => ?_, fun _ => ⟨fun g => absurd g (by decide), fun _ => ?_⟩⟩
    · have g := (leI (x := 240) (a := 240) rfl rfl (by omega) (by have := hE1.2.2; omega)).mp g
      have := hE1.2.2; omega
    refine ⟨_, q_openings_A (kd := kd) hb 0 a st out q o 0 I B hd (by omega) hN hE ?_ ?_⟩
    · intro I' B' a' st' o' k1 k2 k3 k4
      have hN' := NI_star hN k1
      have g8 := hN'.2.2.2.2.2.2.2.2.1
      dsimp only at g8
      refine q_part_A (kd := kd) hb hN' k4 (fun j hj => ?_) k2 ?_ ?_
      · rw [(hF.tr k3).2.1 2 (by decide)]; exact hk j hj
      · intro I2 B2 m1 m2 m3
        exfalso
        have ha : a ≤ a' := by
          have : ∀ t : zN, star (est f n kd ob) (1, a, st, out, q, o) t → a ≤ t.2.1 := fun t ht => ht (fun t => a ≤ t.2.1) (Nat.le_refl _) (fun u w c e => by
            rcases e with ⟨_, _, _, rfl⟩ | ⟨_, _, _, _, rfl⟩ | ⟨_, _, _, rfl⟩ | ⟨_, _, _, rfl⟩ <;> (dsimp only; omega))
          exact this _ k1
        have := NI_step hN' m1
        have := this.2.2.2.2.2.2.2.2.1
        dsimp only at this
        omega
      · intro m1
        exact kf _ _ a' ⟨_, hs.trans k1, rfl, Or.inl m1⟩ (hF.tr k3) k4.1.1
    · intro I' B' s' k1 k2 k3 k4
      exact kf I' B' _ ⟨s', hs.trans k1, rfl, Or.inl k2⟩ (hF.tr k3) k4
  | succ d ih =>
    intro a st out q o c I B hd hc hs hF hE
    have hN := (KN_star ho ha0 hs).1
    have hE1 : TY (B 1) f (I 5) (I 4) a n := hE.1
    refine ⟨fun g => ?_, fun _ => ⟨fun g => absurd g (by decide), fun _ => ?_⟩⟩
    · have g := (leI (x := 240) (a := 240) rfl rfl (by omega) (by have := hE1.2.2; omega)).mp g
      have := hE1.2.2; omega
    have mono : ∀ t u : zN, star (est f n kd ob) t u → t.2.1 ≤ u.2.1 := fun t u ht => ht (fun u => t.2.1 ≤ u.2.1) (Nat.le_refl _) (fun u w c e => by
      rcases e with ⟨_, _, _, rfl⟩ | ⟨_, _, _, _, rfl⟩ | ⟨_, _, _, rfl⟩ | ⟨_, _, _, rfl⟩ <;> (dsimp only; omega))
    refine ⟨_, q_openings_A (kd := kd) hb (d + 1) a st out q o 0 I B hd (by omega) hN hE ?_ ?_⟩
    · intro I' B' a' st' o' k1 k2 k3 k4
      have hN' := NI_star hN k1
      have ha' := mono _ _ k1
      dsimp only at ha'
      refine q_part_A (kd := kd) hb hN' k4 (fun j hj => ?_) k2 ?_ ?_
      · rw [(hF.tr k3).2.1 2 (by decide)]; exact hk j hj
      · intro I2 B2 m1 m2 m3
        have hN2 := NI_step hN' m1
        refine ⟨_, q_closings_A (kd := kd) hb n (a' + 1) st' _ (q + 1) o' 0 I2 B2 (by omega) (by omega) hN2 m3 ?_⟩
        intro I3 B3 a3 st3 out3 o3 j1 j2 j3 j4
        have hN3 := NI_star hN2 j1
        have ha3 := mono _ _ j1
        dsimp only at ha3
        refine q_sign_A (kd := kd) hb hN3 j4 j2 ?_ ?_
        · intro w z11 e11
          have s3 := ((hs.trans k1).tail m1).trans j1
          have hx := exit _ I3 B3 s3 w (((hF.tr k3).tr m2).tr j3) j4
          exact ⟨fun _ => hx, fun _ => ⟨fun _ => hx, fun z => absurd rfl z⟩⟩
        · intro I4 B4 s4 w1 w2 w3 w4 w5 z11 e11
          obtain ⟨p4, a4, st4, out4, q4, o4⟩ := s4
          dsimp only at w1 w2
          subst w1
          have n11 : z11 = nI (c + 1) := inI rfl e11
          rw [n11]
          have s4' := (((hs.trans k1).tail m1).trans j1).tail w3
          exact ih a4 st4 out4 q4 o4 (c + 1) I4 B4 (by omega) (by omega) s4' ((((hF.tr k3).tr m2).tr j3).tr w4) w5
      · intro m1
        exact kf _ _ a' ⟨_, hs.trans k1, rfl, Or.inl m1⟩ (hF.tr k3) k4.1.1
    · intro I' B' s' k1 k2 k3 k4
      exact kf I' B' _ ⟨s', hs.trans k1, rfl, Or.inl k2⟩ (hF.tr k3) k4
/-- an expression is read -/
theorem q_read_A {Post : Int32 → (Nat → Int32) → (Nat → Int64) → (Nat → Nat → Int32) → (Nat → Nat → Int64) → Prop} {PX : String → (Nat → Int32) → (Nat → Int64) → (Nat → Nat → Int32) → (Nat → Nat → Int64) → Prop} {f : Nat → Int32} {n b ob a : Nat} {kd : Nat → Int32} (hb : b ≤ 2 * a) (ho : ob ≤ 4) (hT : TY (B 1) f (I 5) (I 4) a n) (hL : I 11 = nI b) (hk : ∀ j, j < 8 → B 2 j = kd j)
    (kok : ∀ I' B' a' out, EXP f n kd ob a a' out → FCA b I B I' B' → TY (B' 1) f (I' 5) (I' 4) a' n → I' 11 = nI (b + out.length + 1) → rep (B' 15) b (22 :: out) → Post (nI b) I' J B' D)
    (kf : ∀ I' B' a', EXPF f n kd ob a a' → FCA b I B I' B' → I' 5 = nI a' → PX IAE (upd I' 6 (I' 5)) J B' D) : wp_Terms_read_A I J B D (nI ob) Post PX := by
  refine ⟨n + 2, ?_⟩
  rw [hL]
  have hF : FCA b I B (upd (upd (upd (upd I 12 0) 13 0) 14 (nI ob)) 15 0) B := ⟨fun k hk => by simp at hk; simp [upd, hk], fun _ _ => rfl, fun _ _ => rfl⟩
  refine q_readloop_A hb ho hT.2.2.1 hk kok kf n a [] [] 0 ob 0 _ _ (by omega) (by omega) (star.refl _) hF ⟨hT, ⟨rfl, trivial, ?_, trivial⟩, rfl, ?_, rfl⟩
  · show I 11 = _
    simpa using hL
  · simp [upd]
theorem q_readloop_B {Post : Int32 → (Nat → Int32) → (Nat → Int64) → (Nat → Nat → Int32) → (Nat → Nat → Int64) → Prop} {PX : String → (Nat → Int32) → (Nat → Int64) → (Nat → Nat → Int32) → (Nat → Nat → Int64) → Prop} {f : Nat → Int32} {n b ob a0 : Nat} {kd : Nat → Int32} {I0 : Nat → Int32} {B0 : Nat → Nat → Int32} {v : Int32} (hb : b ≤ 2 * a0) (ho : ob ≤ 4) (ha0 : a0 ≤ n) (hk : ∀ j, j < 8 → B0 2 j = kd j)
    (kok : ∀ I' B' a' out, EXP f n kd ob a0 a' out → FCB b I0 B0 I' B' → TY (B' 1) f (I' 5) (I' 4) a' n → I' 25 = nI (b + out.length + 1) → rep (B' 43) b (22 :: out) → Post v I' J B' D)
    (kf : ∀ I' B' a', EXPF f n kd ob a0 a' → FCB b I0 B0 I' B' → I' 5 = nI a' → PX IAE (upd I' 6 (I' 5)) J B' D) :
    ∀ (d a : Nat) (st out : List Int32) (q o c : Nat) (I : Nat → Int32) (B : Nat → Nat → Int32), n - a ≤ d → 2 * c ≤ a → star (est f n kd ob) (1, a0, [], [], 0, ob) (1, a, st, out, q, o) → FCB b I0 B0 I B → CEB f n b I B (1, a, st, out, q, o) → wl_Terms_read_B_30 (nI ob) Post PX (d + 2) (nI ob) v 1 (nI c) I J B D := by
  -- the end of the loop
  have exit : ∀ (s : zN) (I : Nat → Int32) (B : Nat → Nat → Int32), star (est f n kd ob) (1, a0, [], [], 0, ob) s → estop f n ob s → FCB b I0 B0 I B → CEB f n b I B s → wc_Terms_read_B_66 (nI ob) Post PX (nI ob) v I J B D := by
    intro s I B h1 h2 h3 h4
    have hN := (KN_star ho ha0 h1).1
    obtain ⟨p, a, st, out, q, o⟩ := s
    have hE1 : TY (B 1) f (I 5) (I 4) a n := h4.1
    obtain ⟨_, ⟨t1, t2, t3, t4⟩, hP, hO, hM⟩ := h4
    dsimp only at t1 t2 t3 t4 hP hO hM
    have ho4 : o ≤ 4 := hN.2.2.1
    have hno := hN.2.1
    have hrm := NI_room hN hE1.2.2.2.1 hb
    have hln := NI_len hN
    have hd3 := hd_le st
    have hp : p = 0 := h2.1
    have ha1 := hN.2.2.2.2.2.2.2.2.2.2 hp
    dsimp only at hno hrm hln ha1
    have hob : I 28 ≤ nI ob ↔ o ≤ ob := leI hO rfl (by omega) (by omega)
    refine ⟨fun g => ?_, fun g => ?_⟩
    · have g := hob.mp g
      have he : (popw 1 st out).1 = [] := by
        rcases popw_1 st out hN.1 with q1 | ⟨r, q1, q2, q3, q4⟩
        · exact q1.1
        · omega
      have hpl := popw_len 1 st out
      refine ⟨_, q_release_B (a0 := 16) (Or.inl rfl) (b := b) st out 0 _ _ (okst_G hN.1) ⟨t1, t2, t3, t4⟩ (by omega) hrm.1 ?_⟩
      intro I6 B6 f1 f2 f3 f4
      have f4 : TSB I6 B6 b (popw 1 st out).1 (popw 1 st out).2 := f4
      obtain ⟨u1, u2, u3, u4⟩ := f4
      have hlen : b + (popw 1 st out).2.length < 480 := by have := hrm.2 ha1; omega
      refine ⟨vin2 u3 hlen (by omega), fun z7 e7 => ?_⟩
      have n7 := inI u3 e7
      rw [clI u3 (by omega)]
      refine kok _ _ a (popw 1 st out).2 ⟨_, h1, h2, by dsimp only; omega, rfl, rfl⟩ (h3.tr ⟨fun k hk => ?_, fun k hk => ?_, fun k hk => ?_⟩) ?_ ?_ ?_
      · simp at hk; simp only [upd, hk, if_false]; exact f1 k (by simp [hk])
      · simp at hk; simp only [va_up, hk, if_false]; exact f2 k (by simp [hk])
      · have : ¬ k = b + (popw 1 st out).2.length := by omega
        simp only [va_up, upd, if_true, this, if_false]; exact f3 k hk
      · obtain ⟨y1, y2, y3, y4, y5, y6⟩ := hE1
        refine ⟨?_, ?_, y3, y4, ?_, y6⟩
        · show I6 5 = _
          rw [f1 5 (by decide)]; exact y1
        · show I6 4 = _
          rw [f1 4 (by decide)]; exact y2
        · show ∀ k, k < n → (B6 1) k = f k
          rw [f2 1 (by decide)]; exact y5
      · simp [upd, n7]
      · simp only [va_up, if_true]; exact rep_push u4 22 rfl
    · have g : ob < o := by
        have : ¬ o ≤ ob := fun z => g (hob.mpr z)
        omega
      exact kf I B a ⟨_, h1, rfl, Or.inr ⟨h2, g⟩⟩ h3 hE1.1
  intro d
  induction d with
  | zero =>
    intro a st out q o c I B hd hc hs hF hE
    have hN := (KN_star ho ha0 hs).1
    have hE1 : TY (B 1) f (I 5) (I 4) a n := hE.1
    refine ⟨fun g => ?_, fun _ => ⟨fun g => absurd g (by decide), fun _ => ?_⟩⟩
    · have g := (leI (x := 240) (a := 240) rfl rfl (by omega) (by have := hE1.2.2; omega)).mp g
      have := hE1.2.2; omega
    refine ⟨_, q_openings_B (kd := kd) hb 0 a st out q o 0 I B hd (by omega) hN hE ?_ ?_⟩
    · intro I' B' a' st' o' k1 k2 k3 k4
      have hN' := NI_star hN k1
      have g8 := hN'.2.2.2.2.2.2.2.2.1
      dsimp only at g8
      refine q_part_B (kd := kd) hb hN' k4 (fun j hj => ?_) k2 ?_ ?_
      · rw [(hF.tr k3).2.1 2 (by decide)]; exact hk j hj
      · intro I2 B2 m1 m2 m3
        exfalso
        have ha : a ≤ a' := by
          have : ∀ t : zN, star (est f n kd ob) (1, a, st, out, q, o) t → a ≤ t.2.1 := fun t ht => ht (fun t => a ≤ t.2.1) (Nat.le_refl _) (fun u w c e => by
            rcases e with ⟨_, _, _, rfl⟩ | ⟨_, _, _, _, rfl⟩ | ⟨_, _, _, rfl⟩ | ⟨_, _, _, rfl⟩ <;> (dsimp only; omega))
          exact this _ k1
        have := NI_step hN' m1
        have := this.2.2.2.2.2.2.2.2.1
        dsimp only at this
        omega
      · intro m1
        exact kf _ _ a' ⟨_, hs.trans k1, rfl, Or.inl m1⟩ (hF.tr k3) k4.1.1
    · intro I' B' s' k1 k2 k3 k4
      exact kf I' B' _ ⟨s', hs.trans k1, rfl, Or.inl k2⟩ (hF.tr k3) k4
  | succ d ih =>
    intro a st out q o c I B hd hc hs hF hE
    have hN := (KN_star ho ha0 hs).1
    have hE1 : TY (B 1) f (I 5) (I 4) a n := hE.1
    refine ⟨fun g => ?_, fun _ => ⟨fun g => absurd g (by decide), fun _ => ?_⟩⟩
    · have g := (leI (x := 240) (a := 240) rfl rfl (by omega) (by have := hE1.2.2; omega)).mp g
      have := hE1.2.2; omega
    have mono : ∀ t u : zN, star (est f n kd ob) t u → t.2.1 ≤ u.2.1 := fun t u ht => ht (fun u => t.2.1 ≤ u.2.1) (Nat.le_refl _) (fun u w c e => by
      rcases e with ⟨_, _, _, rfl⟩ | ⟨_, _, _, _, rfl⟩ | ⟨_, _, _, rfl⟩ | ⟨_, _, _, rfl⟩ <;> (dsimp only; omega))
    refine ⟨_, q_openings_B (kd := kd) hb (d + 1) a st out q o 0 I B hd (by omega) hN hE ?_ ?_⟩
    · intro I' B' a' st' o' k1 k2 k3 k4
      have hN' := NI_star hN k1
      have ha' := mono _ _ k1
      dsimp only at ha'
      refine q_part_B (kd := kd) hb hN' k4 (fun j hj => ?_) k2 ?_ ?_
      · rw [(hF.tr k3).2.1 2 (by decide)]; exact hk j hj
      · intro I2 B2 m1 m2 m3
        have hN2 := NI_step hN' m1
        refine ⟨_, q_closings_B (kd := kd) hb n (a' + 1) st' _ (q + 1) o' 0 I2 B2 (by omega) (by omega) hN2 m3 ?_⟩
        intro I3 B3 a3 st3 out3 o3 j1 j2 j3 j4
        have hN3 := NI_star hN2 j1
        have ha3 := mono _ _ j1
        dsimp only at ha3
        refine q_sign_B (kd := kd) hb hN3 j4 j2 ?_ ?_
        · intro w z11 e11
          have s3 := ((hs.trans k1).tail m1).trans j1
          have hx := exit _ I3 B3 s3 w (((hF.tr k3).tr m2).tr j3) j4
          exact ⟨fun _ => hx, fun _ => ⟨fun _ => hx, fun z => absurd rfl z⟩⟩
        · intro I4 B4 s4 w1 w2 w3 w4 w5 z11 e11
          obtain ⟨p4, a4, st4, out4, q4, o4⟩ := s4
          dsimp only at w1 w2
          subst w1
          have n11 : z11 = nI (c + 1) := inI rfl e11
          rw [n11]
          have s4' := (((hs.trans k1).tail m1).trans j1).tail w3
          exact ih a4 st4 out4 q4 o4 (c + 1) I4 B4 (by omega) (by omega) s4' ((((hF.tr k3).tr m2).tr j3).tr w4) w5
      · intro m1
        exact kf _ _ a' ⟨_, hs.trans k1, rfl, Or.inl m1⟩ (hF.tr k3) k4.1.1
    · intro I' B' s' k1 k2 k3 k4
      exact kf I' B' _ ⟨s', hs.trans k1, rfl, Or.inl k2⟩ (hF.tr k3) k4
/-- an expression is read -/
theorem q_read_B {Post : Int32 → (Nat → Int32) → (Nat → Int64) → (Nat → Nat → Int32) → (Nat → Nat → Int64) → Prop} {PX : String → (Nat → Int32) → (Nat → Int64) → (Nat → Nat → Int32) → (Nat → Nat → Int64) → Prop} {f : Nat → Int32} {n b ob a : Nat} {kd : Nat → Int32} (hb : b ≤ 2 * a) (ho : ob ≤ 4) (hT : TY (B 1) f (I 5) (I 4) a n) (hL : I 25 = nI b) (hk : ∀ j, j < 8 → B 2 j = kd j)
    (kok : ∀ I' B' a' out, EXP f n kd ob a a' out → FCB b I B I' B' → TY (B' 1) f (I' 5) (I' 4) a' n → I' 25 = nI (b + out.length + 1) → rep (B' 43) b (22 :: out) → Post (nI b) I' J B' D)
    (kf : ∀ I' B' a', EXPF f n kd ob a a' → FCB b I B I' B' → I' 5 = nI a' → PX IAE (upd I' 6 (I' 5)) J B' D) : wp_Terms_read_B I J B D (nI ob) Post PX := by
  refine ⟨n + 2, ?_⟩
  rw [hL]
  have hF : FCB b I B (upd (upd (upd (upd I 26 0) 27 0) 28 (nI ob)) 29 0) B := ⟨fun k hk => by simp at hk; simp [upd, hk], fun _ _ => rfl, fun _ _ => rfl⟩
  refine q_readloop_B hb ho hT.2.2.1 hk kok kf n a [] [] 0 ob 0 _ _ (by omega) (by omega) (star.refl _) hF ⟨hT, ⟨rfl, trivial, ?_, trivial⟩, rfl, ?_, rfl⟩
  · show I 25 = _
    simpa using hL
  · simp [upd]
end ZY1
