/-! Declarations. -/
section ZD1
variable {I : Nat → Int32} {J : Nat → Int64} {B : Nat → Nat → Int32} {D : Nat → Nat → Int64}
/-- place, variables, channels; by name kind and digit; names of variables and channels -/
abbrev zD : Type := Nat × Nat × Nat × (Nat → Int32) × (Nat → Int32) × (Nat → Int32) × (Nat → Int32)
theorem q_accept {Post : Int32 → (Nat → Int32) → (Nat → Int64) → (Nat → Nat → Int32) → (Nat → Nat → Int64) → Prop} {f : Nat → Int32} {a n : Nat} {c : Int32} (hT : TY (B 1) f (I 5) (I 4) a n) (h1 : tkn f n a = c → Post 1 (upd I 5 (nI (a + 1))) J B D) (h0 : ¬ tkn f n a = c → Post 0 I J B D) : wp_Text_accept I J B D c Post := by
  refine q_ahead hT.tx ?_
  rw [hT.tk]
  refine ⟨fun g z3 e3 => ?_, fun g => h0 g⟩
  have : z3 = nI (a + 1) := inI hT.1 e3
  rw [this]; exact h1 g
theorem q_expect {Post : (Nat → Int32) → (Nat → Int64) → (Nat → Nat → Int32) → (Nat → Nat → Int64) → Prop} {PX : String → (Nat → Int32) → (Nat → Int64) → (Nat → Nat → Int32) → (Nat → Nat → Int64) → Prop} {f : Nat → Int32} {a n : Nat} {c : Int32} (hT : TY (B 1) f (I 5) (I 4) a n) (h1 : tkn f n a = c → Post (upd I 5 (nI (a + 1))) J B D) (h0 : ¬ tkn f n a = c → PX IAE (upd I 6 (I 5)) J B D) : wp_Text_expect I J B D c Post PX := by
  refine q_accept hT (fun g => ⟨fun _ => h1 g, fun w => absurd w (by decide)⟩) (fun g => ⟨fun w => absurd rfl w, fun _ => h0 g⟩)
theorem q_skip {Post : (Nat → Int32) → (Nat → Int64) → (Nat → Nat → Int32) → (Nat → Nat → Int64) → Prop} {a : Nat} (hT : I 5 = nI a) (h : Post (upd I 5 (nI (a + 1))) J B D) : wp_Text_skip I J B D Post := by
  intro z1 e1
  have : z1 = nI (a + 1) := inI hT e1
  rw [this]; exact h
theorem q_takes {Post : Int32 → (Nat → Int32) → (Nat → Int64) → (Nat → Nat → Int32) → (Nat → Nat → Int64) → Prop} {f : Nat → Int32} {a n : Nat} {c : Int32} (hT : TY (B 0) f (I 2) (I 1) a n) (h1 : tkn f n a = c → Post 1 (upd I 2 (nI (a + 1))) J B D) (h0 : ¬ tkn f n a = c → Post 0 (upd I 3 (I 2)) J B D) : wp_LassoFinderModel_takes I J B D c Post := by
  refine q_here hT.tx ?_
  rw [hT.tk]
  refine ⟨fun g z3 e3 => ?_, fun g => ⟨Or.inl rfl, h0 g⟩⟩
  have : z3 = nI (a + 1) := inI hT.1 e3
  rw [this]; exact h1 g
theorem TY.up {g f : Nat → Int32} {at9 en at2 : Int32} {a b n : Nat} (h : TY g f at9 en a n) (e : at2 = nI b) (hb : b ≤ n) : TY g f at2 en b n := ⟨e, h.2.1, hb, h.2.2.2⟩
/-- where the name of a declaration stands, and whether it is a channel's -/
def dpl (f : Nat → Int32) (n a : Nat) : Nat := if tkn f n a = 35 then a + 1 else a
def dst (f : Nat → Int32) (n : Nat) (s t : zD) : Prop :=
  let p := dpl f n s.1; let nm := one (tkn f n p) 97 8
  ¬ nm = -1 ∧ s.2.2.2.1 nm.toNatClampNeg = 0 ∧
  ((tkn f n s.1 = 35 ∧ s.2.2.1 < 2 ∧ ¬ one (tkn f n (p + 1)) 48 8 = -1 ∧ one (tkn f n (p + 1)) 48 8 ≤ 3 ∧ tkn f n (p + 2) = 59 ∧ t = (p + 3, s.2.1, s.2.2.1 + 1, upd s.2.2.2.1 nm.toNatClampNeg 2, upd s.2.2.2.2.1 nm.toNatClampNeg (one (tkn f n (p + 1)) 48 8), s.2.2.2.2.2.1, upd s.2.2.2.2.2.2 s.2.2.1 nm)) ∨
   (¬ tkn f n s.1 = 35 ∧ s.2.1 < 6 ∧ tkn f n (p + 1) = 61 ∧ ¬ one (tkn f n (p + 2)) 48 8 = -1 ∧ tkn f n (p + 3) = 59 ∧ t = (p + 4, s.2.1 + 1, s.2.2.1, upd s.2.2.2.1 nm.toNatClampNeg 1, upd s.2.2.2.2.1 nm.toNatClampNeg (one (tkn f n (p + 2)) 48 8), upd s.2.2.2.2.2.1 s.2.1 nm, s.2.2.2.2.2.2)) ∨
   (¬ tkn f n s.1 = 35 ∧ s.2.1 < 6 ∧ tkn f n (p + 1) = 59 ∧ t = (p + 2, s.2.1 + 1, s.2.2.1, upd s.2.2.2.1 nm.toNatClampNeg 1, upd s.2.2.2.2.1 nm.toNatClampNeg 0, upd s.2.2.2.2.2.1 s.2.1 nm, s.2.2.2.2.2.2)))
/-- a wrong declaration, at q -/
def dfail (f : Nat → Int32) (n : Nat) (s : zD) (q : Nat) : Prop :=
  let p := dpl f n s.1; let nm := one (tkn f n p) 97 8
  (q = p ∧ (nm = -1 ∨ ¬ s.2.2.2.1 nm.toNatClampNeg = 0 ∨ (tkn f n s.1 = 35 ∧ 2 ≤ s.2.2.1) ∨ (¬ tkn f n s.1 = 35 ∧ 6 ≤ s.2.1))) ∨
  (¬ nm = -1 ∧ s.2.2.2.1 nm.toNatClampNeg = 0 ∧ tkn f n s.1 = 35 ∧ s.2.2.1 < 2 ∧
    ((q = p + 1 ∧ (one (tkn f n (p + 1)) 48 8 = -1 ∨ ¬ one (tkn f n (p + 1)) 48 8 ≤ 3)) ∨ (q = p + 2 ∧ ¬ one (tkn f n (p + 1)) 48 8 = -1 ∧ one (tkn f n (p + 1)) 48 8 ≤ 3 ∧ ¬ tkn f n (p + 2) = 59))) ∨
  (¬ nm = -1 ∧ s.2.2.2.1 nm.toNatClampNeg = 0 ∧ ¬ tkn f n s.1 = 35 ∧ s.2.1 < 6 ∧
    ((tkn f n (p + 1) = 61 ∧ ((q = p + 2 ∧ one (tkn f n (p + 2)) 48 8 = -1) ∨ (q = p + 3 ∧ ¬ one (tkn f n (p + 2)) 48 8 = -1 ∧ ¬ tkn f n (p + 3) = 59))) ∨ (q = p + 1 ∧ ¬ tkn f n (p + 1) = 61 ∧ ¬ tkn f n (p + 1) = 59)))
def DC (f : Nat → Int32) (n : Nat) (I : Nat → Int32) (B : Nat → Nat → Int32) (s : zD) : Prop := TY (B 1) f (I 5) (I 4) s.1 n ∧ I 7 = nI s.2.1 ∧ I 8 = nI s.2.2.1 ∧ B 2 = s.2.2.2.1 ∧ B 3 = s.2.2.2.2.1 ∧ B 4 = s.2.2.2.2.2.1 ∧ B 5 = s.2.2.2.2.2.2 ∧ s.2.1 ≤ 6 ∧ s.2.2.1 ≤ 2
def FD (I : Nat → Int32) (B : Nat → Nat → Int32) (I' : Nat → Int32) (B' : Nat → Nat → Int32) : Prop := (∀ k, k ∉ [5, 7, 8] → I' k = I k) ∧ (∀ k, k ∉ [2, 3, 4, 5] → B' k = B k)
theorem tkn_le {f : Nat → Int32} {n a : Nat} {c : Int32} (h : tkn f n a = c) (hc : ¬ c = 0) : a + 1 ≤ n := tkn_lt h hc
theorem one_tk {f : Nat → Int32} {n a : Nat} {c : Int32} (hc : c = 48 ∨ c = 65 ∨ c = 97) (h : ¬ one (tkn f n a) c 8 = -1) : a + 1 ≤ n := by
  refine tkn_lt (f := f) (c := tkn f n a) rfl (fun e => h ?_)
  rw [e]; rcases hc with rfl | rfl | rfl <;> decide
theorem q_decl {Post : (Nat → Int32) → (Nat → Int64) → (Nat → Nat → Int32) → (Nat → Nat → Int64) → Prop} {PX : String → (Nat → Int32) → (Nat → Int64) → (Nat → Nat → Int32) → (Nat → Nat → Int64) → Prop} {f : Nat → Int32} {n : Nat} {s : zD} (hD : DC f n I B s)
    (kok : ∀ I' B' t, dst f n s t → FD I B I' B' → DC f n I' B' t → Post I' J B' D)
    (kf : ∀ I' B' q, dfail f n s q → FD I B I' B' → I' 5 = nI q → PX IAE (upd I' 6 (I' 5)) J B' D) : wp_ModelReader_readDeclaration I J B D Post PX := by
  obtain ⟨a, nv, nc, kd, dg, vn, cn⟩ := s
  obtain ⟨hT, h7, h8, b2, b3, b4, b5, l6, l2⟩ := hD
  dsimp only at hT h7 h8 b2 b3 b4 b5 l6 l2
  have main : ∀ (ch : Int32) (I1 : Nat → Int32), (ch = 2 ∧ tkn f n a = 35) ∨ (ch = 1 ∧ ¬ tkn f n a = 35) → (∀ k, k ∉ [5] → I1 k = I k) → TY (B 1) f (I1 5) (I1 4) (dpl f n a) n → wc_ModelReader_readDeclaration_17 Post PX ch I1 J B D := by
    intro ch I1 hch hI hT1
    generalize hp : dpl f n a = p at hT1
    have fd : ∀ (I' : Nat → Int32), (∀ k, k ∉ [5, 7, 8] → I' k = I1 k) → ∀ (B' : Nat → Nat → Int32), (∀ k, k ∉ [2, 3, 4, 5] → B' k = B k) → FD I B I' B' := by
      intro I' h B' h2
      refine ⟨fun k hk => (h k hk).trans (hI k ?_), h2⟩
      simp at hk ⊢; exact hk.1
    have i7 : I1 7 = nI nv := by rw [hI 7 (by decide)]; exact h7
    have i8 : I1 8 = nI nc := by rw [hI 8 (by decide)]; exact h8
    refine q_oneOf (Or.inr (Or.inr rfl)) hT1.tx ?_
    rw [hT1.tk]
    have bad : (one (tkn f n p) 97 8 = -1 ∨ ¬ kd (one (tkn f n p) 97 8).toNatClampNeg = 0 ∨ (tkn f n a = 35 ∧ 2 ≤ nc) ∨ (¬ tkn f n a = 35 ∧ 6 ≤ nv)) → PX IAE (upd I1 6 (I1 5)) J B D := by
      intro w
      refine kf I1 B p (Or.inl ⟨hp.symm, ?_⟩) (fd I1 (fun _ _ => rfl) B (fun _ _ => rfl)) hT1.1
      dsimp only; rw [hp]; exact w
    refine ⟨fun g => bad (Or.inl g), fun g => ⟨(one_lt g).2, fun z17 e17 => ⟨fun g2 => bad (Or.inr (Or.inl ?_)), fun g2 => ?_⟩⟩⟩
    · rw [← b2, ← e17]; exact g2
    have g2 : kd (one (tkn f n p) 97 8).toNatClampNeg = 0 := by rw [← b2, ← e17]; exact g2
    obtain ⟨gl, gv⟩ := one_lt g
    have hpn : p + 1 ≤ n := one_tk (Or.inr (Or.inr rfl)) g
    generalize hnm : one (tkn f n p) 97 8 = nm at *
    -- behind the name
    have hroom : ((ch = 2 ∧ nc < 2) ∨ (ch = 1 ∧ nv < 6)) → wc_ModelReader_readDeclaration_63 Post PX ch nm I1 J B D := by
      intro hr
      have hr2 : ch = 2 → nc < 2 := fun z => hr.elim (fun w => w.2) (fun w => by rw [z] at w; exact absurd w.1 (by decide))
      have hr1 : ch = 1 → nv < 6 := fun z => hr.elim (fun w => by rw [z] at w; exact absurd w.1 (by decide)) (fun w => w.2)
      refine q_skip hT1.1 ?_
      have hT2 : TY (B 1) f (upd I1 5 (nI (p + 1)) 5) (upd I1 5 (nI (p + 1)) 4) (p + 1) n := hT1.up rfl hpn
      -- declare and ";"
      have w142 : ∀ (dgt : Int32) (I3 : Nat → Int32) (p3 : Nat), (∀ k, k ∉ [5] → I3 k = I1 k) → TY (B 1) f (I3 5) (I3 4) p3 n → (tkn f n p3 = 59 → dst f n (a, nv, nc, kd, dg, vn, cn) (if ch = 2 then (p3 + 1, nv, nc + 1, upd kd nm.toNatClampNeg 2, upd dg nm.toNatClampNeg dgt, vn, upd cn nc nm) else (p3 + 1, nv + 1, nc, upd kd nm.toNatClampNeg 1, upd dg nm.toNatClampNeg dgt, upd vn nv nm, cn))) → (¬ tkn f n p3 = 59 → dfail f n (a, nv, nc, kd, dg, vn, cn) p3) → wc_ModelReader_readDeclaration_142 Post PX ch nm dgt I3 J B D := by
        intro dgt I3 p3 hI3 hT3 hd hf
        have i73 : I3 7 = nI nv := by rw [hI3 7 (by decide)]; exact i7
        have i83 : I3 8 = nI nc := by rw [hI3 8 (by decide)]; exact i8
        refine ⟨gv, gv, fun gc => ?_, fun gc => ?_⟩
        · have hc : ch = 2 ∧ nc < 2 := hr.resolve_right (fun w => gc w.1)
          rw [if_pos hc.1] at hd
          refine ⟨vin2 i83 hc.2 (by omega), fun z2 e2 => ?_⟩
          have n2 := inI i83 e2
          refine q_expect (f := f) (a := p3) (n := n) ?_ (fun w => ?_) (fun w => ?_)
          · exact hT3
          · refine kok _ _ _ (hd w) (fd _ (fun k hk => ?_) _ (fun k hk => ?_)) ⟨?_, ?_, ?_, ?_, ?_, ?_, ?_, ?_, ?_⟩
            · simp at hk; simp only [upd, hk, if_false]; exact hI3 k (by simp [hk])
            · simp at hk; simp [va_up, hk]
            · exact hT3.up rfl (tkn_le w (by decide))
            · simpa [upd] using i73
            · simp [upd, n2]
            · simp [va_up, b2, hc.1]
            · simp [va_up, b3]
            · simp [va_up, b4]
            · simp [va_up, b5, clI i83 (by omega)]
            · exact l6
            · dsimp only; omega
          · refine kf _ _ p3 (hf w) (fd _ (fun k hk => ?_) _ (fun k hk => ?_)) hT3.1
            · simp at hk; simp only [upd, hk, if_false]; exact hI3 k (by simp [hk])
            · simp at hk; simp [va_up, hk]
        · have hc : ch = 1 ∧ nv < 6 := hr.resolve_left (fun w => by rw [w.1] at gc; exact absurd gc (by decide))
          rw [if_neg (by rw [hc.1]; decide)] at hd
          refine ⟨vin2 i73 hc.2 (by omega), fun z2 e2 => ?_⟩
          have n2 := inI i73 e2
          refine q_expect (f := f) (a := p3) (n := n) ?_ (fun w => ?_) (fun w => ?_)
          · exact hT3
          · refine kok _ _ _ (hd w) (fd _ (fun k hk => ?_) _ (fun k hk => ?_)) ⟨?_, ?_, ?_, ?_, ?_, ?_, ?_, ?_, ?_⟩
            · simp at hk; simp only [upd, hk, if_false]; exact hI3 k (by simp [hk])
            · simp at hk; simp [va_up, hk]
            · exact hT3.up rfl (tkn_le w (by decide))
            · simp [upd, n2]
            · simpa [upd] using i83
            · simp [va_up, b2, hc.1]
            · simp [va_up, b3]
            · simp [va_up, b4, clI i73 (by omega)]
            · simp [va_up, b5]
            · dsimp only; omega
            · exact l2
          · refine kf _ _ p3 (hf w) (fd _ (fun k hk => ?_) _ (fun k hk => ?_)) hT3.1
            · simp at hk; simp only [upd, hk, if_false]; exact hI3 k (by simp [hk])
            · simp at hk; simp [va_up, hk]
      have hk5 : ∀ (I4 : Nat → Int32) (v : Int32), (∀ k, k ∉ [5] → I4 k = I1 k) → ∀ k, k ∉ [5] → (upd I4 5 v) k = I1 k := by
        intro I4 v h k hk
        have : ¬ k = 5 := by simpa using hk
        simp only [upd, this, if_false]; exact h k hk
      -- the digit
      have w87 : ∀ (I4 : Nat → Int32) (p4 : Nat), (∀ k, k ∉ [5] → I4 k = I1 k) → TY (B 1) f (I4 5) (I4 4) p4 n → ((ch = 2 ∧ p4 = p + 1 ∧ tkn f n a = 35) ∨ (ch = 1 ∧ p4 = p + 2 ∧ tkn f n (p + 1) = 61 ∧ ¬ tkn f n a = 35)) → wc_ModelReader_readDeclaration_87 Post PX ch nm I4 J B D := by
        intro I4 p4 hI4 hT4 hc
        refine ⟨fun w => absurd w (by decide), fun _ => q_oneOf (Or.inl rfl) hT4.tx ?_⟩
        rw [hT4.tk]
        have w128 : (one (tkn f n p4) 48 8 = -1 ∨ (ch = 2 ∧ ¬ one (tkn f n p4) 48 8 ≤ 3)) → PX IAE (upd I4 6 (I4 5)) J B D := by
          intro w
          refine kf I4 B p4 ?_ (fd I4 (fun k hk => hI4 k (by simp at hk ⊢; exact hk.1)) B (fun _ _ => rfl)) hT4.1
          rcases hc with ⟨c1, rfl, c3⟩ | ⟨c1, rfl, c3, c4⟩
          · right; left
            dsimp only; rw [hp, hnm]
            exact ⟨g, g2, c3, hr2 c1, Or.inl ⟨rfl, w.imp id (fun w => w.2)⟩⟩
          · right; right
            dsimp only; rw [hp, hnm]
            refine ⟨g, g2, c4, hr1 c1, Or.inl ⟨c3, Or.inl ⟨rfl, ?_⟩⟩⟩
            rcases w with w | w
            · exact w
            · rw [c1] at w; exact absurd w.1 (by decide)
        have w135 : ¬ one (tkn f n p4) 48 8 = -1 → (ch = 2 → one (tkn f n p4) 48 8 ≤ 3) → wc_ModelReader_readDeclaration_135 Post PX ch nm (one (tkn f n p4) 48 8) I4 J B D := by
          intro w1 w2
          refine q_skip hT4.1 ?_
          refine w142 _ _ (p4 + 1) (hk5 _ _ hI4) (hT4.up rfl (one_tk (Or.inl rfl) w1)) (fun w3 => ?_) (fun w3 => ?_)
          · rcases hc with ⟨c1, rfl, c3⟩ | ⟨c1, rfl, c3, c4⟩
            · rw [if_pos c1]
              refine ⟨by dsimp only; rw [hp, hnm]; exact g, by dsimp only; rw [hp, hnm]; exact g2, Or.inl ?_⟩
              dsimp only; rw [hp, hnm]
              exact ⟨c3, hr2 c1, w1, w2 c1, w3, rfl⟩
            · rw [if_neg (by rw [c1]; decide)]
              refine ⟨by dsimp only; rw [hp, hnm]; exact g, by dsimp only; rw [hp, hnm]; exact g2, Or.inr (Or.inl ?_)⟩
              dsimp only; rw [hp, hnm]
              exact ⟨c4, hr1 c1, c3, w1, w3, rfl⟩
          · rcases hc with ⟨c1, rfl, c3⟩ | ⟨c1, rfl, c3, c4⟩
            · right; left
              dsimp only; rw [hp, hnm]
              exact ⟨g, g2, c3, hr2 c1, Or.inr ⟨rfl, w1, w2 c1, w3⟩⟩
            · right; right
              dsimp only; rw [hp, hnm]
              exact ⟨g, g2, c4, hr1 c1, Or.inl ⟨c3, Or.inr ⟨rfl, w1, w3⟩⟩⟩
        refine ⟨fun w => w128 (Or.inl w), fun w => ⟨fun w2 => w135 w (fun z => absurd z w2), fun w2 => ⟨fun w3 => w135 w (fun _ => w3), fun w3 => w128 (Or.inr ⟨w2, w3⟩)⟩⟩⟩
      have hI2 : ∀ k, k ∉ [5] → (upd I1 5 (nI (p + 1))) k = I1 k := hk5 _ _ (fun _ _ => rfl)
      refine ⟨fun w => ?_, fun w => q_accept hT2 (fun w2 => ⟨fun z => absurd z (by decide), fun _ => ?_⟩) (fun w2 => ⟨fun _ => ?_, fun z => absurd rfl z⟩)⟩
      · have hc : tkn f n a = 35 := hch.elim (fun z => z.2) (fun z => by rw [z.1] at w; exact absurd w (by decide))
        exact w87 _ (p + 1) hI2 hT2 (Or.inl ⟨w, rfl, hc⟩)
      · have hc : ch = 1 ∧ ¬ tkn f n a = 35 := hch.resolve_left (fun z => w z.1)
        exact w87 _ (p + 2) (hk5 _ _ hI2) (hT2.up rfl (tkn_le w2 (by decide))) (Or.inr ⟨hc.1, rfl, w2, hc.2⟩)
      · have hc : ch = 1 ∧ ¬ tkn f n a = 35 := hch.resolve_left (fun z => w z.1)
        refine ⟨fun _ => ?_, fun z => absurd rfl z⟩
        refine w142 0 _ (p + 1) hI2 hT2 (fun w3 => ?_) (fun w3 => ?_)
        · rw [if_neg w]
          refine ⟨by dsimp only; rw [hp, hnm]; exact g, by dsimp only; rw [hp, hnm]; exact g2, Or.inr (Or.inr ?_)⟩
          dsimp only; rw [hp, hnm]
          exact ⟨hc.2, hr1 hc.1, w3, rfl⟩
        · right; right
          dsimp only; rw [hp, hnm]
          exact ⟨g, g2, hc.2, hr1 hc.1, Or.inr ⟨rfl, w2, w3⟩⟩
    have h56 : PX IAE (upd I1 6 (I1 5)) J B D → wc_ModelReader_readDeclaration_56 Post PX ch nm I1 J B D := fun w => w
    have e6 : (6 : Int32) ≤ I1 7 ↔ 6 ≤ nv := leI (x := 6) (a := 6) rfl i7 (by omega) (by omega)
    have e2 : (2 : Int32) ≤ I1 8 ↔ 2 ≤ nc := leI (x := 2) (a := 2) rfl i8 (by omega) (by omega)
    refine ⟨fun gc => ?_, fun gc => ?_⟩
    · have hc := hch.resolve_right (fun z => gc z.1)
      refine ⟨fun w => ⟨Or.inl rfl, fun z => absurd rfl z, fun _ => bad (Or.inr (Or.inr (Or.inl ⟨hc.2, e2.mp w⟩)))⟩, fun w => ⟨Or.inr rfl, fun _ => hroom (Or.inl ⟨hc.1, ?_⟩), fun z => absurd z (by decide)⟩⟩
      have : ¬ 2 ≤ nc := fun z => w (e2.mpr z)
      omega
    · have hc := hch.resolve_left (fun z => by rw [z.1] at gc; exact absurd gc (by decide))
      refine ⟨fun w => ⟨Or.inl rfl, fun z => absurd rfl z, fun _ => bad (Or.inr (Or.inr (Or.inr ⟨hc.2, e6.mp w⟩)))⟩, fun w => ⟨Or.inr rfl, fun _ => hroom (Or.inr ⟨hc.1, ?_⟩), fun z => absurd z (by decide)⟩⟩
      have : ¬ 6 ≤ nv := fun z => w (e6.mpr z)
      omega
  refine q_accept hT (fun g => ⟨fun z => absurd z (by decide), fun _ => ?_⟩) (fun g => ⟨fun _ => ?_, fun z => absurd rfl z⟩)
  · refine main 2 _ (Or.inl ⟨rfl, g⟩) (fun k hk => ?_) ?_
    · have : ¬ k = 5 := by simpa using hk
      simp [upd, this]
    · unfold dpl; rw [if_pos g]; exact hT.up rfl (tkn_le g (by decide))
  · refine main 1 I (Or.inr ⟨rfl, g⟩) (fun _ _ => rfl) ?_
    unfold dpl; rw [if_neg g]; exact hT
end ZD1
