/-! The class finds the lasso. -/
section ZR7
variable {I : Nat → Int32} {J : Nat → Int64} {B : Nat → Nat → Int32} {D : Nat → Nat → Int64}
/-- the best round of the guesses below i -/
def FCx (d : zD) (X : zG) (out : List zIt) (s : Nat) (Z : Nat → Prop) : Nat → Option (List Nat) → Prop
  | 0, b => b = none
  | i + 1, b => ∃ b0, FCx d X out s Z i b0 ∧ ((¬ Z i ∧ b = b0) ∨ (Z i ∧ ∃ js, CYx d X out (8 * s + i) js ∧ bstx b0 js b))
theorem FCx_det {d : zD} {X : zG} {out : List zIt} {s : Nat} {Z Y : Nat → Prop} (hZ : ∀ g, Z g ↔ Y g) : ∀ i b c, FCx d X out s Z i b → FCx d X out s Y i c → b = c := by
  intro i
  induction i with
  | zero => intro b c h g; rw [show b = none from h, show c = none from g]
  | succ i ih =>
    rintro b c ⟨b0, h1, h2⟩ ⟨c0, g1, g2⟩
    have e := ih b0 c0 h1 g1
    subst e
    rcases h2 with ⟨h2, h4⟩ | ⟨h2, js, h4, h5⟩
    · rcases g2 with ⟨g2, g4⟩ | ⟨g2, _⟩
      · rw [h4, g4]
      · exact absurd ((hZ i).mpr g2) h2
    · rcases g2 with ⟨g2, g4⟩ | ⟨g2, ks, g4, g5⟩
      · exact absurd ((hZ i).mp h2) g2
      · rw [CYx_det h4 g4] at h5
        exact bstx_det h5 g5
theorem CGx_lt {d : zD} {X : zG} {out : List zIt} {v : Nat} : ∀ (js : List Nat) (s : Nat) (Z : Nat → Nat → Prop), CGx d X out v js s Z → ∀ k, k < js.length → js.getD k 0 < gM X := by
  intro js
  induction js with
  | nil => intro s Z _ k hk; simp at hk
  | cons j js ih =>
    intro s Z h k hk
    match k with
    | 0 => exact h.1
    | k + 1 => exact ih _ _ h.2.2.2.2 k (by simpa using hk)
theorem SGx_lt {d : zD} {X : zG} {out : List zIt} : ∀ (js : List Nat) (s : Nat) (Z : Nat → Prop) (s' : Nat) (Z' : Nat → Prop), SGx d X out js s Z s' Z' → ∀ k, k < js.length → js.getD k 0 < gM X := by
  intro js
  induction js with
  | nil => intro s Z s' Z' _ k hk; simp at hk
  | cons j js ih =>
    intro s Z s' Z' h k hk
    match k with
    | 0 => exact h.1
    | k + 1 => exact ih _ _ _ _ h.2.2.2.2 k (by simpa using hk)
theorem FCx_lt {d : zD} {X : zG} {out : List zIt} {s : Nat} {Z : Nat → Prop} : ∀ i b, FCx d X out s Z i b → ∀ ks, b = some ks → 1 ≤ ks.length ∧ ks.length ≤ 3072 ∧ ∀ k, k < ks.length → ks.getD k 0 < gM X := by
  intro i
  induction i with
  | zero => intro b h ks e; rw [show b = none from h] at e; exact absurd e (by simp)
  | succ i ih =>
    rintro b ⟨b0, h1, h2⟩ ks e
    rcases h2 with ⟨_, h4⟩ | ⟨_, js, h4, h5⟩
    · exact ih b0 h1 ks (h4.symm.trans e)
    · rcases h5 with ⟨_, h5⟩ | ⟨_, h5⟩
      · rw [h5] at e
        injection e with e
        subst e
        exact ⟨h4.1.1, h4.1.2.2.2, CGx_lt js _ _ h4.2⟩
      · exact ih b0 h1 ks (h5.symm.trans e)
theorem least {P : Nat → Prop} (h : ∃ j, P j) : ∃ j, P j ∧ ∀ k, k < j → ¬ P k := by
  obtain ⟨j, hj⟩ := h
  induction j using Nat.strongRecOn with
  | ind j ih =>
    by_cases e : ∃ k, k < j ∧ P k
    · obtain ⟨k, h1, h2⟩ := e
      exact ih k h1 h2
    · exact ⟨j, hj, fun k hk hp => e ⟨k, hk, hp⟩⟩
theorem CYx_ex {d : zD} {Q : zQ} {X : zG} {out : List zIt} (hX : XI d Q X) (h3 : ntm out ≤ 3) {v n : Nat} (hv : v < 8 * gN X) (hvg : v % 8 < 2 ^ ntm out) (hCL : CLx d X out v n) : ∃ js, CYx d X out v js := by
  have p8 := p2_3 h3
  have p1 : 0 < 2 ^ ntm out := Nat.two_pow_pos _
  have key : ∀ t s (Z : Nat → Nat → Prop), (∃ g m r, Z g m ∧ g < 8 ∧ r < 2 ^ ntm out ∧ fw d X out v t (8 * (8 * s + g) + r) ∧ m ||| r = 2 ^ ntm out - 1) → ∃ js, js.length = t ∧ CGx d X out v js s Z := by
    intro t
    induction t with
    | zero => intro s Z _; exact ⟨[], rfl, trivial⟩
    | succ t ih =>
      rintro s Z ⟨g, m, r, a1, a0, a2, a3, a4⟩
      obtain ⟨j, g', r', c1, c2, c3, c4, c5, c6, c7⟩ := fw_in hX h3 hv hvg a0 (show r < 8 by omega) a3
      obtain ⟨j0, ⟨d1, d2, g1, m1, d3⟩, d4⟩ := least (P := fun j => j < gM X ∧ gS X j = s ∧ ∃ g m, nxC d X out v t j Z g m) ⟨j, c1, c2, g', m ||| Sx d X out (8 * s + g), c3, m, by rw [c4]; exact a1, by rw [c2] at c4 ⊢; rw [c4], r', c5, c6, by rw [Nat.or_assoc, Nat.or_comm (Sx d X out (8 * s + g)), ← c7, a4]⟩
      have d3' := d3
      obtain ⟨q1, met, q2, q3, r1, q4, q5, q6⟩ := d3'
      obtain ⟨js, hl, hG⟩ := ih (gT X j0) (nxC d X out v t j0 Z) ⟨g1, m1, r1, d3, by omega, q4, q5, q6⟩
      refine ⟨j0 :: js, by simp [hl], d1, d2, by rw [hl]; exact ⟨g1, m1, d3⟩, fun j' h1 h2 g m hn => ?_, by rw [hl]; exact hG⟩
      rw [hl] at hn
      exact d4 j' h1 ⟨by omega, h2, g, m, hn⟩
  obtain ⟨js, hl, hG⟩ := key n (v / 8) (fun g m => g = v % 8 ∧ m = 0) ⟨v % 8, 0, 2 ^ ntm out - 1, ⟨rfl, rfl⟩, by omega, by omega, by rw [show 8 * (v / 8) + v % 8 = v by omega]; exact hCL.2.1, by rw [Nat.zero_or]⟩
  exact ⟨js, by rw [hl]; exact hCL, hG⟩
/-- the frame of the search -/
def FZx (I : Nat → Int32) (B : Nat → Nat → Int32) (I' : Nat → Int32) (B' : Nat → Nat → Int32) : Prop := (∀ k, k < 32 → I' k = I k) ∧ (∀ k, k < 50 → B' k = B k)
theorem FZx.tr {I1 I2 : Nat → Int32} {B1 B2 : Nat → Nat → Int32} (h : FZx I B I1 B1) (g : FZx I1 B1 I2 B2) : FZx I B I2 B2 := ⟨fun k hk => (g.1 k hk).trans (h.1 k hk), fun k hk => (g.2 k hk).trans (h.2 k hk)⟩
theorem SR.fz {d : zD} {Q : zQ} {X : zG} {out : List zIt} {I' : Nat → Int32} {B' : Nat → Nat → Int32} (h : SR d Q X out I B) (g : FZx I B I' B') : SR d Q X out I' B' := h.cg (fun k hk => g.1 k (by simp at hk; omega)) (fun k hk => g.2 k (by simp at hk; omega))
theorem FS.fz {I' : Nat → Int32} {B' : Nat → Nat → Int32} (h : FS I B I' B') : FZx I B I' B' := ⟨fun k hk => h.1 k (by simp; omega), fun k hk => h.2 k (by simp; omega)⟩
theorem q_findCycle {Post : (Nat → Int32) → (Nat → Int64) → (Nat → Nat → Int32) → (Nat → Nat → Int64) → Prop} {d : zD} {Q : zQ} {X : zG} {out : List zIt} {L s al : Nat} {Z : Nat → Prop} (hR : SR d Q X out I B) (hF : XF X (gN X)) (h36 : I 36 = nI L) (hL : L < 768) (hs : s < gN X) (hal : al < 256) (hZ : ∀ g, al.testBit g = true ↔ Z g) (hZd : ∀ g, Z g → g < 2 ^ ntm out ∧ gd d X out (8 * s + g)) (hlast : (L = 0 ∧ s = 0) ∨ (0 < L ∧ ∃ j, j < gM X ∧ B 58 (L - 1) = nI j ∧ gT X j = s))
    (h : ∀ b I' B', FCx d X out s Z (2 ^ ntm out) b → BSr b I' B' → FZx I B I' B' → (∀ k, k ∈ [36, 38] → I' k = I k) → B' 58 = B 58 → Post I' J B' D) : wp_LassoSearch_findCycle I J B D (nI al) Post := by
  have x1 := hR.1.1
  have x2 := hR.1.2.1
  have h3 := hR.2.1
  have p8 := p2_3 h3
  have lp : ∀ t i b I1 B1, i + t = 2 ^ ntm out → FCx d X out s Z i b → BSr b I1 B1 → FZx I B I1 B1 → (∀ k, k ∈ [36, 38] → I1 k = I k) → B1 58 = B 58 → wl_LassoSearch_findCycle_38 (nI al) Post (t + 1) (nI al) (nI s) (nI i) I1 J B1 D := by
    intro t
    induction t with
    | zero =>
      intro i b I1 B1 hi hfc hbs hfz h2 h58
      have hR1 := hR.fz hfz
      refine ⟨fun _ => h b I1 B1 (by rw [show 2 ^ ntm out = i by omega]; exact hfc) hbs hfz h2 h58, fun z => absurd ((leI hR1.2.2.2.1 (y := nI i) rfl (by omega) (by omega)).mpr (by omega)) z⟩
    | succ t ih =>
      intro i b I1 B1 hi hfc hbs hfz h2 h58
      have hR1 := hR.fz hfz
      refine ⟨fun z => ?_, fun _ z5 e5 z6 e6 => ?_⟩
      · have := (leI hR1.2.2.2.1 (y := nI i) rfl (by omega) (by omega)).mp z; omega
      have n6 : z6 = nI (b2n (al.testBit i)) := by rw [e6, e5]; exact nI_bit (by omega) (by omega)
      refine ⟨fun z z1 e1 => ?_, fun z z8 e8 z9 e9 => ?_⟩
      · rw [inI rfl e1]
        refine ih (i + 1) b I1 B1 (by omega) ⟨b, hfc, Or.inl ⟨fun w => ?_, rfl⟩⟩ hbs hfz h2 h58
        rw [n6, (hZ i).mpr w] at z
        exact absurd z (by decide)
      · have hzi : Z i := (hZ i).mp (by
          cases hb : al.testBit i
          · rw [n6, hb] at z; exact absurd rfl z
          · rfl)
        obtain ⟨a1, a2⟩ := hZd i hzi
        have n9 : z9 = nI (8 * s + i) := by rw [e9, e8, show (8 : Int32) = nI 8 from rfl, nI_mul, nI_add, Nat.mul_comm]
        have hv : 8 * s + i < 8 * gN X := by omega
        have hvg : (8 * s + i) % 8 < 2 ^ ntm out := by omega
        refine q_measureCycle hR1 n9 hv a2 (fun n ds I2 B2 hCL hCD hI2 hB2 => ?_)
        have hn := hCL.2.2.2
        have hn1 := hCL.1
        have hfz2 : FZx I1 B1 I2 B2 := ⟨fun k hk => hI2 k (by omega), fun k hk => hB2 k (by simp; omega)⟩
        have hR2 := hR1.fz hfz2
        have hbs2 : BSr b I2 B2 := by
          rcases hbs with ⟨c1, c2⟩ | ⟨ks, c1, c2, c3, c4⟩
          · exact Or.inl ⟨c1, by rw [hI2 37 (by decide)]; exact c2⟩
          · exact Or.inr ⟨ks, c1, by rw [hI2 37 (by decide)]; exact c2, c3, by rw [hB2 59 (by decide)]; exact c4⟩
        have h22 : ∀ k, k ∈ [36, 38] → I2 k = I k := fun k hk => (hI2 k (by simp at hk; omega)).trans (h2 k hk)
        have h582 : B2 58 = B 58 := (hB2 58 (by decide)).trans h58
        refine ⟨fun w => absurd w (nI_m1 (by omega)), fun _ => ?_⟩
        -- the round is followed and held against the best
        have go : (∀ ks, b = some ks → n ≤ ks.length) → wc_LassoSearch_findCycle_96 (nI al) (wl_LassoSearch_findCycle_38 (nI al) Post (t + 1)) Post (nI al) (nI s) (nI i) z9 (nI n) I2 J B2 D := by
          intro hle
          rw [n9]
          refine q_followCycle hR2 hF hv hvg hCL hCD (fun js B3 hl hG hr hB3 => ?_)
          have hjl := CGx_lt js _ _ hG
          have hkl : ∀ ks, b = some ks → ∀ k, k < ks.length → ks.getD k 0 ≤ 400 := fun ks e k hk => by
            have := (FCx_lt i b hfc ks e).2.2 k hk
            omega
          have hbs3 : BSr b I2 B3 := by
            rcases hbs2 with ⟨c1, c2⟩ | ⟨ks, c1, c2, c3, c4⟩
            · exact Or.inl ⟨c1, c2⟩
            · exact Or.inr ⟨ks, c1, c2, c3, by rw [hB3 59 (by decide)]; exact c4⟩
          subst hl
          refine q_keepBetter hbs3 hn1 hn hle hr (fun k hk => by have := hjl k hk; omega) hkl (fun b' I4 B4 k1 k2 k3 k4 z1 e1 => ?_)
          rw [inI rfl e1]
          refine ih (i + 1) b' I4 B4 (by omega) ⟨b, hfc, Or.inr ⟨hzi, js, ⟨hCL, hG⟩, k1⟩⟩ k2 (hfz.tr (hfz2.tr ⟨fun k hk => k3 k (by simp; omega), fun k hk => (k4 k (by simp; omega)).trans (hB3 k (by omega))⟩)) (fun k hk => (k3 k (by simp at hk ⊢; omega)).trans (h22 k hk)) ((k4 58 (by decide)).trans ((hB3 58 (by decide)).trans h582))
        refine ⟨fun w => go (fun ks e => ?_), fun w => ⟨fun u z1 e1 => ?_, fun u => go (fun ks e => ?_)⟩⟩
        · rcases hbs2 with ⟨c1, c2⟩ | ⟨ks', c1, c2, c3, c4⟩
          · rw [c1] at e; exact absurd e (by simp)
          · exact absurd (c2.symm.trans w) (nI_m1 (by omega))
        · rcases hbs2 with ⟨c1, c2⟩ | ⟨ks, c1, c2, c3, c4⟩
          · exact absurd c2 w
          · rw [inI rfl e1]
            have hlt := (ltI c2 (y := nI n) rfl (by omega) (by omega)).mp u
            -- it is longer: it is not kept, though nobody followed it
            obtain ⟨js, hjs⟩ := CYx_ex hR.1 h3 hv hvg hCL
            refine ih (i + 1) b I2 B2 (by omega) ⟨b, hfc, Or.inr ⟨hzi, js, hjs, Or.inr ⟨?_, rfl⟩⟩⟩ (Or.inr ⟨ks, c1, c2, c3, c4⟩) (hfz.tr hfz2) h22 h582
            rw [c1]
            have := CLx_det hjs.1 hCL
            rintro (y | ⟨y, _⟩) <;> omega
        · rcases hbs2 with ⟨c1, c2⟩ | ⟨ks', c1, c2, c3, c4⟩
          · rw [c1] at e; exact absurd e (by simp)
          · rw [c1] at e
            injection e with e
            subst e
            have : ¬ ks'.length < n := fun y => u ((ltI c2 (y := nI n) rfl (by omega) (by omega)).mpr y)
            omega
  have hfz0 : FZx I B (upd I 37 (-1)) B := ⟨fun k hk => by
    have : ¬ k = 37 := by omega
    simp [upd, this], fun _ _ => rfl⟩
  have h20 : ∀ k, k ∈ [36, 38] → upd I 37 (-1) k = I k := fun k hk => by
    have : ¬ k = 37 := by simp at hk; omega
    simp [upd, this]
  have go : wc_LassoSearch_findCycle_30 (nI al) Post (nI al) (nI s) I J B D := ⟨2 ^ ntm out + 1, lp (2 ^ ntm out) 0 none _ _ (by omega) rfl (Or.inl ⟨rfl, by simp [upd]⟩) hfz0 h20 rfl⟩
  refine ⟨fun z z15 e15 => ?_, fun z => ?_⟩
  · rcases hlast with ⟨e, _⟩ | ⟨e, j, j1, j2, j3⟩
    · rw [e] at h36; exact absurd h36 z
    · have n15 : z15 = nI (L - 1) := deI (by rw [h36]; congr 1; omega) e15
      refine ⟨vin2 n15 (by omega) (by omega), fun z16 e16 => ?_⟩
      rw [clI n15 (by omega), j2] at e16
      refine ⟨vin2 e16 (by omega) (by omega), fun z17 e17 => ?_⟩
      rw [clI e16 (by omega), (hR.2.2.2.2.2.2.2 j j1).2, j3] at e17
      rw [e17]; exact go
  · rcases hlast with ⟨e, e2⟩ | ⟨e, _⟩
    · subst e2; exact go
    · exact absurd (h36.symm.trans z) (nI_nz e (by omega))
/-- no lasso; the lasso -/
def NLx (d : zD) (X : zG) (out : List zIt) : Prop := ∀ g n, g < 2 ^ ntm out → sat (atv d (gK X 0)) out g = false → ¬ Pnx d X out n g
def YLx (d : zD) (X : zG) (out : List zIt) (js cs : List Nat) : Prop := (∃ g, Z0x d X out js.length g) ∧ (∀ g n, g < 2 ^ ntm out → sat (atv d (gK X 0)) out g = false → n < js.length → ¬ Pnx d X out n g) ∧ ∃ s' Z', SGx d X out js 0 (Z0x d X out js.length) s' Z' ∧ FCx d X out s' Z' (2 ^ ntm out) (some cs)
theorem NYx {d : zD} {X : zG} {out : List zIt} {js cs : List Nat} (h : NLx d X out) (g : YLx d X out js cs) : False := by
  obtain ⟨⟨t, a1, a2, a3⟩, _⟩ := g
  exact h t _ a1 a2 a3
theorem YLx_det {d : zD} {X : zG} {out : List zIt} {js cs js' cs' : List Nat} (h : YLx d X out js cs) (g : YLx d X out js' cs') : js = js' ∧ cs = cs' := by
  obtain ⟨⟨t, a1, a2, a3⟩, a4, s1, Z1, a5, a6⟩ := h
  obtain ⟨⟨u, b1, b2, b3⟩, b4, s2, Z2, b5, b6⟩ := g
  have hl : js.length = js'.length := by
    rcases Nat.lt_trichotomy js.length js'.length with e | e | e
    · exact absurd a3 (b4 t _ a1 a2 e)
    · exact e
    · exact absurd b3 (a4 u _ b1 b2 e)
  rw [← hl] at b5
  obtain ⟨c1, c2, c3⟩ := SGx_det js js' 0 s1 s2 _ _ Z1 Z2 hl (fun _ => Iff.rfl) a5 b5
  subst c2
  have := FCx_det c3 _ _ _ a6 b6
  injection this with this
  exact ⟨c1, this⟩
/-- the lasso as the class keeps it -/
def LRx (X : zG) (js cs : List Nat) (I : Nat → Int32) (B : Nat → Nat → Int32) : Prop := I 38 = 1 ∧ I 36 = nI js.length ∧ I 37 = nI cs.length ∧ js.length < 768 ∧ 1 ≤ cs.length ∧ cs.length ≤ 3072 ∧ (∀ k, k < js.length → B 58 k = nI (js.getD k 0) ∧ js.getD k 0 < gM X) ∧ (∀ k, k < cs.length → B 59 k = nI (cs.getD k 0) ∧ cs.getD k 0 < gM X)
theorem gd_1 {d : zD} {X : zG} {out : List zIt} {ds : Nat → Nat} (hD : DS d X out ds B) {w : Nat} (h : ds w = 1) : gd d X out w := by
  obtain ⟨s, hs, hp⟩ := hD.1.1 w (by omega)
  rw [h] at hp
  rw [← show s = w from hp]; exact hs
theorem q_find {Post : Int32 → (Nat → Int32) → (Nat → Int64) → (Nat → Nat → Int32) → (Nat → Nat → Int64) → Prop} {d : zD} {Q : zQ} {X : zG} {out : List zIt} (hR : SR d Q X out I B) (hF : XF X (gN X)) (h0 : 0 < gN X)
    (hn : ∀ I' B', NLx d X out → I' 38 = 0 → FZx I B I' B' → Post 0 I' J B' D) (hy : ∀ js cs I' B', YLx d X out js cs → LRx X js cs I' B' → FZx I B I' B' → Post 1 I' J B' D) : wp_LassoSearch_find I J B D Post := by
  have x1 := hR.1.1
  have h3 := hR.2.1
  have p8 := p2_3 h3
  have fz0 : FZx I B (upd I 35 0) (va_up B 56 (zFill (B 56) (-1) 6144)) := ⟨fun k hk => by
    have : ¬ k = 35 := by omega
    simp [upd, this], fun k hk => by
    have : ¬ k = 56 := by omega
    simp [va_up, this]⟩
  refine q_markCycles (hR.fz fz0) hF (by simp [upd]) (fun v hv => by simp [va_up, zFill, hv]) (fun mq I1 B1 hM hf1 => ?_)
  have fz1 := fz0.tr hf1.fz
  refine q_measureStems (hR.fz fz1) hM (fun ds I2 B2 hD hf2 => ?_)
  have fz2 := fz1.tr hf2.fz
  refine q_shortestStem (hR.fz fz2) h0 hD (fun c hm => ?_)
  have cN : c ≤ 768 := by
    by_cases e : c = 0
    · omega
    · obtain ⟨g, _, _, e2⟩ := hm.2 e
      have := hD.2.2 g
      omega
  have q := (nI_md (a := c) (b := 0) (by omega) (by omega)).2
  have fz3 : ∀ a b : Int32, FZx I B (upd (upd I2 36 a) 38 b) B2 := fun a b => fz2.tr ⟨fun k hk => by
    have : ¬ k = 36 := by omega
    have : ¬ k = 38 := by omega
    simp [upd, *], fun _ _ => rfl⟩
  refine ⟨fun z => ⟨Or.inl rfl, fun _ => ?_, fun w => absurd rfl w⟩, fun z => ⟨Or.inr rfl, fun w => absurd w (by decide), fun _ => ?_⟩⟩
  · have e38 : upd (upd I2 36 (nI c - 1)) 38 0 38 = 0 := by simp [upd]
    refine ⟨Or.inl e38, ?_⟩
    rw [e38]
    refine hn _ _ (fun g n hg hs hp => ?_) e38 (fz3 _ _)
    obtain ⟨a1, _⟩ := hD.1.2 n g hp
    exact (hm.1 g hg hs a1).1 (q.mp z)
  · have hc : ¬ c = 0 := fun e => z (q.mpr e)
    obtain ⟨L, rfl⟩ : ∃ L, c = L + 1 := ⟨c - 1, by omega⟩
    have e36 : upd (upd I2 36 (nI (L + 1) - 1)) 38 1 36 = nI L := by simp [upd]; exact nI_pred L
    have e38 : upd (upd I2 36 (nI (L + 1) - 1)) 38 1 38 = 1 := by simp [upd]
    have fzz := fz3 (nI (L + 1) - 1) 1
    generalize upd (upd I2 36 (nI (L + 1) - 1)) 38 1 = I3 at e36 e38 fzz
    refine q_followStem (hR.fz fzz) hF h0 hD e36 (by omega) hm (fun js s' Z' al B3 c1 c2 c3 c4 c5 c6 c7 c8 c9 c10 => ?_)
    have fz4 : FZx I B I3 B3 := fzz.tr ⟨fun _ _ => rfl, fun k hk => c6 k (by omega)⟩
    have hD3 : DS d X out ds B3 := ⟨hD.1, by rw [c6 56 (by decide)]; exact hD.2.1, hD.2.2⟩
    refine q_findCycle (hR.fz fz4) hF e36 (by omega) c7 c3 c4 (fun g hg => ⟨(c8 g hg).1, gd_1 hD3 (c8 g hg).2⟩) c10 (fun b I4 B4 k1 k2 k3 k4 k5 => ?_)
    have f38 : I4 38 = 1 := (k4 38 (by decide)).trans e38
    refine ⟨Or.inr f38, ?_⟩
    rw [f38]
    -- there is a best one
    have hb : ∃ cs, b = some cs := by
      obtain ⟨g, hg⟩ := c9
      obtain ⟨hg1, hg2⟩ := c8 g hg
      have : ∀ i b, g < i → FCx d X out s' Z' i b → ∃ cs, b = some cs := by
        intro i
        induction i with
        | zero => intro b hgi; omega
        | succ i ih =>
          rintro b hgi ⟨b0, h1, h2⟩
          by_cases e : g = i
          · subst e
            rcases h2 with ⟨h2, _⟩ | ⟨_, ks, _, h5⟩
            · exact absurd hg h2
            · rcases h5 with ⟨_, h5⟩ | ⟨h5, h6⟩
              · exact ⟨_, h5⟩
              · match b0, h5, h6 with
                | none, h5, _ => exact absurd trivial h5
                | some cs, _, h6 => exact ⟨cs, h6⟩
          · obtain ⟨cs, hcs⟩ := ih b0 (by omega) h1
            rcases h2 with ⟨_, h4⟩ | ⟨_, ks, _, h5⟩
            · exact ⟨cs, h4.trans hcs⟩
            · rcases h5 with ⟨_, h5⟩ | ⟨_, h5⟩
              · exact ⟨_, h5⟩
              · exact ⟨cs, h5.trans hcs⟩
      exact this _ b hg1 k1
    obtain ⟨cs, rfl⟩ := hb
    obtain ⟨l1, l2, l3⟩ := FCx_lt _ _ k1 cs rfl
    rcases k2 with ⟨k2, _⟩ | ⟨ks, k2, r1, r2, r3⟩
    · exact absurd k2 (by simp)
    injection k2 with k2
    subst k2
    have hsl := SGx_lt js _ _ _ _ c2
    subst c1
    refine hy js cs I4 B4 ⟨?_, fun g n hg hs hn hp => ?_, s', Z', c2, k1⟩ ⟨f38, (k4 36 (by decide)).trans e36, r1, by omega, l1, l2, fun k hk => ⟨by rw [k5]; exact c5 k hk, hsl k hk⟩, fun k hk => ⟨r3 k hk, l3 k hk⟩⟩ (fz4.tr k3)
    · obtain ⟨g, g1, g2, g3⟩ := hm.2 (by omega)
      refine ⟨g, g1, g2, ?_⟩
      have := hD.1.1 g (by omega)
      rw [g3, Nat.add_sub_cancel] at this; exact this
    · obtain ⟨a1, a2⟩ := hD.1.2 n g hp
      have := (hm.1 g hg hs a1).2
      omega
end ZR7
