/-! Statements: the steps of reading a process, apart from the call stack of the one and the blocks of the other. -/
section ZE3
variable {I : Nat → Int32} {J : Nat → Int64} {B : Nat → Nat → Int32} {D : Nat → Nat → Int64}
def bitL (b : Nat) : Int64 := (1 : Int64) <<< ((nI b).toInt64 &&& 63)
def PA (pk ch vr tm : Int32) (bs : Nat) (I : Nat → Int32) (J : Nat → Int64) (B : Nat → Nat → Int32) (D : Nat → Nat → Int64) (I' : Nat → Int32) (J' : Nat → Int64) (B' : Nat → Nat → Int32) (D' : Nat → Nat → Int64) : Prop :=
  I' 9 = nI (bs + 1) ∧ (∀ k, k ≠ 9 → I' k = I k) ∧ J' 0 = (if pk = 5 then J 0 ||| bitL bs else J 0) ∧ (∀ k, k ≠ 0 → J' k = J k) ∧
  B' 6 = upd (B 6) bs pk ∧ B' 7 = upd (B 7) bs ch ∧ B' 8 = upd (B 8) bs vr ∧ B' 9 = upd (B 9) bs tm ∧ B' 10 = upd (B 10) bs (I 10) ∧ (∀ k, k ∉ [6, 7, 8, 9, 10] → B' k = B k) ∧
  D' 0 = (if pk = 3 then vp_updL (D 0) ch.toNatClampNeg (D 0 ch.toNatClampNeg ||| bitL bs) else D 0) ∧ (∀ k, k ≠ 0 → D' k = D k)
theorem q_padd {Post : (Nat → Int32) → (Nat → Int64) → (Nat → Nat → Int32) → (Nat → Nat → Int64) → Prop} {pk ch vr tm : Int32} {bs : Nat} (h9 : I 9 = nI bs) (hb : bs < 48) (hch : pk = 3 → vp_in ch 8)
    (k : ∀ I' J' B' D', PA pk ch vr tm bs I J B D I' J' B' D' → Post I' J' B' D') : wp_Program_add I J B D pk ch vr tm Post := by
  have hv : vp_in (I 9) 48 := vin2 h9 hb (by omega)
  have hc : (I 9).toNatClampNeg = bs := clI h9 (by omega)
  intro z2 e2
  have n2 : z2 = bitL bs := by rw [e2, h9]; rfl
  refine ⟨hv, hv, hv, hv, hv, fun g => ⟨fun g2 z1 e1 => ?_, fun g2 z5 e5 z1 e1 => ?_⟩, fun g => ⟨hch g, fun z6 e6 z7 e7 => ⟨hch g, fun z1 e1 => ?_⟩⟩⟩
  all_goals rw [hc]
  all_goals have n1 := inI h9 e1
  · refine k _ _ _ _ ⟨by simp [upd, n1], fun j hj => by simp [upd, hj], by rw [if_neg g2], fun _ _ => rfl, ?_, ?_, ?_, ?_, ?_, fun j hj => ?_, by rw [if_neg g], fun _ _ => rfl⟩
    all_goals first | (simp [va_up]; done) | (simp at hj; simp [va_up, hj])
  · refine k _ _ _ _ ⟨by simp [upd, n1], fun j hj => by simp [upd, hj], by rw [if_pos g2]; simp [vp_updL, e5, n2], fun j hj => by simp [vp_updL, hj], ?_, ?_, ?_, ?_, ?_, fun j hj => ?_, by rw [if_neg g], fun _ _ => rfl⟩
    all_goals first | (simp [va_up]; done) | (simp at hj; simp [va_up, hj])
  · refine k _ _ _ _ ⟨by simp [upd, n1], fun j hj => by simp [upd, hj], by rw [if_neg (by rw [g]; decide)], fun _ _ => rfl, ?_, ?_, ?_, ?_, ?_, fun j hj => ?_, ?_, fun j hj => ?_⟩
    all_goals first | (simp [va_up]; done) | (simp at hj; simp [va_up, hj]; done) | skip
    · rw [if_pos g]; simp [va_up, e7, e6, n2]

/-- kind of block, its node, the latest statement in it; the innermost first -/
abbrev zF : Type := List (Nat × Int32 × Int32)
/-- statement wanted (0) or there (1), blocks, the class's state -/
abbrev zBo : Type := Nat × zF × zS
/-- a basic statement of the text: kind, channel, variable, is there an expression, its codes, the place behind -/
def BAS (f : Nat → Int32) (n : Nat) (kd : Nat → Int32) (bk : Nat) (nd lt : Int32) (a : Nat) (pk ch vr : Int32) (ex : Nat) (out : List Int32) (a' : Nat) : Prop :=
  (tkn f n a = 45 ∧ pk = 4 ∧ ch = -1 ∧ vr = -1 ∧ ex = 0 ∧ out = [] ∧ a' = a + 1) ∨
  (tkn f n a = 126 ∧ ¬ nd = -1 ∧ lt = -1 ∧ ¬ bk = 3 ∧ pk = 5 ∧ ch = -1 ∧ vr = -1 ∧ ex = 0 ∧ out = [] ∧ a' = a + 1) ∨
  (tkn f n a = 40 ∧ pk = 1 ∧ ch = -1 ∧ vr = -1 ∧ ex = 1 ∧ ∃ a1, EXP f n kd 1 (a + 1) a1 out ∧ tkn f n a1 = 41 ∧ a' = a1 + 1) ∨
  (¬ one (tkn f n a) 97 8 = -1 ∧ kd (one (tkn f n a) 97 8).toNatClampNeg = 1 ∧ tkn f n (a + 1) = 61 ∧ pk = 0 ∧ ch = -1 ∧ vr = one (tkn f n a) 97 8 ∧ ex = 1 ∧ EXP f n kd 0 (a + 2) a' out) ∨
  (¬ one (tkn f n a) 97 8 = -1 ∧ ¬ kd (one (tkn f n a) 97 8).toNatClampNeg = 0 ∧ ¬ kd (one (tkn f n a) 97 8).toNatClampNeg = 1 ∧ tkn f n (a + 1) = 33 ∧ pk = 2 ∧ ch = one (tkn f n a) 97 8 ∧ vr = -1 ∧ ex = 1 ∧ EXP f n kd 0 (a + 2) a' out) ∨
  (¬ one (tkn f n a) 97 8 = -1 ∧ ¬ kd (one (tkn f n a) 97 8).toNatClampNeg = 0 ∧ ¬ kd (one (tkn f n a) 97 8).toNatClampNeg = 1 ∧ tkn f n (a + 1) = 63 ∧ ¬ one (tkn f n (a + 2)) 97 8 = -1 ∧ kd (one (tkn f n (a + 2)) 97 8).toNatClampNeg = 1 ∧ pk = 3 ∧ ch = one (tkn f n a) 97 8 ∧ vr = one (tkn f n (a + 2)) 97 8 ∧ ex = 0 ∧ out = [] ∧ a' = a + 3)
/-- .. or none, wrong at q -/
def BASF (f : Nat → Int32) (n : Nat) (kd : Nat → Int32) (bk : Nat) (nd lt : Int32) (a q : Nat) : Prop :=
  (tkn f n a = 126 ∧ q = a ∧ (nd = -1 ∨ ¬ lt = -1 ∨ bk = 3)) ∨
  (tkn f n a = 40 ∧ (EXPF f n kd 1 (a + 1) q ∨ ∃ out, EXP f n kd 1 (a + 1) q out ∧ ¬ tkn f n q = 41)) ∨
  (¬ tkn f n a = 45 ∧ ¬ tkn f n a = 126 ∧ ¬ tkn f n a = 40 ∧ (
    (q = a ∧ (one (tkn f n a) 97 8 = -1 ∨ kd (one (tkn f n a) 97 8).toNatClampNeg = 0)) ∨
    (¬ one (tkn f n a) 97 8 = -1 ∧ ¬ kd (one (tkn f n a) 97 8).toNatClampNeg = 0 ∧ (
      (kd (one (tkn f n a) 97 8).toNatClampNeg = 1 ∧ ((q = a + 1 ∧ ¬ tkn f n (a + 1) = 61) ∨ (tkn f n (a + 1) = 61 ∧ EXPF f n kd 0 (a + 2) q))) ∨
      (¬ kd (one (tkn f n a) 97 8).toNatClampNeg = 1 ∧ ((q = a + 1 ∧ ¬ tkn f n (a + 1) = 33 ∧ ¬ tkn f n (a + 1) = 63) ∨ (tkn f n (a + 1) = 33 ∧ EXPF f n kd 0 (a + 2) q) ∨ (tkn f n (a + 1) = 63 ∧ q = a + 2 ∧ (one (tkn f n (a + 2)) 97 8 = -1 ∨ ¬ kd (one (tkn f n (a + 2)) 97 8).toNatClampNeg = 1))))))))
/-- the class's state behind a basic statement -/
def BA (nd lt pk ch vr : Int32) (ex : Nat) (out : List Int32) (sz bs ln a' : Nat) (I : Nat → Int32) (J : Nat → Int64) (B : Nat → Nat → Int32) (D : Nat → Nat → Int64) (I' : Nat → Int32) (J' : Nat → Int64) (B' : Nat → Nat → Int32) (D' : Nat → Nat → Int64) : Prop :=
  I' 5 = nI a' ∧ I' 9 = nI (bs + 1) ∧ I' 16 = nI (sz + 1) ∧ I' 17 = I 17 + 1 ∧ I' 11 = nI (if ex = 1 then ln + out.length + 1 else ln) ∧ (∀ k, k ∉ [5, 9, 11, 12, 13, 14, 15, 16, 17] → I' k = I k) ∧
  (∃ I1 B1, TA 0 nd lt sz I B I1 B1 ∧ (∀ k, k ∈ [18, 19, 20, 21, 22, 23, 24, 25] → B' k = B1 k)) ∧ B' 26 = upd (B 26) sz (nI bs) ∧
  B' 6 = upd (B 6) bs pk ∧ B' 7 = upd (B 7) bs ch ∧ B' 8 = upd (B 8) bs vr ∧ B' 9 = upd (B 9) bs (if ex = 1 then nI ln else -1) ∧ B' 10 = upd (B 10) bs (I 10) ∧
  (∀ k, k < ln → B' 15 k = B 15 k) ∧ (ex = 1 → rep (B' 15) ln (22 :: out)) ∧ (∀ k, k ∉ [6, 7, 8, 9, 10, 15, 16, 18, 19, 20, 21, 22, 23, 24, 25, 26] → B' k = B k) ∧
  J' 0 = (if pk = 5 then J 0 ||| bitL bs else J 0) ∧ (∀ k, k ≠ 0 → J' k = J k) ∧
  D' 0 = (if pk = 3 then vp_updL (D 0) ch.toNatClampNeg (D 0 ch.toNatClampNeg ||| bitL bs) else D 0) ∧ (∀ k, k ≠ 0 → D' k = D k)
def adv (a : Nat) (I : Nat → Int32) (I' : Nat → Int32) : Prop := I' 5 = nI a ∧ ∀ k, k ≠ 5 → I' k = I k
/-- a step of reading a process -/
def bst (f : Nat → Int32) (n : Nat) (kd : Nat → Int32) (s t : zBo) : Prop :=
  ∃ (a sz bs ln bk : Nat) (nd lt : Int32) (fr : zF) (I I' : Nat → Int32) (J J' : Nat → Int64) (B B' : Nat → Nat → Int32) (D D' : Nat → Nat → Int64),
    (I 5 = nI a ∧ I 16 = nI sz ∧ I 9 = nI bs ∧ I 11 = nI ln ∧ a ≤ 1000 ∧ sz ≤ 1000 ∧ bs ≤ 1000 ∧ ln ≤ 1000) ∧
    ((s = (0, (bk, nd, lt) :: fr, I, J, B, D) ∧ t = (0, (bk, nd, lt) :: fr, I', J, B', D) ∧ tkn f n a = 58 ∧ ¬ one (tkn f n (a + 1)) 65 8 = -1 ∧ B 28 (one (tkn f n (a + 1)) 65 8).toNatClampNeg = -3 ∧ adv (a + 2) I I' ∧ B' 28 = upd (B 28) (one (tkn f n (a + 1)) 65 8).toNatClampNeg (nI sz) ∧ (∀ k, k ≠ 28 → B' k = B k)) ∨
     (∃ (kk : Nat) (I1 : Nat → Int32), s = (0, (bk, nd, lt) :: fr, I, J, B, D) ∧ t = (0, (kk, nI sz, -1) :: (bk, nd, nI sz) :: fr, I', J, B', D) ∧ ¬ fr.length = 6 ∧ ((kk = 1 ∧ tkn f n a = 91 ∧ ¬ I 17 = 30 ∧ adv (a + 1) I I1) ∨ (kk = 2 ∧ tkn f n a = 42 ∧ tkn f n (a + 1) = 91 ∧ ¬ I 17 = 30 ∧ adv (a + 2) I I1) ∨ (kk = 3 ∧ tkn f n a = 60 ∧ ati B nd = -1 ∧ adv (a + 1) I I1)) ∧ TA (nI kk) nd lt sz I1 B I' B') ∨
     (∃ (I1 : Nat → Int32), s = (0, (bk, nd, lt) :: fr, I, J, B, D) ∧ t = (1, (bk, nd, nI sz) :: fr, I', J, B', D) ∧ tkn f n a = 46 ∧ ¬ (¬ nd = -1 ∧ lt = -1) ∧ ¬ lpi B nd = -1 ∧ adv (a + 1) I I1 ∧ TA 4 nd lt sz I1 B I' B') ∨
     (∃ (I1 : Nat → Int32) (B1 : Nat → Nat → Int32), s = (0, (bk, nd, lt) :: fr, I, J, B, D) ∧ t = (1, (bk, nd, nI sz) :: fr, I', J, B', D) ∧ tkn f n a = 94 ∧ ¬ (¬ nd = -1 ∧ lt = -1) ∧ ¬ one (tkn f n (a + 1)) 65 8 = -1 ∧ adv (a + 2) I I1 ∧ TA 5 nd lt sz I1 B I' B1 ∧ B' 26 = upd (B 26) sz (one (tkn f n (a + 1)) 65 8) ∧ B' 27 = upd (B 27) sz (nI (a + 1)) ∧ (∀ k, k ∉ [26, 27] → B' k = B1 k)) ∨
     (∃ (pk ch vr : Int32) (ex : Nat) (out : List Int32) (a' : Nat), s = (0, (bk, nd, lt) :: fr, I, J, B, D) ∧ t = (1, (bk, nd, nI sz) :: fr, I', J', B', D') ∧ ¬ I 17 = 30 ∧ ¬ I 9 = 48 ∧ BAS f n kd bk nd lt a pk ch vr ex out a' ∧ BA nd lt pk ch vr ex out sz bs ln a' I J B D I' J' B' D') ∨
     (s = (1, (bk, nd, lt) :: fr, I, J, B, D) ∧ t = (1, fr, I', J, B, D) ∧ ((tkn f n a = 93 ∧ (bk = 1 ∨ bk = 2)) ∨ (tkn f n a = 62 ∧ bk = 3)) ∧ adv (a + 1) I I') ∨
     (s = (1, (bk, nd, lt) :: fr, I, J, B, D) ∧ t = (0, (bk, nd, lt) :: fr, I', J, B, D) ∧ tkn f n a = 59 ∧ adv (a + 1) I I') ∨
     (s = (1, (bk, nd, lt) :: fr, I, J, B, D) ∧ t = (0, (bk, nd, -1) :: fr, I', J, B, D) ∧ tkn f n a = 124 ∧ (bk = 1 ∨ bk = 2) ∧ adv (a + 1) I I'))
/-- no step, and wrong: at q -/
def bfail (f : Nat → Int32) (n : Nat) (kd : Nat → Int32) (s : zBo) (q : Nat) : Prop :=
  ∃ (a bk : Nat) (nd lt : Int32) (fr : zF) (I : Nat → Int32) (J : Nat → Int64) (B : Nat → Nat → Int32) (D : Nat → Nat → Int64), (I 5 = nI a ∧ a ≤ 1000) ∧
    ((s = (0, (bk, nd, lt) :: fr, I, J, B, D) ∧ (
      (tkn f n a = 58 ∧ q = a + 1 ∧ (one (tkn f n (a + 1)) 65 8 = -1 ∨ ¬ B 28 (one (tkn f n (a + 1)) 65 8).toNatClampNeg = -3)) ∨
      (tkn f n a = 91 ∧ q = a ∧ (I 17 = 30 ∨ fr.length = 6)) ∨
      (tkn f n a = 42 ∧ ((q = a ∧ I 17 = 30) ∨ (q = a + 1 ∧ ¬ I 17 = 30 ∧ (¬ tkn f n (a + 1) = 91 ∨ fr.length = 6)))) ∨
      (tkn f n a = 60 ∧ q = a ∧ (fr.length = 6 ∨ ¬ ati B nd = -1)) ∨
      (tkn f n a = 46 ∧ q = a ∧ ((¬ nd = -1 ∧ lt = -1) ∨ lpi B nd = -1)) ∨
      (tkn f n a = 94 ∧ ((q = a ∧ ¬ nd = -1 ∧ lt = -1) ∨ (q = a + 1 ∧ ¬ (¬ nd = -1 ∧ lt = -1) ∧ one (tkn f n (a + 1)) 65 8 = -1))) ∨
      (¬ tkn f n a = 58 ∧ ¬ tkn f n a = 91 ∧ ¬ tkn f n a = 42 ∧ ¬ tkn f n a = 60 ∧ ¬ tkn f n a = 46 ∧ ¬ tkn f n a = 94 ∧ ((q = a ∧ (I 17 = 30 ∨ I 9 = 48)) ∨ (¬ I 17 = 30 ∧ ¬ I 9 = 48 ∧ BASF f n kd bk nd lt a q))))) ∨
     (s = (1, (bk, nd, lt) :: fr, I, J, B, D) ∧ q = a ∧ ¬ ((tkn f n a = 93 ∧ (bk = 1 ∨ bk = 2)) ∨ (tkn f n a = 62 ∧ bk = 3)) ∧ ¬ tkn f n a = 59 ∧ ¬ (tkn f n a = 124 ∧ (bk = 1 ∨ bk = 2)) ∧ ¬ (tkn f n a = 125 ∧ fr = [])))
/-- what reading a model leaves alone -/
def RFr (I : Nat → Int32) (J : Nat → Int64) (B : Nat → Nat → Int32) (D : Nat → Nat → Int64) (I' : Nat → Int32) (J' : Nat → Int64) (B' : Nat → Nat → Int32) (D' : Nat → Nat → Int64) : Prop :=
  (∀ k, ¬ (5 ≤ k ∧ k ≤ 17) → I' k = I k) ∧ (∀ k, k ≠ 0 → J' k = J k) ∧ (∀ k, ¬ (2 ≤ k ∧ k ≤ 28) → B' k = B k) ∧ (∀ k, 2 ≤ k → D' k = D k)
theorem RFr.rf : RFr I J B D I J B D := ⟨fun _ _ => rfl, fun _ _ => rfl, fun _ _ => rfl, fun _ _ => rfl⟩
theorem RFr.tr {I1 I2 : Nat → Int32} {J1 J2 : Nat → Int64} {B1 B2 : Nat → Nat → Int32} {D1 D2 : Nat → Nat → Int64} (h : RFr I J B D I1 J1 B1 D1) (g : RFr I1 J1 B1 D1 I2 J2 B2 D2) : RFr I J B D I2 J2 B2 D2 := ⟨fun k hk => (g.1 k hk).trans (h.1 k hk), fun k hk => (g.2.1 k hk).trans (h.2.1 k hk), fun k hk => (g.2.2.1 k hk).trans (h.2.2.1 k hk), fun k hk => (g.2.2.2 k hk).trans (h.2.2.2 k hk)⟩
theorem adv.rfr {a : Nat} {I' : Nat → Int32} (h : adv a I I') : RFr I J B D I' J B D := ⟨fun k hk => h.2 k (by omega), fun _ _ => rfl, fun _ _ => rfl, fun _ _ => rfl⟩
theorem TA.rfr {kind outer prev : Int32} {sz : Nat} {I' : Nat → Int32} {B' : Nat → Nat → Int32} (h : TA kind outer prev sz I B I' B') : RFr I J B D I' J B' D := ⟨fun k hk => h.2.2.1 k (by simp; omega), fun _ _ => rfl, fun k hk => h.2.2.2.2.2.2.2.2.2.2.2 k (by simp; omega), fun _ _ => rfl⟩
theorem bst_rfr {f : Nat → Int32} {n : Nat} {kd : Nat → Int32} {s t : zBo} (h : bst f n kd s t) : RFr s.2.2.1 s.2.2.2.1 s.2.2.2.2.1 s.2.2.2.2.2 t.2.2.1 t.2.2.2.1 t.2.2.2.2.1 t.2.2.2.2.2 := by
  obtain ⟨a, sz, bs, ln, bk, nd, lt, fr, I, I', J, J', B, B', D, D', _, h⟩ := h
  rcases h with ⟨rfl, rfl, _, _, _, h1, h2, h3⟩ | ⟨kk, I1, rfl, rfl, _, h1, h2⟩ | ⟨I1, rfl, rfl, _, _, _, h1, h2⟩ | ⟨I1, B1, rfl, rfl, _, _, _, h1, h2, h3, h4, h5⟩ | ⟨pk, ch, vr, ex, out, a', rfl, rfl, _, _, _, h⟩ | ⟨rfl, rfl, _, h1⟩ | ⟨rfl, rfl, _, h1⟩ | ⟨rfl, rfl, _, _, h1⟩
  · exact (h1.rfr (J := J) (B := B) (D := D)).tr ⟨fun _ _ => rfl, fun _ _ => rfl, fun k hk => h3 k (by omega), fun _ _ => rfl⟩
  · have hI1 : RFr I J B D I1 J B D := by
      rcases h1 with ⟨_, _, _, h1⟩ | ⟨_, _, _, _, h1⟩ | ⟨_, _, _, h1⟩ <;> exact h1.rfr
    exact hI1.tr h2.rfr
  · exact (h1.rfr (J := J) (B := B) (D := D)).tr h2.rfr
  · exact ((h1.rfr (J := J) (B := B) (D := D)).tr h2.rfr).tr ⟨fun _ _ => rfl, fun _ _ => rfl, fun k hk => h5 k (by simp; omega), fun _ _ => rfl⟩
  · obtain ⟨b1, b2, b3, b4, b5, b6, b7, b8, b9, b10, b11, b12, b13, b14, b15, b16, b17, b18, b19, b20⟩ := h
    exact ⟨fun k hk => b6 k (by simp; omega), b18, fun k hk => b16 k (by simp; omega), fun k hk => b20 k (by omega)⟩
  · exact h1.rfr
  · exact h1.rfr
  · exact h1.rfr
theorem bstar_rfr {f : Nat → Int32} {n : Nat} {kd : Nat → Int32} {s t : zBo} (h : star (bst f n kd) s t) : RFr s.2.2.1 s.2.2.2.1 s.2.2.2.2.1 s.2.2.2.2.2 t.2.2.1 t.2.2.2.1 t.2.2.2.2.1 t.2.2.2.2.2 := h (fun t => RFr s.2.2.1 s.2.2.2.1 s.2.2.2.2.1 s.2.2.2.2.2 t.2.2.1 t.2.2.2.1 t.2.2.2.2.1 t.2.2.2.2.2) RFr.rf (fun _ _ c g => c.tr (bst_rfr g))
end ZE3
