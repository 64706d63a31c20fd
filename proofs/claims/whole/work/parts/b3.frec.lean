/-! Formulas: the class's recursion. -/
section ZN4
variable {I : Nat → Int32} {J : Nat → Int64} {B : Nat → Nat → Int32} {D : Nat → Nat → Int64}
def FR (s : Nat) : List Nat → Prop
  | [] => s = 0
  | k :: _ => (s = 0 ∧ (k = 8 ∨ k = 3)) ∨ (s = 2 ∧ k = 2) ∨ (s = 3 ∧ (k = 1 ∨ k = 6 ∨ k = 7))
theorem FR_noU {s : Nat} {st : List Nat} (h : FR s st) : noU st := by
  cases st with
  | nil => trivial
  | cons k st =>
    have h' : (s = 0 ∧ (k = 8 ∨ k = 3)) ∨ (s = 2 ∧ k = 2) ∨ (s = 3 ∧ (k = 1 ∨ k = 6 ∨ k = 7)) := h
    show ¬ isU k
    omega
theorem FR_noP {s k : Nat} {st : List Nat} (h : FR s st) (hk : k = 1 ∨ k = 2 ∨ k = 3 ∨ k = 6 ∨ k = 7) (hs : s ≤ strn k) : noP (thr k) st := by
  cases st with
  | nil => trivial
  | cons j st =>
    have h' : (s = 0 ∧ (j = 8 ∨ j = 3)) ∨ (s = 2 ∧ j = 2) ∨ (s = 3 ∧ (j = 1 ∨ j = 6 ∨ j = 7)) := h
    show bnd j < thr k
    rcases hk with rfl | rfl | rfl | rfl | rfl <;> rcases h' with ⟨rfl, rfl | rfl⟩ | ⟨rfl, rfl⟩ | ⟨rfl, rfl | rfl | rfl⟩ <;> first | decide | exact absurd hs (by decide)
theorem pop_ok {k s j : Nat} (hk : (k = 3 ∧ s = 0) ∨ (k = 2 ∧ s = 2) ∨ ((k = 1 ∨ k = 6 ∨ k = 7) ∧ s = 3)) (hj : j = 9 ∨ ((j = 1 ∨ j = 2 ∨ j = 3 ∨ j = 6 ∨ j = 7) ∧ strn j < s)) : thr j ≤ bnd k := by
  rcases hk with ⟨rfl, rfl⟩ | ⟨rfl, rfl⟩ | ⟨rfl | rfl | rfl, rfl⟩ <;> rcases hj with rfl | ⟨rfl | rfl | rfl | rfl | rfl, h⟩ <;> first | decide | exact absurd h (by decide)
theorem CF_adv {f : Nat → Int32} {n : Nat} {kd : Nat → Int32} {np : Nat} {LP : Nat → Int32} {ph ph' a a' : Nat} {st st' : List Nat} {out : List zIt} {I' : Nat → Int32} (h : CF f n kd np LP (ph, a, st, out) I B) (h5 : I' 5 = nI a') (ha : a' ≤ n) (h23 : I' 23 = nI (metp st' out)) (ho : ∀ k, k ≠ 5 → k ≠ 23 → I' k = I k) : CF f n kd np LP (ph', a', st', out) I' B := by
  obtain ⟨c1, c2, c3, c4, c5, c6, c7, c8, c9, c10, c11⟩ := h
  dsimp only at c1 c2 c3 c4 c5 c6 c7 c8
  refine ⟨?_, ?_, ?_, h23, ?_, ?_, c7, c8, c9, ?_, c11⟩
  all_goals try dsimp only
  · rw [ho 4 (by decide) (by decide)]; exact c1.up h5 ha
  · rw [ho 22 (by decide) (by decide)]; exact c2
  · rw [ho 21 (by decide) (by decide)]; exact c3
  · rw [ho 24 (by decide) (by decide)]; exact c5
  · rw [ho 25 (by decide) (by decide)]; exact c6
  · rw [ho 10 (by decide) (by decide)]; exact c10
theorem q_joining {Post : Int32 → (Nat → Int32) → (Nat → Int64) → (Nat → Nat → Int32) → (Nat → Nat → Int64) → Prop} {c : Int32} (h : Post (if jo c = 9 then -1 else nI (jo c)) I J B D) : wp_Formula_joining I J B D c Post := by
  refine ⟨fun g => ?_, fun g => ?_, fun g => ?_, fun g => ?_, fun g => ?_, fun g1 g2 g3 g4 g5 => ?_⟩
  · subst g; exact h
  · subst g; exact h
  · subst g; exact h
  · subst g; exact h
  · subst g; exact h
  · have : jo c = 9 := by unfold jo; simp [g1, g2, g3, g4, g5]
    rw [if_pos this] at h; exact h
theorem q_strengthOf {Post : Int32 → (Nat → Int32) → (Nat → Int64) → (Nat → Nat → Int32) → (Nat → Nat → Int64) → Prop} {k : Nat} (hk : k ≤ 9) (h : Post (nI (strn k)) I J B D) : wp_Formula_strengthOf I J B D (nI k) Post := by
  have q : ∀ (m : Nat) (x : Int32), x = nI m → m ≤ 9 → (nI k = x ↔ k = m) := fun m x hx hm => eqI rfl hx (by omega) (by omega)
  refine ⟨fun g => ?_, fun g => ?_, fun g => ?_, fun g1 g2 g3 => ?_⟩
  · have := (q 1 1 rfl (by omega)).mp g; subst this; exact h
  · have := (q 2 2 rfl (by omega)).mp g; subst this; exact h
  · have := (q 3 3 rfl (by omega)).mp g; subst this; exact h
  · have e1 : ¬ k = 1 := fun e => g1 ((q 1 1 rfl (by omega)).mpr e)
    have e2 : ¬ k = 2 := fun e => g2 ((q 2 2 rfl (by omega)).mpr e)
    have e3 : ¬ k = 3 := fun e => g3 ((q 3 3 rfl (by omega)).mpr e)
    have : strn k = 3 := by simp [strn, e1, e2, e3]
    rw [this] at h; exact h
/-- a sign that makes deeper is met: goDeeper, or meetTemporal -/
theorem q_deep {Post : (Nat → Int32) → (Nat → Int64) → (Nat → Nat → Int32) → (Nat → Nat → Int64) → Prop} {PX : String → (Nat → Int32) → (Nat → Int64) → (Nat → Nat → Int32) → (Nat → Nat → Int64) → Prop} {f : Nat → Int32} {n : Nat} {kd : Nat → Int32} {np : Nat} {LP : Nat → Int32} {I0 : Nat → Int32} {B0 : Nat → Nat → Int32} {ph a k : Nat} {st : List Nat} {out : List zIt} (hC : CF f n kd np LP (ph, a, st, out) I B) (hF : FF I0 B0 I B) (hd8 : dpt st ≤ 8) (han : a < n) (hk : ¬ isT k) (hbad : ¬ dpt st < 8 → ffail f n kd np LP (ph, a, st, out) a) (hK : KW f n kd np LP I0 B0 J D PX (ph, a, st, out)) (h : dpt st < 8 → ∀ I', CF f n kd np LP (1, a + 1, k :: st, out) I' B → FF I0 B0 I' B → Post I' J B D) : wp_Formula_goDeeper I J B D (nI (dpt st)) Post PX := by
  have c1 := hC.1
  dsimp only at c1
  refine q_goDeeper c1.1 (by omega) (fun g => h g _ ?_ (hF.tr ⟨fun j hj => by simp at hj; simp [upd, hj], fun _ _ => rfl⟩)) (fun g => hK.at (hbad g) hF c1.1)
  have c4 := hC.2.2.2.1
  dsimp only at c4
  refine CF_adv hC (by simp [upd]) (by omega) ?_ (fun j h1 _ => by simp [upd, h1])
  have : metp (k :: st) out = metp st out := by rw [metp_p, if_neg hk, Nat.add_zero]
  rw [this]; simp [upd]; exact c4
theorem q_meet {Post : (Nat → Int32) → (Nat → Int64) → (Nat → Nat → Int32) → (Nat → Nat → Int64) → Prop} {PX : String → (Nat → Int32) → (Nat → Int64) → (Nat → Nat → Int32) → (Nat → Nat → Int64) → Prop} {f : Nat → Int32} {n : Nat} {kd : Nat → Int32} {np : Nat} {LP : Nat → Int32} {I0 : Nat → Int32} {B0 : Nat → Nat → Int32} {ph a k : Nat} {st : List Nat} {out : List zIt} (hC : CF f n kd np LP (ph, a, st, out) I B) (hF : FF I0 B0 I B) (hd8 : dpt st ≤ 8) (hm3 : metp st out ≤ 3) (han : a < n) (hk : isT k) (hbad : ¬ dpt st < 8 ∨ ¬ metp st out < 3 → ffail f n kd np LP (ph, a, st, out) a) (hK : KW f n kd np LP I0 B0 J D PX (ph, a, st, out)) (h : dpt st < 8 → metp st out < 3 → ∀ I', CF f n kd np LP (1, a + 1, k :: st, out) I' B → FF I0 B0 I' B → Post I' J B D) : wp_Formula_meetTemporal I J B D (nI (dpt st)) Post PX := by
  have c1 := hC.1
  have c4 := hC.2.2.2.1
  dsimp only at c1 c4
  have q3 : I 23 = 3 ↔ metp st out = 3 := eqI c4 (y := 3) (b := 3) rfl (by omega) (by omega)
  refine ⟨fun g z1 e1 => ?_, fun g => hK.at (hbad (Or.inr (by have := q3.mp g; omega))) hF c1.1⟩
  have hm : metp st out < 3 := by
    have : ¬ metp st out = 3 := fun e => g (q3.mpr e)
    omega
  have n1 := inI c4 e1
  have F1 : FF I0 B0 (upd I 23 z1) B := hF.tr ⟨fun j hj => by simp at hj; simp [upd, hj], fun _ _ => rfl⟩
  have h5 : upd I 23 z1 5 = nI a := by simp [upd]; exact c1.1
  refine q_goDeeper h5 (by omega) (fun g => h g hm _ ?_ (F1.tr ⟨fun j hj => by simp at hj; simp [upd, hj], fun _ _ => rfl⟩)) (fun g => hK.at (hbad (Or.inl g)) F1 h5)
  refine CF_adv hC (by simp [upd]) (by omega) ?_ (fun j h1 h2 => by simp [upd, h1, h2])
  have : metp (k :: st) out = metp st out + 1 := by rw [metp_p, if_pos hk]
  rw [this]; simp [upd]; exact n1
section
variable (f : Nat → Int32) (n : Nat) (kd : Nat → Int32) (np : Nat) (LP : Nat → Int32) (I0 : Nat → Int32) (B0 : Nat → Nat → Int32)
/-- readUnit -/
def SU9 (d : Nat) (P : zTgf1) : Prop := ∀ (I : Nat → Int32) (J : Nat → Int64) (B : Nat → Nat → Int32) (D : Nat → Nat → Int64) (a : Nat) (st : List Nat) (out : List zIt) (Post : Int32 → (Nat → Int32) → (Nat → Int64) → (Nat → Nat → Int32) → (Nat → Nat → Int64) → Prop) (PX : String → (Nat → Int32) → (Nat → Int64) → (Nat → Nat → Int32) → (Nat → Nat → Int64) → Prop), dpt st = d → PI f n kd (1, a, st, out) → CF f n kd np LP (1, a, st, out) I B → FF I0 B0 I B → KW f n kd np LP I0 B0 J D PX (1, a, st, out) → (∀ a' out' r I' B', star (fst9 f n kd np LP) (1, a, st, out) (2, a', st, out') → rts out' = r :: rts out → CF f n kd np LP (2, a', st, out') I' B' → FF I0 B0 I' B' → Post (nI r) I' J B' D) → P I J B D (nI d) Post PX
/-- readBracketed -/
def SB9 (d : Nat) (P : zTgf2) : Prop := ∀ (I : Nat → Int32) (J : Nat → Int64) (B : Nat → Nat → Int32) (D : Nat → Nat → Int64) (a : Nat) (st : List Nat) (out : List zIt) (Post : Int32 → (Nat → Int32) → (Nat → Int64) → (Nat → Nat → Int32) → (Nat → Nat → Int64) → Prop) (PX : String → (Nat → Int32) → (Nat → Int64) → (Nat → Nat → Int32) → (Nat → Nat → Int64) → Prop), dpt st = d → tkn f n a = 40 → PI f n kd (1, a, st, out) → CF f n kd np LP (1, a, st, out) I B → FF I0 B0 I B → KW f n kd np LP I0 B0 J D PX (1, a, st, out) → (∀ a' out' r I' B', star (fst9 f n kd np LP) (1, a, st, out) (2, a', st, out') → rts out' = r :: rts out → CF f n kd np LP (2, a', st, out') I' B' → FF I0 B0 I' B' → Post (nI r) I' J B' D) → P I J B D (nI d) Post PX
/-- readFrom -/
def SF9 (d s : Nat) (P : zTgf0) : Prop := ∀ (I : Nat → Int32) (J : Nat → Int64) (B : Nat → Nat → Int32) (D : Nat → Nat → Int64) (a : Nat) (st : List Nat) (out : List zIt) (Post : Int32 → (Nat → Int32) → (Nat → Int64) → (Nat → Nat → Int32) → (Nat → Nat → Int64) → Prop) (PX : String → (Nat → Int32) → (Nat → Int64) → (Nat → Nat → Int32) → (Nat → Nat → Int64) → Prop), dpt st = d → FR s st → PI f n kd (1, a, st, out) → CF f n kd np LP (1, a, st, out) I B → FF I0 B0 I B → KW f n kd np LP I0 B0 J D PX (1, a, st, out) → (∀ a' out' r I' B', star (fst9 f n kd np LP) (1, a, st, out) (0, a', st, out') → (jo (tkn f n a') = 9 ∨ strn (jo (tkn f n a')) < s) → rts out' = r :: rts out → CF f n kd np LP (0, a', st, out') I' B' → FF I0 B0 I' B' → Post (nI r) I' J B' D) → P I J B D (nI s) (nI d) Post PX
/-- readSecond -/
def SS9 (d k : Nat) (P : zTgf3) : Prop := ∀ (I : Nat → Int32) (J : Nat → Int64) (B : Nat → Nat → Int32) (D : Nat → Nat → Int64) (a s r1 : Nat) (R : List Nat) (st : List Nat) (out : List zIt) (Post : Int32 → (Nat → Int32) → (Nat → Int64) → (Nat → Nat → Int32) → (Nat → Nat → Int64) → Prop) (PX : String → (Nat → Int32) → (Nat → Int64) → (Nat → Nat → Int32) → (Nat → Nat → Int64) → Prop), dpt st = d → FR s st → jo (tkn f n a) = k → ¬ k = 9 → s ≤ strn k → rts out = r1 :: R → PI f n kd (0, a, st, out) → CF f n kd np LP (0, a, st, out) I B → FF I0 B0 I B → KW f n kd np LP I0 B0 J D PX (0, a, st, out) → (∀ a' out' r I' B', star (fst9 f n kd np LP) (0, a, st, out) (0, a', st, out') → a < a' → rts out' = r :: R → CF f n kd np LP (0, a', st, out') I' B' → FF I0 B0 I' B' → Post (nI r) I' J B' D) → P I J B D (nI k) (nI r1) (nI d) Post PX
end
theorem fst_a {f : Nat → Int32} {n : Nat} {kd : Nat → Int32} {np : Nat} {LP : Nat → Int32} {u v : zPs} (hP : PI f n kd u) (h : fst9 f n kd np LP u v) : u.2.1 ≤ v.2.1 := by
  obtain ⟨a, st, out, h⟩ := h
  rcases h with ⟨rfl, g1, g2, g3, rfl⟩ | ⟨rfl, g1, g2, a1, codes, g3, g4, rfl⟩ | ⟨rfl, g1, g2, p, l, pt, g3, g4, g5, g6, g7, g8, rfl⟩ | ⟨k, st', rfl, rfl, g1, rfl⟩ | ⟨rfl, g1, rfl⟩ | ⟨k, st', rfl, rfl, g1, g2, rfl⟩ | ⟨rfl, g1, g2, g3, g4, rfl⟩ | ⟨st', rfl, rfl, g1, rfl⟩
  all_goals try (dsimp only; omega)
  have := tkn_lt g1 (by decide)
  obtain ⟨_, _, _, _, _, f6, _⟩ := EXP.facts (by omega) (by omega) g3
  dsimp only; omega
theorem star_a {f : Nat → Int32} {n : Nat} {kd : Nat → Int32} {np : Nat} {LP : Nat → Int32} {u v : zPs} (hP : PI f n kd u) (h : star (fst9 f n kd np LP) u v) : u.2.1 ≤ v.2.1 :=
  (h (fun w => PI f n kd w ∧ u.2.1 ≤ w.2.1) ⟨hP, Nat.le_refl _⟩ (fun x y c g => ⟨PI_step c.1 g, Nat.le_trans c.2 (fst_a c.1 g)⟩)).2
end ZN4
