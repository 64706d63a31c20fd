/-! The spots that a run may go round through. -/
section ZQ2
variable {dg : Nat → Nat} {nb : Nat → Nat → Nat} {S : Nat → Nat} {al : Nat}
def sub (m m' : Nat) : Prop := ∀ i, m.testBit i = true → m'.testBit i = true
theorem sub.rf {m : Nat} : sub m m := fun _ h => h
theorem sub.tr {a b c : Nat} (h : sub a b) (g : sub b c) : sub a c := fun i z => g i (h i z)
theorem sub_l (a b : Nat) : sub a (a ||| b) := fun i h => by rw [Nat.testBit_or, h]; rfl
theorem sub_r (a b : Nat) : sub b (a ||| b) := fun i h => by rw [Nat.testBit_or, h]; simp
theorem sub_o {a b c : Nat} (h : sub a c) (g : sub b c) : sub (a ||| b) c := fun i z => by
  rw [Nat.testBit_or, Bool.or_eq_true] at z
  exact z.elim (h i) (g i)
theorem sub_e {a b : Nat} (h : sub a b) (g : sub b a) : a = b := Nat.eq_of_testBit_eq (fun i => by
  cases e : a.testBit i
  · cases e2 : b.testBit i
    · rfl
    · rw [g i e2] at e; exact absurd e (by decide)
  · rw [h i e])
section
variable (dg : Nat → Nat) (nb : Nat → Nat → Nat) (S : Nat → Nat) (al : Nat)
def E2 (x y : Nat × Nat) : Prop := Ed dg nb x.1 y.1 ∧ y.2 = x.2 ||| S y.1
/-- the steps lead round from v past all that mustn't be put off -/
def good (v : Nat) : Prop := ∃ w, Ed dg nb v w ∧ star (E2 dg nb S) (w, S w) (v, al)
end
def orL (S : Nat → Nat) : List Nat → Nat
  | [] => 0
  | x :: l => orL S l ||| S x
theorem orL_m : ∀ {C : List Nat} {w : Nat}, w ∈ C → sub (S w) (orL S C) := by
  intro C
  induction C with
  | nil => intro w h; simp at h
  | cons x l ih =>
    intro w h
    rcases List.mem_cons.mp h with e | e
    · rw [e]; exact sub_r _ _
    · exact (ih e).tr (sub_l _ _)
theorem orL_s {c : Nat} : ∀ {C : List Nat}, (∀ w ∈ C, sub (S w) c) → sub (orL S C) c := by
  intro C
  induction C with
  | nil => intro _ i h; simp [orL] at h
  | cons x l ih => intro h; exact sub_o (ih (fun w hw => h w (List.mem_cons_of_mem _ hw))) (h x (List.mem_cons_self ..))
theorem star_e2 {x y : Nat} (h : star (Ed dg nb) x y) : ∀ m, sub (S x) m → ∃ m', star (E2 dg nb S) (x, m) (y, m') ∧ sub m m' ∧ sub (S y) m' :=
  h (fun y => ∀ m, sub (S x) m → ∃ m', star (E2 dg nb S) (x, m) (y, m') ∧ sub m m' ∧ sub (S y) m') (fun m hm => ⟨m, star.refl _, sub.rf, hm⟩) (fun u v c g m hm => by
    obtain ⟨m', a1, a2, a3⟩ := c m hm
    exact ⟨m' ||| S v, a1.tail ⟨g, rfl⟩, a2.tr (sub_l _ _), sub_r _ _⟩)
theorem e2_al {x y : Nat × Nat} (hS : ∀ w, sub (S w) al) (h : star (E2 dg nb S) x y) (hx : sub x.2 al) : sub y.2 al :=
  h (fun y => sub y.2 al) hx (fun u v c g => by rw [g.2]; exact sub_o c (hS _))
theorem star_hd {x y : Nat} (h : star (Ed dg nb) x y) : x = y ∨ ∃ z, Ed dg nb x z ∧ star (Ed dg nb) z y :=
  h (fun y => x = y ∨ ∃ z, Ed dg nb x z ∧ star (Ed dg nb) z y) (Or.inl rfl) (fun u v c g => by
    rcases c with e | ⟨z, a1, a2⟩
    · subst e; exact Or.inr ⟨v, g, star.refl _⟩
    · exact Or.inr ⟨z, a1, a2.tail g⟩)
theorem tour {v : Nat} {C : List Nat} (hC : ∀ w ∈ C, star (Ed dg nb) v w ∧ star (Ed dg nb) w v) : ∀ (L : List Nat), (∀ w ∈ L, w ∈ C) → ∀ m, sub (S v) m → ∃ m', star (E2 dg nb S) (v, m) (v, m') ∧ sub m m' ∧ ∀ w ∈ L, sub (S w) m' := by
  intro L
  induction L with
  | nil => intro _ m _; exact ⟨m, star.refl _, sub.rf, fun w hw => by simp at hw⟩
  | cons x L ih =>
    intro hL m hm
    obtain ⟨m1, a1, a2, a3⟩ := ih (fun w hw => hL w (List.mem_cons_of_mem _ hw)) m hm
    obtain ⟨b1, b2⟩ := hC x (hL x (List.mem_cons_self ..))
    obtain ⟨m2, c1, c2, c3⟩ := star_e2 b1 m1 (hm.tr a2)
    obtain ⟨m3, d1, d2, d3⟩ := star_e2 b2 m2 c3
    refine ⟨m3, (a1.trans c1).trans d1, (a2.tr c2).tr d2, fun w hw => ?_⟩
    rcases List.mem_cons.mp hw with e | e
    · rw [e]; exact c3.tr d2
    · exact ((a3 w e).tr c2).tr d2
/-- of a part that is closed, all spots or none are good -/
theorem good_C {v : Nat} {C : List Nat} {clo : Nat → Prop} (hS : ∀ w, sub (S w) al) (hv : v ∈ C) (hC : ∀ w ∈ C, star (Ed dg nb) v w ∧ star (Ed dg nb) w v) (hout : ∀ w ∈ C, ∀ u, Ed dg nb w u → u ∈ C ∨ clo u) (hclo : ∀ x, clo x → ∀ u, Ed dg nb x u → clo u) (hdis : ∀ w ∈ C, ¬ clo w) (hsz : (¬ ∃ w ∈ C, ¬ w = v) ↔ C.length = 1) : ∀ w ∈ C, (good dg nb S al w ↔ ((¬ C.length = 1 ∨ Ed dg nb v v) ∧ orL S C = al)) := by
  intro w hw
  constructor
  · rintro ⟨x, e1, e2⟩
    have hx := hout w hw x e1
    have key := e2 (fun y => clo y.1 ∨ (y.1 ∈ C ∧ sub y.2 (orL S C))) (by
      rcases hx with z | z
      · exact Or.inr ⟨z, orL_m z⟩
      · exact Or.inl z) (fun a b c g => by
      rcases c with z | ⟨z1, z2⟩
      · exact Or.inl (hclo _ z _ g.1)
      · rcases hout _ z1 _ g.1 with q | q
        · refine Or.inr ⟨q, ?_⟩
          rw [g.2]; exact sub_o z2 (orL_m q)
        · exact Or.inl q)
    have hal : orL S C = al := by
      rcases key with z | ⟨_, z⟩
      · exact absurd z (hdis w hw)
      · exact sub_e (orL_s (fun u _ => hS u)) z
    refine ⟨?_, hal⟩
    by_cases h1 : C.length = 1
    · right
      have only : ∀ u ∈ C, u = v := fun u hu => Classical.byContradiction (fun e => (hsz.mpr h1) ⟨u, hu, e⟩)
      have xC : x ∈ C := by
        rcases hx with z | z
        · exact z
        · exfalso
          have := e2 (fun y => clo y.1) z (fun a b c g => hclo _ c _ g.1)
          exact hdis w hw this
      rw [only w hw, only x xC] at e1
      exact e1
    · exact Or.inl h1
  · rintro ⟨hn, hal⟩
    obtain ⟨vw, wv⟩ := hC w hw
    -- a step from w that leads back
    have st : ∃ x, Ed dg nb w x ∧ star (Ed dg nb) x w := by
      by_cases hb : ∃ b ∈ C, ¬ b = w
      · obtain ⟨b, hb1, hb2⟩ := hb
        obtain ⟨vb, bv⟩ := hC b hb1
        rcases star_hd (wv.trans vb) with e | ⟨z, a1, a2⟩
        · exact absurd e.symm hb2
        · exact ⟨z, a1, (a2.trans bv).trans vw⟩
      · have only : ∀ b ∈ C, b = w := fun b hb1 => Classical.byContradiction (fun e => hb ⟨b, hb1, e⟩)
        have evw := only v hv
        have h1 : C.length = 1 := hsz.mp (fun ⟨u, hu, e⟩ => e ((only u hu).trans evw.symm))
        have hvv := hn.resolve_left (fun z => z h1)
        rw [evw] at hvv
        exact ⟨w, hvv, star.refl _⟩
    obtain ⟨x, e1, e2⟩ := st
    obtain ⟨m1, a1, a2, a3⟩ := star_e2 (S := S) e2 (S x) sub.rf
    obtain ⟨m2, b1, b2, b3⟩ := star_e2 wv m1 a3
    obtain ⟨m3, c1, c2, c3⟩ := tour hC C (fun u hu => hu) m2 b3
    obtain ⟨m4, d1, d2, d3⟩ := star_e2 vw m3 (b3.tr c2)
    have all := ((a1.trans b1).trans c1).trans d1
    have h4 : m4 = al := by
      refine sub_e (e2_al hS all (hS x)) ?_
      rw [← hal]
      exact orL_s (fun u hu => (c3 u hu).tr d2)
    rw [h4] at all
    exact ⟨x, e1, all⟩
end ZQ2
