/-! The steps of a program, apart from both. -/
section ZJ7
/-- processes, basics; of a basic: kind, process, channel, variable, codes, point behind, does the process go on; which stand where; where processes begin -/
abbrev zQ : Type := Nat × Nat × (Nat → Nat) × (Nat → Nat) × (Nat → Nat) × (Nat → Nat) × (Nat → List Int32) × (Nat → Nat) × (Nat → Bool) × (Nat → Nat → Nat → Bool) × (Nat → Nat)
def qP (Q : zQ) : Nat := Q.1
def qN (Q : zQ) : Nat := Q.2.1
def qK (Q : zQ) (b : Nat) : Nat := Q.2.2.1 b
def qA (Q : zQ) (b : Nat) : Nat := Q.2.2.2.1 b
def qC (Q : zQ) (b : Nat) : Nat := Q.2.2.2.2.1 b
def qV (Q : zQ) (b : Nat) : Nat := Q.2.2.2.2.2.1 b
def qT (Q : zQ) (b : Nat) : List Int32 := Q.2.2.2.2.2.2.1 b
def qF (Q : zQ) (b : Nat) : Nat := Q.2.2.2.2.2.2.2.1 b
def qH (Q : zQ) (b : Nat) : Bool := Q.2.2.2.2.2.2.2.2.1 b
def qM (Q : zQ) (p s b : Nat) : Bool := Q.2.2.2.2.2.2.2.2.2.1 p s b
def qS (Q : zQ) (p : Nat) : Nat := Q.2.2.2.2.2.2.2.2.2.2 p
def anyB (P : Nat → Bool) : Nat → Bool
  | 0 => false
  | n + 1 => anyB P n || P n
theorem anyB_iff {P : Nat → Bool} {n : Nat} : anyB P n = true ↔ ∃ k, k < n ∧ P k = true := by
  induction n with
  | zero => exact ⟨fun h => by simp [anyB] at h, fun ⟨k, hk, _⟩ => by omega⟩
  | succ n ih =>
    simp only [anyB, Bool.or_eq_true, ih]
    constructor
    · rintro (⟨k, a, b⟩ | h)
      · exact ⟨k, by omega, b⟩
      · exact ⟨n, by omega, h⟩
    · rintro ⟨k, a, b⟩
      by_cases e : k = n
      · subst e; exact Or.inr b
      · exact Or.inl ⟨k, by omega, b⟩
theorem anyB_f {P : Nat → Bool} {n : Nat} : anyB P n = false ↔ ∀ k, k < n → P k = false := by
  constructor
  · intro h k hk
    cases e : P k
    · rfl
    · rw [anyB_iff.mpr ⟨k, hk, e⟩] at h; exact absurd h (by decide)
  · intro h
    cases e : anyB P n
    · rfl
    · obtain ⟨k, hk, e2⟩ := anyB_iff.mp e
      rw [h k hk] at e2; exact absurd e2 (by decide)
theorem anyB_cg {P P' : Nat → Bool} {n : Nat} (h : ∀ k, k < n → P k = P' k) : anyB P n = anyB P' n := by
  induction n with
  | zero => rfl
  | succ n ih => simp only [anyB]; rw [ih (fun k hk => h k (by omega)), h n (by omega)]
def lk (x : Nat → Nat) (j : Nat) : Nat → Nat
  | 0 => 0
  | m + 1 => if x m = j then m else lk x j m
theorem lk_eq {x : Nat → Nat} {j v : Nat} : ∀ m, v < m → x v = j → (∀ a b, a < m → b < m → x a = x b → a = b) → lk x j m = v := by
  intro m
  induction m with
  | zero => intro h; omega
  | succ m ih =>
    intro hv hx hi
    unfold lk
    split
    · rename_i g; exact hi m v (by omega) hv (by rw [g, hx])
    · rename_i g
      refine ih ?_ hx (fun a b ha hb => hi a b (by omega) (by omega))
      by_cases e : v = m
      · subst e; exact absurd hx g
      · omega
/-- what a name is worth in a state -/
def amf (d : zD) (c : zCf) (j : Nat) : Int32 := if d.2.2.2.1 j = 1 then nI (c.1 (lk (xv d) j d.2.1)) else if d.2.2.2.1 j = 2 then nI (c.2.1 (lk (xc d) j d.2.2.1)) else 0
theorem amf_v {d : zD} {c : zCf} (hN : NC d) {v : Nat} (hv : v < d.2.1) : amf d c (xv d v) = nI (c.1 v) := by
  unfold amf
  rw [if_pos (hN.v hv).2.2, lk_eq (x := xv d) d.2.1 hv rfl (fun a b ha hb e => hN.vi ha hb e)]
theorem amf_c {d : zD} {c : zCf} (hN : NC d) {k : Nat} (hk : k < d.2.2.1) : amf d c (xc d k) = nI (c.2.1 k) := by
  unfold amf
  rw [if_neg (by rw [(hN.c hk).2.2]; decide), if_pos (hN.c hk).2.2, lk_eq (x := xc d) d.2.2.1 hk rfl (fun a b ha hb e => hN.ci ha hb e)]
theorem amf_rng {d : zD} {c : zCf} {np : Nat} (hO : OKC d.2.1 d.2.2.1 np c) (j : Nat) : ∃ x, x < 8 ∧ amf d c j = nI x := by
  unfold amf
  split
  · exact ⟨_, hO.1 _, rfl⟩
  · split
    · exact ⟨_, by have := hO.2.2.1 (lk (xc d) j d.2.2.1); omega, rfl⟩
    · exact ⟨0, by omega, rfl⟩
theorem ev_cg {am am' : Nat → Int32} {l : List Int32} (h : ∀ x ∈ l, x < 16 → ¬ x < 8 → am (x - 8).toNatClampNeg = am' (x - 8).toNatClampNeg) : ev am l = ev am' l := by
  induction l with
  | nil => rfl
  | cons x l ih =>
    unfold ev
    rw [ih (fun y hy => h y (List.mem_cons_of_mem _ hy))]
    split
    · rename_i g
      split
      · rfl
      · rename_i g2; rw [h x (List.mem_cons_self ..) g g2]
    · rfl
theorem nI_all (x : Int32) : ∃ a, x = nI a := ⟨x.toBitVec.toNat, by
  apply Int32.toBitVec_inj.mp
  show x.toBitVec = BitVec.ofNat 32 x.toBitVec.toNat
  exact BitVec.eq_of_toNat_eq (by rw [BitVec.toNat_ofNat, Nat.mod_eq_of_lt x.toBitVec.isLt])⟩
theorem and7 (x : Int32) : ∃ y, y < 8 ∧ x &&& 7 = nI y := by
  obtain ⟨a, rfl⟩ := nI_all x
  exact ⟨a % 2 ^ 3, Nat.mod_lt _ (by decide), nI_andm (a := a) (w := 3) (by omega)⟩
theorem nI_cl {x : Int32} (h : 0 ≤ x) : nI x.toNatClampNeg = x := by
  have h0 := Int32.le_iff_toInt_le.mp h
  have e0 : (0 : Int32).toInt = 0 := rfl
  have e : x.toNatClampNeg = x.toInt.toNat := rfl
  have h1 := Int32.toInt_lt x
  rw [← Int32.toInt_inj, nI_toInt (by omega)]; omega
theorem jn_rng (x l r : Int32) : ∃ y, y < 8 ∧ jn x l r = nI y := by
  unfold jn
  split
  · split
    · exact ⟨1, by omega, rfl⟩
    · exact ⟨0, by omega, rfl⟩
  · split
    · split
      · exact ⟨0, by omega, rfl⟩
      · exact ⟨1, by omega, rfl⟩
    · split
      · exact and7 _
      · split
        · exact and7 _
        · exact and7 _
theorem ev_rng {am : Nat → Int32} {l : List Int32} (ha : ∀ j, ∃ x, x < 8 ∧ am j = nI x) (h : okR l) : ∀ y ∈ ev am l, ∃ x, x < 8 ∧ y = nI x := by
  induction l with
  | nil => intro y hy; simp [ev] at hy
  | cons x l ih =>
    have hl := ih h.1
    intro y hy
    unfold ev at hy
    split at hy
    · rename_i g
      rcases List.mem_cons.mp hy with e | e
      · split at e
        · rename_i g2
          have h0 : 0 ≤ x := by
            rcases h.2 with w | w
            · exact w.1
            · rcases w.1 with q | q | q | q | q <;> rw [q] <;> decide
          refine ⟨x.toNatClampNeg, ?_, ?_⟩
          · have : x.toInt < 8 := Int32.lt_iff_toInt_lt.mp g2
            unfold Int32.toNatClampNeg; omega
          · rw [e]; exact (nI_cl h0).symm
        · rw [e]; exact ha _
      · exact hl y e
    · match he : ev am l with
      | [] => rw [he] at hy; simp at hy
      | [z] => rw [he] at hy; rw [he] at hl; exact hl y hy
      | r :: l' :: rest =>
        rw [he] at hy
        rcases List.mem_cons.mp hy with e | e
        · rw [e]; exact jn_rng _ _ _
        · exact hl y (by rw [he]; exact List.mem_cons_of_mem _ (List.mem_cons_of_mem _ e))
/-- an expression's number in a state -/
def vl (d : zD) (Q : zQ) (c : zCf) (b : Nat) : Nat := ((ev (amf d c) (qT Q b)).headD 0).toNatClampNeg
theorem vl_ok {d : zD} {Q : zQ} {c : zCf} {np b : Nat} (hO : OKC d.2.1 d.2.2.1 np c) (hR : okR (qT Q b)) : vl d Q c b < 8 ∧ (ev (amf d c) (qT Q b)).headD 0 = nI (vl d Q c b) := by
  have h : ∃ x, x < 8 ∧ (ev (amf d c) (qT Q b)).headD 0 = nI x := by
    have := ev_rng (amf_rng hO) hR
    match he : ev (amf d c) (qT Q b) with
    | [] => exact ⟨0, by omega, rfl⟩
    | y :: r => rw [he] at this; exact this y (List.mem_cons_self ..)
  obtain ⟨x, hx, e⟩ := h
  unfold vl
  rw [clI e (by omega)]
  exact ⟨hx, e⟩
def sl (d : zD) (k : Nat) : Nat := (d.2.2.2.2.1 (xc d k)).toNatClampNeg
def ini (d : zD) (v : Nat) : Nat := (d.2.2.2.2.1 (xv d v)).toNatClampNeg
theorem sl_ok {d : zD} (hN : NC d) {k : Nat} (hk : k < d.2.2.1) : d.2.2.2.2.1 (xc d k) = nI (sl d k) ∧ sl d k ≤ 3 := by
  obtain ⟨_, a, b⟩ := hN.c hk
  obtain ⟨h0, h1⟩ := (hN.2.2.2.2.2.2.2.2 (xc d k) a).2 b
  have : (d.2.2.2.2.1 (xc d k)).toInt ≤ 3 := Int32.le_iff_toInt_le.mp h1
  unfold sl
  refine ⟨(nI_cl h0).symm, by unfold Int32.toNatClampNeg; omega⟩
theorem ini_ok {d : zD} (hN : NC d) {k : Nat} (hk : k < d.2.1) : d.2.2.2.2.1 (xv d k) = nI (ini d k) ∧ ini d k < 8 := by
  obtain ⟨_, a, b⟩ := hN.v hk
  obtain ⟨h0, h1⟩ := (hN.2.2.2.2.2.2.2.2 (xv d k) a).1 b
  have : (d.2.2.2.2.1 (xv d k)).toInt < 8 := Int32.lt_iff_toInt_lt.mp h1
  unfold ini
  refine ⟨(nI_cl h0).symm, by unfold Int32.toNatClampNeg; omega⟩
/-- a basic statement stands at a process's point -/
def hB (Q : zQ) (c : zCf) (p b : Nat) : Bool := qM Q p (c.2.2.2.1 p) b
/-- a RECEIVE that is done together with a SEND -/
def mtc (Q : zQ) (c : zCf) (b r : Nat) : Bool := decide (qK Q r = 3) && decide (qC Q r = qC Q b) && !decide (qA Q r = qA Q b) && hB Q c (qA Q r) r
def cn (d : zD) (Q : zQ) (c : zCf) (b : Nat) : Bool := if qK Q b = 1 then !decide (vl d Q c b = 0) else if qK Q b = 3 then decide (0 < c.2.1 (qC Q b)) else if qK Q b = 2 then (if 0 < sl d (qC Q b) then decide (c.2.1 (qC Q b) < sl d (qC Q b)) else anyB (mtc Q c b) (qN Q)) else !decide (qK Q b = 5)
/-- what a process can do -/
def pab (d : zD) (Q : zQ) (c : zCf) (p b : Nat) : Bool := hB Q c p b && (if anyB (fun b' => hB Q c p b' && cn d Q c b') (qN Q) then cn d Q c b else decide (qK Q b = 5))
def alb (d : zD) (Q : zQ) (c : zCf) (b : Nat) : Bool := anyB (fun p => pab d Q c p b) (qP Q)
/-- what begins a step -/
def dob (d : zD) (Q : zQ) (c : zCf) (b : Nat) : Bool := alb d Q c b && (decide (c.2.2.2.2 = 0) || !anyB (fun b' => alb d Q c b' && hB Q c (c.2.2.2.2 - 1) b') (qN Q) || hB Q c (c.2.2.2.2 - 1) b)
/-- a program that is right -/
def QW (d : zD) (Q : zQ) : Prop := qP Q ≤ 4 ∧ qN Q ≤ 48 ∧ (∀ b, b < qN Q → qK Q b ≤ 5 ∧ qA Q b < qP Q ∧ qF Q b ≤ 30 ∧ (qK Q b = 2 ∨ qK Q b = 3 → qC Q b < d.2.2.1) ∧ (qK Q b = 0 ∨ qK Q b = 3 → qV Q b < d.2.1) ∧ (qK Q b ≤ 2 → okR (qT Q b) ∧ ht (qT Q b) = 1 ∧ nod (qT Q b) ≤ 12 ∧ KN d.2.2.2.1 (qT Q b))) ∧ (∀ p s b, qM Q p s b = true → b < qN Q ∧ qA Q b = p) ∧ (∀ p, qS Q p ≤ 30) ∧ (∀ p, qP Q ≤ p → qS Q p = 0) ∧ (∀ j, j < 8 → d.2.2.2.1 j = 0 ∨ d.2.2.2.1 j = 1 ∨ d.2.2.2.1 j = 2)
theorem hB_n {d : zD} {Q : zQ} (hW : QW d Q) {c : zCf} {p b : Nat} (h : hB Q c p b = true) : b < qN Q ∧ qA Q b = p := hW.2.2.2.1 p _ b h
theorem pab_h {d : zD} {Q : zQ} {c : zCf} {p b : Nat} (h : pab d Q c p b = true) : hB Q c p b = true := by unfold pab at h; simp at h; exact h.1
theorem alb_n {d : zD} {Q : zQ} (hW : QW d Q) {c : zCf} {b : Nat} (h : alb d Q c b = true) : b < qN Q ∧ hB Q c (qA Q b) b = true := by
  obtain ⟨p, _, h⟩ := anyB_iff.mp h
  have h2 := pab_h h
  have := hB_n hW h2
  exact ⟨this.1, by rw [this.2]; exact h2⟩
/-- a state that is right -/
def WC (d : zD) (Q : zQ) (c : zCf) : Prop := OKC d.2.1 d.2.2.1 (qP Q) c ∧ ∀ p, c.2.2.2.1 p ≤ 30
end ZJ7
