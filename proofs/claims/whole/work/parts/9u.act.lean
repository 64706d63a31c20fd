/-! A step's work, apart from both; the class does it. -/
section ZK1
variable {I : Nat → Int32} {J : Nat → Int64} {B : Nat → Nat → Int32} {D : Nat → Nat → Int64}
def upn (f : Nat → Nat) (k x : Nat) : Nat → Nat := fun j => if j = k then x else f j
def sV (c : zCf) (v x : Nat) : zCf := (upn c.1 v x, c.2)
def sM (c : zCf) (k x : Nat) : zCf := (c.1, upn c.2.1 k x, c.2.2)
def sG (c : zCf) (j x : Nat) : zCf := (c.1, c.2.1, upn c.2.2.1 j x, c.2.2.2)
def sS (c : zCf) (p x : Nat) : zCf := (c.1, c.2.1, c.2.2.1, upn c.2.2.2.1 p x, c.2.2.2.2)
def sH (c : zCf) (x : Nat) : zCf := (c.1, c.2.1, c.2.2.1, c.2.2.2.1, x)
/-- a RECEIVE's shift -/
def shf (c : zCf) (k : Nat) : zCf := sM (sG (sG (sG c (3 * k) (c.2.2.1 (3 * k + 1))) (3 * k + 1) (c.2.2.1 (3 * k + 2))) (3 * k + 2) 0) k (c.2.1 k - 1)
def efc (d : zD) (Q : zQ) (c : zCf) (b : Nat) : Option Nat → zCf
  | none => if qK Q b = 0 then sV c (qV Q b) (vl d Q c b) else if qK Q b = 2 then sM (sG c (3 * qC Q b + c.2.1 (qC Q b)) (vl d Q c b)) (qC Q b) (c.2.1 (qC Q b) + 1) else if qK Q b = 3 then sV (shf c (qC Q b)) (qV Q b) (c.2.2.1 (3 * qC Q b)) else c
  | some r => sV c (qV Q r) (vl d Q c b)
def go1 (Q : zQ) (c : zCf) (b : Nat) : zCf := sH (sS c (qA Q b) (qF Q b)) (if qH Q b = true then qA Q b + 1 else c.2.2.2.2)
def act (d : zD) (Q : zQ) (c : zCf) (b : Nat) : Option Nat → zCf
  | none => go1 Q (sH (efc d Q c b none) 0) b
  | some r => go1 Q (go1 Q (sH (efc d Q c b (some r)) 0) b) r
/-- it can be done so -/
def dn (Q : zQ) (c : zCf) (b : Nat) : Option Nat → Prop
  | none => b < qN Q ∧ (qK Q b = 2 → c.2.1 (qC Q b) < 3) ∧ (qK Q b = 3 → 0 < c.2.1 (qC Q b))
  | some r => b < qN Q ∧ r < qN Q ∧ qK Q b = 2 ∧ qK Q r = 3
theorem upn_at (f : Nat → Nat) (k x : Nat) : upn f k x k = x := by simp [upn]
theorem upn_ne {f : Nat → Nat} {k x j : Nat} (h : ¬ j = k) : upn f k x j = f j := by simp [upn, h]
theorem WC_sV {d : zD} {Q : zQ} {c : zCf} {v x : Nat} (h : WC d Q c) (hv : v < d.2.1) (hx : x < 8) : WC d Q (sV c v x) := by
  obtain ⟨⟨o1, o2, o3, o4, o5, o6, o7, o8, o9, o10⟩, h2⟩ := h
  refine ⟨⟨fun j => ?_, fun j hj => ?_, o3, o4, o5, o6, o7, o8, o9, o10⟩, h2⟩
  · simp only [sV, upn]; split
    · exact hx
    · exact o1 j
  · have : ¬ j = v := by omega
    simp only [sV, upn, if_neg this]; exact o2 j hj
theorem WC_sS {d : zD} {Q : zQ} {c : zCf} {p x : Nat} (h : WC d Q c) (hp : p < qP Q) (hx : x ≤ 30) : WC d Q (sS c p x) := by
  obtain ⟨⟨o1, o2, o3, o4, o5, o6, o7, o8, o9, o10⟩, h2⟩ := h
  refine ⟨⟨o1, o2, o3, o4, o5, o6, o7, fun j => ?_, fun j hj => ?_, o10⟩, fun j => ?_⟩
  · simp only [sS, upn]; split
    · omega
    · exact o8 j
  · have : ¬ j = p := by omega
    simp only [sS, upn, if_neg this]; exact o9 j hj
  · simp only [sS, upn]; split
    · omega
    · exact h2 j
theorem WC_sH {d : zD} {Q : zQ} {c : zCf} {x : Nat} (h : WC d Q c) (hx : x ≤ qP Q) : WC d Q (sH c x) := by
  obtain ⟨⟨o1, o2, o3, o4, o5, o6, o7, o8, o9, o10⟩, h2⟩ := h
  exact ⟨⟨o1, o2, o3, o4, o5, o6, o7, o8, o9, hx⟩, h2⟩
theorem WC_put {d : zD} {Q : zQ} {c : zCf} {k x : Nat} (h : WC d Q c) (hk : k < d.2.2.1) (hm : c.2.1 k < 3) (hx : x < 8) : WC d Q (sM (sG c (3 * k + c.2.1 k) x) k (c.2.1 k + 1)) := by
  obtain ⟨⟨o1, o2, o3, o4, o5, o6, o7, o8, o9, o10⟩, h2⟩ := h
  refine ⟨⟨o1, o2, fun j => ?_, fun j hj => ?_, fun j => ?_, fun j hj => ?_, fun j i hi hm' => ?_, o8, o9, o10⟩, h2⟩
  · simp only [sM, sG, upn]; split
    · omega
    · exact o3 j
  · have : ¬ j = k := by omega
    simp only [sM, sG, upn, if_neg this]; exact o4 j hj
  · simp only [sM, sG, upn]; split
    · exact hx
    · exact o5 j
  · have : ¬ j = 3 * k + c.2.1 k := by omega
    simp only [sM, sG, upn, if_neg this]; exact o6 j hj
  · simp only [sM, sG, upn] at hm' ⊢
    by_cases e : j = k
    · subst e
      rw [if_pos rfl] at hm'
      rw [if_neg (by omega)]; exact o7 j i hi (by omega)
    · rw [if_neg e] at hm'
      rw [if_neg (by omega)]; exact o7 j i hi hm'
theorem shf_G {c : zCf} {k j : Nat} : (shf c k).2.2.1 j = if j = 3 * k + 2 then 0 else if j = 3 * k + 1 then c.2.2.1 (3 * k + 2) else if j = 3 * k then c.2.2.1 (3 * k + 1) else c.2.2.1 j := rfl
theorem WC_shf {d : zD} {Q : zQ} {c : zCf} {k : Nat} (h : WC d Q c) (hk : k < d.2.2.1) (hm : 0 < c.2.1 k) : WC d Q (shf c k) := by
  obtain ⟨⟨o1, o2, o3, o4, o5, o6, o7, o8, o9, o10⟩, h2⟩ := h
  refine ⟨⟨o1, o2, fun j => ?_, fun j hj => ?_, fun j => ?_, fun j hj => ?_, fun j i hi hm' => ?_, o8, o9, o10⟩, h2⟩
  · simp only [shf, sM, sG, upn]; split
    · have := o3 k; omega
    · exact o3 j
  · have : ¬ j = k := by omega
    simp only [shf, sM, sG, upn, if_neg this]; exact o4 j hj
  · rw [shf_G]; split
    · omega
    · split
      · exact o5 _
      · split
        · exact o5 _
        · exact o5 _
  · rw [shf_G, if_neg (by omega), if_neg (by omega), if_neg (by omega)]; exact o6 j hj
  · have hM : (shf c k).2.1 j = if j = k then c.2.1 k - 1 else c.2.1 j := rfl
    rw [hM] at hm'
    rw [shf_G]
    by_cases e : j = k
    · subst e
      rw [if_pos rfl] at hm'
      by_cases e2 : i = 2
      · rw [if_pos (by omega)]
      · by_cases e1 : i = 1
        · rw [if_neg (by omega), if_pos (by omega)]; exact o7 j 2 (by omega) (by omega)
        · rw [if_neg (by omega), if_neg (by omega), if_pos (by omega)]; exact o7 j 1 (by omega) (by omega)
    · rw [if_neg e] at hm'
      rw [if_neg (by omega), if_neg (by omega), if_neg (by omega)]; exact o7 j i hi hm'
theorem WC_go {d : zD} {Q : zQ} {c : zCf} {b : Nat} (hW : QW d Q) (h : WC d Q c) (hb : b < qN Q) : WC d Q (go1 Q c b) := by
  obtain ⟨w1, w2, w3, _⟩ := hW.2.2.1 b hb
  refine WC_sH (WC_sS h w2 w3) ?_
  split
  · omega
  · exact h.1.2.2.2.2.2.2.2.2.2
theorem WC_act {d : zD} {Q : zQ} {c : zCf} {b : Nat} {r : Option Nat} (hW : QW d Q) (h : WC d Q c) (hd : dn Q c b r) : WC d Q (act d Q c b r) := by
  cases r with
  | none =>
    obtain ⟨hb, d2, d3⟩ := hd
    obtain ⟨w1, w2, w3, w4, w5, w6⟩ := hW.2.2.1 b hb
    refine WC_go hW (WC_sH ?_ (by omega)) hb
    simp only [efc]
    split
    · rename_i g; exact WC_sV h (w5 (Or.inl g)) (vl_ok h.1 (w6 (by omega)).1).1
    · split
      · rename_i g; exact WC_put h (w4 (Or.inl g)) (d2 g) (vl_ok h.1 (w6 (by omega)).1).1
      · split
        · rename_i g; exact WC_sV (WC_shf h (w4 (Or.inr g)) (d3 g)) (w5 (Or.inr g)) (h.1.2.2.2.2.1 _)
        · exact h
  | some r =>
    obtain ⟨hb, hr, d2, d3⟩ := hd
    exact WC_go hW (WC_go hW (WC_sH (WC_sV h ((hW.2.2.1 r hr).2.2.2.2.1 (Or.inr d3)) (vl_ok h.1 ((hW.2.2.1 b hb).2.2.2.2.2 (by omega)).1).1) (by omega)) hb) hr
theorem CS_sV {d : zD} {c : zCf} {v x : Nat} {y : Int32} (hN : NC d) (hS : CS d c I B) (hv : v < d.2.1) (hy : y = nI x) : CS d (sV c v x) I (va_up B 29 (upd (B 29) (xv d v) y)) := by
  obtain ⟨s1, s2, s3, s4, s5⟩ := hS
  refine ⟨fun j hj => ?_, fun k hk => ?_, fun k hk i hi => by simpa [va_up, sV] using s3 k hk i hi, fun p hp => by simpa [va_up, sV] using s4 p hp, s5⟩
  · by_cases e : j = v
    · subst e; simp [va_up, upd, sV, upn, hy]
    · have : ¬ xv d j = xv d v := fun q => e (hN.vi hj hv q)
      simp [va_up, upd, sV, upn, this, e]; exact s1 j hj
  · have : ¬ xc d k = xv d v := fun q => hN.vc hv hk q.symm
    simp [va_up, upd, sV, this]; exact s2 k hk
theorem CS_sM {d : zD} {c : zCf} {v x : Nat} {y : Int32} (hN : NC d) (hS : CS d c I B) (hv : v < d.2.2.1) (hy : y = nI x) : CS d (sM c v x) I (va_up B 29 (upd (B 29) (xc d v) y)) := by
  obtain ⟨s1, s2, s3, s4, s5⟩ := hS
  refine ⟨fun j hj => ?_, fun k hk => ?_, fun k hk i hi => by simpa [va_up, sM] using s3 k hk i hi, fun p hp => by simpa [va_up, sM] using s4 p hp, s5⟩
  · have : ¬ xv d j = xc d v := fun q => hN.vc hj hv q
    simp [va_up, upd, sM, this]; exact s1 j hj
  · by_cases e : k = v
    · subst e; simp [va_up, upd, sM, upn, hy]
    · have : ¬ xc d k = xc d v := fun q => e (hN.ci hk hv q)
      simp [va_up, upd, sM, upn, this, e]; exact s2 k hk
theorem CS_sG {d : zD} {c : zCf} {v i x : Nat} {y : Int32} (hN : NC d) (hS : CS d c I B) (hv : v < d.2.2.1) (hi : i < 3) (hy : y = nI x) : CS d (sG c (3 * v + i) x) I (va_up B 30 (upd (B 30) (3 * xc d v + i) y)) := by
  obtain ⟨s1, s2, s3, s4, s5⟩ := hS
  refine ⟨fun j hj => by simpa [va_up, sG] using s1 j hj, fun k hk => by simpa [va_up, sG] using s2 k hk, fun k hk i' hi' => ?_, fun p hp => by simpa [va_up, sG] using s4 p hp, s5⟩
  by_cases e : k = v
  · subst e
    by_cases e2 : i' = i
    · subst e2; simp [va_up, upd, sG, upn, hy]
    · have : ¬ 3 * xc d k + i' = 3 * xc d k + i := by omega
      have t : ¬ 3 * k + i' = 3 * k + i := by omega
      simp only [va_up, upd, sG, upn, if_neg this, if_neg t, if_true]; exact s3 k hk i' hi'
  · have q : ¬ xc d k = xc d v := fun q => e (hN.ci hk hv q)
    have : ¬ 3 * xc d k + i' = 3 * xc d v + i := by omega
    have t : ¬ 3 * k + i' = 3 * v + i := by omega
    simp only [va_up, upd, sG, upn, if_neg this, if_neg t, if_true]; exact s3 k hk i' hi'
theorem CS_sS {d : zD} {c : zCf} {p x : Nat} {y : Int32} (hS : CS d c I B) (hy : y = nI x) : CS d (sS c p x) I (va_up B 31 (upd (B 31) p y)) := by
  obtain ⟨s1, s2, s3, s4, s5⟩ := hS
  refine ⟨fun j hj => by simpa [va_up, sS] using s1 j hj, fun k hk => by simpa [va_up, sS] using s2 k hk, fun k hk i hi => by simpa [va_up, sS] using s3 k hk i hi, fun q hq => ?_, s5⟩
  by_cases e : q = p
  · subst e; simp [va_up, upd, sS, upn, hy]
  · simp [va_up, upd, sS, upn, e]; exact s4 q hq
theorem CS_sH {d : zD} {c : zCf} {x : Nat} {y : Int32} (hS : CS d c I B) (hy : y + 1 = nI x) : CS d (sH c x) (upd I 18 y) B := by
  obtain ⟨s1, s2, s3, s4, s5⟩ := hS
  exact ⟨s1, s2, s3, s4, by simpa [upd, sH] using hy⟩
theorem q_passOn {Post : (Nat → Int32) → (Nat → Int64) → (Nat → Nat → Int32) → (Nat → Nat → Int64) → Prop} {d : zD} {Q : zQ} {c : zCf} {b : Nat} (hW : QW d Q) (hP : PC d Q I J B D) (hS : CS d c I B) (hb : b < qN Q) (h : ∀ I' B', CS d (go1 Q c b) I' B' → (∀ k, k ≠ 18 → I' k = I k) → (∀ k, k ≠ 31 → B' k = B k) → Post I' J B' D) : wp_Situation_passOn I J B D (nI b) Post := by
  have hN48 := hW.2.1
  have hP4 := hW.1
  obtain ⟨w1, w2, w3, w4, w5, w6⟩ := hW.2.2.1 b hb
  obtain ⟨hX, p3, p10, p9, ⟨L, hL, hL8, hq⟩, hJ0, hD0, hD1, h13⟩ := hP
  obtain ⟨b6, b10, b11, b12, b7, b8, b9, b9'⟩ := hq b hb
  have vb : vp_in (nI b) 48 := vin2 rfl (by omega) (by omega)
  have cb : (nI b).toNatClampNeg = b := clI rfl (by omega)
  refine ⟨vb, fun z1 e1 => ⟨vb, fun z2 e2 => ?_⟩⟩
  rw [cb, b10] at e1
  rw [cb, b11] at e2
  refine ⟨vin2 e1 (by omega) (by omega), vb, fun z3 e3 => ?_⟩
  rw [cb, b12] at e3
  have hB : ∀ k, k ≠ 31 → va_up B 31 (upd (B 31) z1.toNatClampNeg z2) k = B k := fun k hk => by simp [va_up, hk]
  have s1 : CS d (sS c (qA Q b) (qF Q b)) I (va_up B 31 (upd (B 31) z1.toNatClampNeg z2)) := by
    rw [clI e1 (by omega)]; exact CS_sS hS e2
  refine ⟨fun g => h _ _ ?_ (fun _ _ => rfl) hB, fun g => h _ _ ?_ (fun k hk => by simp [upd, hk]) hB⟩
  · have hf : ¬ qH Q b = true := fun e => by rw [if_pos e] at e3; rw [e3] at g; exact absurd g (by decide)
    unfold go1; rw [if_neg hf]
    exact s1
  · have hf : qH Q b = true := by
      cases e : qH Q b
      · rw [if_neg (by rw [e]; decide)] at e3; exact absurd e3 g
      · rfl
    unfold go1; rw [if_pos hf]
    exact CS_sH s1 (by rw [e1, nI_1])
end ZK1
