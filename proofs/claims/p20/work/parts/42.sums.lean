/-! the weights as numbers; how many answers there are at most; answers that are added -/
section SUMS
variable {c : Nm} {a b l s t n : Nat} {f : Nat → Int}
theorem sum_const {α : Type} (k : Nat) : ∀ L : List α, (L.map fun _ => k).sum = L.length * k
  | [] => by simp
  | x :: L => by
    have ih := sum_const k L
    show k + (L.map fun _ => k).sum = (L.length + 1) * k
    rw [ih, Nat.succ_mul]; omega
theorem rst_len : (rst c s f t n).length = n - t := by unfold rst; rw [List.length_map, List.length_range']
theorem wt_1 : wt c a b l 1 f = a + (f 0 + 3).toNat * (b + 2 * l) := by
  show a + ((rst c 2 f 0 (nch c 2 f)).map fun _ => b + 2 * l).sum = _
  rw [sum_const, rst_len]; rfl
theorem wt_2 : wt c a b l 2 f = a + 3 * (b + (a + (f 0 + 3).toNat * (b + 2 * l))) := by
  show a + ((rst c 1 f 0 3).map fun g => b + wt c a b l 1 g).sum = _
  rw [rst_cons (by omega), rst_cons (by omega), rst_cons (by omega), rst_nil (by omega)]
  simp only [List.map_cons, List.map_nil, List.sum_cons, List.sum_nil, wt_1]
  rw [fup_ne (by decide), fup_ne (by decide), fup_ne (by decide)]
  omega
theorem wt_3 : wt c a b l 3 f0 = a + ((List.range' 0 (nmQ c - nmP c + 1).toNat).map fun k : Nat => b + (a + 3 * (b + (a + (nmP c + k + 3).toNat * (b + 2 * l))))).sum := by
  show a + ((rst c 0 f0 0 (nmQ c - nmP c + 1).toNat).map fun g => b + wt c a b l 2 g).sum = _
  unfold rst
  rw [List.map_map, Nat.sub_zero]
  congr 2
  refine List.map_congr_left fun k _ => ?_
  show b + wt c a b l 2 (fup f0 0 (cval c 0 k)) = _
  rw [wt_2, fup_self]
  rfl
theorem an_len : ∀ (r : Nat) (f : Nat → Int), 2 * (an c r f).length ≤ wt c 0 0 1 r f
  | 0, f => by
    show 2 * (if qTest c f = true then [(f 0, f 1, f 2)] else []).length ≤ 2 * 1
    split <;> simp
  | r + 1, f => by
    have key : ∀ L : List (Nat → Int), 2 * (L.flatMap (an c r)).length ≤ (L.map fun g => 0 + wt c 0 0 1 r g).sum := fun L => by
      induction L with
      | nil => simp
      | cons x L ih =>
        have h1 := an_len r x
        rw [List.flatMap_cons, List.length_append, List.map_cons, List.sum_cons]
        omega
    show 2 * ((rst c (2 - r) f 0 (nch c (2 - r) f)).flatMap (an c r)).length ≤ 0 + ((rst c (2 - r) f 0 (nch c (2 - r) f)).map fun g => 0 + wt c 0 0 1 r g).sum
    have := key (rst c (2 - r) f 0 (nch c (2 - r) f))
    omega
theorem wt_b (hB : NmB c) : wt c 1 1 1 3 f0 ≤ 249 ∧ wt c 1 0 0 3 f0 ≤ 17 ∧ wt c 0 0 1 3 f0 ≤ 108 := by
  obtain ⟨h1, h2, -⟩ := hB
  rw [wt_3, wt_3, wt_3]
  have hn : (nmQ c - nmP c + 1).toNat = 0 ∨ (nmQ c - nmP c + 1).toNat = 1 ∨ (nmQ c - nmP c + 1).toNat = 2 ∨ (nmQ c - nmP c + 1).toNat = 3 ∨ (nmQ c - nmP c + 1).toNat = 4 := by omega
  rcases hn with e | e | e | e | e
  all_goals
    rw [e]
    simp only [List.range', List.map_cons, List.map_nil, List.sum_cons, List.sum_nil]
    refine ⟨?_, ?_, ?_⟩ <;> omega
theorem AL_len (hB : NmB c) : (AL c).length ≤ 54 := by
  have h1 := an_len (c := c) 3 f0
  have h2 := (wt_b hB).2.2
  unfold AL
  omega
/-- answers -/
def aT (A : An) (i : Nat) : T3 := (aField A i 0, aField A i 1, aField A i 2)
def aL (A : An) : List T3 := (List.range A.2.toNat).map (aT A)
def aOK (A : An) : Prop := 0 ≤ A.2 ∧ ∀ i : Nat, (i : Int) < A.2 → aField A i 8 = 3 ∧ aField A i 10 = aField A i 0 * aField A i 1 - aField A i 2 ∧ ∀ k : Nat, 3 ≤ k → k < 8 → aField A i k = 0
theorem aF_old {A : An} {r : Nat → Int} {i : Nat} {k : Int} (hi : (i : Int) < A.2) (h60 : A.2 < 60) (h0 : 0 ≤ k) (hk : k < 12) : aField (aAdd A r) i k = aField A i k := by
  unfold aField
  rw [if_pos (by omega), if_pos (by omega)]
  show aFill A r 12 _ = _
  unfold aFill
  rw [if_neg (by omega)]
theorem aF_new {A : An} {r : Nat → Int} {i : Nat} {k : Int} (hi : (i : Int) = A.2) (h60 : A.2 < 60) (h0 : 0 ≤ k) (hk : k < 12) : aField (aAdd A r) i k = r k.toNat := by
  unfold aField
  rw [if_pos (by omega)]
  show aFill A r 12 _ = _
  unfold aFill
  rw [if_pos (by omega), show ((i : Int) * 12 + k).toNat - A.2.toNat * 12 = k.toNat by omega]
theorem aL_add {A : An} {r : Nat → Int} (h0 : 0 ≤ A.2) (h60 : A.2 < 60) : aL (aAdd A r) = aL A ++ [(r 0, r 1, r 2)] := by
  unfold aL
  have e : (aAdd A r).2.toNat = A.2.toNat + 1 := by show (A.2 + 1).toNat = _; omega
  have t1 : (List.range A.2.toNat).map (aT (aAdd A r)) = (List.range A.2.toNat).map (aT A) := by
    refine List.map_congr_left fun i hi => ?_
    have hi' := List.mem_range.mp hi
    unfold aT
    rw [aF_old (A := A) (r := r) (i := i) (k := 0) (by omega) h60 (by decide) (by decide), aF_old (A := A) (r := r) (i := i) (k := 1) (by omega) h60 (by decide) (by decide), aF_old (A := A) (r := r) (i := i) (k := 2) (by omega) h60 (by decide) (by decide)]
  have t2 : aT (aAdd A r) A.2.toNat = (r 0, r 1, r 2) := by
    unfold aT
    rw [aF_new (A := A) (r := r) (i := A.2.toNat) (k := 0) (by omega) h60 (by decide) (by decide), aF_new (A := A) (r := r) (i := A.2.toNat) (k := 1) (by omega) h60 (by decide) (by decide), aF_new (A := A) (r := r) (i := A.2.toNat) (k := 2) (by omega) h60 (by decide) (by decide)]
    rfl
  rw [e, List.range_succ, List.map_append, t1, List.map_cons, List.map_nil, t2]
theorem aOK_add {A : An} {r : Nat → Int} (h : aOK A) (h60 : A.2 < 60) (h8 : r 8 = 3) (h10 : r 10 = r 0 * r 1 - r 2) (h3 : ∀ k : Nat, 3 ≤ k → k < 8 → r k = 0) : aOK (aAdd A r) := by
  refine ⟨by show 0 ≤ A.2 + 1; have := h.1; omega, fun i hi => ?_⟩
  have hi : (i : Int) < A.2 + 1 := hi
  by_cases q : (i : Int) < A.2
  · have o := h.2 i q
    rw [aF_old (k := 8) q h60 (by decide) (by decide), aF_old (k := 10) q h60 (by decide) (by decide), aF_old (k := 0) q h60 (by decide) (by decide), aF_old (k := 1) q h60 (by decide) (by decide), aF_old (k := 2) q h60 (by decide) (by decide)]
    exact ⟨o.1, o.2.1, fun k hk1 hk2 => by rw [aF_old (k := (k : Int)) q h60 (by omega) (by omega)]; exact o.2.2 k hk1 hk2⟩
  · have q : (i : Int) = A.2 := by omega
    rw [aF_new (k := 8) q h60 (by decide) (by decide), aF_new (k := 10) q h60 (by decide) (by decide), aF_new (k := 0) q h60 (by decide) (by decide), aF_new (k := 1) q h60 (by decide) (by decide), aF_new (k := 2) q h60 (by decide) (by decide)]
    exact ⟨h8, h10, fun k hk1 hk2 => by rw [aF_new (k := (k : Int)) q h60 (by omega) (by omega), Int.toNat_natCast]; exact h3 k hk1 hk2⟩
end SUMS
