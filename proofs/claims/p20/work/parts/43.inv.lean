/-! what holds while the search goes; its begin -/
def stL (st : Int) (S : Sr) : Int := if st = 5 then sC S 9 else 3
/-- more than the moves that are still to come -/
def cst (c : Nm) (st : Int) (S : Sr) : Nat := zW c 1 1 1 S + (if st = 5 then (3 - (sC S 9).toNat) * 250 else 0)
def Rl (st : Int) (a b : List T3) : Prop := a.Perm b ∧ (st = 0 ∨ st = 5 → a = b)
def Iv1 (c : Nm) (st : Int) (S : Sr) : Prop := (∀ i, wB (S.1 i)) ∧ (sC S 11 = 0 ∧ S.2.2.1 = [] ∧ sC S 7 = 1 ∧ sC S 8 = st) ∧ (0 ≤ sC S 13 ∧ sC S 13 ≤ 2000) ∧ (sC S 12 = 0 ∨ (sC S 12 = 1 ∧ okW c (S.1 0) ∧ (S.1 0).1 5 ≤ stL st S)) ∧ (∀ p ∈ S.2.1, okP c p ∧ p.1.1 5 < stL st S) ∧ (0 ≤ sC S 9 ∧ sC S 9 ≤ 3 ∧ (st ≠ 5 → sC S 9 = 0))
def Iv2 (c : Nm) (st : Int) (S : Sr) : Prop := aOK (sQ S) ∧ ((stL st S < 3 ∧ (sQ S).2 = 0 ∧ (sC S 10 ≠ 0 ∨ zA c S = AL c)) ∨ (stL st S = 3 ∧ sC S 10 = 0 ∧ Rl st (aL (sQ S) ++ zA c S) (AL c)))
def Iv3 (c : Nm) (st : Int) (S : Sr) : Prop := (∀ k, k ≠ 2 → k ≠ 4 → k ≠ 5 → k ≠ 6 → k ≠ 8 → sT S k = 0) ∧ (0 ≤ sT S 2 ∧ 0 ≤ sT S 4 ∧ 0 ≤ sT S 5 ∧ 0 ≤ sT S 6 ∧ 0 ≤ sT S 8) ∧ (sT S 2 + cst c st S ≤ 1000 ∧ sT S 8 + 8 * cst c st S ≤ 8000 ∧ sT S 5 + cst c st S ≤ 1000 ∧ sT S 6 + cst c st S ≤ 1000) ∧ (sT S 4 ≤ sT S 5 ∧ (S.2.1.length : Int) ≤ sT S 5) ∧ S.2.1.length + zW c 1 0 0 S ≤ 17 ∧ (st ≠ 5 → sT S 6 + zW c 0 1 0 S = wt c 0 1 0 3 f0)
def Iv (c : Nm) (st : Int) (S : Sr) : Prop := Iv1 c st S ∧ Iv2 c st S ∧ Iv3 c st S
/-- a good move: what it adds to the answers -/
def Gd (c : Nm) (st : Int) (S S' : Sr) (e : Int) : Prop := Iv c st S' ∧ cst c st S' + 1 ≤ cst c st S ∧ (sQ S').2 = (sQ S).2 + e ∧ sT S' 2 + sC S' 13 = sT S 2 + sC S 13 ∧ sC S 13 ≤ sC S' 13 + 1 ∧ sT S 2 ≤ sT S' 2
section INV
variable {c : Nm} {st : Int} {P : Pg} {S S' : Sr} {a b l : Nat}
theorem zW_off (h : sC S 12 = 0) : zW c a b l S = rW c a b l S.2.1 := by unfold zW; rw [if_pos h, Nat.zero_add]
theorem zW_on (h : sC S 12 = 1) : zW c a b l S = wWt c a b l (S.1 0) + rW c a b l S.2.1 := by unfold zW; rw [if_neg (by rw [h]; decide)]
theorem zA_off (h : sC S 12 = 0) : zA c S = S.2.1.reverse.flatMap (pA c) := by unfold zA; rw [if_pos h]; rfl
theorem zA_on (h : sC S 12 = 1) : zA c S = wA c (S.1 0) ++ S.2.1.reverse.flatMap (pA c) := by unfold zA; rw [if_neg (by rw [h]; decide)]
theorem aL_len {A : An} : (aL A).length = A.2.toNat := by unfold aL; rw [List.length_map, List.length_range]
theorem Iv2.n54 (hB : NmB c) (h : Iv2 c st S) : 0 ≤ (sQ S).2 ∧ (sQ S).2 + (if stL st S = 3 then ((zA c S).length : Int) else 0) ≤ 54 := by
  have h0 := h.1.1
  refine ⟨h0, ?_⟩
  rcases h.2 with ⟨q1, q2, -⟩ | ⟨q1, -, q3⟩
  · rw [if_neg (by omega)]; omega
  · rw [if_pos q1]
    have e := q3.1.length_eq
    have := AL_len hB
    rw [List.length_append, aL_len] at e
    omega
theorem Iv.sb (hP : PF c P) (hB : NmB c) (h : Iv c st S) : SB P S ∧ (0 < sC S 13 → SB P (xSpend S)) := by
  obtain ⟨⟨i1, ⟨i2, i3, i4, i5⟩, i6, i7, i8, i9⟩, h2, ⟨t1, t2, t3, t4, t5, -⟩⟩ := h
  have hn := h2.n54 hB
  have hn60 : 0 ≤ (sQ S).2 ∧ (sQ S).2 ≤ 60 := by
    refine ⟨hn.1, ?_⟩
    have := hn.2
    split at this <;> omega
  have hl : S.2.1.length ≤ 30 := by omega
  have hin : S.2.2.1.length ≤ 30 := by rw [i3]; decide
  have ht : ∀ k, 0 ≤ sT S k ∧ sT S k + (if k = 2 then 1 else 0) ≤ 100000000 := fun k => by
    by_cases k2 : k = 2
    · subst k2; rw [if_pos rfl]; omega
    · rw [if_neg k2]
      by_cases k4 : k = 4
      · subst k4; omega
      · by_cases k5 : k = 5
        · subst k5; omega
        · by_cases k6 : k = 6
          · subst k6; omega
          · by_cases k8 : k = 8
            · subst k8; omega
            · rw [t1 k k2 k4 k5 k6 k8]; omega
  have hbs : ∀ k, 1 ≤ k → k ≤ (sC S 11).toNat → 0 ≤ sB S k ∧ sB S k ≤ S.2.2.1.length := fun k k1 k2 => by rw [i2] at k2; exact absurd k2 (by show ¬ k ≤ 0; omega)
  have hpB : ∀ p ∈ S.2.1, pB P p := fun p hp => (i8 p hp).1.pB hP hB
  have hpN : ∀ p ∈ S.2.2.1, pB P p := fun p hp => by rw [i3] at hp; cases hp
  refine ⟨⟨i1, hpB, hpN, hl, hin, fun k => ?_, by omega, by omega, i6, hn60, hbs⟩, fun hb => ⟨i1, hpB, hpN, hl, hin, fun k => ?_, by show 0 ≤ sC S 11 ∧ sC S 11 ≤ 6; omega, by show 0 ≤ sC S 9 ∧ sC S 9 ≤ 100000000; omega, by show 0 ≤ sC S 13 - 1 ∧ sC S 13 - 1 ≤ 2000; omega, hn60, hbs⟩⟩
  · have := ht k
    split at this <;> omega
  · show 0 ≤ fup S.2.2.2.2.1 2 (sT S 2 + 1) k ∧ fup S.2.2.2.2.1 2 (sT S 2 + 1) k ≤ 100000000
    by_cases k2 : k = 2
    · subst k2
      rw [fup_self]
      have := ht 2
      rw [if_pos rfl] at this
      omega
    · rw [fup_ne k2]
      have := ht k
      rw [if_neg k2] at this
      show 0 ≤ sT S k ∧ sT S k ≤ 100000000
      omega
/-- the tallies behind a move -/
theorem Iv3_mk (h : Iv3 c st S) (h9 : sC S' 9 = sC S 9) (hc : zW c 1 1 1 S' + 1 ≤ zW c 1 1 1 S) (t0 : ∀ k, k ≠ 2 → k ≠ 4 → k ≠ 5 → k ≠ 6 → k ≠ 8 → sT S' k = sT S k) (t2 : sT S 2 ≤ sT S' 2 ∧ sT S' 2 ≤ sT S 2 + 1) (t5 : sT S 5 ≤ sT S' 5 ∧ sT S' 5 ≤ sT S 5 + 1) (t6 : sT S 6 ≤ sT S' 6 ∧ sT S' 6 ≤ sT S 6 + 1) (t8 : sT S 8 ≤ sT S' 8 ∧ sT S' 8 ≤ sT S 8 + 8) (t4 : 0 ≤ sT S' 4 ∧ sT S' 4 ≤ sT S' 5) (hl : (S'.2.1.length : Int) ≤ sT S' 5) (hm : S'.2.1.length + zW c 1 0 0 S' ≤ S.2.1.length + zW c 1 0 0 S) (hk : st ≠ 5 → sT S' 6 + zW c 0 1 0 S' = sT S 6 + zW c 0 1 0 S) : Iv3 c st S' ∧ cst c st S' + 1 ≤ cst c st S := by
  obtain ⟨a1, a2, a3, a4, a5, a6⟩ := h
  have e : cst c st S' + 1 ≤ cst c st S := by
    unfold cst
    rw [h9]
    omega
  refine ⟨⟨fun k k2 k4 k5 k6 k8 => by rw [t0 k k2 k4 k5 k6 k8]; exact a1 k k2 k4 k5 k6 k8, ⟨by omega, by omega, by omega, by omega, by omega⟩, ⟨by omega, by omega, by omega, by omega⟩, ⟨by omega, hl⟩, by omega, fun q => ?_⟩, e⟩
  rw [hk q]
  exact a6 q
theorem Shp_start {w : Wy} (h : wB w) : Shp c 0 0 (wStart w) ∧ (wStart w).2.1 = f0 := by
  have e : wStart w = (fup (fup (fup (fup w.1 3 0) 4 (-1)) 5 0) 6 0, fun _ => 0, fup w.2.2.1 0 0, w.2.2.2.1, fun _ => false) := by
    unfold wStart wSetMark
    rw [if_pos (by decide)]
    rfl
  rw [e]
  refine ⟨⟨⟨rfl, rfl, rfl⟩, ⟨by show (0 : Int) ≤ 0; omega, by show (0 : Int) ≤ 0; omega⟩, ⟨fun _ => by show (-999 : Int) ≤ 0 ∧ (0 : Int) ≤ 999; omega, by show (0 : Int) ≤ 0 ∧ (0 : Int) ≤ 100000000; omega, by show (0 : Int) ≤ 0 ∧ (0 : Int) ≤ 100000000; omega, h.2.2.2⟩, fun _ _ => rfl, fun q => absurd q (by omega), fun q => absurd q (by omega), fun q => absurd q (by omega)⟩, rfl⟩
/-- from its begin -/
theorem Iv_start {w : Wy} (hB : NmB c) (hw : wB w) (hi : ∀ i, wB (S.1 i)) (h0 : S.1 0 = wStart w) (hl : S.2.1 = []) (hn : S.2.2.1 = []) (h7 : sC S 7 = 1) (h8 : sC S 8 = st) (h9 : sC S 9 = 0) (h10 : sC S 10 = 0) (h11 : sC S 11 = 0) (h12 : sC S 12 = 1) (h13 : 0 ≤ sC S 13 ∧ sC S 13 ≤ 2000) (hA : (sQ S).2 = 0) (ht : ∀ k, sT S k = 0) : Iv c st S := by
  obtain ⟨s1, s2⟩ := Shp_start (c := c) hw
  have e5 : (wStart w).1 5 = 0 := s1.1.2.2
  have eL : 0 ≤ stL st S := by unfold stL; split <;> omega
  have eA : zA c S = AL c := by
    rw [zA_on h12, hl, h0, wA, wR, e5, s2]
    show an c 3 f0 ++ [] = _
    rw [List.append_nil]; rfl
  have eW : ∀ a b l, zW c a b l S = wt c a b l 3 f0 := fun a b l => by
    rw [zW_on h12, hl, h0, wWt, if_neg (by rw [s1.1.1]; decide), wR, e5, s2]
    rfl
  have eaL : aL (sQ S) = [] := by unfold aL; rw [hA]; rfl
  obtain ⟨b1, b2, -⟩ := wt_b hB
  refine ⟨⟨hi, ⟨h11, hn, h7, h8⟩, h13, Or.inr ⟨h12, Or.inl ⟨0, by omega, by rw [h0]; exact s1⟩, by rw [h0, e5]; exact eL⟩, fun p hp => (by rw [hl] at hp; cases hp), by omega, by omega, fun _ => h9⟩, ⟨⟨by omega, fun i hi => by omega⟩, ?_⟩, fun k _ _ _ _ _ => ht k, ⟨by rw [ht]; omega, by rw [ht]; omega, by rw [ht]; omega, by rw [ht]; omega, by rw [ht]; omega⟩, ?_, ⟨by rw [ht, ht]; omega, by rw [ht, hl]; exact Int.le_refl 0⟩, by rw [hl, eW]; show 0 + _ ≤ 17; omega, fun _ => by rw [ht, eW]; omega⟩
  · by_cases q : st = 5
    · refine Or.inl ⟨by unfold stL; rw [if_pos q]; omega, hA, Or.inr eA⟩
    · refine Or.inr ⟨by unfold stL; rw [if_neg q], h10, ?_⟩
      rw [eaL, eA, List.nil_append]
      exact ⟨List.Perm.refl _, fun _ => rfl⟩
  · have : cst c st S ≤ 999 := by
      unfold cst
      rw [eW, h9]
      split
      · show _ + (3 - 0) * 250 ≤ 999; omega
      · omega
    rw [ht, ht, ht, ht]
    omega
end INV
