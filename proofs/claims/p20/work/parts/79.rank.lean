/-! answers in order: every place is taken -/
section RANKS
theorem pig : ∀ (n : Nat) (f : Nat → Nat), (∀ i, i < n → f i < n) → (∀ i j, i < n → j < n → f i = f j → i = j) → ∀ y, y < n → ∃ x, x < n ∧ f x = y
  | 0, f, h1, h2, y, hy => absurd hy (by omega)
  | n + 1, f, h1, h2, y, hy => by
    have hm := h1 n (by omega)
    by_cases c : y = f n
    · exact ⟨n, by omega, c.symm⟩
    have ih := pig n (fun i => if f i = n then f n else f i) (fun i hi => by
      have a := h1 i (by omega)
      have b : f i ≠ f n := fun q => by have := h2 i n (by omega) (by omega) q; omega
      try dsimp only
      split <;> omega) (fun i j hi hj q => by
      have a : f i ≠ f n := fun q => by have := h2 i n (by omega) (by omega) q; omega
      have b : f j ≠ f n := fun q => by have := h2 j n (by omega) (by omega) q; omega
      try dsimp only at q
      by_cases c1 : f i = n
      · by_cases c2 : f j = n
        · exact h2 i j (by omega) (by omega) (by omega)
        · rw [if_pos c1, if_neg c2] at q; omega
      · by_cases c2 : f j = n
        · rw [if_neg c1, if_pos c2] at q; omega
        · rw [if_neg c1, if_neg c2] at q; exact h2 i j (by omega) (by omega) q)
    by_cases c2 : y = n
    · obtain ⟨x, x1, x2⟩ := ih (f n) (by omega)
      try dsimp only at x2
      by_cases c3 : f x = n
      · exact ⟨x, by omega, by omega⟩
      · rw [if_neg c3] at x2
        have := h2 x n (by omega) (by omega) x2
        omega
    · obtain ⟨x, x1, x2⟩ := ih y (by omega)
      try dsimp only at x2
      by_cases c3 : f x = n
      · rw [if_pos c3] at x2; omega
      · rw [if_neg c3] at x2; exact ⟨x, by omega, x2⟩
/-- one answer stands before another -/
def aBef (A : An) (i j : Nat) : Prop := aField A i 10 < aField A j 10 ∨ (aField A i 10 = aField A j 10 ∧ (i : Int) < j)
theorem aRank_lt (A : An) {i j : Nat} (h : aBef A i j) : ∀ n, aRank A i n ≤ aRank A j n ∧ (i < n → aRank A i n < aRank A j n)
  | 0 => ⟨Int.le_refl _, fun q => absurd q (by omega)⟩
  | n + 1 => by
    obtain ⟨h1, h2⟩ := aRank_lt A h n
    unfold aBef at h
    rw [aRank, aRank]
    by_cases c : i = n
    · subst c
      rw [if_neg (by omega), if_pos h]
      omega
    · by_cases a : aField A n 10 < aField A i 10 ∨ (aField A n 10 = aField A i 10 ∧ (n : Int) < i)
      · rw [if_pos a, if_pos (by omega)]
        omega
      · rw [if_neg a]
        split <;> omega
theorem aRank_top (A : An) {i : Nat} : ∀ n, i < n → aRank A i n + 1 ≤ n
  | 0, q => absurd q (by omega)
  | n + 1, q => by
    have h0 := aRank_le A i n
    rw [aRank]
    by_cases c : i = n
    · subst c
      rw [if_neg (by omega)]
      omega
    · have := aRank_top A (i := i) n (by omega)
      split <;> omega
theorem aRank_inj (A : An) {i j n : Nat} (hi : i < n) (hj : j < n) (e : aRank A i n = aRank A j n) : i = j := by
  by_cases c : i = j
  · exact c
  by_cases a : aBef A i j
  · have := (aRank_lt A a n).2 hi; omega
  · have b : aBef A j i := by unfold aBef at *; omega
    have := (aRank_lt A b n).2 hj; omega
theorem aRanked_some (A : An) (p : Int) : ∀ (j n : Nat), (∃ x : Nat, n ≤ x ∧ x < n + j ∧ aRank A x A.2.toNat = p) → aRanked A p j n ≠ -1
  | 0, n, ⟨x, x1, x2, _⟩ => absurd x2 (by omega)
  | j + 1, n, ⟨x, x1, x2, x3⟩ => by
    rw [aRanked]
    split
    · omega
    · rename_i c
      refine aRanked_some A p j (n + 1) ⟨x, ?_, by omega, x3⟩
      by_cases c2 : x = n
      · subst c2; exact absurd x3 c
      · omega
theorem aRanked_none (A : An) (p : Int) : ∀ (j n : Nat), (∀ x : Nat, n ≤ x → x < n + j → aRank A x A.2.toNat ≠ p) → aRanked A p j n = -1
  | 0, n, h => rfl
  | j + 1, n, h => by
    rw [aRanked, if_neg (h n (by omega) (by omega))]
    exact aRanked_none A p j (n + 1) fun x x1 x2 => h x (by omega) (by omega)
theorem aRanked_in {A : An} {p : Int} (h0 : 0 ≤ p) (h1 : p < A.2) : aRanked A p A.2.toNat 0 ≠ -1 := by
  obtain ⟨x, x1, x2⟩ := pig A.2.toNat (fun i => (aRank A i A.2.toNat).toNat) (fun i hi => by
    have a := aRank_top A (i := i) A.2.toNat hi
    have b := aRank_le A i A.2.toNat
    try dsimp only
    omega) (fun i j hi hj q => by
    have b := aRank_le A i A.2.toNat
    have b' := aRank_le A j A.2.toNat
    try dsimp only at q
    exact aRank_inj A hi hj (by omega)) p.toNat (by omega)
  have b := aRank_le A x A.2.toNat
  try dsimp only at x2
  exact aRanked_some A p _ 0 ⟨x, by omega, by omega, by omega⟩
theorem aRanked_out {A : An} {p : Int} (h0 : 0 ≤ A.2) (h1 : A.2 ≤ p) : aRanked A p A.2.toNat 0 = -1 :=
  aRanked_none A p _ 0 fun x x1 x2 => by
    have a := aRank_top A (i := x) A.2.toNat (by omega)
    omega
end RANKS
