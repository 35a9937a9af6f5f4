/-! answers that are alike, the reference's side -/
section LIKES
variable {K M : ZMem}
/-- answers in the rows, as the class sees them -/
def RowA (M : ZMem) (k : Nat) (A : An) : Prop := ∀ (i v : Nat), (i : Int) < A.2 → v < 12 → mI M 2239 (3849 * k + 3129 + 12 * i + v) = aField A i v
theorem r_like_loop {d : Nat} {k l i j : Nat} {A B : An} (hM : ModelAt K 2230) (hK : KW K M) (hk : k < 5) (hl : l < 5) (hA : RowA M k A) (hB : RowA M l B) (hi : (i : Int) < A.2) (hj : (j : Int) < B.2) (hA6 : A.2 ≤ 60) (hB6 : B.2 ≤ 60) {Q : Int → ZMem → Prop} (fin : Q (if aLike A i B j 8 = true then 1 else 0) M) : ∀ (m n : Nat), n + m = 8 → aLike A i B j n = true → Xi d q10_isLike 2 [some (zr 2230), some (zi ((3849 * (k : Int)) + 3129 + 12 * i)), some (zi ((3849 * (l : Int)) + 3129 + 12 * j)), some (zi (n : Int))] [] M Q
  | 0, n, e, h => by
    obtain rfl : n = 8 := by omega
    rw [if_pos h] at fin
    exact B10_isLike_2 _ _ 8 hK hM ⟨fun _ => fin, fun c => absurd (Int.le_refl _) c⟩
  | m + 1, n, e, h => by
    have e1 : mI M 2239 ((3849 * (k : Int)) + 3129 + 12 * i + n).toNat = aField A i n := by
      rw [← hA i n hi (by omega), show ((3849 * (k : Int)) + 3129 + 12 * i + n).toNat = 3849 * k + 3129 + 12 * i + n by omega]
    have e2 : mI M 2239 ((3849 * (l : Int)) + 3129 + 12 * j + n).toNat = aField B j n := by
      rw [← hB j n hj (by omega), show ((3849 * (l : Int)) + 3129 + 12 * j + n).toNat = 3849 * l + 3129 + 12 * j + n by omega]
    refine B10_isLike_2 _ _ n hK hM ⟨fun c => absurd c (by omega), fun _ => ⟨⟨by omega, by omega⟩, by omega, by omega, ⟨by omega, by omega⟩, by omega, by omega, fun c => ?_, fun c => ?_⟩⟩
    · rw [e1, e2] at c
      have h2 : aLike A i B j (n + 1) = true := by rw [aLike, h, c]; simp
      exact ⟨⟨by omega, by omega⟩, r_like_loop hM hK hk hl hA hB hi hj hA6 hB6 fin m (n + 1) (by omega) h2⟩
    · rw [e1, e2] at c
      have h2 : aLike A i B j (n + 1) = false := by
        rw [aLike, h, decide_eq_false c]; rfl
      rw [aLike_false (m := 8) (by omega) h2, if_neg (by decide)] at fin
      exact fin
theorem r_isLike {d : Nat} {k l i j : Nat} {A B : An} (hM : ModelAt K 2230) (hK : KW K M) (hk : k < 5) (hl : l < 5) (hA : RowA M k A) (hB : RowA M l B) (hi : (i : Int) < A.2) (hj : (j : Int) < B.2) (hA6 : A.2 ≤ 60) (hB6 : B.2 ≤ 60) {Q : Int → ZMem → Prop} (fin : Q (if aLike A i B j 8 = true then 1 else 0) M) : Ci d q10_isLike [zr 2230, zi ((3849 * (k : Int)) + 3129 + 12 * i), zi ((3849 * (l : Int)) + 3129 + 12 * j)] M Q :=
  B10_isLike _ _ hK hM (r_like_loop hM hK hk hl hA hB hi hj hA6 hB6 fin 8 0 rfl rfl)
end LIKES
