/-! common on both sides: the reference's loop -/
section COMMONS
variable {K M : ZMem}
theorem r_common_loop {d k l : Nat} {A B : An} (hd : 1 ≤ d) (hM : ModelAt K 2230) (hK : KW K M) (hk : k < 5) (hl : l < 5) (hA : RowA M k A) (hB : RowA M l B) (hA6 : 0 ≤ A.2 ∧ A.2 ≤ 60) (hB6 : 0 ≤ B.2 ∧ B.2 ≤ 60) (h15 : mI M 2239 (3849 * k + 15) = A.2) (g15 : mI M 2239 (3849 * l + 15) = B.2) {Q : Int → ZMem → Prop} (fin : Q (aShared A B A.2.toNat) M) : ∀ (r n : Nat), n + r = A.2.toNat → 0 ≤ aShared A B n → aShared A B n ≤ n → Xi (d + 1) q10_common 43 [some (zr 2230), some (zi (k : Int)), some (zi (l : Int)), some (zi (aShared A B n)), some (zi (n : Int))] [] M Q
  | 0, n, e, h0, h1 => by
    obtain rfl : n = A.2.toNat := by omega
    have e15 : mI M 2239 ((3849 * (k : Int)) + 15).toNat = A.2 := by rw [show ((3849 * (k : Int)) + 15).toNat = 3849 * k + 15 by omega]; exact h15
    refine B10_common_43 _ _ _ _ hK hM ⟨⟨by omega, by omega⟩, ⟨by omega, by omega⟩, by omega, by omega, fun _ => fin, fun c => absurd (by rw [e15]; omega) c⟩
  | r + 1, n, e, h0, h1 => by
    have e15 : mI M 2239 ((3849 * (k : Int)) + 15).toNat = A.2 := by rw [show ((3849 * (k : Int)) + 15).toNat = 3849 * k + 15 by omega]; exact h15
    have f15 : mI M 2239 ((3849 * (l : Int)) + 15).toNat = ((B.2.toNat : Nat) : Int) := by rw [show ((3849 * (l : Int)) + 15).toNat = 3849 * l + 15 by omega, g15]; omega
    refine B10_common_43 _ _ _ _ hK hM ⟨⟨by omega, by omega⟩, ⟨by omega, by omega⟩, by omega, by omega, fun c => absurd c (by rw [e15]; omega), fun _ => ⟨⟨by omega, by omega⟩, ⟨by omega, by omega⟩, by omega, by omega, ⟨by omega, by omega⟩, ⟨by omega, by omega⟩, ⟨by omega, by omega⟩, ⟨by omega, by omega⟩, ?_⟩⟩
    rw [f15]
    refine r_hasLike hd hM hK hl hk hB hA (by omega) (by omega) hB6.2 hA6.2 ⟨hK, fun c => ?_, fun c => ?_⟩
    · have e1 : aShared A B (n + 1) = aShared A B n + 0 := by
        rw [aShared, if_neg (fun q => by rw [if_pos q] at c; exact absurd c (by decide))]
      refine ⟨⟨by omega, by omega⟩, ⟨by omega, by omega⟩, ?_⟩
      have ih := r_common_loop hd hM hK hk hl hA hB hA6 hB6 h15 g15 fin r (n + 1) (by omega) (by omega) (by omega)
      rw [e1] at ih
      exact ih
    · have e1 : aShared A B (n + 1) = aShared A B n + 1 := by
        have q : aHas B A n B.2.toNat = true := by
          by_cases q : aHas B A n B.2.toNat = true
          · exact q
          · rw [if_neg q] at c; exact absurd rfl c
        rw [aShared, if_pos q]
      refine ⟨⟨by omega, by omega⟩, ⟨by omega, by omega⟩, ?_⟩
      have ih := r_common_loop hd hM hK hk hl hA hB hA6 hB6 h15 g15 fin r (n + 1) (by omega) (by omega) (by omega)
      rw [e1] at ih
      exact ih
end COMMONS
