/-! unlike on both sides -/
section UNLIKES
variable {K M : ZMem}
theorem LaB.row {P : Pg} {S : Sr} {k T : Nat} {c : Int} (h : LaB M P S (vT (mI M 2239) (3849 * k)) T c) : RowA M k (sQ S) := fun i v hi hv => by
  have h6 := h.u0.2.2.2.2.2.2
  have na := h.nums.2.1 (12 * i + v) (by omega)
  rw [vT_ansAt (by omega)] at na
  unfold aField
  rw [if_pos (by omega), show ((i : Int) * 12 + (v : Int)).toNat = 12 * i + v by omega, ← na, Nat.add_assoc]
theorem r_unlike_loop {d k : Nat} {A : An} (hd : 1 ≤ d) (hM : ModelAt K 2230) (hK : KW K M) (hk : k < 5) (hA : RowA M k A) (hA6 : 0 ≤ A.2 ∧ A.2 ≤ 60) (h15 : mI M 2239 (3849 * k + 15) = A.2) {Q : Int → ZMem → Prop} (fin : Q (aDiff A A.2.toNat) M) : ∀ (r n : Nat), n + r = A.2.toNat → 0 ≤ aDiff A n → aDiff A n ≤ n → Xi (d + 1) q10_unlike 27 [some (zr 2230), some (zi (k : Int)), some (zi (aDiff A n)), some (zi (n : Int))] [] M Q
  | 0, n, e, h0, h1 => by
    obtain rfl : n = A.2.toNat := by omega
    have e15 : mI M 2239 ((3849 * (k : Int)) + 15).toNat = A.2 := by rw [show ((3849 * (k : Int)) + 15).toNat = 3849 * k + 15 by omega]; exact h15
    refine B10_unlike_27 _ _ _ hK hM ⟨⟨by omega, by omega⟩, ⟨by omega, by omega⟩, by omega, by omega, fun _ => fin, fun c => absurd (by rw [e15]; omega) c⟩
  | r + 1, n, e, h0, h1 => by
    have e15 : mI M 2239 ((3849 * (k : Int)) + 15).toNat = A.2 := by rw [show ((3849 * (k : Int)) + 15).toNat = 3849 * k + 15 by omega]; exact h15
    refine B10_unlike_27 _ _ _ hK hM ⟨⟨by omega, by omega⟩, ⟨by omega, by omega⟩, by omega, by omega, fun c => absurd c (by rw [e15]; omega), fun _ => ⟨⟨by omega, by omega⟩, ⟨by omega, by omega⟩, ⟨by omega, by omega⟩, ⟨by omega, by omega⟩, r_hasLike hd hM hK hk hk hA hA (by omega) (by omega) hA6.2 hA6.2 ⟨hK, fun c => ?_, fun c => ?_⟩⟩⟩
    · have e1 : aDiff A (n + 1) = aDiff A n + 1 := by
        rw [aDiff, if_neg (fun q => by rw [if_pos q] at c; exact absurd c (by decide))]
      refine ⟨⟨by omega, by omega⟩, ⟨by omega, by omega⟩, ?_⟩
      have ih := r_unlike_loop hd hM hK hk hA hA6 h15 fin r (n + 1) (by omega) (by omega) (by omega)
      rw [e1] at ih
      exact ih
    · have e1 : aDiff A (n + 1) = aDiff A n + 0 := by
        have q : aHas A A n n = true := by
          by_cases q : aHas A A n n = true
          · exact q
          · rw [if_neg q] at c; exact absurd rfl c
        rw [aDiff, if_pos q]
      refine ⟨⟨by omega, by omega⟩, ⟨by omega, by omega⟩, ?_⟩
      have ih := r_unlike_loop hd hM hK hk hA hA6 h15 fin r (n + 1) (by omega) (by omega) (by omega)
      rw [e1] at ih
      exact ih
end UNLIKES
