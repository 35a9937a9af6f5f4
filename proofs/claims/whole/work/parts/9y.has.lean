/-! whether an answer is among others, the reference's side; unlike -/
section HASLIKE
variable {K M : ZMem}
theorem r_has_loop {d k l j m : Nat} {A B : An} (hM : ModelAt K 2230) (hK : KW K M) (hk : k < 5) (hl : l < 5) (hA : RowA M k A) (hB : RowA M l B) (hm : (m : Int) ≤ A.2) (hj : (j : Int) < B.2) (hA6 : A.2 ≤ 60) (hB6 : B.2 ≤ 60) {Q : Int → ZMem → Prop} (fin : Q (if aHas A B j m = true then 1 else 0) M) : ∀ (r n : Nat), n + r = m → aHas A B j n = false → Xi (d + 1) q10_hasLike 3 [some (zr 2230), some (zi (k : Int)), some (zi (m : Int)), some (zi ((3849 * (l : Int)) + 3129 + 12 * j)), some (zi (n : Int))] [] M Q
  | 0, n, e, h => by
    obtain rfl : n = m := by omega
    rw [if_neg (by rw [h]; decide)] at fin
    exact B10_hasLike_3 _ _ _ n hK hM ⟨fun _ => fin, fun c => absurd (Int.le_refl _) c⟩
  | r + 1, n, e, h => by
    refine B10_hasLike_3 _ _ _ n hK hM ⟨fun c => absurd c (by omega), fun _ => ⟨⟨by omega, by omega⟩, ⟨by omega, by omega⟩, ⟨by omega, by omega⟩, ⟨by omega, by omega⟩, r_isLike hM hK hk hl hA hB (by omega) hj hA6 hB6 ⟨hK, fun c => ?_, fun c => ?_⟩⟩⟩
    · have h2 : aHas A B j (n + 1) = false := by
        rw [aHas, h]
        by_cases q : aLike A n B j 8 = true
        · rw [if_pos q] at c; exact absurd c (by decide)
        · rw [Bool.not_eq_true] at q
          rw [q]; rfl
      exact ⟨⟨by omega, by omega⟩, r_has_loop hM hK hk hl hA hB hm hj hA6 hB6 fin r (n + 1) (by omega) h2⟩
    · have h2 : aHas A B j (n + 1) = true := by
        rw [aHas]
        by_cases q : aLike A n B j 8 = true
        · rw [q, Bool.or_true]
        · rw [if_neg q] at c; exact absurd rfl c
      rw [if_pos (aHas_true (m := m) (by omega) h2)] at fin
      exact fin
theorem r_hasLike {d k l j m : Nat} {A B : An} (hd : 1 ≤ d) (hM : ModelAt K 2230) (hK : KW K M) (hk : k < 5) (hl : l < 5) (hA : RowA M k A) (hB : RowA M l B) (hm : (m : Int) ≤ A.2) (hj : (j : Int) < B.2) (hA6 : A.2 ≤ 60) (hB6 : B.2 ≤ 60) {Q : Int → ZMem → Prop} (fin : Q (if aHas A B j m = true then 1 else 0) M) : Ci d q10_hasLike [zr 2230, zi (k : Int), zi (m : Int), zi ((3849 * (l : Int)) + 3129 + 12 * j)] M Q := by
  obtain ⟨d, rfl⟩ : ∃ e, d = e + 1 := ⟨d - 1, by omega⟩
  exact B10_hasLike _ _ _ hK hM (r_has_loop hM hK hk hl hA hB hm hj hA6 hB6 fin m 0 (by omega) rfl)
end HASLIKE
