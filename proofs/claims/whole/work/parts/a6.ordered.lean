/-! ordered on both sides -/
section ORDERS
variable {K M : ZMem}
theorem r_ahead {d k i j : Nat} {A : An} (hM : ModelAt K 2230) (hK : KW K M) (hk : k < 5) (hA : RowA M k A) (h6 : A.2 ≤ 60) (hj : (j : Int) < A.2) (hi : (i : Int) < A.2) {Q : Int → ZMem → Prop} (fin : Q (if aField A j 10 < aField A i 10 ∨ (aField A j 10 = aField A i 10 ∧ (j : Int) < i) then 1 else 0) M) : Ci d q10_isAhead [zr 2230, zi (3849 * (k : Int) + 3129 + 12 * j), zi (3849 * (k : Int) + 3129 + 12 * i)] M Q := by
  have e1 : mI M 2239 (3849 * (k : Int) + 3129 + 12 * j + 10).toNat = aField A j 10 := by
    rw [show (3849 * (k : Int) + 3129 + 12 * j + 10).toNat = 3849 * k + 3129 + 12 * j + 10 by omega]
    exact hA j 10 hj (by decide)
  have e2 : mI M 2239 (3849 * (k : Int) + 3129 + 12 * i + 10).toNat = aField A i 10 := by
    rw [show (3849 * (k : Int) + 3129 + 12 * i + 10).toNat = 3849 * k + 3129 + 12 * i + 10 by omega]
    exact hA i 10 hi (by decide)
  refine B10_isAhead _ _ hK hM ?_
  rw [e1, e2]
  refine ⟨⟨by omega, by omega⟩, by omega, by omega, ⟨by omega, by omega⟩, by omega, by omega, fun c => ?_, fun c => ⟨⟨by omega, by omega⟩, by omega, by omega, ⟨by omega, by omega⟩, by omega, by omega, fun c2 => ?_, fun c2 => ⟨fun c3 => ?_, fun c3 => ?_⟩⟩⟩
  · rw [if_pos (Or.inl c)] at fin; exact fin
  · rw [if_neg (by omega)] at fin; exact fin
  · rw [if_neg (by omega)] at fin; exact fin
  · rw [if_pos (by omega)] at fin; exact fin
theorem r_ord_68 {d k i : Nat} {A : An} {p : Int} (hM : ModelAt K 2230) (hK : KW K M) (hk : k < 5) (hA : RowA M k A) (h6 : A.2 ≤ 60) (hi : (i : Int) < A.2) {Q : Int → ZMem → Prop} (q1 : aRank A i A.2.toNat ≠ p → Xi (d + 1) q10_ordered 55 [some (zr 2230), none, some (zi p), some (zi (3849 * (k : Int) + 3129)), some (zi A.2), some (zi ((i : Int) + 1)), none, none] [] M Q) (q2 : aRank A i A.2.toNat = p → Q i M) : ∀ (r n : Nat) (x : Int), n + r = A.2.toNat → x = aRank A i n → Xi (d + 1) q10_ordered 68 [some (zr 2230), none, some (zi p), some (zi (3849 * (k : Int) + 3129)), some (zi A.2), some (zi (i : Int)), some (zi x), some (zi (n : Int))] [] M Q
  | 0, n, x, e, hx => by
    obtain rfl : n = A.2.toNat := by omega
    refine B10_ordered_68 p _ _ _ _ _ hK hM ⟨fun _ => ⟨fun c => ⟨⟨by omega, by omega⟩, q1 (by rw [← hx]; exact c)⟩, fun c => q2 (by rw [← hx]; exact Decidable.not_not.mp c)⟩, fun c => absurd c (by omega)⟩
  | r + 1, n, x, e, hx => by
    have hb := aRank_le A i n
    have hn : (n : Int) < A.2 := by omega
    have e1 : aRank A i (n + 1) = aRank A i n + if aField A n 10 < aField A i 10 ∨ (aField A n 10 = aField A i 10 ∧ (n : Int) < i) then 1 else 0 := rfl
    refine B10_ordered_68 p _ _ _ _ _ hK hM ⟨fun c => absurd c (by omega), fun _ => ⟨⟨by omega, by omega⟩, ⟨by omega, by omega⟩, ⟨by omega, by omega⟩, ⟨by omega, by omega⟩, r_ahead hM hK hk hA h6 hn hi ⟨hK, fun c => ⟨⟨by omega, by omega⟩, ⟨by omega, by omega⟩, ?_⟩, fun c => ⟨⟨by omega, by omega⟩, ⟨by omega, by omega⟩, ?_⟩⟩⟩⟩
    · refine r_ord_68 hM hK hk hA h6 hi q1 q2 r (n + 1) _ (by omega) ?_
      rw [e1, if_neg (fun w => by rw [if_pos w] at c; exact absurd c (by decide)), hx]
    · refine r_ord_68 hM hK hk hA h6 hi q1 q2 r (n + 1) _ (by omega) ?_
      by_cases w : aField A n 10 < aField A i 10 ∨ (aField A n 10 = aField A i 10 ∧ (n : Int) < i)
      · rw [e1, if_pos w, hx]
      · exact absurd (if_neg w) c
theorem r_ord_55 {d k : Nat} {A : An} {p : Int} (hM : ModelAt K 2230) (hK : KW K M) (hk : k < 5) (hA : RowA M k A) (h6 : 0 ≤ A.2 ∧ A.2 ≤ 60) {Q : Int → ZMem → Prop} : ∀ (j n : Nat), n + j = A.2.toNat → Q (if aRanked A p j n = -1 then -2002 else aRanked A p j n) M → Xi (d + 1) q10_ordered 55 [some (zr 2230), none, some (zi p), some (zi (3849 * (k : Int) + 3129)), some (zi A.2), some (zi (n : Int)), none, none] [] M Q
  | 0, n, e, fin => B10_ordered_55 p _ _ _ hK hM ⟨fun _ => fin, fun c => absurd c (by omega)⟩
  | j + 1, n, e, fin => by
    have hn : (n : Int) < A.2 := by omega
    rw [aRanked] at fin
    refine B10_ordered_55 p _ _ _ hK hM ⟨fun c => absurd c (by omega), fun _ => r_ord_68 hM hK hk hA h6.2 hn (fun c => ?_) (fun c => ?_) A.2.toNat 0 0 (by omega) rfl⟩
    · rw [if_neg c] at fin
      exact r_ord_55 hM hK hk hA h6 j (n + 1) (by omega) fin
    · rw [if_pos c, if_neg (by omega)] at fin
      exact fin
theorem both_ordered {d i : Nat} {a b : Int} (hTop : TopAt K 2) (hM : ModelAt K 2230) (hd : 10 ≤ d) (hi : i < 512) (h : LaR K M i) : Both K d q9_ordered q10_ordered [zi a, zi b] i M := by
  obtain ⟨d, rfl⟩ : ∃ e, d = e + 1 := ⟨d - 1, by omega⟩
  have hK := h.1
  have yes : (1 : Int) ≠ 0 := by decide
  by_cases ha : 0 ≤ a ∧ a ≤ 3
  · obtain ⟨k, rfl⟩ : ∃ k : Nat, a = k := ⟨a.toNat, by omega⟩
    have hk : k < 4 := by omega
    obtain ⟨T, hT, ⟨P, S, hAt, hLS⟩, _⟩ := h.srch hi hk
    obtain ⟨hnone, hLB⟩ := hLS.none
    have hSk : SearchAt K (44 + 444 * k) := (hTop.2.2.2.2.2.2.2.2.2.2.2 k hk).2.2.2
    have hAk : AnswersAt K (44 + 444 * k + 18) := hSk.2.2.2.2.2.2.2.2.2.2.2.2.1
    have e7 : mI M (44 + 444 * k) 7 = sC S 7 := hAt.c (by decide) (by decide)
    refine B9_ordered k b hK hTop (c_searchAt hTop hK hk ⟨hK, fun c => absurd c (by omega), fun _ => ⟨fun q1 => ⟨hSk, fun q4 => ?_, fun q4 => ?_⟩, fun q1 => ⟨hK, ?_⟩⟩⟩)
    · rw [e7] at q4
      have hB := hLB q4
      have hq := hB.u0.2.2.2.2.2
      have hn0 : mI M 2239 (3849 * k) ≠ 0 := fun q => q4 (hnone.mp q)
      have h15 : mI M 2239 ((3849 * (k : Int)) + 15).toNat = (sQ S).2 := by rw [← hq.1, vT_at (by decide), show ((3849 * (k : Int)) + 15).toNat = 3849 * k + 15 by omega]
      have ref : ∀ x : Int, x = (if aRanked (sQ S) b (sQ S).2.toNat 0 = -1 then -2002 else aRanked (sQ S) b (sQ S).2.toNat 0) → Ci (d + 1) q10_ordered [zr 2230, zi k, zi b] M (fun y M2 => KW K M2 ∧ x = y ∧ LaR K M2 (i + 1)) := fun x hx => by
        refine B10_ordered k b hK hM (n_isSearch (by omega) hK hk ⟨hK, fun q => absurd q yes, fun _ => ⟨fun _ => n_isNone hM hK hk ⟨hK, fun _ => ⟨⟨by omega, by omega⟩, ⟨by omega, by omega⟩, ⟨by omega, by omega⟩, ⟨by omega, by omega⟩, by omega, by omega, ?_⟩, fun q => absurd (if_neg hn0) q⟩, fun q => absurd q1 q⟩⟩)
        rw [h15]
        exact r_ord_55 hM hK (by omega) hB.row hq.2 (sQ S).2.toNat 0 (by omega) ⟨hK, hx, h.up⟩
      rw [hAt.an2]
      refine ⟨fun c => ⟨hK, ref _ ?_⟩, fun c => (s_ranked (by omega) hK hAk (by rw [hAt.ans]; exact hq.2)).mono fun x M1 ⟨ex, eM⟩ => ?_⟩
      · rw [if_pos (aRanked_out hq.2.1 c)]
      · subst eM
        rw [hAt.ans] at ex
        refine ⟨hK, hK, ref x ?_⟩
        rw [if_neg (aRanked_in q1 (by omega))]
        exact ex
    · rw [e7] at q4
      have hn0 : mI M 2239 (3849 * k) = 0 := hnone.mpr (Decidable.not_not.mp q4)
      exact ⟨hK, B10_ordered k b hK hM (n_isSearch (by omega) hK hk ⟨hK, fun q => absurd q yes, fun _ => ⟨fun _ => n_isNone hM hK hk ⟨hK, fun q => absurd q (by rw [if_pos hn0]; decide), fun _ => ⟨hK, rfl, h.up⟩⟩, fun q => absurd q1 q⟩⟩)⟩
    · exact B10_ordered k b hK hM (n_isSearch (by omega) hK hk ⟨hK, fun q => absurd q yes, fun _ => ⟨fun q => absurd q q1, fun _ => ⟨hK, rfl, h.up⟩⟩⟩)
  · exact B9_ordered a b hK hTop (c_searchAt_no hTop hK ha ⟨hK, fun _ => ⟨hK, B10_ordered a b hK hM (n_isSearch_no (by omega) hK ha ⟨hK, fun _ => ⟨hK, rfl, h.up⟩, fun c => absurd rfl c⟩)⟩, fun c => absurd rfl c⟩)
end ORDERS
