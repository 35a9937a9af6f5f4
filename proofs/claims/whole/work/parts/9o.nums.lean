/-! answer and turn on both sides -/
section ANSW
variable {K M : ZMem}
theorem LaB.nums {P : Pg} {S : Sr} {U : Tr} {T : Nat} {c : Int} (h : LaB M P S U T c) : (U.1 4 = sT S 2 ∧ U.1 5 = sT S 5 ∧ U.1 6 = sT S 6 ∧ U.1 7 = sT S 7 ∧ U.1 8 = sT S 8 ∧ U.1 9 = sC S 9 ∧ U.1 11 = sT S 4) ∧ (∀ k : Nat, (k : Int) < 12 * (sQ S).2 → U.2.2.2 k = (sQ S).1 k) ∧ cntO U.2.2.1 = S.2.1.length := by
  obtain ⟨σ, root, price, D, h1, h2, h3, h4⟩ := h
  rcases h4 with ⟨q, r⟩ | ⟨q, r⟩
  · obtain ⟨_, ⟨n0, n1, n4, n5, n6, n7, n8, n9, n10, n11, n12, n13, n15, nb, na⟩, _, hRP, _⟩ := r
    exact ⟨⟨n4, n5, n6, n7, n8, n9, n11⟩, na, hRP.cnt⟩
  · obtain ⟨_, ⟨n0, n1, n4, n5, n6, n7, n8, n9, n10, n11, n12, n13, n15, nb, na⟩, _, hRP, _⟩ := r
    exact ⟨⟨n4, n5, n6, n7, n8, n9, n11⟩, na, hRP.cnt⟩
theorem vT_ansAt {R : Pf} {s k : Nat} (hk : k < 720) : (vT R s).2.2.2 k = R (s + 3129 + k) := by
  show tq 0 720 (fun k => R (s + 3129 + k)) k = R (s + 3129 + k)
  exact tq_at (a := 0) (n := 720) (f := fun k => R (s + 3129 + k)) (by omega) hk
/-- a search is there on both sides or on none -/
theorem LaS.none {P : Pg} {S : Sr} {R : Pf} {k T : Nat} {c : Int} (h : LaS M P S (vT R (3849 * k)) T c) : (R (3849 * k) = 0 ↔ sC S 7 = 0) ∧ (sC S 7 ≠ 0 → LaB M P S (vT R (3849 * k)) T c) := by
  have e : R (3849 * k) = sC S 7 := by rw [← h.u0, vT_at (by decide), Nat.add_zero]
  exact ⟨by rw [e], fun c => h.2.resolve_left fun q => c q.2.1⟩
end ANSW
