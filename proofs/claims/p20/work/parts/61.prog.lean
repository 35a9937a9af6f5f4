/-! the program that came of the text -/
section PROG
variable {c : Nm} {S : St} {n : Nat} {G : Fm}
def cl3 : FL := [(0, 1000), (3, 1001), (2, 1002)]
theorem gD_v {o : Option Int} {x : Int} (h : o = some x) : o.getD 999999 = x := by rw [h]; rfl
theorem price_ok (hFA : FA (fApp (fSt (fNo G)) cl3)) : FB (fApp (fSt (fNo G)) cl3) ∧ (fApp (fSt (fNo G)) cl3).2.2.2.2 = 1 ∧ ∀ f, sml f → fWorth (fApp (fSt (fNo G)) cl3) 0 f = f 0 * f 1 - f 2 := by
  obtain ⟨a1, a2, -⟩ := fApp_f (fSt (fNo G)) (Int.le_refl 0) cl3
  have b1 : (fApp (fSt (fNo G)) cl3).2.2.2.1 = 3 := a1
  have b2 : (fApp (fSt (fNo G)) cl3).2.2.2.2 = 1 := a2
  have fe : FE (fApp (fSt (fNo G)) cl3) 0 cl3 := FE_new (F := fNo G) (Int.le_refl 0) rfl (by decide)
  refine ⟨⟨hFA.1, hFA.2, by rw [b1]; decide, by rw [b1]; decide, by rw [b2]; decide, by rw [b2]; decide⟩, b2, fun f hf => ?_⟩
  have h := FE_worth fe (by rw [b1]; decide) (v := f)
  exact h.trans (gD_v (lval_cost hf))
theorem PF_of (hB : NmB c) (hJ : PJ (zg S) 4 9 (Tb (nmS c)) (fls c)) (hI : PI S) (hn : S.1 ≤ 150) (hFA : FA (fApp (fSt (fNo G)) cl3)) : PF c ((zg S).1, (zg S).2.1, fApp (fSt (fNo G)) cl3, (zg S).2.2.2) := by
  obtain ⟨j1, j2, ⟨j3, j3'⟩, j4, -⟩ := hJ
  obtain ⟨i1, ⟨d1, d2, d3, d4, d5, d6⟩, i3, i4, -, -⟩ := hI
  obtain ⟨p1, p2, p3⟩ := price_ok hFA
  have k0 := j2 0 (by decide)
  have k1 := j2 1 (by decide)
  have k2 := j2 2 (by decide)
  have k3 := j2 3 (by decide)
  have hFB : FB (zg S).2.1 := ⟨d5.1, d5.2, by omega, by omega, by omega, by omega⟩
  refine ⟨⟨hFB, p1, d2, d3, d4⟩, j1, ⟨k0.1, k1.1, k2.1, k3.1⟩, ⟨k0.2.1, k1.2.1, k2.2.1, k3.2.1⟩, ⟨k0.2.2.1, k1.2.2.1, k2.2.2.1, k3.2.2.1⟩, ⟨k0.2.2.2, k1.2.2.2, k2.2.2.2, k3.2.2.2⟩, fun f hf => ⟨?_, ?_⟩⟩
  · have hw : ∀ (k : Nat) (x : Int), k < 9 → lval f (fls c k) = some x → fWorth (zg S).2.1 (k : Int) f = x := fun k x hk hx => (FE_worth (j4 k hk) (by omega)).trans (gD_v hx)
    obtain ⟨b1, b2, b3, b4, b5⟩ := hB
    have one : ∀ v : Int, -9 ≤ v ∧ v ≤ 9 → lval f [(0, cd v)] = some v := fun v hv => by
      have e := cw_cd (f := f) hv
      have := lval_1 (f := f) (y := cd v) (by rw [e]; omega)
      rw [e] at this
      exact this
    refine ⟨hw 0 _ (by decide) (one _ (by omega)), hw 1 _ (by decide) (one _ (by omega)), fun k hk => ?_, hw 5 _ (by decide) (one _ (by decide)), hw 6 _ (by decide) ?_, hw 7 _ (by decide) (lval_abu hf b3), hw 8 _ (by decide) (lval_cv hf b4)⟩
    · have n0 := b5 0
      have n1 := b5 1
      have n2 := b5 2
      obtain rfl | rfl | rfl : k = 0 ∨ k = 1 ∨ k = 2 := by omega
      · exact hw 2 _ (by decide) (one _ (by omega))
      · exact hw 3 _ (by decide) (one _ (by omega))
      · exact hw 4 _ (by decide) (one _ (by omega))
    · show lval f [(0, 1000)] = some (f 0)
      have := lval_1 (f := f) (y := 1000) (by rw [cw_0]; have := hf.1; omega)
      rw [cw_0] at this
      exact this
  · unfold gPrice
    rw [if_neg (by show ¬ (fApp (fSt (fNo G)) cl3).2.2.2.2 = 0; rw [p2]; decide)]
    exact p3 f hf
end PROG
