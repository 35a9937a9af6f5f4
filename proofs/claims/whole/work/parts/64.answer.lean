/-! an answer is kept; it is over: the relation stays -/
section ANSWER
variable {M : ZMem} {P : Pg} {σ : Int → Int} {root price : Int} {e : Nat} {D : Int → Int} {S : Sr} {U U' : Tr} {b t : Int}
theorem RS_answer (hPR : PR M P σ root price e) (h : RS P σ root price D S U b t) (hn0 : sC S 11 = 0) (h15 : (sQ S).2 < 60) : RS P σ root price D (uA (uC S 12 0) (aAdd (sQ S) (aRow (S.1 (cur S)) (gPrice P (S.1 (cur S)).2.1) (sT S 2)))) (oS (oA (oS U 12 0) (aFill (U.2.2.2, U.1 15) (oRow (U.2.1 (cur S)) (oCost M (U.2.1 (cur S)) e (U.1 3)) (U.1 4)) 12)) 15 (U.1 15 + 1)) b t := by
  have hc : cur S = 0 := by unfold cur; omega
  rw [hc]
  have hwr := h.wr
  rw [hc] at hwr
  obtain ⟨⟨b1, b2, b3, b4, b5, b6, b7, b8, b9, b10, b11, b12, b13, b14, b15⟩, ⟨n0, n1, n4, n5, n6, n7, n8, n9, n10, n11, n12, n13, n15, nb, na⟩, hRP, hP, hW⟩ := h
  obtain ⟨s1, s2, s3, s4, s5, s6, s7, s8, s9, s10, s11⟩ := b1
  have hv : ∀ k, k < 8 → (S.1 0).2.1 k = U.2.1 0 k := fun k hk => (hwr.1 k hk).symm
  have hpr : gPrice P (S.1 0).2.1 = oCost M (U.2.1 0) e (U.1 3) := by rw [hRP.2]; exact hPR.price_eq ⟨(s1 0).1, hv⟩
  have h32 : U.2.1 0 32 = (S.1 0).1 5 := by
    have := hwr.2.2.2.2.1
    have d0 : D ((0 : Nat) : Int) = 0 := hW.1
    rw [d0] at this; omega
  have h33 : U.2.1 0 33 = (S.1 0).1 6 := hW.2.2.1
  refine ⟨⟨⟨s1, s2, s3, s4, s5, s6, s7, s8, s9, ?_, s11⟩, b2, b3, b4, b5, b6, b7, b8, b9, b10, b11, b12, Or.inl rfl, b14, b15⟩, ⟨n0, n1, n4, n5, n6, n7, n8, n9, n10, n11, rfl, n13, ?_, nb, ?_⟩, hRP, hP, hW⟩
  · show 0 ≤ (sQ S).2 + 1 ∧ (sQ S).2 + 1 ≤ 60
    omega
  · show U.1 15 + 1 = (sQ S).2 + 1
    rw [n15]
  · intro k hk
    have hk : (k : Int) < 12 * ((sQ S).2 + 1) := hk
    show aFill (U.2.2.2, U.1 15) _ 12 k = aFill (sQ S) _ 12 k
    unfold aFill
    rw [show ((U.2.2.2, U.1 15) : An).2 = (sQ S).2 from n15]
    by_cases c : (sQ S).2.toNat * 12 ≤ k ∧ k < (sQ S).2.toNat * 12 + 12
    · rw [if_pos c, if_pos c]
      generalize k - (sQ S).2.toNat * 12 = v at *
      unfold oRow aRow
      by_cases c1 : v < 8
      · rw [if_pos c1, if_pos c1]; exact hwr.1 v c1
      · rw [if_neg c1, if_neg c1]
        by_cases c2 : v = 8
        · rw [if_pos c2, if_pos c2]; exact h32
        · rw [if_neg c2, if_neg c2]
          by_cases c3 : v = 9
          · rw [if_pos c3, if_pos c3]; exact h33
          · rw [if_neg c3, if_neg c3]
            by_cases c4 : v = 10
            · rw [if_pos c4, if_pos c4]; exact hpr.symm
            · rw [if_neg c4, if_neg c4]; exact n4
    · rw [if_neg c, if_neg c]
      exact na k (by omega)
theorem RS_over (h : RS P σ root price D S U b t) : RS P σ root price D (uC (uC S 7 2) 12 0) (oS (oS U 0 2) 12 0) b t := by
  obtain ⟨⟨b1, b2, b3, b4, b5, b6, b7, b8, b9, b10, b11, b12, b13, b14, b15⟩, ⟨n0, n1, n4, n5, n6, n7, n8, n9, n10, n11, n12, n13, n15, nb, na⟩, hRP, hP, hW⟩ := h
  exact ⟨⟨b1, b2, b3, b4, b5, b6, b7, b8, b9, b10, b11, b12, Or.inl rfl, b14, b15⟩, ⟨rfl, n1, n4, n5, n6, n7, n8, n9, n10, n11, rfl, n13, n15, nb, na⟩, hRP, hP, hW⟩
theorem RS_hit (h : RS P σ root price D S U b t) (hS : t + 1 ≤ sT S 2) : RS P σ root price D (uC (uC S 10 1) 12 0) (oS (oS U 10 1) 12 0) b (t + 1) := by
  obtain ⟨⟨b1, b2, b3, b4, b5, b6, b7, b8, b9, b10, b11, b12, b13, b14, b15⟩, r⟩ := RS_mono h (show t ≤ t + 1 by omega) hS
  have h8 := h.1.2.2.2.2.2.2.2.1
  have h12 := h.1.2.2.2.2.2.2.2.2.2.2.2.1
  obtain ⟨⟨n0, n1, n4, n5, n6, n7, n8, n9, n10, n11, n12, n13, n15, nb, na⟩, hRP, hP, hW⟩ := r
  exact ⟨⟨b1, b2, b3, b4, b5, b6, b7, by show sC S 9 + 1 ≤ t + 1; omega, b9, b10, b11, Or.inr rfl, Or.inl rfl, b14, b15⟩, ⟨n0, n1, n4, n5, n6, n7, n8, n9, rfl, n11, rfl, n13, n15, nb, na⟩, hRP, hP, hW⟩
/-- the number of points that no not made -/
theorem cntO_app : ∀ (l l' : List Pf), cntO (l ++ l') = cntO l + cntO l'
  | [], l' => by show cntO l' = 0 + cntO l'; omega
  | p :: l, l' => by
    show (if p 45 = 0 then 1 else 0) + cntO (l ++ l') = (if p 45 = 0 then 1 else 0) + cntO l + cntO l'
    rw [cntO_app l l']
    omega
theorem cntO_of : ∀ (l : List Pf) (n : Nat), n ≤ l.length → (∀ J, J < n → gp l J 45 = 0) → (∀ J, n ≤ J → J < l.length → 1 ≤ gp l J 45) → cntO l = n
  | [], n, hn, _, _ => by
    have : n = 0 := by simpa using hn
    subst this; rfl
  | p :: l, 0, _, _, h => by
    have h0 : 1 ≤ p 45 := h 0 (Nat.le_refl _) (by simp)
    have ih := cntO_of l 0 (Nat.zero_le _) (fun J hJ => by omega) (fun J _ hJ => h (J + 1) (by omega) (by simpa using hJ))
    show (if p 45 = 0 then 1 else 0) + cntO l = _
    rw [ih, if_neg (by omega)]
    rfl
  | p :: l, n + 1, hn, h0, h => by
    have h0' : p 45 = 0 := h0 0 (by omega)
    have ih := cntO_of l n (by simpa using hn) (fun J hJ => h0 (J + 1) (by omega)) (fun J j1 hJ => h (J + 1) (by omega) (by simpa using hJ))
    show (if p 45 = 0 then 1 else 0) + cntO l = _
    rw [ih, if_pos h0']
    omega
theorem RP.cnt (h : RP P σ D S U) : cntO U.2.2.1 = S.2.1.length := by
  have hl := CL_len (S := S)
  obtain ⟨a1, a2, a3, a4, a5, a6, a7⟩ := h
  exact cntO_of _ _ (by omega) a4 fun J j1 j2 => (a5 J j1 (by omega)).1
end ANSWER
