/-! a search begins, begins anew: the relation stands; a price on both sides -/
section FRESH
variable {M : ZMem} {P : Pg} {σ : Int → Int} {root price : Int} {e : Nat} {D : Int → Int} {S : Sr} {U U' : Tr} {b t : Int}
theorem uW_id {S : Sr} {i : Nat} : uW S i (S.1 i) = S := by
  show (fup S.1 i (S.1 i), S.2) = S
  rw [show fup S.1 i (S.1 i) = S.1 from funext fun j => by
    show (if j = i then S.1 i else S.1 j) = S.1 j
    by_cases q : j = i
    · rw [if_pos q, q]
    · rw [if_neg q]]
theorem RS_fresh {w : Wy} {r : Pf} (h0 : gHas P 0 ∧ σ 0 = root ∧ gAround P 0 = -1) (hD : D 0 = 0) (hn : sC S 11 = 0) (h12 : sC S 12 = 1) (h10 : sC S 10 = 0) (hL : S.2.1 = []) (hN : S.2.2.1 = []) (hw : S.1 0 = wStart w) (hB : ∀ i, wB (S.1 i)) (hT : ∀ k, 0 ≤ sT S k ∧ sT S k ≤ 100000000) (h9 : 0 ≤ sC S 9 ∧ sC S 9 ≤ t) (h13 : 0 ≤ sC S 13 ∧ sC S 13 ≤ 2000) (hQ : 0 ≤ (sQ S).2 ∧ (sQ S).2 ≤ 60) (t5 : sT S 5 ≤ t) (t6 : sT S 6 ≤ t) (t8 : sT S 8 ≤ 8 * t) (t7 : sT S 7 ≤ sT S 5) (t2 : t ≤ sT S 2) (t13 : sT S 2 + sC S 13 ≤ 1100000) (t4 : sT S 4 ≤ 31) (u16 : 0 ≤ U.1 16 ∧ U.1 16 ≤ t) (ht : 0 ≤ t) (hRN : RN S U b) (hrp : U.1 2 = root ∧ U.1 3 = price) (hp : U.2.2.1 = []) (hu : U.2.1 0 = wBegins (fun k => if k < 8 then 0 else r k) root) : RS P σ root price D S U b t := by
  have hc : cur S = 0 := by unfold cur; omega
  have hcl : (CL S).length = 0 := by rw [CL_len, hL, hN]; rfl
  have hll : S.2.1.length = 0 := by rw [hL]; rfl
  have hnl : S.2.2.1.length = 0 := by rw [hN]; rfl
  have ew5 : (S.1 0).1 5 = 0 := by rw [hw]; rfl
  have ew6 : (S.1 0).1 6 = 0 := by rw [hw]; rfl
  refine ⟨⟨⟨hB, fun p hp => ?_, fun p hp => ?_, by omega, by omega, hT, by omega, by omega, h13, hQ, fun k k1 k2 => ?_⟩, fun i hi => ?_, fun J hJ => by omega, t5, t6, t8, by omega, by omega, t2, t13, t4, Or.inl h10, Or.inr h12, u16.1, u16.2⟩, hRN, hrp, ⟨?_, fun J hJ => by omega, fun i j _ hj => by omega, fun J hJ => by omega, fun J _ hJ => by omega, fun i i1 i2 => by omega, fun J hJ => by omega⟩, ?_⟩
  · rw [hL] at hp; cases hp
  · rw [hN] at hp; cases hp
  · unfold cur at hc; omega
  · rw [hc] at hi
    have : i = 0 := by omega
    subst this
    rw [ew5, ew6]; omega
  · rw [hp, hcl]; rfl
  · have rr := RW_start (P := P) (σ := σ) (root := root) (D := D) (S := S) (U := U) (w := w) (r := r) h0 hD hc
    rw [← hw, ← hu, uW_id, oW_id] at rr
    exact rr
theorem RS_anew (hPR : PR M P σ root price e) (h : RS P σ root price D S U b t) (hn0 : sC S 11 = 0) (hp0 : S.2.1.length = 0) (hd1 : sC S 10 = 1) : RS P σ root price D (xStartWay (uC S 9 (sC S 9 + 1))) (oAnew (oS (oS U 10 0) 9 (U.1 9 + 1)) 0) b t := by
  have hl := CL_len (S := S)
  have hin := h.2.2.2.1.noInner (by omega)
  have hcl : (CL S).length = 0 := by omega
  obtain ⟨⟨b1, b2, b3, b4, b5, b6, b7, b8, b9, b10, b11, b12, b13, b14, b15⟩, ⟨n0, n1, n4, n5, n6, n7, n8, n9, n10, n11, n12, n13, n15, nb, na⟩, hRP, hP, hW⟩ := h
  obtain ⟨s1, s2, s3, s4, s5, s6, s7, s8, s9, s10, s11⟩ := b1
  have eW : ∀ i, (xStartWay (uC S 9 (sC S 9 + 1))).1 i = if i = 0 then wStart (S.1 0) else S.1 i := fun i => rfl
  have eL : (xStartWay (uC S 9 (sC S 9 + 1))).2.1 = S.2.1 := rfl
  have eN : (xStartWay (uC S 9 (sC S 9 + 1))).2.2.1 = [] := rfl
  have eT : ∀ k, sT (xStartWay (uC S 9 (sC S 9 + 1))) k = sT S k := fun k => rfl
  have eQ : sQ (xStartWay (uC S 9 (sC S 9 + 1))) = sQ S := rfl
  have eC : ∀ k, sC (xStartWay (uC S 9 (sC S 9 + 1))) k = if k = 12 then 1 else if k = 11 then 0 else if k = 10 then 0 else if k = 9 then sC S 9 + 1 else sC S k := fun k => rfl
  have eu : ∀ k, (oAnew (oS (oS U 10 0) 9 (U.1 9 + 1)) 0).1 k = if k = 12 then 1 else if k = 9 then U.1 9 + 1 else if k = 10 then 0 else U.1 k := fun k => rfl
  have eup : (oAnew (oS (oS U 10 0) 9 (U.1 9 + 1)) 0).2.2.1 = U.2.2.1 := rfl
  have eua : (oAnew (oS (oS U 10 0) 9 (U.1 9 + 1)) 0).2.2.2 = U.2.2.2 := rfl
  have euw : (oAnew (oS (oS U 10 0) 9 (U.1 9 + 1)) 0).2.1 0 = wBegins (fun k => if k < 8 then 0 else U.2.1 0 k) (U.1 2) := rfl
  generalize xStartWay (uC S 9 (sC S 9 + 1)) = S' at *
  generalize oAnew (oS (oS U 10 0) 9 (U.1 9 + 1)) 0 = U' at *
  have t2 := s6 2
  have c9 : sC S' 9 = sC S 9 + 1 := eC 9
  have c13 : sC S' 13 = sC S 13 := eC 13
  have c8 : sC S' 8 = sC S 8 := eC 8
  have c7 : sC S' 7 = sC S 7 := eC 7
  refine RS_fresh (w := S.1 0) (r := U.2.1 0) hPR.2.1 hW.1 (eC 11) (eC 12) (eC 10) (by rw [eL]; exact List.eq_nil_of_length_eq_zero hp0) eN (eW 0) (fun i => ?_) (fun k => by rw [eT]; exact s6 k) (by omega) (by rw [c13]; exact s9) (by rw [eQ]; exact s10) (by rw [eT]; exact b4) (by rw [eT]; exact b5) (by rw [eT]; exact b6) (by rw [eT, eT]; omega) (by rw [eT]; exact b9) (by rw [eT, c13]; exact b10) (by rw [eT]; exact b11) ?_ (by omega) ⟨?_, ?_, ?_, ?_, ?_, ?_, ?_, ?_, ?_, ?_, ?_, ?_, ?_, by rw [c13]; exact nb, ?_⟩ ?_ ?_ ?_
  · rw [eW]
    split
    · exact wB_start (s1 0)
    · exact s1 i
  · rw [show U'.1 16 = U.1 16 from eu 16]; exact ⟨b14, b15⟩
  · rw [show U'.1 0 = U.1 0 from eu 0, c7]; exact n0
  · rw [show U'.1 1 = U.1 1 from eu 1, c8]; exact n1
  · rw [show U'.1 4 = U.1 4 from eu 4, eT]; exact n4
  · rw [show U'.1 5 = U.1 5 from eu 5, eT]; exact n5
  · rw [show U'.1 6 = U.1 6 from eu 6, eT]; exact n6
  · rw [show U'.1 7 = U.1 7 from eu 7, eT]; exact n7
  · rw [show U'.1 8 = U.1 8 from eu 8, eT]; exact n8
  · rw [show U'.1 9 = U.1 9 + 1 from eu 9, c9, n9]
  · rw [show U'.1 10 = 0 from eu 10]; exact (eC 10).symm
  · rw [show U'.1 11 = U.1 11 from eu 11, eT]; exact n11
  · rw [show U'.1 12 = 1 from eu 12]; exact (eC 12).symm
  · rw [show U'.1 13 = U.1 13 from eu 13, n13, hn0]; exact (eC 11).symm
  · rw [show U'.1 15 = U.1 15 from eu 15, eQ]; exact n15
  · rw [eQ, eua]; exact na
  · rw [show U'.1 2 = U.1 2 from eu 2, show U'.1 3 = U.1 3 from eu 3]; exact hRP
  · rw [eup]; exact List.eq_nil_of_length_eq_zero (by rw [hP.1, hcl])
  · rw [euw, hRP.1]
theorem PR.price_eq (h : PR M P σ root price e) {v v' : Nat → Int} (hv : (∀ k, isV (v k)) ∧ ∀ k, k < 8 → v k = v' k) : gPrice P v = oCost M v' e price := by
  rcases h.2.2.2 with ⟨h1, h2⟩ | ⟨h1, h2, h3⟩
  · rw [gPrice, if_pos h2, oCost, if_pos h1]
  · rw [gPrice, if_neg h2, oCost, if_neg h1]
    exact h3.2 v v' hv.1 hv.2
theorem PR.price_ex (h : PR M P σ root price e) (hp : price ≠ -1) : exN M e price := by
  rcases h.2.2.2 with ⟨h1, h2⟩ | ⟨h1, h2, h3⟩
  · exact absurd h1 hp
  · exact h3.1
end FRESH
