/-! a point is made: the relation stays -/
section RSPUSH
variable {M : ZMem} {P : Pg} {σ : Int → Int} {root price : Int} {e : Nat} {D : Int → Int} {S S' : Sr} {U U' : Tr} {b t : Int}
def yPush (S : Sr) (q : Pt) : Sr := uC (if sC S 11 ≠ 0 then uL (nB S) S (sL (nB S) S ++ [q]) else xMade (uL (nB S) S (sL (nB S) S ++ [q]))) 12 0
theorem RS_push {q : Pt} {p : Pf} (h : RS P σ root price D S U b t) (hS : t + 1 ≤ sT S 2) (hlen : (sL (nB S) S).length < 30) (hq : pB P q) (p44 : p 44 = U.1 16) (p45 : p 45 = sC S 11) (p34 : p 34 = U.2.1 (cur S) 34) (hpt : PtR P σ (stS S (cur S)) (D (cur S)) q p) (q5 : q.1.1 5 = (S.1 (cur S)).1 5) (q6 : q.1.1 6 = (S.1 (cur S)).1 6) (qc : q.1.2.2.2.2 = (S.1 (cur S)).2.2.2.2) : RS P σ root price D (yPush S q) (oS (oMade U p) 12 0) b (t + 1) := by
  have hcnt := h.2.2.2.1.cnt
  have hni := h.2.2.2.1.noInner
  obtain ⟨⟨b1, b2, b3, b4, b5, b6, b7, b8, b9, b10, b11, b12, b13, b14, b15⟩, ⟨n0, n1, n4, n5, n6, n7, n8, n9, n10, n11, n12, n13, n15, nb, na⟩, hRP, hP, hW⟩ := h
  have hpk := fun (S' : Sr) (U' : Tr) e1 eCL eL eC eB eU e16 eW => push_ok (S' := S') (U' := U') (q := q) (p := p) hP hW b1 n13 e1 eCL eL eC eB eU e16 b14 eW p44 p45 p34 hpt q5 qc
  have hn := b1.n
  have b3' := rb3' b3
  have c2 := b2 (cur S) (Nat.le_refl _)
  have hl := CL_len (S := S)
  cases hb : nB S with
  | true =>
    have hn0 := nB_t hb
    have eS : yPush S q = uC (uN S (S.2.2.1 ++ [q])) 12 0 := by
      unfold yPush
      rw [if_pos (by omega), hb]; rfl
    have eU : oS (oMade U p) 12 0 = oS (oPush U p) 12 0 := by unfold oMade; rw [if_pos (by omega)]
    rw [eS, eU]
    have eCL : CL (uC (uN S (S.2.2.1 ++ [q])) 12 0) = CL S ++ [q] := (List.append_assoc ..).symm
    obtain ⟨k1, k2⟩ := hpk (uC (uN S (S.2.2.1 ++ [q])) 12 0) (oS (oPush U p) 12 0) rfl eCL (by rw [hb, if_pos rfl]; rfl) rfl (fun _ => rfl) rfl rfl rfl
    rw [hb] at hlen
    have hlen : S.2.2.1.length < 30 := hlen
    have hlen' : (S.2.2.1 ++ [q]).length = S.2.2.1.length + 1 := by rw [List.length_append]; rfl
    obtain ⟨s1, s2, s3, s4, s5, s6, s7, s8, s9, s10, s11⟩ := b1
    refine ⟨⟨⟨s1, s2, fun x hx => ?_, s4, ?_, s6, s7, s8, s9, s10, fun k kk1 kk2 => ?_⟩, fun i hi => ?_, rb3 fun x hx => ?_, ?_, ?_, ?_, b7, ?_, hS, b10, b11, b12, Or.inl rfl, ?_, ?_⟩, ⟨n0, n1, n4, n5, n6, n7, n8, n9, n10, n11, rfl, n13, n15, nb, na⟩, hRP, k1, k2⟩
    · rcases List.mem_append.mp hx with x1 | x1
      · exact s3 x x1
      · rw [List.mem_singleton.mp x1]; exact hq
    · show (S.2.2.1 ++ [q]).length ≤ 30
      omega
    · have := s11 k kk1 kk2
      show 0 ≤ sB S k ∧ sB S k ≤ ((S.2.2.1 ++ [q]).length : Int)
      omega
    · have := b2 i hi
      show (S.1 i).1 5 ≤ t + 1 ∧ _
      exact ⟨by omega, this.2⟩
    · rw [eCL] at hx
      rcases List.mem_append.mp hx with x1 | x1
      · have := b3' x x1
        exact ⟨by omega, this.2⟩
      · rw [List.mem_singleton.mp x1, q5, q6]
        exact ⟨by omega, c2.2⟩
    · show sT S 5 ≤ t + 1; omega
    · show sT S 6 ≤ t + 1; omega
    · show sT S 8 ≤ 8 * (t + 1); omega
    · show sC S 9 + sC S 10 ≤ t + 1; omega
    · show 0 ≤ U.1 16 + 1; omega
    · show U.1 16 + 1 ≤ t + 1; omega
  | false =>
    have hn0 := nB_f hb
    have hni := hni hn0
    have eS : yPush S q = uC (xMade (uP S (S.2.1 ++ [q]))) 12 0 := by
      unfold yPush
      rw [if_neg (by omega), hb]; rfl
    have eU : oS (oMade U p) 12 0 = oS (oS (oS (oPush U p) 5 (U.1 5 + 1)) 11 (if U.1 11 < cntO (U.2.2.1 ++ [p]) then cntO (U.2.2.1 ++ [p]) else U.1 11)) 12 0 := by unfold oMade; rw [if_neg (by omega)]
    rw [eS, eU]
    have e2 : S.2.2.1 = [] := List.eq_nil_of_length_eq_zero hni
    have eCL : CL (uC (xMade (uP S (S.2.1 ++ [q]))) 12 0) = CL S ++ [q] := by
      show (S.2.1 ++ [q]) ++ S.2.2.1 = (S.2.1 ++ S.2.2.1) ++ [q]
      rw [e2, List.append_nil, List.append_nil]
    have hlen' : (S.2.1 ++ [q]).length = S.2.1.length + 1 := by rw [List.length_append]; rfl
    have ecnt : cntO (U.2.2.1 ++ [p]) = S.2.1.length + 1 := by
      rw [cntO_app, hcnt]
      show _ + ((if p 45 = 0 then 1 else 0) + 0) = _
      rw [if_pos (by omega)]; omega
    rw [ecnt]
    obtain ⟨k1, k2⟩ := hpk (uC (xMade (uP S (S.2.1 ++ [q]))) 12 0) (oS (oS (oS (oPush U p) 5 (U.1 5 + 1)) 11 (if U.1 11 < (S.2.1.length : Int) + 1 then (S.2.1.length : Int) + 1 else U.1 11)) 12 0) rfl eCL (by rw [hb, if_neg (by decide)]; exact hlen') rfl (fun _ => rfl) rfl rfl rfl
    rw [hb] at hlen
    have hlen : S.2.1.length < 30 := hlen
    have eT : ∀ k, sT (uC (xMade (uP S (S.2.1 ++ [q]))) 12 0) k = if k = 4 then sT S 4 + (if 0 < ((S.2.1 ++ [q]).length : Int) - sT S 4 then ((S.2.1 ++ [q]).length : Int) - sT S 4 else 0) else if k = 5 then sT S 5 + 1 else sT S k := fun k => rfl
    have eC : ∀ k, sC (uC (xMade (uP S (S.2.1 ++ [q]))) 12 0) k = if k = 12 then 0 else sC S k := fun k => rfl
    have eW : (uC (xMade (uP S (S.2.1 ++ [q]))) 12 0).1 = S.1 := rfl
    have eL : (uC (xMade (uP S (S.2.1 ++ [q]))) 12 0).2.1 = S.2.1 ++ [q] := rfl
    have eN : (uC (xMade (uP S (S.2.1 ++ [q]))) 12 0).2.2.1 = S.2.2.1 := rfl
    have eQ : sQ (uC (xMade (uP S (S.2.1 ++ [q]))) 12 0) = sQ S := rfl
    have eB : ∀ k, sB (uC (xMade (uP S (S.2.1 ++ [q]))) 12 0) k = sB S k := fun _ => rfl
    have ecu : cur (uC (xMade (uP S (S.2.1 ++ [q]))) 12 0) = cur S := rfl
    have eu : ∀ k, (oS (oS (oS (oPush U p) 5 (U.1 5 + 1)) 11 (if U.1 11 < (S.2.1.length : Int) + 1 then (S.2.1.length : Int) + 1 else U.1 11)) 12 0).1 k = if k = 12 then 0 else if k = 11 then (if U.1 11 < (S.2.1.length : Int) + 1 then (S.2.1.length : Int) + 1 else U.1 11) else if k = 5 then U.1 5 + 1 else if k = 14 then U.1 14 + 1 else if k = 16 then U.1 16 + 1 else U.1 k := fun k => rfl
    have eua : (oS (oS (oS (oPush U p) 5 (U.1 5 + 1)) 11 (if U.1 11 < (S.2.1.length : Int) + 1 then (S.2.1.length : Int) + 1 else U.1 11)) 12 0).2.2.2 = U.2.2.2 := rfl
    generalize uC (xMade (uP S (S.2.1 ++ [q]))) 12 0 = S' at *
    generalize oS (oS (oS (oPush U p) 5 (U.1 5 + 1)) 11 (if U.1 11 < (S.2.1.length : Int) + 1 then (S.2.1.length : Int) + 1 else U.1 11)) 12 0 = U' at *
    obtain ⟨s1, s2, s3, s4, s5, s6, s7, s8, s9, s10, s11⟩ := b1
    have t4 : sT S' 4 = sT S 4 + (if 0 < ((S.2.1 ++ [q]).length : Int) - sT S 4 then ((S.2.1 ++ [q]).length : Int) - sT S 4 else 0) := eT 4
    have t5 : sT S' 5 = sT S 5 + 1 := eT 5
    have t2 : sT S' 2 = sT S 2 := eT 2
    have t6 : sT S' 6 = sT S 6 := eT 6
    have t7 : sT S' 7 = sT S 7 := eT 7
    have t8 : sT S' 8 = sT S 8 := eT 8
    have c7 : sC S' 7 = sC S 7 := eC 7
    have c8 : sC S' 8 = sC S 8 := eC 8
    have c9 : sC S' 9 = sC S 9 := eC 9
    have c10 : sC S' 10 = sC S 10 := eC 10
    have c11 : sC S' 11 = sC S 11 := eC 11
    have c12 : sC S' 12 = 0 := eC 12
    have c13 : sC S' 13 = sC S 13 := eC 13
    have u16 : U'.1 16 = U.1 16 + 1 := eu 16
    have s62 := s6 2
    have s64 := s6 4
    have s65 := s6 5
    have t4' : 0 ≤ sT S' 4 ∧ sT S' 4 ≤ 31 := by rw [t4]; split <;> omega
    refine ⟨⟨⟨by rw [eW]; exact s1, fun x hx => ?_, by rw [eN]; exact s3, by rw [eL]; omega, by rw [eN]; exact s5, fun k => ?_, by rw [c11]; exact s7, by rw [c9]; exact s8, by rw [c13]; exact s9, by rw [eQ]; exact s10, fun k kk1 kk2 => ?_⟩, fun i hi => ?_, rb3 fun x hx => ?_, by omega, by omega, by omega, ?_, by omega, by omega, by omega, t4'.2, by rw [c10]; exact b12, Or.inl c12, by omega, by omega⟩, ⟨?_, ?_, ?_, ?_, ?_, ?_, ?_, ?_, ?_, ?_, ?_, ?_, ?_, by rw [c13]; exact nb, by rw [eua, eQ]; exact na⟩, ⟨?_, ?_⟩, k1, k2⟩
    · rw [eL] at hx
      rcases List.mem_append.mp hx with x1 | x1
      · exact s2 x x1
      · rw [List.mem_singleton.mp x1]; exact hq
    · by_cases c : k = 4
      · rw [c]; omega
      · by_cases c1 : k = 5
        · rw [c1]; omega
        · rw [show sT S' k = sT S k from (eT k).trans ((if_neg c).trans (if_neg c1))]; exact s6 k
    · rw [c11] at kk2
      rw [eB, eN]; exact s11 k kk1 kk2
    · rw [ecu] at hi
      have := b2 i hi
      rw [eW]
      exact ⟨by omega, this.2⟩
    · rw [eCL] at hx
      rcases List.mem_append.mp hx with x1 | x1
      · have := b3' x x1
        exact ⟨by omega, this.2⟩
      · rw [List.mem_singleton.mp x1, q5, q6]
        exact ⟨by omega, c2.2⟩
    · rw [eL]; omega
    · rw [show U'.1 0 = U.1 0 from eu 0, c7]; exact n0
    · rw [show U'.1 1 = U.1 1 from eu 1, c8]; exact n1
    · rw [show U'.1 4 = U.1 4 from eu 4, t2]; exact n4
    · rw [show U'.1 5 = U.1 5 + 1 from eu 5, t5, n5]
    · rw [show U'.1 6 = U.1 6 from eu 6, t6]; exact n6
    · rw [show U'.1 7 = U.1 7 from eu 7, t7]; exact n7
    · rw [show U'.1 8 = U.1 8 from eu 8, t8]; exact n8
    · rw [show U'.1 9 = U.1 9 from eu 9, c9]; exact n9
    · rw [show U'.1 10 = U.1 10 from eu 10, c10]; exact n10
    · rw [show U'.1 11 = _ from eu 11, t4, n11]
      split <;> split <;> omega
    · rw [show U'.1 12 = 0 from eu 12, c12]
    · rw [show U'.1 13 = U.1 13 from eu 13, c11]; exact n13
    · rw [show U'.1 15 = U.1 15 from eu 15, eQ]; exact n15
    · rw [show U'.1 2 = U.1 2 from eu 2]; exact hRP.1
    · rw [show U'.1 3 = U.1 3 from eu 3]; exact hRP.2
end RSPUSH
