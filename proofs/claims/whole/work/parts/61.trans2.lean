/-! through a not, out of a not, anew, an answer: the relation stays -/
theorem fup_comm {α : Type} {f : Nat → α} {j k : Nat} {x y : α} (h : j ≠ k) : fup (fup f j x) k y = fup (fup f k y) j x := by
  funext i
  show (if i = k then y else if i = j then x else f i) = if i = j then x else if i = k then y else f i
  by_cases c : i = k
  · rw [if_pos c, if_neg (by omega), if_pos c]
  · rw [if_neg c, if_neg c]
section TRANS2
variable {M : ZMem} {P : Pg} {σ : Int → Int} {root price : Int} {e : Nat} {D : Int → Int} {S : Sr} {U U' : Tr} {b t : Int}
theorem RS_thr (h : RS P σ root price D S U b t) (hn1 : 1 ≤ sC S 11) : RS P σ root price D (uC (uN (uC S 12 0) (S.2.2.1.take (sB S (cur S)).toNat)) 11 (sC S 11 - 1)) (oS (oS (leaveF (cur S) U.2.2.1.length U) 13 ((cur S : Int) - 1)) 12 0) b t := by
  have hn := h.sb.n
  have hcu := cur_n hn.1
  have hP := h.2.2.2.1
  have hl := CL_len (S := S)
  obtain ⟨a1, a2, a3, a4, a5, a6, a7⟩ := id hP
  have hA := a6 (cur S) (by omega) (by omega)
  have eL : loS S (cur S : Int) = S.2.1.length + (sB S (cur S)).toNat := by rw [loS_i, if_neg (by omega)]
  have g := leave_ok (gone := cur S) (L := loS S (cur S)) U.2.2.1.length U rfl (by omega) (fun J hJ => ?_) (fun J R hJ hLR hR => ?_) (fun v hv R hLR hR => ?_)
  · obtain ⟨g1, g2, g3, g4⟩ := g
    have r := RS_pop (U' := oS (leaveF (cur S) U.2.2.1.length U) 13 ((cur S : Int) - 1)) h hn1 (by rw [← hcu]; exact g1) g2 (fun k k1 k2 => by
      show fup (leaveF (cur S) U.2.2.1.length U).1 13 _ k = _
      rw [fup_ne k1]; exact g3 k k2) (by
      show fup (leaveF (cur S) U.2.2.1.length U).1 13 ((cur S : Int) - 1) 13 = sC S 11 - 1
      rw [fup_self]; omega) g4
    have r2 := RS_stand r (x := 0) (Or.inl rfl)
    have e1 : uC (uC (uN S (S.2.2.1.take (sB S (cur S)).toNat)) 11 (sC S 11 - 1)) 12 0 = uC (uN (uC S 12 0) (S.2.2.1.take (sB S (cur S)).toNat)) 11 (sC S 11 - 1) := by
      show (_, _, _, _, _, _, fup (fup S.2.2.2.2.2.2 11 _) 12 0) = (_, _, _, _, _, _, fup (fup S.2.2.2.2.2.2 12 0) 11 _)
      rw [fup_comm (show 11 ≠ 12 by decide)]
      rfl
    rw [e1] at r2
    exact r2
  · by_cases c : J < S.2.1.length
    · rw [a4 J c]
      constructor
      · intro q; omega
      · intro q; omega
    · exact hA.2.2 J (by omega) (by omega)
  · have c := (a7 J (by omega)).2
    have iR := a2 R (by omega)
    rcases c with ⟨c1, _⟩ | ⟨k, k1, k2, k3, _, _⟩
    · intro q
      have : idU U R = -1 := by unfold idU; rw [← q]; exact c1
      omega
    · intro q
      have := a3 k R (by omega) (by omega)
      unfold idU at *
      omega
  · have c := (h.2.2.2.2.2.1 v (by omega)).2
    have iR := a2 R (by omega)
    have hh : hiS S v ≤ loS S (cur S) := by
      unfold hiS
      rw [if_pos (by omega)]
      have gg := a6 (v + 1) (by omega) (by omega)
      have e2 : loS S (((v + 1 : Nat)) : Int) = loS S ((v : Int) + 1) := by congr 1
      rw [← e2]
      have lR := (hA.2.2 R (by omega) (by omega)).mp hLR
      by_cases c2 : loS S (cur S) < (CL S).length
      · exact (gg.2.2 _ (by omega) c2).mpr (by have := (hA.2.2 _ (by omega) c2).mp (Nat.le_refl _); omega)
      · omega
    rcases c with ⟨c1, _⟩ | ⟨k, k1, k2, k3, _, _⟩
    · intro q
      have : idU U R = -1 := by unfold idU; rw [← q]; exact c1
      omega
    · intro q
      have := a3 k R (by omega) (by omega)
      unfold idU at *
      omega
theorem RS_exit (hPR : PR M P σ root price e) (h : RS P σ root price D S U b t) (hn1 : 1 ≤ sC S 11) (hb : ¬ sB S (cur S) < S.2.2.1.length) : RS P σ root price D (uW (uC (uC S 11 (sC S 11 - 1)) 12 1) (cur S - 1) (fup (S.1 (cur S - 1)).1 3 (gBehind P ((S.1 (cur S - 1)).1 3)), (S.1 (cur S - 1)).2)) (oS (oW (oS U 13 ((cur S : Int) - 1)) (cur S - 1) (fup (U.2.1 (cur S - 1)) 8 (mI M 2236 (U.2.1 (cur S - 1) 8).toNat))) 12 1) b t := by
  have hn := h.sb.n
  have hcu := cur_n hn.1
  have hl := CL_len (S := S)
  obtain ⟨a1, a2, a3, a4, a5, a6, a7⟩ := id h.2.2.2.1
  have hA := a6 (cur S) (by omega) (by omega)
  have eL : loS S (sC S 11) = S.2.1.length + (sB S (cur S)).toNat := by rw [← hcu, loS_i, if_neg (by omega)]
  have r := RS_pop (U' := oS U 13 ((cur S : Int) - 1)) h hn1 (by
    show U.2.2.1 = _
    rw [List.take_of_length_le (by omega)]) (fun _ _ => rfl) (fun k k1 k2 => fup_ne k1) (by
    show fup U.1 13 ((cur S : Int) - 1) 13 = sC S 11 - 1
    rw [fup_self]; omega) rfl
  rw [List.take_of_length_le (by omega)] at r
  have r : RS P σ root price D (uC S 11 (sC S 11 - 1)) (oS U 13 ((cur S : Int) - 1)) b t := r
  obtain ⟨w4a, w4b⟩ := h.2.2.2.2.2.2.2 (cur S) (by omega) (Nat.le_refl _)
  have est : stS S (cur S) = (S.1 (cur S - 1)).1 3 := by unfold stS; rw [if_neg (by omega), Int.toNat_natCast]
  rw [est] at w4a w4b
  have ec : cur (uC S 11 (sC S 11 - 1)) = cur S - 1 := by show (sC S 11 - 1).toNat = _; omega
  have wr := h.2.2.2.2.2.1 (cur S - 1) (by omega)
  have e8 := (wr.1.around w4a).2
  have r2 := RS_on hPR r (s := (S.1 (cur S - 1)).1 3) (by rw [ec]; rfl) w4a
  have r3 := RS_stand r2 (x := 1) (Or.inr rfl)
  unfold xOn at r3
  rw [ec] at r3
  rw [e8]
  exact r3
end TRANS2
