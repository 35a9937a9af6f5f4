/-! a not is left on both sides -/
theorem cb_id {id ins : Int} {p : Pf} (h : p 34 ≠ id) : cb id ins p = p := if_neg h
theorem leaveF_none {gone : Int} : ∀ (n : Nat) (U : Tr), (∀ J, J < n → gp U.2.2.1 J 45 < gone) → leaveF gone n U = U
  | 0, U, _ => rfl
  | n + 1, U, h => by
    rw [leaveF, if_pos (h n (by omega))]
    exact leaveF_none n U fun J hJ => h J (by omega)
theorem gp_take {l : List Pf} {L J : Nat} (h : J < L) : gp (l.take L) J = gp l J := by
  unfold gp
  rw [List.getElem?_take, if_pos h]
theorem leave_ok {gone L : Nat} : ∀ (n : Nat) (U : Tr), U.2.2.1.length = n → L ≤ n → (∀ J, J < n → (L ≤ J ↔ (gone : Int) ≤ gp U.2.2.1 J 45)) → (∀ J R, J < L → L ≤ R → R < n → gp U.2.2.1 J 34 ≠ gp U.2.2.1 R 44) → (∀ v : Nat, v < gone → ∀ R, L ≤ R → R < n → U.2.1 v 34 ≠ gp U.2.2.1 R 44) →
    (leaveF gone n U).2.2.1 = U.2.2.1.take L ∧ (∀ v : Nat, v < gone → (leaveF gone n U).2.1 v = U.2.1 v) ∧ (∀ k, k ≠ 14 → (leaveF gone n U).1 k = U.1 k) ∧ (leaveF gone n U).2.2.2 = U.2.2.2
  | 0, U, hl, hL, _, _, _ => by
    rw [leaveF]
    exact ⟨by rw [List.take_of_length_le (by omega)], fun _ _ => rfl, fun _ _ => rfl, rfl⟩
  | n + 1, U, hl, hL, hlv, hpa, hwa => by
    by_cases c : L ≤ n
    · rw [leaveF, if_neg (by have := (hlv n (by omega)).mp c; omega)]
      have hR : n < U.2.2.1.length := by omega
      have hlen := oOff_len (U := U) (i := n) (p := gp U.2.2.1 n) hR
      have hg : ∀ J, J < n → gp (oOff U n (gp U.2.2.1 n)).2.2.1 J = cb (gp U.2.2.1 n 44) (gp U.2.2.1 n 34) (gp U.2.2.1 J) := fun J hJ => by
        have := gp_map_erase (l := U.2.2.1) (f := cb (gp U.2.2.1 n 44) (gp U.2.2.1 n 34)) (R := n) (J := J) (Or.inr ⟨by omega, hJ⟩)
        rw [if_pos hJ] at this
        exact this
      have hgL : ∀ J, J < L → gp (oOff U n (gp U.2.2.1 n)).2.2.1 J = gp U.2.2.1 J := fun J hJ => by
        rw [hg J (by omega), cb_id (hpa J n hJ c (by omega))]
      have hw : ∀ v : Nat, v < gone → (oOff U n (gp U.2.2.1 n)).2.1 v = U.2.1 v := fun v hv => by
        show (if (v : Int) ≤ U.1 13 then cb _ _ (U.2.1 v) else U.2.1 v) = U.2.1 v
        split
        · exact cb_id (hwa v hv n c (by omega))
        · rfl
      obtain ⟨i1, i2, i3, i4⟩ := leave_ok (gone := gone) (L := L) n (oOff U n (gp U.2.2.1 n)) (by omega) c (fun J hJ => by rw [hg J hJ, cb_k (by decide)]; exact hlv J (by omega)) (fun J R hJ hLR hRn => by rw [hgL J hJ, hg R hRn, cb_k (by decide)]; exact hpa J R hJ hLR (by omega)) (fun v hv R hLR hRn => by rw [hw v hv, hg R hRn, cb_k (by decide)]; exact hwa v hv R hLR (by omega))
      refine ⟨?_, fun v hv => by rw [i2 v hv, hw v hv], fun k hk => by rw [i3 k hk, oOff_s hk], by rw [i4]; rfl⟩
      rw [i1]
      apply List.ext_getElem?
      intro J
      rw [List.getElem?_take, List.getElem?_take]
      by_cases cJ : J < L
      · rw [if_pos cJ, if_pos cJ]
        have e1 := gp_some (l := (oOff U n (gp U.2.2.1 n)).2.2.1) (i := J) (by omega)
        have e2 := gp_some (l := U.2.2.1) (i := J) (by omega)
        rw [e1, e2, hgL J cJ]
      · rw [if_neg cJ, if_neg cJ]
    · have : L = n + 1 := by omega
      rw [leaveF_none (n + 1) U fun J hJ => by
        have := (hlv J hJ)
        omega]
      exact ⟨by rw [List.take_of_length_le (by omega)], fun _ _ => rfl, fun _ _ => rfl, rfl⟩
section POP
variable {M : ZMem} {P : Pg} {σ : Int → Int} {root price : Int} {e : Nat} {D : Int → Int} {S : Sr} {U U' : Tr} {b t : Int}
/-- the innermost not is no more -/
theorem RS_pop (h : RS P σ root price D S U b t) (hn1 : 1 ≤ sC S 11) (hp : U'.2.2.1 = U.2.2.1.take (loS S (sC S 11))) (hw : ∀ v : Nat, v < cur S → U'.2.1 v = U.2.1 v) (hs : ∀ k, k ≠ 13 → k ≠ 14 → U'.1 k = U.1 k) (h13 : U'.1 13 = sC S 11 - 1) (ha : U'.2.2.2 = U.2.2.2) : RS P σ root price D (uC (uN S (S.2.2.1.take (sB S (cur S)).toNat)) 11 (sC S 11 - 1)) U' b t := by
  obtain ⟨⟨b1, b2, b3, b4, b5, b6, b7, b8, b9, b10, b11, b12, b13, b14, b15⟩, ⟨n0, n1, n4, n5, n6, n7, n8, n9, n10, n11, n12, n13, n15, nb, na⟩, hRP, hP, hW⟩ := h
  have hn := b1.n
  have hcu := cur_n hn.1
  have hl := CL_len (S := S)
  have hP0 := hP
  obtain ⟨a1, a2, a3, a4, a5, a6, a7⟩ := hP
  obtain ⟨w1, w2, w3, w4⟩ := hW
  obtain ⟨s1, s2, s3, s4, s5, s6, s7, s8, s9, s10, s11⟩ := b1
  have hA := a6 (cur S) (by omega) (by omega)
  have eL : loS S (sC S 11) = S.2.1.length + (sB S (cur S)).toNat := by unfold loS; rw [if_neg (by omega)]; rfl
  have eLc : loS S (cur S : Int) = loS S (sC S 11) := by rw [hcu]
  generalize hL : loS S (sC S 11) = L at *
  have hLl : L ≤ (CL S).length := by omega
  let S' := uC (uN S (S.2.2.1.take (sB S (cur S)).toNat)) 11 (sC S 11 - 1)
  have eS : S' = uC (uN S (S.2.2.1.take (sB S (cur S)).toNat)) 11 (sC S 11 - 1) := rfl
  have hCL : CL S' = (CL S).take L := by
    show S.2.1 ++ S.2.2.1.take (sB S (cur S)).toNat = (S.2.1 ++ S.2.2.1).take L
    rw [List.take_append, eL, Nat.add_sub_cancel_left, List.take_of_length_le (l := S.2.1) (by omega)]
  have hCLl : (CL S').length = L := by rw [hCL, List.length_take]; omega
  have hgq : ∀ J, J < L → gq (CL S') J = gq (CL S) J := fun J hJ => by
    rw [hCL]; unfold gq
    rw [List.getElem?_take, if_pos hJ]
  have hgp : ∀ J, J < L → gp U'.2.2.1 J = gp U.2.2.1 J := fun J hJ => by rw [hp, gp_take hJ]
  have hcur' : cur S' = cur S - 1 := by show (sC S 11 - 1).toNat = _; omega
  have e11 : sC S' 11 = sC S 11 - 1 := rfl
  have eC : ∀ k, k ≠ 11 → sC S' k = sC S k := fun k hk => fup_ne hk
  have ecs : ∀ J, J < L → csS S' J = csS S J := fun J hJ => by
    unfold csS
    rw [hgq J hJ]
    rfl
  have edp : ∀ J, J < L → dpS S' J = dpS S J := fun J hJ => by unfold dpS; rw [hgq J hJ]
  have eid : ∀ J, J < L → idU U' J = idU U J := fun J hJ => by unfold idU; rw [hgp J hJ]
  have elo : ∀ l : Int, loS S' l = loS S l := fun l => rfl
  have est : ∀ l : Int, stS S' l = stS S l := fun l => rfl
  have lvJ : ∀ J, J < L → 0 ≤ gp U.2.2.1 J 45 ∧ gp U.2.2.1 J 45 ≤ sC S 11 - 1 := fun J hJ => by
    by_cases c : J < S.2.1.length
    · rw [a4 J c]; omega
    · have g := a5 J (by omega) (by omega)
      have := hA.2.2 J (by omega) (by omega)
      rw [eLc] at this
      have : ¬ ((cur S : Int) ≤ gp U.2.2.1 J 45) := fun q => by have := this.mpr q; omega
      omega
  have tk : (S.2.2.1.take (sB S (cur S)).toNat).length = (sB S (cur S)).toNat := by rw [List.length_take]; omega
  have b3' := rb3' b3
  refine ⟨⟨⟨s1, s2, fun p hp => s3 p (List.mem_of_mem_take hp), s4, by show (S.2.2.1.take _).length ≤ 30; rw [tk]; omega, s6, by rw [e11]; omega, s8, s9, s10, fun k k1 k2 => ?_⟩, fun i hi => b2 i (by rw [hcur'] at hi; omega), rb3 fun q hq => ?_, b4, b5, b6, b7, b8, b9, b10, b11, b12, b13, by rw [hs 16 (by decide) (by decide)]; exact b14, by rw [hs 16 (by decide) (by decide)]; exact b15⟩,
    ⟨by rw [hs 0 (by decide) (by decide)]; exact n0, by rw [hs 1 (by decide) (by decide)]; exact n1, by rw [hs 4 (by decide) (by decide)]; exact n4, by rw [hs 5 (by decide) (by decide)]; exact n5, by rw [hs 6 (by decide) (by decide)]; exact n6, by rw [hs 7 (by decide) (by decide)]; exact n7, by rw [hs 8 (by decide) (by decide)]; exact n8, by rw [hs 9 (by decide) (by decide)]; exact n9, by rw [hs 10 (by decide) (by decide)]; exact n10, by rw [hs 11 (by decide) (by decide)]; exact n11, by rw [hs 12 (by decide) (by decide)]; exact n12, h13, by rw [hs 15 (by decide) (by decide)]; exact n15, nb, by rw [ha]; exact na⟩,
    ⟨by rw [hs 2 (by decide) (by decide)]; exact hRP.1, by rw [hs 3 (by decide) (by decide)]; exact hRP.2⟩, ⟨?_, fun J hJ => ?_, fun i j hij hj => ?_, fun J hJ => ?_, fun J h1 h2 => ?_, fun i i1 i2 => ?_, fun J hJ => ?_⟩, ⟨w1, fun i hi => ?_, ?_, fun i i1 hi => ?_⟩⟩
  · show 0 ≤ sB S k ∧ sB S k ≤ ((S.2.2.1.take (sB S (cur S)).toNat).length : Int)
    rw [tk]
    have hk : k ≤ cur S - 1 := by
      have : k ≤ (sC S 11 - 1).toNat := k2
      omega
    have hk6 := a6 k k1 (by omega)
    refine ⟨hk6.1, ?_⟩
    -- the lower base is below
    by_cases c : S.2.1.length + (sB S (cur S)).toNat < (CL S).length
    · have g1 := (hA.2.2 _ (Nat.le_add_right _ _) c).mp (by omega)
      have g2 := (hk6.2.2 _ (Nat.le_add_right _ _) c).mpr (by omega)
      rw [loS_i, if_neg (by omega)] at g2
      omega
    · omega
  · have hq : q ∈ CL S' := hq
    rw [hCL] at hq
    exact b3' q (List.mem_of_mem_take hq)
  · rw [← eS, hCLl, hp, List.length_take, a1]; omega
  · rw [← eS, hCLl] at hJ
    rw [eid J hJ, hs 16 (by decide) (by decide)]
    exact a2 J (by omega)
  · rw [← eS, hCLl] at hj
    rw [eid i (by omega), eid j hj]
    exact a3 i j hij (by omega)
  · have hJ : J < S.2.1.length := hJ
    rw [hgp J (by omega)]
    exact a4 J hJ
  · rw [← eS, hCLl] at h2
    have h1 : S.2.1.length ≤ J := h1
    rw [hgp J h2]
    have := a5 J h1 (by omega)
    have := lvJ J h2
    rw [← eS, e11]
    omega
  · rw [← eS, e11] at i2
    have g := a6 i i1 (by omega)
    refine ⟨g.1, ?_, fun J j1 j2 => ?_⟩
    · show sB S i ≤ ((S.2.2.1.take (sB S (cur S)).toNat).length : Int)
      rw [tk]
      by_cases c : S.2.1.length + (sB S (cur S)).toNat < (CL S).length
      · have g1 := (hA.2.2 _ (Nat.le_add_right _ _) c).mp (by omega)
        have g2 := (g.2.2 _ (Nat.le_add_right _ _) c).mpr (by omega)
        rw [loS_i, if_neg (by omega)] at g2
        omega
      · omega
    · rw [← eS, hCLl] at j2
      have j1 : S.2.1.length ≤ J := j1
      rw [hgp J j2]
      exact g.2.2 J j1 (by omega)
  · rw [← eS, hCLl] at hJ
    obtain ⟨c1, c2⟩ := a7 J (by omega)
    rw [← eS, hgp J hJ, hgq J hJ, ecs J hJ, edp J hJ]
    refine ⟨c1, CM_congr (fun k hk => ⟨eid k (by omega), ecs k (by omega), edp k (by omega)⟩) c2⟩
  · rw [← eS, hcur'] at hi
    obtain ⟨c1, c2⟩ := w2 i (by omega)
    rw [hw i (by omega)]
    have eh : hiS S' i = hiS S i := by
      unfold hiS
      rw [e11, hCLl]
      by_cases c : (i : Int) < sC S 11 - 1
      · rw [if_pos c, if_pos (by omega)]; rfl
      · rw [if_neg c, if_pos (by omega)]
        have : ((i : Int) + 1) = sC S 11 := by omega
        rw [this, hL]
    rw [← eS, eh]
    refine ⟨c1, CM_congr (fun k hk => ?_) c2⟩
    have : hiS S i ≤ L := by
      rw [← eh]
      unfold hiS
      split
      · rw [elo]
        rename_i c
        rw [e11] at c
        have g := a6 (i + 1) (by omega) (by omega)
        by_cases c2 : S.2.1.length + (sB S (cur S)).toNat < (CL S).length
        · have g1 := (hA.2.2 _ (Nat.le_add_right _ _) c2).mp (by omega)
          have g2 := (g.2.2 _ (Nat.le_add_right _ _) c2).mpr (by omega)
          have e2 : loS S (((i + 1 : Nat)) : Int) = loS S ((i : Int) + 1) := by congr 1
          omega
        · have e2 : loS S (((i + 1 : Nat)) : Int) = loS S ((i : Int) + 1) := by congr 1
          rw [← e2, loS_i, if_neg (by omega)]
          omega
      · omega
    exact ⟨eid k (by omega), ecs k (by omega), edp k (by omega)⟩
  · rw [hw 0 (by omega)]; exact w3
  · rw [← eS, hcur'] at hi
    exact w4 i i1 (by omega)
end POP
