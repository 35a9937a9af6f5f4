/-! a point is taken: parts -/
section TOOK
variable {M : ZMem} {P : Pg} {σ : Int → Int} {root price : Int} {e : Nat} {D : Int → Int} {S S' : Sr} {U U' : Tr} {b t stop Dd : Int}
theorem unlN_eq {f f' g g' : Nat → Int} : ∀ n : Nat, (∀ k, k < n → f k = f' k) → (∀ k, k < n → g k = g' k) → unlN f g n = unlN f' g' n
  | 0, _, _ => rfl
  | n + 1, h1, h2 => by
    show unlN f g n + (if f n = g n then 0 else 1) = unlN f' g' n + (if f' n = g' n then 0 else 1)
    rw [unlN_eq n (fun k hk => h1 k (by omega)) (fun k hk => h2 k (by omega)), h1 n (by omega), h2 n (by omega)]
/-- the way that a point's taking begins -/
theorem took_way (hPR : PR M P σ root price e) {q : Pt} {p : Pf} {i : Nat} (h : PtR P σ stop Dd q p) (hp : pB P q) : WR P σ stop Dd (tWay P q i) (wTaken M p) ∧ wTaken M p 34 = p 44 ∧ wTaken M p 33 = p 33 + (if 0 < q.2.2 4 then 1 else 0) ∧ (tWay P q i).1 5 = q.1.1 5 + 1 ∧ (tWay P q i).1 6 = q.1.1 6 + (if 0 < q.2.2 4 then 1 else 0) ∧ (tWay P q i).2.2.2.2 = fup q.1.2.2.2.2 i true ∧ ((tWay P q i).2.2.2.1 = q.1.2.2.2.1) ∧ ∀ v, isV ((tWay P q i).2.1 v) := by
  obtain ⟨h1, ⟨h2, h3⟩, h4, h5, h6, h7, h8, h9, h10, h11⟩ := h
  obtain ⟨p1, p2, p3, p4, p5, p6⟩ := hp
  have hwr := h1
  obtain ⟨x1, x2, ⟨m, hm, x3, x4⟩, x5, x6, x7, x8⟩ := h1
  -- the way as it was at the point, one deeper
  have hT : ∀ k, k < 32 → wTake p k = p k := fun k hk => by
    unfold wTake
    rw [fup_ne (by omega), fup_ne (by omega), fup_ne (by omega)]
    exact tq_at (Nat.zero_le _) (by omega)
  have hT32 : wTake p 32 = p 32 + 1 := by
    unfold wTake
    rw [fup_ne (by decide), fup_self]
  have hT33 : wTake p 33 = p 33 + (if 0 < p 36 then 1 else 0) := by unfold wTake; rw [fup_self]
  have hT34 : wTake p 34 = p 44 := by
    unfold wTake
    rw [fup_ne (by decide), fup_ne (by decide), fup_self]
  have hup : WR P σ stop Dd (tUp q i) (wTake p) := by
    have u3 : (tUp q i).1 3 = q.1.1 3 := rfl
    have u4 : (tUp q i).1 4 = q.1.1 4 := rfl
    have u5 : (tUp q i).1 5 = q.1.1 5 + 1 := rfl
    have u6 : (tUp q i).1 6 = q.1.1 6 + (if 0 < q.2.2 4 then 1 else 0) := rfl
    have um : (tUp q i).2.2.1 = q.1.2.2.1 := rfl
    refine ⟨fun k hk => by rw [hT k (by omega)]; exact x1 k hk, by rw [u3, u4, hT 8 (by omega)]; exact x2, ⟨m, hm, by rw [hT 9 (by omega)]; exact x3, ?_⟩, by rw [hT 31 (by omega), u4, um]; exact x5, by rw [hT32, u5, x6]; omega, ?_, ?_⟩
    · rw [u4]
      exact FRM_cell (w := q.1) (w' := tUp q i) (r := p) rfl rfl m _ (fun k k1 k2 => hT k (by omega)) x4
    · rw [hT33]; split <;> omega
    · rw [hT33, u6, h5]; split <;> omega
  have hval : q.2.2 4 < q.2.2 3 := p6
  have u3 : (tUp q i).1 3 = q.1.1 3 := rfl
  by_cases k5 : gKind P (q.1.1 3) = 5
  · obtain ⟨g1, g2, g3, g4, g5⟩ := hPR.k5 h2 k5
    have hpar := h9 k5
    have gk := g5 (q.2.2 4).toNat (by omega)
    rw [show (((q.2.2 4).toNat : Nat) : Int) = q.2.2 4 by omega] at gk
    have ew : wTaken M p = wEnters (wTake p) (p 35) (mI M 2233 (pk M (mI M 2233 (p 35).toNat) (p 36).toNat).toNat) 0 := by
      unfold wTaken
      rw [if_pos (by rw [h4]; exact g1)]
    have et : tWay P q i = wEnter (tUp q i) (q.1.1 3) (gPartFirst P (q.1.1 3) (q.2.2 4)) (gLevel P (q.1.1 3) + 1) := by
      unfold tWay
      rw [if_pos k5]
    have har := (hwr.around h2).1
    have hE := WR_enter (rounds := 0) (x := p 35) (y := mI M 2233 (pk M (mI M 2233 (p 35).toNat) (p 36).toNat).toNat) (first := gPartFirst P (q.1.1 3) (q.2.2 4)) (s := q.1.1 3) hPR hup h2 har (Or.inl k5) g4 ⟨gk.2.1, gk.2.2.1⟩ h4 (by rw [h4, h5]; exact gk.2.2.2) (by decide) (fun c => by omega)
    obtain ⟨f1, f2, f3⟩ := wSetMark_f (w := (fup (fup (tUp q i).1 4 (q.1.1 3)) 3 (gPartFirst P (q.1.1 3) (q.2.2 4)), (tUp q i).2)) (l := gLevel P (q.1.1 3) + 1)
    have w9 : wTake p 9 = m := by rw [hT 9 (by omega)]; exact x3
    have far : ∀ k, 32 < k → wEnters (wTake p) (p 35) (mI M 2233 (pk M (mI M 2233 (p 35).toNat) (p 36).toNat).toNat) 0 k = wTake p k := fun k hk => by
      unfold wEnters
      rw [w9, fup_ne (by omega), fup_ne (by omega), fup_ne (by omega), fup_ne (by omega), fup_ne (by omega), fup_ne (by omega)]
    rw [ew, et]
    refine ⟨hE, by rw [far 34 (by decide)]; exact hT34, by rw [far 33 (by decide), hT33, h5], ?_, ?_, ?_, ?_, fun v => ?_⟩
    · unfold wEnter; rw [f1]; rfl
    · unfold wEnter; rw [f1]; rfl
    · unfold wEnter; rw [f3]; rfl
    · unfold wEnter; rw [f3]; rfl
    · unfold wEnter; rw [f2]; exact p1.1 v
  · have hk34 : gKind P (q.1.1 3) = 3 ∨ gKind P (q.1.1 3) = 4 := by omega
    have hop : mI M 2232 (p 35).toNat = (if gKind P (q.1.1 3) = 3 then 8 else 9) ∧ mI M 2233 (p 35).toNat = gDetail P (q.1.1 3) ∧ (0 ≤ gDetail P (q.1.1 3) ∧ gDetail P (q.1.1 3) < 8) := by
      rcases hk34 with k | k
      · obtain ⟨g1, g2, g3, _⟩ := hPR.k3 h2 k
        rw [if_pos k, h4]; exact ⟨g1, g2, g3⟩
      · obtain ⟨g1, g2, g3, _⟩ := hPR.k4 h2 k
        rw [if_neg (by omega), h4]; exact ⟨g1, g2, g3⟩
    have hv : (if mI M 2232 (p 35).toNat = 8 then p 38 + p 36 else p (38 + (p 36).toNat)) = tVal P q ∧ isV (tVal P q) := by
      rw [hop.1]
      unfold tVal
      rcases hk34 with k | k
      · obtain ⟨y1, y2⟩ := p3 k
        have y1 : -999 ≤ q.2.2 2 ∧ q.2.2 2 ≤ 999 := y1
        rw [if_pos k, if_pos rfl, if_pos k, h7 k, h5]
        exact ⟨rfl, show -999 ≤ _ ∧ _ ≤ 999 by omega⟩
      · obtain ⟨y1, y2⟩ := p2 (by omega) (by omega)
        have y3 := y2 (q.2.2 4).toNat (by omega)
        have k3 : ¬ gKind P (q.1.1 3) = 3 := by omega
        rw [if_neg k3, if_neg (show ¬ (9 : Int) = 8 by decide), if_neg k3, if_pos ⟨p5, by omega⟩, h5]
        exact ⟨h8 k _ (by omega), y3⟩
    have ew : wTaken M p = fup (fup (wTake p) (gDetail P (q.1.1 3)).toNat (tVal P q)) 8 (mI M 2236 (σ (q.1.1 3)).toNat) := by
      unfold wTaken
      rw [if_neg (by rw [hop.1]; split <;> decide), hv.1, hop.2.1, h4]
    have et : tWay P q i = (fup (wSetValue (tUp q i) (gDetail P (q.1.1 3)) (tVal P q)).1 3 (gBehind P (q.1.1 3)), (wSetValue (tUp q i) (gDetail P (q.1.1 3)) (tVal P q)).2) := by
      unfold tWay
      rw [if_neg k5]
    have esv : wSetValue (tUp q i) (gDetail P (q.1.1 3)) (tVal P q) = ((tUp q i).1, fup (tUp q i).2.1 (gDetail P (q.1.1 3)).toNat (tVal P q), (tUp q i).2.2) := by
      unfold wSetValue
      rw [if_pos hop.2.2]
    have hE := WR_on hPR (WR_val (v := tVal P q) hup hop.2.2) (by rw [esv]; exact h2)
    rw [esv] at hE et
    rw [ew, et]
    have d8 := hop.2.2
    refine ⟨hE, ?_, ?_, rfl, rfl, rfl, rfl, fun v => ?_⟩
    · rw [fup_ne (by decide), fup_ne (by omega)]; exact hT34
    · rw [fup_ne (by decide), fup_ne (by omega), hT33, h5]
    · show isV (fup q.1.2.1 _ _ v)
      by_cases c : v = (gDetail P (q.1.1 3)).toNat
      · rw [c, fup_self]; exact hv.2
      · rw [fup_ne c]; exact p1.1 v
theorem gq_set {l : List Pt} {R J : Nat} {x : Pt} (hR : R < l.length) : gq (l.set R x) J = if J = R then x else gq l J := by
  unfold gq
  rw [List.getElem?_set]
  by_cases c : R = J
  · rw [if_pos c, if_pos c.symm, if_pos (by omega)]; rfl
  · rw [if_neg c, if_neg (fun q => c q.symm)]
theorem gp_set {l : List Pf} {R J : Nat} {x : Pf} (hR : R < l.length) : gp (l.set R x) J = if J = R then x else gp l J := by
  unfold gp
  rw [List.getElem?_set]
  by_cases c : R = J
  · rw [if_pos c, if_pos c.symm, if_pos (by omega)]; rfl
  · rw [if_neg c, if_neg (fun q => c q.symm)]
theorem set_app {l l' : List Pt} {i : Nat} {x : Pt} : l ++ l'.set i x = (l ++ l').set (l.length + i) x := by
  rw [List.set_append_right _ _ (by omega), Nat.add_sub_cancel_left]
theorem RP.level (h : RP P σ D S U) (hB : SB P S) {R : Nat} (hR : R < (CL S).length) (hlo : loS S (sC S 11) ≤ R) : gp U.2.2.1 R 45 = sC S 11 := by
  have hn := hB.n
  have := h.seg hB (v := (sC S 11).toNat) hR (by rw [show (((sC S 11).toNat : Nat) : Int) = sC S 11 by omega]; exact hlo) (fun q => by omega) (by omega)
  omega
/-- one more of a point's choices is taken -/
theorem RS_set (h : RS P σ root price D S U b t) {i : Nat} (hi : i < (sL (nB S) S).length) (hq : (gq (CL S) (rmO S i)).2.2 4 + 1 < (gq (CL S) (rmO S i)).2.2 3) : RS P σ root price D (uL (nB S) S ((sL (nB S) S).set i (pTook (gq (CL S) (rmO S i))))) (oP U (U.2.2.1.set (rmO S i) (fup (gp U.2.2.1 (rmO S i)) 36 (gp U.2.2.1 (rmO S i) 36 + 1)))) b t := by
  have hl := CL_len (S := S)
  obtain ⟨⟨b1, b2, b3, b4, b5, b6, b7, b8, b9, b10, b11, b12, b13, b14, b15⟩, hN, hRP, hP, hW⟩ := h
  obtain ⟨s1, s2, s3, s4, s5, s6, s7, s8, s9, s10, s11⟩ := b1
  have b3' := rb3' b3
  have hgq := gq_rmO hi
  have hR : rmO S i < (CL S).length := by
    unfold rmO
    cases hb : nB S with
    | true => rw [hb] at hi; have hi : i < S.2.2.1.length := hi; rw [if_pos rfl]; omega
    | false => rw [hb] at hi; have hi : i < S.2.1.length := hi; rw [if_neg (by decide)]; omega
  have hmem : gq (CL S) (rmO S i) ∈ CL S := by
    have := gq_some hR
    exact List.mem_of_getElem? this
  have hpB : pB P (gq (CL S) (rmO S i)) := by
    rcases List.mem_append.mp hmem with q | q
    · exact s2 _ q
    · exact s3 _ q
  generalize hx : gq (CL S) (rmO S i) = x at *
  have hpT : pB P (pTook x) := by
    obtain ⟨p1, p2, p3, p4, p5, p6⟩ := hpB
    refine ⟨p1, p2, p3, p4, ?_, ?_⟩
    · show 0 ≤ x.2.2 4 + 1; omega
    · show x.2.2 4 + 1 < x.2.2 3; exact hq
  have eS : CL (uL (nB S) S ((sL (nB S) S).set i (pTook x))) = (CL S).set (rmO S i) (pTook x) ∧ (uL (nB S) S ((sL (nB S) S).set i (pTook x))).2.1.length = S.2.1.length ∧ (uL (nB S) S ((sL (nB S) S).set i (pTook x))).2.2.1.length = S.2.2.1.length ∧ (∀ y ∈ (uL (nB S) S ((sL (nB S) S).set i (pTook x))).2.1, y ∈ S.2.1 ∨ y = pTook x) ∧ (∀ y ∈ (uL (nB S) S ((sL (nB S) S).set i (pTook x))).2.2.1, y ∈ S.2.2.1 ∨ y = pTook x) := by
    unfold rmO
    cases hb : nB S with
    | true =>
      rw [if_pos rfl]
      exact ⟨set_app, rfl, List.length_set .., fun y hy => Or.inl hy, fun y hy => List.mem_or_eq_of_mem_set hy⟩
    | false =>
      rw [hb] at hi
      have hi : i < S.2.1.length := hi
      rw [if_neg (by decide)]
      exact ⟨(List.set_append_left _ _ hi).symm, List.length_set .., rfl, fun y hy => List.mem_or_eq_of_mem_set hy, fun y hy => Or.inl hy⟩
  obtain ⟨eCL, eL, eN, m1, m2⟩ := eS
  have eW : (uL (nB S) S ((sL (nB S) S).set i (pTook x))).1 = S.1 := by cases nB S <;> rfl
  have eC : ∀ k, sC (uL (nB S) S ((sL (nB S) S).set i (pTook x))) k = sC S k := fun k => by cases nB S <;> rfl
  have eB : ∀ k, sB (uL (nB S) S ((sL (nB S) S).set i (pTook x))) k = sB S k := fun k => by cases nB S <;> rfl
  have eT : ∀ k, sT (uL (nB S) S ((sL (nB S) S).set i (pTook x))) k = sT S k := fun k => by cases nB S <;> rfl
  have eQ : sQ (uL (nB S) S ((sL (nB S) S).set i (pTook x))) = sQ S := by cases nB S <;> rfl
  generalize uL (nB S) S ((sL (nB S) S).set i (pTook x)) = S' at *
  generalize rmO S i = R at *
  have ecur : cur S' = cur S := by unfold cur; rw [eC]
  have hRU : R < U.2.2.1.length := by rw [hP.1]; exact hR
  have eg : ∀ J, gq (CL S') J = if J = R then pTook x else gq (CL S) J := fun J => by rw [eCL, gq_set hR]
  have eg1 : ∀ J, (gq (CL S') J).1 = (gq (CL S) J).1 := fun J => by
    rw [eg]
    split
    · rename_i c; rw [c, hx]; rfl
    · rfl
  have ecs : csS S' = csS S := by funext J; unfold csS; rw [eL, eg1]
  have edp : dpS S' = dpS S := by funext J; unfold dpS; rw [eg1]
  have elo : ∀ l, loS S' l = loS S l := fun l => by unfold loS; rw [eL, eB]
  have est : ∀ l, stS S' l = stS S l := fun l => by unfold stS; rw [eW]
  have ehi : ∀ l, hiS S' l = hiS S l := fun l => by unfold hiS; rw [eC, elo, eCL, List.length_set]
  have ecw : ∀ l, cwW S' l = cwW S l := fun l => by unfold cwW; rw [eW, eL]
  have egp : ∀ J, gp (oP U (U.2.2.1.set R (fup (gp U.2.2.1 R) 36 (gp U.2.2.1 R 36 + 1)))).2.2.1 J = if J = R then fup (gp U.2.2.1 R) 36 (gp U.2.2.1 R 36 + 1) else gp U.2.2.1 J := fun J => gp_set hRU
  have egk : ∀ J k, k ≠ 36 → gp (oP U (U.2.2.1.set R (fup (gp U.2.2.1 R) 36 (gp U.2.2.1 R 36 + 1)))).2.2.1 J k = gp U.2.2.1 J k := fun J k hk => by
    rw [egp]
    split
    · rename_i c; rw [c, fup_ne hk]
    · rfl
  have eid : idU (oP U (U.2.2.1.set R (fup (gp U.2.2.1 R) 36 (gp U.2.2.1 R 36 + 1)))) = idU U := by funext J; exact egk J 44 (by decide)
  have eUl : (oP U (U.2.2.1.set R (fup (gp U.2.2.1 R) 36 (gp U.2.2.1 R 36 + 1)))).2.2.1.length = U.2.2.1.length := List.length_set ..
  have eU1 : (oP U (U.2.2.1.set R (fup (gp U.2.2.1 R) 36 (gp U.2.2.1 R 36 + 1)))).1 = U.1 := rfl
  have eU2 : (oP U (U.2.2.1.set R (fup (gp U.2.2.1 R) 36 (gp U.2.2.1 R 36 + 1)))).2.1 = U.2.1 := rfl
  have eU3 : (oP U (U.2.2.1.set R (fup (gp U.2.2.1 R) 36 (gp U.2.2.1 R 36 + 1)))).2.2.2 = U.2.2.2 := rfl
  generalize oP U (U.2.2.1.set R (fup (gp U.2.2.1 R) 36 (gp U.2.2.1 R 36 + 1))) = U' at *
  obtain ⟨a1, a2, a3, a4, a5, a6, a7⟩ := hP
  obtain ⟨w1, w2, w3, w4⟩ := hW
  obtain ⟨n0, n1, n4, n5, n6, n7, n8, n9, n10, n11, n12, n13, n15, nb, na⟩ := hN
  refine ⟨⟨⟨by rw [eW]; exact s1, fun y hy => ?_, fun y hy => ?_, by rw [eL]; exact s4, by rw [eN]; exact s5, fun k => by rw [eT]; exact s6 k, by rw [eC]; exact s7, by rw [eC]; exact s8, by rw [eC]; exact s9, by rw [eQ]; exact s10, fun k k1 k2 => by rw [eB, eN]; exact s11 k k1 (by rw [← eC 11]; exact k2)⟩, fun i hi => by rw [eW]; exact b2 i (by rw [← ecur]; exact hi), fun J hJ => ?_, by rw [eT]; exact b4, by rw [eT]; exact b5, by rw [eT]; exact b6, by rw [eT, eT, eL]; exact b7, by rw [eC, eC]; exact b8, by rw [eT]; exact b9, by rw [eT, eC]; exact b10, by rw [eT]; exact b11, by rw [eC]; exact b12, by rw [eC]; exact b13, by rw [eU1]; exact b14, by rw [eU1]; exact b15⟩,
    ⟨by rw [eU1, eC]; exact n0, by rw [eU1, eC]; exact n1, by rw [eU1, eT]; exact n4, by rw [eU1, eT]; exact n5, by rw [eU1, eT]; exact n6, by rw [eU1, eT]; exact n7, by rw [eU1, eT]; exact n8, by rw [eU1, eC]; exact n9, by rw [eU1, eC]; exact n10, by rw [eU1, eT]; exact n11, by rw [eU1, eC]; exact n12, by rw [eU1, eC]; exact n13, by rw [eU1, eQ]; exact n15, by rw [eC]; exact nb, by rw [eU3, eQ]; exact na⟩, by rw [eU1]; exact hRP, ⟨by rw [eUl, eCL, List.length_set]; exact a1, fun J hJ => ?_, fun i j hij hj => ?_, fun J hJ => ?_, fun J h1 h2 => ?_, fun i i1 i2 => ?_, fun J hJ => ?_⟩, w1, fun i hi => ?_, by rw [eU2, eW]; exact w3, fun i i1 hi => ?_⟩
  · rcases m1 y hy with q | q
    · exact s2 y q
    · rw [q]; exact hpT
  · rcases m2 y hy with q | q
    · exact s3 y q
    · rw [q]; exact hpT
  · rw [eCL, List.length_set] at hJ
    rw [edp, eg1]; exact b3 J hJ
  · rw [eCL, List.length_set] at hJ
    rw [eid, eU1]; exact a2 J hJ
  · rw [eCL, List.length_set] at hj
    rw [eid]; exact a3 i j hij hj
  · rw [eL] at hJ
    rw [egk J 45 (by decide)]; exact a4 J hJ
  · rw [eL] at h1
    rw [eCL, List.length_set] at h2
    rw [egk J 45 (by decide), eC]; exact a5 J h1 h2
  · rw [eC] at i2
    obtain ⟨x1, x2, x3⟩ := a6 i i1 i2
    rw [eB, eN, elo]
    refine ⟨x1, x2, fun J j1 j2 => ?_⟩
    rw [eL] at j1
    rw [eCL, List.length_set] at j2
    rw [egk J 45 (by decide)]; exact x3 J j1 j2
  · rw [eCL, List.length_set] at hJ
    obtain ⟨c1, c2⟩ := a7 J hJ
    rw [egk J 45 (by decide), egk J 34 (by decide), est, elo, ecs, edp, eid]
    refine ⟨?_, c2⟩
    rw [egp, eg]
    by_cases c : J = R
    · rw [if_pos c, if_pos c]
      subst c
      rw [hx] at c1
      obtain ⟨h1, h2, h4, h5, h6, h7, h8, h9, h10, h11⟩ := c1
      have t3 : (pTook x).2.2 3 = x.2.2 3 := rfl
      have t4 : (pTook x).2.2 4 = x.2.2 4 + 1 := rfl
      have t2 : (pTook x).2.2 2 = x.2.2 2 := rfl
      have t5 : (pTook x).2.2 5 = x.2.2 5 := rfl
      have t1 : (pTook x).1 = x.1 := rfl
      have ta : (pTook x).2.1 = x.2.1 := rfl
      rw [PtR, t1, t2, t3, t4, t5, ta]
      refine ⟨WR_cell rfl rfl rfl rfl (fun k hk => fup_ne (by omega)) h1, h2, by rw [fup_ne (by decide)]; exact h4, by rw [fup_self, h5], by rw [fup_ne (by decide)]; exact h6, fun k => by rw [fup_ne (by decide)]; exact h7 k, fun k jj hj => by rw [fup_ne (by omega)]; exact h8 k jj hj, h9, by rw [fup_ne (by decide)]; exact h10, fun k => ?_⟩
      rw [fup_ne (by decide)] at k ⊢
      exact h11 k
    · rw [if_neg c, if_neg c]; exact c1
  · rw [ecur] at hi
    obtain ⟨c1, c2⟩ := w2 i hi
    rw [est, eW, eU2, eid, ecs, edp, elo, ehi, ecw]
    exact ⟨c1, c2⟩
  · rw [ecur] at hi
    rw [est]; exact w4 i i1 hi
end TOOK
