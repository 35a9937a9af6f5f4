/-! a point is taken: the relation stays -/
section TAKE2
variable {M : ZMem} {P : Pg} {σ : Int → Int} {root price : Int} {e : Nat} {D : Int → Int} {S S' : Sr} {U U' : Tr} {b t stop Dd : Int}
/-- a point goes -/
theorem RS_rm (h : RS P σ root price D S U b t) {i : Nat} (hi : i < (sL (nB S) S).length) (hlo : loS S (sC S 11) ≤ rmO S i) : RS P σ root price D (rmS S i) (oOff U (rmO S i) (gp U.2.2.1 (rmO S i))) b t := by
  obtain ⟨⟨b1, b2, b3, b4, b5, b6, b7, b8, b9, b10, b11, b12, b13, b14, b15⟩, ⟨n0, n1, n4, n5, n6, n7, n8, n9, n10, n11, n12, n13, n15, nb, na⟩, hRP, hP, hW⟩ := h
  obtain ⟨r1, r2⟩ := rm_ok hP hW b1 n13 hi hlo
  have hB' := SB_rmS hi b1 r1
  obtain ⟨p1, p2, p3, p4⟩ := rm_parts hP b1 hi
  have hl := CL_len (S := S)
  have eu : ∀ k, k ≠ 14 → (oOff U (rmO S i) (gp U.2.2.1 (rmO S i))).1 k = U.1 k := fun k hk => oOff_s hk
  have eua : (oOff U (rmO S i) (gp U.2.2.1 (rmO S i))).2.2.2 = U.2.2.2 := rfl
  generalize oOff U (rmO S i) (gp U.2.2.1 (rmO S i)) = U' at *
  refine ⟨⟨hB', fun j hj => ?_, fun J hJ => ?_, by rw [sT_rmS]; exact b4, by rw [sT_rmS]; exact b5, by rw [sT_rmS]; exact b6, ?_, by rw [sC_rmS, sC_rmS]; exact b8, by rw [sT_rmS]; exact b9, by rw [sT_rmS, sC_rmS]; exact b10, by rw [sT_rmS]; exact b11, by rw [sC_rmS]; exact b12, by rw [sC_rmS]; exact b13, by rw [eu 16 (by decide)]; exact b14, by rw [eu 16 (by decide)]; exact b15⟩,
    ⟨by rw [eu 0 (by decide), sC_rmS]; exact n0, by rw [eu 1 (by decide), sC_rmS]; exact n1, by rw [eu 4 (by decide), sT_rmS]; exact n4, by rw [eu 5 (by decide), sT_rmS]; exact n5, by rw [eu 6 (by decide), sT_rmS]; exact n6, by rw [eu 7 (by decide), sT_rmS]; exact n7, by rw [eu 8 (by decide), sT_rmS]; exact n8, by rw [eu 9 (by decide), sC_rmS]; exact n9, by rw [eu 10 (by decide), sC_rmS]; exact n10, by rw [eu 11 (by decide), sT_rmS]; exact n11, by rw [eu 12 (by decide), sC_rmS]; exact n12, by rw [eu 13 (by decide), sC_rmS]; exact n13, by rw [eu 15 (by decide), sQ_rmS]; exact n15, by rw [sC_rmS]; exact nb, by rw [sQ_rmS, eua]; exact na⟩, by rw [eu 2 (by decide), eu 3 (by decide)]; exact hRP, r1, r2⟩
  · rw [cur_rmS] at hj
    rw [way_rmS_f.1]; exact b2 j hj
  · rw [p1] at hJ
    have g := (p3 J (by omega)).1
    unfold dpS
    rw [g]
    refine b3 _ ?_
    split <;> omega
  · rw [sT_rmS, sT_rmS, p4]
    split <;> omega
/-- by a taking from outside of all nots -/
theorem RS_tally (h : RS P σ root price D S U b t) (hS : t + 1 ≤ sT S 2) {u : Int} (hu : 0 ≤ u ∧ u ≤ 8) : RS P σ root price D (xTally2 S u) (oS (oS U 6 (U.1 6 + 1)) 8 (U.1 8 + u)) b (t + 1) := by
  obtain ⟨⟨b1, b2, b3, b4, b5, b6, b7, b8, b9, b10, b11, b12, b13, b14, b15⟩, ⟨n0, n1, n4, n5, n6, n7, n8, n9, n10, n11, n12, n13, n15, nb, na⟩, hRP, hP, hW⟩ := RS_mono h (show t ≤ t + 1 by omega) hS
  have h5 := h.1.2.2.2.2.1
  have h6 := h.1.2.2.2.2.2.1
  have h10 := h.1.2.2.2.2.2.2.2.2.2.1
  have h13 := h.sb.2.2.2.2.2.2.2.2.1
  obtain ⟨s1, s2, s3, s4, s5, s6, s7, s8, s9, s10, s11⟩ := b1
  have eT : ∀ k, sT (xTally2 S u) k = if k = 8 then sT S 8 + u else if k = 6 then sT S 6 + 1 else sT S k := fun k => rfl
  have t2 : sT (xTally2 S u) 2 = sT S 2 := eT 2
  have t6 : sT (xTally2 S u) 6 = sT S 6 + 1 := eT 6
  have t8 : sT (xTally2 S u) 8 = sT S 8 + u := eT 8
  have s62 := s6 2
  have s66 := s6 6
  have s68 := s6 8
  refine ⟨⟨⟨s1, s2, s3, s4, s5, fun k => ?_, s7, s8, s9, s10, s11⟩, b2, b3, b4, by omega, by omega, b7, b8, b9, b10, b11, b12, b13, b14, b15⟩, ⟨n0, n1, n4, n5, ?_, n7, ?_, n9, n10, n11, n12, n13, n15, nb, na⟩, hRP, hP, hW⟩
  · by_cases c : k = 8
    · rw [c, t8]; omega
    · by_cases c2 : k = 6
      · rw [c2, t6]; omega
      · rw [show sT (xTally2 S u) k = sT S k from (eT k).trans ((if_neg c).trans (if_neg c2))]; exact s6 k
  · show U.1 6 + 1 = _
    rw [t6, n6]
  · show U.1 8 + u = _
    rw [t8, n8]
theorem RS_take (hPR : PR M P σ root price e) (h : RS P σ root price D S U b t) {i : Nat} (hi : i < (sL (nB S) S).length) (hlo : loS S (sC S 11) ≤ rmO S i) (h5 : (gq (sL (nB S) S) i).1.1 5 + 1 ≤ t) : RS P σ root price D (xTake P S (nB S) i (gq (sL (nB S) S) i)) (oS (oTook (oW U (cur S) (wTaken M (gp U.2.2.1 (rmO S i)))) (rmO S i) (gp U.2.2.1 (rmO S i))) 12 1) b t := by
  have hl := CL_len (S := S)
  have hn := h.sb.n
  have hcu := cur_n hn.1
  have hgq := gq_rmO hi
  have h13 : U.1 13 = sC S 11 := h.2.1.2.2.2.2.2.2.2.2.2.2.2.1
  obtain ⟨p1, hR, p3, p4⟩ := rm_parts h.2.2.2.1 h.sb hi
  have hlv := h.2.2.2.1.level h.sb hR hlo
  obtain ⟨c1, c2⟩ := h.2.2.2.1.2.2.2.2.2.2 (rmO S i) hR
  rw [hlv] at c1 c2
  have hRU : rmO S i < U.2.2.1.length := by rw [h.2.2.2.1.1]; exact hR
  have hmem : gq (CL S) (rmO S i) ∈ CL S := List.mem_of_getElem? (gq_some hR)
  have hpB : pB P (gq (CL S) (rmO S i)) := by
    rcases List.mem_append.mp hmem with q | q
    · exact h.sb.2.1 _ q
    · exact h.sb.2.2.1 _ q
  have hrs := RS_set h hi
  have hrm := RS_rm h hi hlo
  have hcsR : csS S (rmO S i) = if cur S = 0 then (gq (sL (nB S) S) i).1.2.2.2.2 else shf S.2.1.length (gq (sL (nB S) S) i).1.2.2.2.2 := by
    unfold rmO at hR hgq ⊢
    cases hb : nB S with
    | true =>
      have := nB_t hb
      rw [hb, if_pos rfl] at hgq hR
      rw [if_pos rfl, csS_hi (by omega), hgq, if_neg (by omega)]
    | false =>
      have := nB_f hb
      rw [hb, if_neg (by decide)] at hgq hR
      rw [hb] at hi
      have hi : i < S.2.1.length := hi
      rw [if_neg (by decide), csS_lo hi, hgq, if_pos (by omega)]
  rw [← hgq] at h5 ⊢
  rw [← hgq] at hcsR
  have hdp : dpS S (rmO S i) = (gq (CL S) (rmO S i)).1.1 5 := rfl
  have hid : idU U (rmO S i) = gp U.2.2.1 (rmO S i) 44 := rfl
  have hb3 := h.1.2.2.1 (rmO S i) hR
  have hw33 := c1.2.2.2.2.2.2.2.2.2
  generalize hq : gq (CL S) (rmO S i) = q at *
  generalize hp : gp U.2.2.1 (rmO S i) = p at *
  obtain ⟨y1, y2, y3, y4, y5, y6, y7, y8⟩ := took_way (i := i) hPR c1 hpB
  obtain ⟨z1, z2, z3, z4, z5, z6⟩ := hpB
  obtain ⟨v1, v2, v3, v4⟩ := z1
  have h36 : p 36 = q.2.2 4 := c1.2.2.2.1
  have h37 : p 37 = q.2.2 3 := c1.2.2.2.2.1
  rw [hdp] at hb3
  have hwB : wB (tWay P q i) := by
    refine ⟨y8, ?_, ?_, by rw [y7]; exact v4⟩
    · have := h.1.2.2.2.2.2.2.2.2.1
      have := h.sb.2.2.2.2.2.1 2
      omega
    · rw [y5]
      have := h.1.2.2.2.2.2.2.2.2.1
      have := h.sb.2.2.2.2.2.1 2
      split <;> omega
  have g6 : (tWay P q i).1 6 ≤ (tWay P q i).1 5 := by rw [y4, y5]; split <;> omega
  have eSt : stS S (cur S : Int) = stS S (sC S 11) := by rw [hcu]
  have eD : D (cur S : Int) = D (sC S 11) := by rw [hcu]
  have eLo : loS S (cur S : Int) = loS S (sC S 11) := by rw [hcu]
  have h33' : cur S = 0 → p 33 = q.1.1 6 := fun c => hw33 (by rw [hlv]; omega)
  by_cases cx : 0 < q.2.2 3 - (q.2.2 4 + 1)
  · -- something is left
    have eT : tTake P (sL (nB S) S) i q = ((sL (nB S) S).set i (pTook q), tWay P q i) := by unfold tTake; rw [if_pos cx]
    have eO : oTook (oW U (cur S) (wTaken M p)) (rmO S i) p = oW (oP U (U.2.2.1.set (rmO S i) (fup p 36 (p 36 + 1)))) (cur S) (wTaken M p) := by
      unfold oTook
      rw [if_neg (by omega)]
      rfl
    have r1 := hrs (by omega)
    have ecur : cur (uL (nB S) S ((sL (nB S) S).set i (pTook q))) = cur S := by cases nB S <;> rfl
    have eC : ∀ k, sC (uL (nB S) S ((sL (nB S) S).set i (pTook q))) k = sC S k := fun k => by cases nB S <;> rfl
    have eB : ∀ k, sB (uL (nB S) S ((sL (nB S) S).set i (pTook q))) k = sB S k := fun k => by cases nB S <;> rfl
    have eW : (uL (nB S) S ((sL (nB S) S).set i (pTook q))).1 = S.1 := by cases nB S <;> rfl
    have eL : (uL (nB S) S ((sL (nB S) S).set i (pTook q))).2.1.length = S.2.1.length := by
      cases nB S
      · exact List.length_set ..
      · rfl
    have eCl : (CL (uL (nB S) S ((sL (nB S) S).set i (pTook q)))).length = (CL S).length := by
      rw [CL_len, hl, eL]
      congr 1
      cases nB S
      · rfl
      · exact List.length_set ..
    have hR' : rmO S i < (CL (uL (nB S) S ((sL (nB S) S).set i (pTook q)))).length := by rw [eCl]; exact hR
    have eg1 : (gq (CL (uL (nB S) S ((sL (nB S) S).set i (pTook q)))) (rmO S i)).1 = q.1 := by
      unfold rmO at hq ⊢
      cases hb : nB S with
      | true =>
        rw [hb, if_pos rfl] at hq
        rw [hb] at hi
        have hi : i < S.2.2.1.length := hi
        rw [if_pos rfl]
        show (gq (S.2.1 ++ S.2.2.1.set i (pTook q)) (S.2.1.length + i)).1 = q.1
        rw [set_app, gq_set (by rw [List.length_append]; omega), if_pos rfl]; rfl
      | false =>
        rw [hb] at hi
        have hi : i < S.2.1.length := hi
        rw [if_neg (by decide)]
        show (gq (S.2.1.set i (pTook q) ++ S.2.2.1) i).1 = q.1
        rw [← List.set_append_left _ _ hi, gq_set (by rw [List.length_append]; omega), if_pos rfl]; rfl
    have eid : idU (oP U (U.2.2.1.set (rmO S i) (fup p 36 (p 36 + 1)))) (rmO S i) = p 44 := by
      show gp (U.2.2.1.set _ _) (rmO S i) 44 = _
      rw [gp_set hRU, if_pos rfl, fup_ne (by decide)]
    have ecs : csS (uL (nB S) S ((sL (nB S) S).set i (pTook q))) (rmO S i) = csS S (rmO S i) := by
      unfold csS
      rw [eL, eg1, hq]
    have edp : dpS (uL (nB S) S ((sL (nB S) S).set i (pTook q))) (rmO S i) = q.1.1 5 := by unfold dpS; rw [eg1]
    have est : ∀ l, stS (uL (nB S) S ((sL (nB S) S).set i (pTook q))) l = stS S l := fun l => by unfold stS; rw [eW]
    have elo : ∀ l, loS (uL (nB S) S ((sL (nB S) S).set i (pTook q))) l = loS S l := fun l => by unfold loS; rw [eL, eB]
    have fin : RS P σ root price D (uW (uL (nB S) S ((sL (nB S) S).set i (pTook q))) (cur S) (tWay P q i)) (oW (oP U (U.2.2.1.set (rmO S i) (fup p 36 (p 36 + 1)))) (cur S) (wTaken M p)) b t := by
      have r2 := RS_wayC r1 (w := tWay P q i) (r := wTaken M p) (by rw [ecur, est, eSt, eD]; exact y1) hwB (by rw [y4]; exact h5) g6 ?_ ?_
      · rw [ecur] at r2; exact r2
      · rw [ecur, elo, eLo, y2, y4, y6, eL]
        refine Or.inr ⟨rmO S i, hlo, hR', eid, by rw [edp]; omega, fun j => ?_⟩
        rw [ecs, hcsR]
        by_cases c0 : cur S = 0
        · rw [if_pos c0, if_pos c0]
          have eR : rmO S i = i := by
            unfold rmO
            rw [if_neg (fun q => by have := nB_t q; omega)]
          rw [eR]
          by_cases cj : j = i
          · rw [cj, fup_self]; exact ⟨fun _ => Or.inl rfl, fun _ => rfl⟩
          · rw [fup_ne cj]
            exact ⟨fun q => Or.inr q, fun q => q.elim (fun q => absurd q cj) id⟩
        · rw [if_neg c0, if_neg c0]
          have eR : rmO S i = S.2.1.length + i := by
            unfold rmO
            rw [if_pos (show nB S = true from decide_eq_true (by omega))]
          rw [eR]
          show (if j < S.2.1.length then false else fup q.1.2.2.2.2 i true (j - S.2.1.length)) = true ↔ (j = _ ∨ (if j < S.2.1.length then false else q.1.2.2.2.2 (j - S.2.1.length)) = true)
          by_cases cl : j < S.2.1.length
          · rw [if_pos cl, if_pos cl]
            exact ⟨fun q => (by cases q), fun q => q.elim (fun q => by omega) (fun q => q)⟩
          · rw [if_neg cl, if_neg cl]
            by_cases cj : j = S.2.1.length + i
            · rw [cj, Nat.add_sub_cancel_left, fup_self]; exact ⟨fun _ => Or.inl rfl, fun _ => rfl⟩
            · rw [fup_ne (by omega)]
              exact ⟨fun q => Or.inr q, fun q => q.elim (fun q => absurd q cj) id⟩
      · rw [ecur]
        intro c0
        rw [y3, y5, h33' c0]
    rw [eO]
    unfold xTake
    rw [eT]
    exact RS_stand fin (Or.inr rfl)
  · -- it was the last
    have eT : tTake P (sL (nB S) S) i q = (rmL ((sL (nB S) S).set i (pTook q)) i, wWithout (tWay P q i) i) := by unfold tTake; rw [if_neg cx]
    have eset : rmL ((sL (nB S) S).set i (pTook q)) i = rmL (sL (nB S) S) i := by unfold rmL; rw [List.eraseIdx_set_eq]
    have e44 : fup p 36 (p 36 + 1) 44 = p 44 := fup_ne (by decide)
    have e34 : fup p 36 (p 36 + 1) 34 = p 34 := fup_ne (by decide)
    have eO : oTook (oW U (cur S) (wTaken M p)) (rmO S i) p = oW (oOff U (rmO S i) p) (cur S) (cb (p 44) (p 34) (wTaken M p)) := by
      unfold oTook
      rw [if_pos (by omega)]
      unfold oOff oCb oW oP
      show (_, _, _, _) = (_, _, _, _)
      rw [e44, e34]
      congr 1
      refine Prod.ext ?_ (Prod.ext ?_ rfl)
      · funext v
        show (if (v : Int) ≤ U.1 13 then cb (p 44) (p 34) (fup U.2.1 (cur S) (wTaken M p) v) else fup U.2.1 (cur S) (wTaken M p) v) = fup (fun v => if (v : Int) ≤ U.1 13 then cb (p 44) (p 34) (U.2.1 v) else U.2.1 v) (cur S) (cb (p 44) (p 34) (wTaken M p)) v
        by_cases c : v = cur S
        · rw [c, fup_self, fup_self, if_pos (by omega)]
        · rw [fup_ne c, fup_ne c]
      · show (List.map _ (U.2.2.1.set _ _)).eraseIdx _ = (List.map _ U.2.2.1).eraseIdx _
        rw [List.map_set, List.eraseIdx_set_eq]
    have ecb : cb (p 44) (p 34) (wTaken M p) = fup (wTaken M p) 34 (p 34) := by unfold cb; rw [if_pos y2]
    have r34 : ∀ k, k < 34 → fup (wTaken M p) 34 (p 34) k = wTaken M p k := fun k hk => fup_ne (by omega)
    have ww : WR P σ (stS S (sC S 11)) (D (sC S 11)) (wWithout (tWay P q i) i) (fup (wTaken M p) 34 (p 34)) := WR_cell (w := tWay P q i) rfl rfl rfl rfl r34 y1
    have hCM : CM (idU (oOff U (rmO S i) p)) (csS (rmS S i)) (dpS (rmS S i)) (loS S (sC S 11)) (rmO S i) (cWithout (csS S (rmO S i)) (rmO S i)) (p 34) (dpS S (rmO S i)) := by
      have g := CM_rm (R := rmO S i) (n := (CL S).length) hR (Nat.le_of_lt hR) (fun i j hi hj e => h.2.2.2.1.inj hi hj e) (by have := (h.2.2.2.1.2.1 _ hR).1; omega) (fun q => Nat.le_refl _) (Or.inl hlo) c2 c2
      rw [if_neg (Nat.lt_irrefl _)] at g
      have epar : (if p 34 = idU U (rmO S i) then p 34 else p 34) = p 34 := by split <;> rfl
      rw [epar] at g
      refine CM_congr (fun k hk => ?_) g
      obtain ⟨g1, _, _, _, _, g6⟩ := p3 k (by omega)
      refine ⟨?_, g6, ?_⟩
      · unfold idU
        have : gp (oOff U (rmO S i) p).2.2.1 k = cb (p 44) (p 34) (gp U.2.2.1 (if k < rmO S i then k else k + 1)) := gp_map_erase (Or.inr ⟨by omega, hk⟩)
        rw [this, cb_k (by omega), if_pos hk]
        exact (if_pos hk).symm
      · unfold dpS
        rw [g1, if_pos hk]
        exact (if_pos hk).symm
    have hb1 : (rmS S i).2.1.length = if cur S = 0 then S.2.1.length - 1 else S.2.1.length := by
      rw [p4]
      by_cases c0 : cur S = 0
      · rw [if_pos c0, if_neg (fun q => by have := nB_t q; omega)]
      · rw [if_neg c0, if_pos (show nB S = true from decide_eq_true (by omega))]
    have elo : loS (rmS S i) (sC S 11) = loS S (sC S 11) := by
      unfold loS
      by_cases c : sC S 11 = 0
      · rw [if_pos c, if_pos c]
      · rw [if_neg c, if_neg c, sB_rmS, hb1, if_neg (by omega)]
    have hcame : ∀ j, cWithout (fup q.1.2.2.2.2 i true) i j = cWithout q.1.2.2.2.2 i j := fun j => by
      unfold cWithout
      split
      · rw [fup_ne (by omega)]
      · rw [fup_ne (by omega)]
    have fin : RS P σ root price D (uW (rmS S i) (cur S) (wWithout (tWay P q i) i)) (oW (oOff U (rmO S i) p) (cur S) (fup (wTaken M p) 34 (p 34))) b t := by
      have r2 := RS_wayC hrm (w := wWithout (tWay P q i) i) (r := fup (wTaken M p) 34 (p 34)) (by rw [cur_rmS, stS_rmS, eSt, eD]; exact ww) hwB (by show (tWay P q i).1 5 ≤ t; rw [y4]; exact h5) g6 ?_ ?_
      · rw [cur_rmS] at r2; exact r2
      · rw [cur_rmS, hcu, elo, fup_self]
        show CM _ _ _ _ _ _ _ ((tWay P q i).1 5)
        rw [y4]
        have g := CM_up (hi' := (CL (rmS S i)).length) (dep' := q.1.1 5 + 1) (by rw [p1]; omega) (by rw [hdp]; omega) hCM
        have ec : (if cur S = 0 then (wWithout (tWay P q i) i).2.2.2.2 else shf (rmS S i).2.1.length (wWithout (tWay P q i) i).2.2.2.2) = cWithout (csS S (rmO S i)) (rmO S i) := by
          have e1 : (wWithout (tWay P q i) i).2.2.2.2 = cWithout q.1.2.2.2.2 i := by
            show cWithout (tWay P q i).2.2.2.2 i = _
            rw [y6]; funext j; exact hcame j
          rw [e1, hcsR]
          by_cases c0 : cur S = 0
          · have eR : rmO S i = i := by
              unfold rmO
              rw [if_neg (fun q => by have := nB_t q; omega)]
            rw [if_pos c0, if_pos c0, eR]
          · have eR : rmO S i = S.2.1.length + i := by
              unfold rmO
              rw [if_pos (show nB S = true from decide_eq_true (by omega))]
            rw [if_neg c0, if_neg c0, hb1, if_neg c0, eR]
            exact shf_without
        rw [ec]
        exact g
      · rw [cur_rmS]
        intro c0
        rw [fup_ne (by decide), y3]
        show _ = (tWay P q i).1 6
        rw [y5, h33' c0]
    rw [eO, ecb]
    unfold xTake
    rw [eT, eset]
    have r3 := RS_stand fin (x := 1) (Or.inr rfl)
    unfold rmS at r3
    rw [uW_uW] at r3
    exact r3
end TAKE2
