/-! a choice point is made; a not is begun: the relation stays -/
section MADE
variable {M : ZMem} {P : Pg} {σ : Int → Int} {root price : Int} {e : Nat} {D : Int → Int} {S S' : Sr} {U U' : Tr} {b t : Int}
theorem RS.full (h : RS P σ root price D S U b t) : oFull U ↔ ¬ (sL (nB S) S).length < 30 := by
  have hcnt := h.2.2.2.1.cnt
  have hl := CL_len (S := S)
  have hn := h.sb.n
  have h13 : U.1 13 = sC S 11 := h.2.1.2.2.2.2.2.2.2.2.2.2.2.1
  have hlen := h.2.2.2.1.1
  have s4 := h.sb.2.2.2.1
  have s5 := h.sb.2.2.2.2.1
  unfold oFull
  rw [h13, hcnt, hlen]
  cases hb : nB S with
  | true =>
    have := nB_t hb
    rw [if_pos (by omega)]
    show _ ↔ ¬ S.2.2.1.length < 30
    omega
  | false =>
    have := nB_f hb
    rw [if_neg (by omega)]
    show _ ↔ ¬ S.2.1.length < 30
    omega
theorem RS_made (hPR : PR M P σ root price e) (h : RS P σ root price D S U b t) (hS : t + 1 ≤ sT S 2) {s y : Int} {L : Nat → Int} {c : Int × Pt} (hs : (S.1 (cur S)).1 3 = s) (hh : gHas P s) (hk : gKind P s = 3 ∨ gKind P s = 4 ∨ gKind P s = 5) (hlen : (sL (nB S) S).length < 30)
    (hc : c.1 = y ∧ 0 < y ∧ y ≤ 3000 ∧ (gKind P s = 3 → L 0 = c.2.2.2 2 ∧ isV (L 0) ∧ L 0 + y ≤ 1000) ∧ (gKind P s = 4 → y ≤ 6 ∧ ∀ k : Nat, (k : Int) < y → L k = c.2.2.1 k ∧ isV (L k)) ∧ (gKind P s = 5 → y = gParts P s)) : RS P σ root price D (yPush S (cNew P (S.1 (cur S)) c)) (oS (oMade U (oNew (U.2.1 (cur S)) (σ s) y L (U.1 16) (U.1 13) (oCost M (U.2.1 (cur S)) e (U.1 3)))) 12 0) b (t + 1) := by
  obtain ⟨c1, c2, c3, c4, c5, c6⟩ := hc
  have h13 : U.1 13 = sC S 11 := h.2.1.2.2.2.2.2.2.2.2.2.2.2.1
  have hwr := h.wr
  have hv : ∀ k, k < 8 → (S.1 (cur S)).2.1 k = U.2.1 (cur S) k := fun k hk => (hwr.1 k hk).symm
  have hpr : gPrice P (S.1 (cur S)).2.1 = oCost M (U.2.1 (cur S)) e (U.1 3) := by rw [h.2.2.1.2]; exact hPR.price_eq ⟨(h.sb.1 (cur S)).1, hv⟩
  have h33 := h.2.2.2.2.2.2.1
  have hwB := h.sb.1 (cur S)
  have hn := h.sb.n
  have f2 : ∀ k, k < 3 → (cNew P (S.1 (cur S)) c).2.2 k = c.2.2.2 k := fun k hk => by
    show fup (fup (fup c.2.2.2 3 c.1) 4 0) 5 _ k = _
    rw [fup_ne (by omega), fup_ne (by omega), fup_ne (by omega)]
  have f3 : (cNew P (S.1 (cur S)) c).2.2 3 = y := c1
  have f4 : (cNew P (S.1 (cur S)) c).2.2 4 = 0 := rfl
  have f5 : (cNew P (S.1 (cur S)) c).2.2 5 = gPrice P (S.1 (cur S)).2.1 := rfl
  have fw : (cNew P (S.1 (cur S)) c).1 = S.1 (cur S) := rfl
  have fa : (cNew P (S.1 (cur S)) c).2.1 = c.2.2.1 := rfl
  have fs : (cNew P (S.1 (cur S)) c).1.1 3 = s := hs
  have g35 : ∀ k, k < 35 → oNew (U.2.1 (cur S)) (σ s) y L (U.1 16) (U.1 13) (oCost M (U.2.1 (cur S)) e (U.1 3)) k = U.2.1 (cur S) k := fun k hk => if_pos hk
  have gL' : ∀ k, k < 6 → oNew (U.2.1 (cur S)) (σ s) y L (U.1 16) (U.1 13) (oCost M (U.2.1 (cur S)) e (U.1 3)) (38 + k) = L k := fun k hk => by
    unfold oNew
    rw [if_neg (by omega), if_neg (by omega), if_neg (by omega), if_neg (by omega), if_pos (by omega), Nat.add_sub_cancel_left]
  refine RS_push h hS hlen ⟨hwB, fun k3 k5 => ?_, fun k3 => ?_, by rw [f3]; omega, by rw [f4]; exact Int.le_refl 0, by rw [f4, f3]; exact c2⟩ rfl h13 (g35 34 (by omega)) ⟨?_, by rw [fs]; exact ⟨hh, hk⟩, by rw [fs]; rfl, by rw [f4]; rfl, by rw [f3]; rfl, fun k3 => ?_, fun k4 jj hj => ?_, fun k5 => ?_, by rw [f5, hpr]; rfl, fun q => ?_⟩ rfl rfl rfl
  · rw [fs] at k3 k5
    rw [f3, fa]
    obtain ⟨d1, d2⟩ := c5 (by omega)
    refine ⟨d1, fun k hk => ?_⟩
    rw [← (d2 k hk).1]; exact (d2 k hk).2
  · rw [fs] at k3
    obtain ⟨d1, d2, d3⟩ := c4 k3
    rw [f2 2 (by omega), f3, ← d1]
    exact ⟨d2, d3⟩
  · rw [fw]
    exact WR_cell rfl rfl rfl rfl (fun k hk => g35 k (by omega)) hwr
  · rw [fs] at k3
    rw [f2 2 (by omega), ← (c4 k3).1]
    exact gL' 0 (by omega)
  · rw [fs] at k4
    rw [f3] at hj
    obtain ⟨d1, d2⟩ := c5 k4
    rw [fa, ← (d2 jj hj).1]
    exact gL' jj (by omega)
  · rw [fs] at k5 ⊢
    rw [f3]; exact c6 k5
  · have q : U.1 13 = 0 := q
    have hc0 : cur S = 0 := by unfold cur; omega
    rw [g35 33 (by omega), fw, hc0]
    exact h33
/-- as many nots as brackets, or fewer -/
theorem RS.deep (hPR : PR M P σ root price e) (h : RS P σ root price D S U b t) : ∀ i : Nat, i ≤ cur S → (i : Int) ≤ lvI P ((S.1 i).1 4)
  | 0, _ => lvI_ge hPR.1 _
  | i + 1, hi => by
    have ih := RS.deep hPR h i (by omega)
    have hw := (h.2.2.2.2.2.1 (i + 1) hi).1
    have hk := h.2.2.2.2.2.2.2 (i + 1) (by omega) hi
    obtain ⟨m, hm, h9, hf⟩ := hw.2.2.1
    have hl := FRM_lv hPR m _ hf
    have es : stS S ((i + 1 : Nat) : Int) = (S.1 i).1 3 := by
      unfold stS
      rw [if_neg (by omega), show (((i + 1 : Nat) : Int).toNat - 1) = i by omega]
    rw [es] at hl hk
    have hw' := (h.2.2.2.2.2.1 i (by omega)).1
    have ha := (hw'.around hk.1).1
    rw [lvI_has hk.1, hPR.lvl hk.1, ha] at hl
    omega
theorem RS_not (hPR : PR M P σ root price e) (h : RS P σ root price D S U b t) {s : Int} (hs : (S.1 (cur S)).1 3 = s) (hh : gHas P s) (hk : gKind P s = 7) : sC S 11 + 1 < 7 ∧ ∃ D' : Int → Int, (∀ l, D' l = if l = sC S 11 + 1 then (S.1 (cur S)).1 5 else D l) ∧ RS P σ root price D' (uW (uB (uC S 11 (sC S 11 + 1)) (cur S + 1) S.2.2.1.length) (cur S + 1) (wEnter ((S.1 (cur S)).1, (S.1 (cur S)).2.1, (S.1 (cur S)).2.2.1, (S.1 (cur S)).2.2.2.1, fun _ => false) s (gPartFirst P s 0) (gLevel P s + 1))) (oW (oS U 13 ((cur S : Int) + 1)) (cur S + 1) (wBegins (U.2.1 (cur S)) (mI M 2233 (σ s).toNat))) b t := by
  obtain ⟨_, g2, g3, g4, g5, g6⟩ := hPR.k67 hh (Or.inr hk)
  have hdeep := h.deep hPR (cur S) (Nat.le_refl _)
  have hwr := h.wr
  have hs' : gHas P ((S.1 (cur S)).1 3) := by rw [hs]; exact hh
  have har := (hwr.around hs').1
  rw [hs] at har
  have hlv := hPR.lvl hh
  rw [har] at hlv
  have hlI := lvI_has hh
  have hn := h.sb.n
  have hcu := cur_n hn.1
  refine ⟨by omega, ?_⟩
  obtain ⟨D', hD⟩ : ∃ D' : Int → Int, ∀ l, D' l = if l = sC S 11 + 1 then (S.1 (cur S)).1 5 else D l := ⟨_, fun _ => rfl⟩
  refine ⟨D', hD, ?_⟩
  have hlow := hPR.1.level s
  have ew : wEnter ((S.1 (cur S)).1, (S.1 (cur S)).2.1, (S.1 (cur S)).2.2.1, (S.1 (cur S)).2.2.2.1, fun _ => false) s (gPartFirst P s 0) (gLevel P s + 1) = (fup (fup (S.1 (cur S)).1 4 s) 3 (gPartFirst P s 0), (S.1 (cur S)).2.1, fup (S.1 (cur S)).2.2.1 (gLevel P s + 1).toNat ((S.1 (cur S)).1 5), (S.1 (cur S)).2.2.2.1, fun _ => false) := by
    unfold wEnter wSetMark
    rw [if_pos ⟨by omega, by omega⟩]
    rfl
  rw [ew]
  obtain ⟨⟨b1, b2, b3, b4, b5, b6, b7, b8, b9, b10, b11, b12, b13, b14, b15⟩, ⟨n0, n1, n4, n5, n6, n7, n8, n9, n10, n11, n12, n13, n15, nb, na⟩, hRP, hP, hW⟩ := h
  have hl := CL_len (S := S)
  have hP0 := hP
  obtain ⟨a1, a2, a3, a4, a5, a6, a7⟩ := hP
  obtain ⟨w1, w2, w3, w4⟩ := hW
  obtain ⟨s1, s2, s3, s4, s5, s6, s7, s8, s9, s10, s11⟩ := b1
  generalize hw' : ((fup (fup (S.1 (cur S)).1 4 s) 3 (gPartFirst P s 0), (S.1 (cur S)).2.1, fup (S.1 (cur S)).2.2.1 (gLevel P s + 1).toNat ((S.1 (cur S)).1 5), (S.1 (cur S)).2.2.2.1, fun _ => false) : Wy) = w' at *
  have w'3 : w'.1 3 = gPartFirst P s 0 := by rw [← hw']; rfl
  have w'4 : w'.1 4 = s := by rw [← hw']; rfl
  have w'5 : w'.1 5 = (S.1 (cur S)).1 5 := by rw [← hw']; rfl
  have w'6 : w'.1 6 = (S.1 (cur S)).1 6 := by rw [← hw']; rfl
  have w'v : w'.2.1 = (S.1 (cur S)).2.1 := by rw [← hw']
  have w'm : w'.2.2.1 (gLevel P s + 1).toNat = (S.1 (cur S)).1 5 := by rw [← hw']; exact fup_self
  have w'r : w'.2.2.2.1 = (S.1 (cur S)).2.2.2.1 := by rw [← hw']
  have w'c : ∀ j, w'.2.2.2.2 j = false := fun j => by rw [← hw']
  have eW : ∀ i, (uW (uB (uC S 11 (sC S 11 + 1)) (cur S + 1) S.2.2.1.length) (cur S + 1) w').1 i = if i = cur S + 1 then w' else S.1 i := fun _ => rfl
  have eC : ∀ k, sC (uW (uB (uC S 11 (sC S 11 + 1)) (cur S + 1) S.2.2.1.length) (cur S + 1) w') k = if k = 11 then sC S 11 + 1 else sC S k := fun _ => rfl
  have eB : ∀ k, sB (uW (uB (uC S 11 (sC S 11 + 1)) (cur S + 1) S.2.2.1.length) (cur S + 1) w') k = if k = cur S + 1 then (S.2.2.1.length : Int) else sB S k := fun _ => rfl
  have eT : ∀ k, sT (uW (uB (uC S 11 (sC S 11 + 1)) (cur S + 1) S.2.2.1.length) (cur S + 1) w') k = sT S k := fun _ => rfl
  have eQ : sQ (uW (uB (uC S 11 (sC S 11 + 1)) (cur S + 1) S.2.2.1.length) (cur S + 1) w') = sQ S := rfl
  have eL : (uW (uB (uC S 11 (sC S 11 + 1)) (cur S + 1) S.2.2.1.length) (cur S + 1) w').2.1 = S.2.1 := rfl
  have eN : (uW (uB (uC S 11 (sC S 11 + 1)) (cur S + 1) S.2.2.1.length) (cur S + 1) w').2.2.1 = S.2.2.1 := rfl
  have eu : ∀ k, (oW (oS U 13 ((cur S : Int) + 1)) (cur S + 1) (wBegins (U.2.1 (cur S)) (mI M 2233 (σ s).toNat))).1 k = if k = 13 then (cur S : Int) + 1 else U.1 k := fun _ => rfl
  have euw : ∀ i, (oW (oS U 13 ((cur S : Int) + 1)) (cur S + 1) (wBegins (U.2.1 (cur S)) (mI M 2233 (σ s).toNat))).2.1 i = if i = cur S + 1 then wBegins (U.2.1 (cur S)) (mI M 2233 (σ s).toNat) else U.2.1 i := fun _ => rfl
  have eup : (oW (oS U 13 ((cur S : Int) + 1)) (cur S + 1) (wBegins (U.2.1 (cur S)) (mI M 2233 (σ s).toNat))).2.2.1 = U.2.2.1 := rfl
  have eua : (oW (oS U 13 ((cur S : Int) + 1)) (cur S + 1) (wBegins (U.2.1 (cur S)) (mI M 2233 (σ s).toNat))).2.2.2 = U.2.2.2 := rfl
  generalize uW (uB (uC S 11 (sC S 11 + 1)) (cur S + 1) S.2.2.1.length) (cur S + 1) w' = S' at *
  generalize oW (oS U 13 ((cur S : Int) + 1)) (cur S + 1) (wBegins (U.2.1 (cur S)) (mI M 2233 (σ s).toNat)) = U' at *
  have c11 : sC S' 11 = sC S 11 + 1 := eC 11
  have cC : ∀ k, k ≠ 11 → sC S' k = sC S k := fun k hk => (eC k).trans (if_neg hk)
  have uU : ∀ k, k ≠ 13 → U'.1 k = U.1 k := fun k hk => (eu k).trans (if_neg hk)
  have hcur : cur S' = cur S + 1 := by unfold cur; rw [c11]; omega
  have hCL : CL S' = CL S := by unfold CL; rw [eL, eN]
  have ecs : csS S' = csS S := by funext J; unfold csS; rw [hCL, eL]
  have edp : dpS S' = dpS S := by funext J; unfold dpS; rw [hCL]
  have eid : idU U' = idU U := by funext J; unfold idU; rw [eup]
  have elo : ∀ l : Int, 0 ≤ l → l ≤ sC S 11 → loS S' l = loS S l := fun l l0 l1 => by
    unfold loS
    by_cases c : l = 0
    · rw [if_pos c, if_pos c]
    · rw [if_neg c, if_neg c, eL, eB, if_neg (by omega)]
  have elon : loS S' (sC S 11 + 1) = (CL S).length := by
    unfold loS
    rw [if_neg (by omega), eL, eB, if_pos (by omega), hl, Int.toNat_natCast]
  have est : ∀ l : Int, 0 ≤ l → l ≤ sC S 11 → stS S' l = stS S l := fun l l0 l1 => by
    unfold stS
    by_cases c : l = 0
    · rw [if_pos c, if_pos c]
    · rw [if_neg c, if_neg c, eW, if_neg (by omega)]
  have estn : stS S' (sC S 11 + 1) = s := by
    unfold stS
    rw [if_neg (by omega), eW, if_neg (by omega), show ((sC S 11 + 1).toNat - 1) = cur S by omega]
    exact hs
  have lvs : ∀ J, J < (CL S).length → 0 ≤ gp U.2.2.1 J 45 ∧ gp U.2.2.1 J 45 ≤ sC S 11 := fun J hJ => by
    by_cases c : J < S.2.1.length
    · rw [a4 J c]; omega
    · have := a5 J (by omega) hJ; omega
  have bw := b2 (cur S) (Nat.le_refl _)
  have wBw : wB w' := by
    obtain ⟨x1, x2, x3, x4⟩ := s1 (cur S)
    exact ⟨by rw [w'v]; exact x1, by rw [w'5]; exact x2, by rw [w'6]; exact x3, by rw [w'r]; exact x4⟩
  refine ⟨⟨⟨fun i => ?_, by rw [eL]; exact s2, by rw [eN]; exact s3, by rw [eL]; exact s4, by rw [eN]; exact s5, fun k => by rw [eT]; exact s6 k, by rw [c11]; omega, by rw [cC 9 (by decide)]; exact s8, by rw [cC 13 (by decide)]; exact s9, by rw [eQ]; exact s10, fun k k1 k2 => ?_⟩, fun i hi => ?_, fun J hJ => ?_, by rw [eT]; exact b4, by rw [eT]; exact b5, by rw [eT]; exact b6, by rw [eT, eT, eL]; exact b7, by rw [cC 9 (by decide), cC 10 (by decide)]; exact b8, by rw [eT]; exact b9, by rw [eT, cC 13 (by decide)]; exact b10, by rw [eT]; exact b11, by rw [cC 10 (by decide)]; exact b12, by rw [cC 12 (by decide)]; exact b13, by rw [uU 16 (by decide)]; exact b14, by rw [uU 16 (by decide)]; exact b15⟩,
    ⟨by rw [uU 0 (by decide), cC 7 (by decide)]; exact n0, by rw [uU 1 (by decide), cC 8 (by decide)]; exact n1, by rw [uU 4 (by decide), eT]; exact n4, by rw [uU 5 (by decide), eT]; exact n5, by rw [uU 6 (by decide), eT]; exact n6, by rw [uU 7 (by decide), eT]; exact n7, by rw [uU 8 (by decide), eT]; exact n8, by rw [uU 9 (by decide), cC 9 (by decide)]; exact n9, by rw [uU 10 (by decide), cC 10 (by decide)]; exact n10, by rw [uU 11 (by decide), eT]; exact n11, by rw [uU 12 (by decide), cC 12 (by decide)]; exact n12, by rw [c11, show U'.1 13 = (cur S : Int) + 1 from eu 13, hcu], by rw [uU 15 (by decide), eQ]; exact n15, by rw [cC 13 (by decide)]; exact nb, by rw [eua, eQ]; exact na⟩,
    ⟨by rw [uU 2 (by decide)]; exact hRP.1, by rw [uU 3 (by decide)]; exact hRP.2⟩,
    ⟨by rw [eup, hCL]; exact a1, fun J hJ => ?_, fun i j hij hj => ?_, fun J hJ => ?_, fun J h1 h2 => ?_, fun i i1 i2 => ?_, fun J hJ => ?_⟩, ?_, fun i hi => ?_, ?_, fun i i1 hi => ?_⟩
  · rw [eW]
    split
    · exact wBw
    · exact s1 i
  · rw [c11] at k2
    rw [eB, eN]
    split
    · omega
    · exact s11 k k1 (by omega)
  · rw [hcur] at hi
    rw [eW]
    split
    · rw [w'5, w'6]; exact bw
    · exact b2 i (by omega)
  · rw [edp, hCL] at *; exact b3 J hJ
  · rw [hCL] at hJ
    rw [eid, uU 16 (by decide)]; exact a2 J hJ
  · rw [hCL] at hj
    rw [eid]; exact a3 i j hij hj
  · rw [eL] at hJ
    rw [eup]; exact a4 J hJ
  · rw [eL] at h1
    rw [hCL] at h2
    rw [eup, c11]
    have := a5 J h1 h2
    omega
  · rw [c11] at i2
    rw [eN, eB]
    by_cases c : i = cur S + 1
    · rw [if_pos c]
      refine ⟨by omega, Int.le_refl _, fun J j1 j2 => ?_⟩
      rw [eL] at j1
      rw [hCL] at j2
      have := lvs J j2
      rw [eup, show ((i : Nat) : Int) = sC S 11 + 1 by omega, elon]
      constructor
      · intro _; omega
      · intro _; omega
    · rw [if_neg c]
      obtain ⟨x1, x2, x3⟩ := a6 i i1 (by omega)
      refine ⟨x1, x2, fun J j1 j2 => ?_⟩
      rw [eL] at j1
      rw [hCL] at j2
      rw [elo i (by omega) (by omega), eup]
      exact x3 J j1 j2
  · rw [hCL] at hJ
    obtain ⟨c1, c2⟩ := a7 J hJ
    have hlv := lvs J hJ
    rw [eup, hCL, est _ hlv.1 hlv.2, elo _ hlv.1 hlv.2, ecs, edp, eid, hD, if_neg (by omega)]
    exact ⟨c1, c2⟩
  · rw [hD, if_neg (by omega)]; exact w1
  · rw [hcur] at hi
    by_cases c : i = cur S + 1
    · have ei : ((i : Nat) : Int) = sC S 11 + 1 := by omega
      rw [ei, estn, eW, if_pos c, euw, if_pos c, hD, if_pos rfl]
      constructor
      · refine ⟨fun k hk => ?_, Or.inr ⟨by rw [w'3]; exact g4, by rw [w'3, w'4]; exact g5, ?_⟩, ⟨0, by omega, rfl, ?_⟩, ?_, ?_, ?_, ?_⟩
        · unfold wBegins
          rw [fup_ne (by omega), fup_ne (by omega), fup_ne (by omega), fup_ne (by omega), fup_ne (by omega), fup_ne (by omega), w'v]
          exact hwr.1 k hk
        · rw [w'3, ← g6]; rfl
        · exact w'4
        · show (0 : Int) = _
          rw [w'4, hlI, w'm]; omega
        · show (0 : Int) = _
          rw [w'5]; omega
        · exact Int.le_refl 0
        · show (0 : Int) ≤ _
          rw [w'6]; exact (s1 (cur S)).2.2.1.1
      · refine Or.inl ⟨rfl, fun j => ?_⟩
        unfold cwW
        rw [if_neg (by omega), eW, if_pos c]
        show (if _ then false else w'.2.2.2.2 _) = false
        split
        · rfl
        · exact w'c _
    · obtain ⟨c1, c2⟩ := w2 i (by omega)
      rw [est _ (by omega) (by omega), elo _ (by omega) (by omega), eW, if_neg c, euw, if_neg c, ecs, edp, eid, hD, if_neg (by omega)]
      refine ⟨c1, ?_⟩
      have e1 : cwW S' i = cwW S i := by unfold cwW; rw [eW, if_neg c, eL]
      have e2 : hiS S' i = hiS S i := by
        unfold hiS
        rw [c11, if_pos (by omega)]
        by_cases c3 : (i : Int) < sC S 11
        · rw [if_pos c3, elo _ (by omega) (by omega)]
        · rw [if_neg c3, show ((i : Int) + 1) = sC S 11 + 1 by omega, elon]
      rw [e1, e2]; exact c2
  · rw [euw, if_neg (by omega), eW, if_neg (by omega)]; exact w3
  · rw [hcur] at hi
    by_cases c : i = cur S + 1
    · rw [show ((i : Nat) : Int) = sC S 11 + 1 by omega, estn]; exact ⟨hh, hk⟩
    · rw [est _ (by omega) (by omega)]; exact w4 i i1 (by omega)
end MADE
