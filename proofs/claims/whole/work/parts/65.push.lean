/-! the way that stands is another; a point is made: the relation stays -/
theorem CM_up {ids : Nat → Int} {cs : Nat → Nat → Bool} {dp : Nat → Int} {lo hi hi' : Nat} {c : Nat → Bool} {par dep dep' : Int} (h1 : hi ≤ hi') (h2 : dep ≤ dep') (h : CM ids cs dp lo hi c par dep) : CM ids cs dp lo hi' c par dep' := by
  rcases h with h | ⟨k, k1, k2, k3, k4, k5⟩
  · exact Or.inl h
  · exact Or.inr ⟨k, k1, by omega, k3, by omega, k5⟩
section PUSH
variable {M : ZMem} {P : Pg} {σ : Int → Int} {root price : Int} {e : Nat} {D : Int → Int} {S S' : Sr} {U U' : Tr} {b t : Int}
theorem RS_wayC (h : RS P σ root price D S U b t) {w : Wy} {r : Pf} (hw : WR P σ (stS S (cur S)) (D (cur S)) w r) (hB : wB w) (h5 : w.1 5 ≤ t) (h6 : w.1 6 ≤ w.1 5) (hc : CM (idU U) (csS S) (dpS S) (loS S (cur S)) (CL S).length (if cur S = 0 then w.2.2.2.2 else shf S.2.1.length w.2.2.2.2) (r 34) (w.1 5)) (h33 : cur S = 0 → r 33 = w.1 6) : RS P σ root price D (uW S (cur S) w) (oW U (cur S) r) b t := by
  obtain ⟨⟨b1, b2, b3, b4⟩, hN, hRP, hP, ⟨w1, w2, w3, w4⟩⟩ := h
  have hn := b1.n
  have hcu := cur_n hn.1
  refine ⟨⟨?_, fun i hi => ?_, b3, b4⟩, hN, hRP, RP_way hn.1 hP, w1, fun i hi => ?_, ?_, fun i i1 hi => ?_⟩
  · obtain ⟨s1, s2⟩ := b1
    refine ⟨fun i => ?_, s2⟩
    show wB (fup S.1 (cur S) w i)
    by_cases c : i = cur S
    · rw [c, fup_self]; exact hB
    · rw [fup_ne c]; exact s1 i
  · show (fup S.1 (cur S) w i).1 5 ≤ t ∧ (fup S.1 (cur S) w i).1 6 ≤ (fup S.1 (cur S) w i).1 5
    by_cases c : i = cur S
    · rw [c, fup_self]; exact ⟨h5, h6⟩
    · rw [fup_ne c]; exact b2 i hi
  · have hi : i ≤ cur S := hi
    have es : stS (uW S (cur S) w) i = stS S i := stS_uW hn.1 (by omega) (by omega)
    rw [es]
    obtain ⟨c1, c2⟩ := w2 i hi
    by_cases c : i = cur S
    · subst c
      have e1 : (uW S (cur S) w).1 (cur S) = w := fup_self
      have e2 : (oW U (cur S) r).2.1 (cur S) = r := fup_self
      have e3 : cwW (uW S (cur S) w) (cur S) = if cur S = 0 then w.2.2.2.2 else shf S.2.1.length w.2.2.2.2 := by
        unfold cwW
        rw [e1]
        rfl
      have e4 : hiS (uW S (cur S) w) (cur S) = (CL S).length := by
        unfold hiS
        exact if_neg (by show ¬ ((cur S : Nat) : Int) < sC S 11; omega)
      rw [e1, e2, e3, e4]
      exact ⟨hw, hc⟩
    · have e1 : (uW S (cur S) w).1 i = S.1 i := fup_ne c
      have e2 : (oW U (cur S) r).2.1 i = U.2.1 i := fup_ne c
      have e3 : cwW (uW S (cur S) w) i = cwW S i := by
        unfold cwW
        rw [e1]
        rfl
      rw [e1, e2, e3]
      exact ⟨c1, c2⟩
  · show fup U.2.1 (cur S) r 0 33 = (fup S.1 (cur S) w 0).1 6
    by_cases c : 0 = cur S
    · rw [← c, fup_self, fup_self]; exact h33 c.symm
    · rw [fup_ne c, fup_ne c]; exact w3
  · have es : stS (uW S (cur S) w) i = stS S i := stS_uW hn.1 (by omega) (by have hi : i ≤ cur S := hi; omega)
    rw [es]
    exact w4 i i1 hi
theorem gq_app {l : List Pt} {q : Pt} {J : Nat} (h : J < l.length) : gq (l ++ [q]) J = gq l J := by
  unfold gq; rw [List.getElem?_append_left h]
theorem gq_app_n {l : List Pt} {q : Pt} : gq (l ++ [q]) l.length = q := by
  unfold gq; rw [List.getElem?_append_right (Nat.le_refl _), Nat.sub_self]; rfl
theorem gp_app {l : List Pf} {q : Pf} {J : Nat} (h : J < l.length) : gp (l ++ [q]) J = gp l J := by
  unfold gp; rw [List.getElem?_append_left h]
theorem gp_app_n {l : List Pf} {q : Pf} : gp (l ++ [q]) l.length = q := by
  unfold gp; rw [List.getElem?_append_right (Nat.le_refl _), Nat.sub_self]; rfl
theorem RP.hi_le (h : RP P σ D S U) {i : Nat} (hi : (i : Int) ≤ sC S 11) : hiS S i ≤ (CL S).length := by
  have hl := CL_len (S := S)
  unfold hiS
  split
  · have g := h.2.2.2.2.2.1 (i + 1) (by omega) (by omega)
    have e2 : loS S (((i + 1 : Nat)) : Int) = loS S ((i : Int) + 1) := by congr 1
    rw [← e2, loS_i, if_neg (by omega)]
    omega
  · exact Nat.le_refl _
theorem push_ok {q : Pt} {p : Pf} (h : RP P σ D S U) (hw : RW P σ D S U) (hB : SB P S) (h13 : U.1 13 = sC S 11) (e1 : S'.1 = S.1) (eCL : CL S' = CL S ++ [q]) (eL : S'.2.1.length = if nB S = true then S.2.1.length else S.2.1.length + 1) (eC : sC S' 11 = sC S 11) (eB : ∀ k, sB S' k = sB S k) (eU : U'.2.2.1 = U.2.2.1 ++ [p]) (e16 : U'.1 16 = U.1 16 + 1) (u16 : 0 ≤ U.1 16) (eW : U'.2.1 = U.2.1) (p44 : p 44 = U.1 16) (p45 : p 45 = sC S 11) (p34 : p 34 = U.2.1 (cur S) 34) (hpt : PtR P σ (stS S (cur S)) (D (cur S)) q p) (q5 : q.1.1 5 = (S.1 (cur S)).1 5) (qc : q.1.2.2.2.2 = (S.1 (cur S)).2.2.2.2) : RP P σ D S' U' ∧ RW P σ D S' U' := by
  have hn := hB.n
  have hcu := cur_n hn.1
  have hl := CL_len (S := S)
  have hl' := CL_len (S := S')
  have h0 := h
  obtain ⟨a1, a2, a3, a4, a5, a6, a7⟩ := h
  obtain ⟨w1, w2, w3, w4⟩ := hw
  have hCl : (CL S').length = (CL S).length + 1 := by rw [eCL, List.length_append]; rfl
  have hcur : cur S' = cur S := by unfold cur; rw [eC]
  have hni : nB S = false → S.2.2.1.length = 0 := fun q => h0.noInner (nB_f q)
  have eL1 : nB S = true → S'.2.1.length = S.2.1.length := fun q => by rw [eL, if_pos q]
  have eL0 : nB S = false → S'.2.1.length = S.2.1.length + 1 := fun q => by rw [eL, if_neg (by rw [q]; decide)]
  have hnb : ∀ l : Int, 0 < l → l ≤ sC S 11 → nB S = true := fun l l0 l1 => decide_eq_true (by omega)
  have gqJ : ∀ J, J < (CL S).length → gq (CL S') J = gq (CL S) J := fun J hJ => by rw [eCL, gq_app hJ]
  have gqn : gq (CL S') (CL S).length = q := by rw [eCL, gq_app_n]
  have gpJ : ∀ J, J < (CL S).length → gp U'.2.2.1 J = gp U.2.2.1 J := fun J hJ => by rw [eU, gp_app (by omega)]
  have gpn : gp U'.2.2.1 (CL S).length = p := by rw [eU, ← a1, gp_app_n]
  have eid : ∀ J, J < (CL S).length → idU U' J = idU U J := fun J hJ => by unfold idU; rw [gpJ J hJ]
  have eidn : idU U' (CL S).length = U.1 16 := by unfold idU; rw [gpn, p44]
  have edp : ∀ J, J < (CL S).length → dpS S' J = dpS S J := fun J hJ => by unfold dpS; rw [gqJ J hJ]
  have ecs : ∀ J, J < (CL S).length → csS S' J = csS S J := fun J hJ => by
    cases hb : nB S with
    | true => unfold csS; rw [gqJ J hJ, eL1 hb]
    | false =>
      have := hni hb
      have := eL0 hb
      rw [csS_lo (by omega), csS_lo (by omega), gqJ J hJ]
  have ecn : csS S' (CL S).length = cwW S (cur S) := by
    cases hb : nB S with
    | true =>
      have := eL1 hb
      have := nB_t hb
      rw [csS_hi (by omega), gqn, qc, eL1 hb]
      unfold cwW
      rw [if_neg (by omega)]
    | false =>
      have := hni hb
      have := eL0 hb
      have := nB_f hb
      rw [csS_lo (by omega), gqn, qc]
      unfold cwW
      rw [if_pos (by omega)]
  have elo : ∀ l : Int, 0 ≤ l → l ≤ sC S 11 → loS S' l = loS S l := fun l l0 l1 => by
    unfold loS
    by_cases c : l = 0
    · rw [if_pos c, if_pos c]
    · rw [if_neg c, if_neg c, eB, eL1 (hnb l (by omega) l1)]
  have est : ∀ l : Int, stS S' l = stS S l := fun l => by unfold stS; rw [e1]
  have lvs : ∀ J, J < (CL S).length → 0 ≤ gp U.2.2.1 J 45 ∧ gp U.2.2.1 J 45 ≤ sC S 11 := fun J hJ => by
    by_cases c : J < S.2.1.length
    · rw [a4 J c]; omega
    · have := a5 J (by omega) hJ; omega
  have hhi : hiS S (cur S) = (CL S).length := by unfold hiS; rw [if_neg (by omega)]
  have hcm := (w2 (cur S) (Nat.le_refl _)).2
  rw [hhi] at hcm
  have cg : ∀ {lo hi : Nat} {c : Nat → Bool} {par dep : Int}, hi ≤ (CL S).length → CM (idU U) (csS S) (dpS S) lo hi c par dep → CM (idU U') (csS S') (dpS S') lo hi c par dep := fun h1 h2 => CM_congr (fun k hk => ⟨eid k (by omega), ecs k (by omega), edp k (by omega)⟩) h2
  constructor
  · refine ⟨by rw [eU, List.length_append, hCl, a1]; rfl, fun J hJ => ?_, fun i j hij hj => ?_, fun J hJ => ?_, fun J h1 h2 => ?_, fun i i1 i2 => ?_, fun J hJ => ?_⟩
    · rw [e16]
      by_cases c : J < (CL S).length
      · rw [eid J c]
        have := a2 J c; omega
      · have : J = (CL S).length := by omega
        rw [this, eidn]; omega
    · by_cases c : j < (CL S).length
      · rw [eid i (by omega), eid j c]; exact a3 i j hij c
      · have : j = (CL S).length := by omega
        rw [this, eidn, eid i (by omega)]
        exact (a2 i (by omega)).2
    · cases hb : nB S with
      | true =>
        have := eL1 hb
        rw [gpJ J (by omega)]
        exact a4 J (by omega)
      | false =>
        have := eL0 hb
        have := hni hb
        have := nB_f hb
        by_cases c : J < (CL S).length
        · rw [gpJ J c]; exact a4 J (by omega)
        · have : J = (CL S).length := by omega
          rw [this, gpn, p45]; omega
    · rw [eC]
      cases hb : nB S with
      | true =>
        have := eL1 hb
        have := nB_t hb
        by_cases c : J < (CL S).length
        · rw [gpJ J c]; exact a5 J (by omega) c
        · have : J = (CL S).length := by omega
          rw [this, gpn, p45]; omega
      | false =>
        have := eL0 hb
        have := hni hb
        omega
    · rw [eC] at i2
      have hb := hnb i (by omega) i2
      have := eL1 hb
      obtain ⟨g0, g1, g2⟩ := a6 i i1 i2
      rw [eB, elo i (by omega) i2]
      refine ⟨g0, by omega, fun J j1 j2 => ?_⟩
      by_cases c : J < (CL S).length
      · rw [gpJ J c]; exact g2 J (by omega) c
      · have : J = (CL S).length := by omega
        rw [this, gpn, p45, loS_i, if_neg (by omega)]
        constructor
        · intro _; omega
        · intro _; omega
    · by_cases c : J < (CL S).length
      · obtain ⟨c1, c2⟩ := a7 J c
        have hlv := lvs J c
        rw [gpJ J c, gqJ J c, est, elo _ hlv.1 hlv.2, ecs J c, edp J c]
        exact ⟨c1, cg (by omega) c2⟩
      · have hJn : J = (CL S).length := by omega
        rw [hJn, gpn, gqn, ecn, p45, p34, est, elo _ hn.1 (Int.le_refl _)]
        have edn : dpS S' (CL S).length = (S.1 (cur S)).1 5 := by unfold dpS; rw [gqn]; exact q5
        rw [edn, ← hcu]
        exact ⟨hpt, cg (Nat.le_refl _) hcm⟩
  · refine ⟨w1, fun i hi => ?_, by rw [eW, e1]; exact w3, fun i i1 hi => ?_⟩
    · rw [hcur] at hi
      obtain ⟨c1, c2⟩ := w2 i hi
      have ecw : cwW S' i = cwW S i := by
        unfold cwW
        by_cases c : i = 0
        · rw [if_pos c, if_pos c, e1]
        · rw [if_neg c, if_neg c, e1, eL1 (hnb i (by omega) (by omega))]
      rw [est, e1, eW, ecw, elo i (by omega) (by omega)]
      refine ⟨c1, ?_⟩
      have hle := h0.hi_le (i := i) (by omega)
      have h2 := cg hle c2
      refine CM_up ?_ (Int.le_refl _) h2
      by_cases c : (i : Int) < sC S 11
      · unfold hiS
        rw [if_pos c, if_pos (by rw [eC]; exact c), elo _ (by omega) (by omega)]
        exact Nat.le_refl _
      · have e2 : hiS S' i = (CL S').length := by unfold hiS; rw [if_neg (by rw [eC]; exact c)]
        rw [e2]; omega
    · rw [hcur] at hi
      rw [est]; exact w4 i i1 hi
end PUSH
