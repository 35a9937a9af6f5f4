/-! one move on both sides: no way stands -/
theorem all_gp {l : List Pf} {p : Pf → Prop} (h : ∀ J, J < l.length → p (gp l J)) : ∀ q ∈ l, p q := fun q hq => by
  obtain ⟨J, hJ, e⟩ := List.getElem_of_mem hq
  have := h J hJ
  unfold gp at this
  rw [List.getElem?_eq_getElem hJ] at this
  rw [← e]; exact this
section MOVE4
variable {K M0 : ZMem} {P : Pg} {σ : Int → Int} {root price : Int} {e s : Nat} {D : Int → Int} {S S' : Sr} {U U' : Tr} {b t : Int}
theorem RS.pt (h : RS P σ root price D S U b t) {R : Nat} (hR : R < (CL S).length) : pB P (gq (CL S) R) ∧ ∃ l, PtR P σ (stS S l) (D l) (gq (CL S) R) (gp U.2.2.1 R) ∧ l = gp U.2.2.1 R 45 := by
  have hmem : gq (CL S) R ∈ CL S := List.mem_of_getElem? (gq_some hR)
  refine ⟨?_, _, (h.2.2.2.1.2.2.2.2.2.2 R hR).1, rfl⟩
  rcases List.mem_append.mp hmem with q | q
  · exact h.sb.2.1 _ q
  · exact h.sb.2.2.1 _ q
theorem RS.h33 (h : RS P σ root price D S U b t) : ∀ p ∈ U.2.2.1, -10 ≤ p 33 ∧ p 33 ≤ 200000000 := all_gp (p := fun p => -10 ≤ p 33 ∧ p 33 ≤ 200000000) fun J hJ => by
  rw [h.2.2.2.1.1] at hJ
  obtain ⟨h1, l, h2, _⟩ := h.pt hJ
  obtain ⟨_, _, _, _, _, x7, x8⟩ := h2.1
  have := h1.1.2.2.1
  omega
theorem take_run (hPR : PR M0 P σ root price e) (hM : ModelAt K 2230) (hDB : DB D) (h : RS P σ root price D S U b t) {R : Nat} (hR : R < (CL S).length) {d : Nat} {M : ZMem} {Q : ZMem → Prop} (hd : 4 ≤ d) (a : RM K M0 M s (cur S) b U) (q : ∀ M', RM K M0 M' s (cur S) b (oTook (oW (if U.1 13 = 0 then oS (oS U 6 (U.1 6 + 1)) 8 (U.1 8 + unlN (U.2.1 (cur S)) (gp U.2.2.1 R) 8) else U) (cur S) (wTaken M0 (gp U.2.2.1 R))) R (gp U.2.2.1 R)) → Q M') : Cv d q10_takesPoint [zr 2230, zi R] M Q := by
  obtain ⟨d13, d4, d5, d6, d7, d8, d9, d16, d15, dl⟩ := h.bd
  obtain ⟨hp, l, hpt, _⟩ := h.pt hR
  have hRU : R < U.2.2.1.length := by rw [h.2.2.2.1.1]; exact hR
  have hsome := gp_some hRU
  generalize gq (CL S) R = x at *
  generalize gp U.2.2.1 R = p at *
  obtain ⟨p1, p2, p3, p4, p5, p6⟩ := hp
  obtain ⟨h1, ⟨h2, h3⟩, h4, h5, h6, h7, h8, h9, h10, h11⟩ := hpt
  obtain ⟨x1, x2, ⟨m, hm, x3, x4⟩, x5, x6, x7, x8⟩ := h1
  have hσ := (hPR.2.2.1 _ h2).1
  have hDl := hDB l
  have w5 := p1.2.1
  have w6 := p1.2.2.1
  refine r_takesPoint hd a hM dl hsome (by rw [h4]; exact hσ) (by omega) (by omega) (by omega) d6 d8 (fun c => ?_) (fun c => ?_) q
  · have k5 : gKind P (x.1.1 3) = 5 := by
      rw [h4] at c
      rcases h3 with k | k | k
      · have := (hPR.k3 h2 k).1; omega
      · have := (hPR.k4 h2 k).1; omega
      · exact k
    obtain ⟨g1, g2, g3, g4, g5⟩ := hPR.k5 h2 k5
    have := h9 k5
    refine ⟨by omega, fun j hj => ?_⟩
    rw [h4]
    exact (g5 j (by omega)).1
  · rw [h4] at c ⊢
    rcases h3 with k | k | k
    · obtain ⟨g1, g2, g3, g4, g5⟩ := hPR.k3 h2 k
      have y := (p3 k).1
      have y : -999 ≤ x.2.2 2 ∧ x.2.2 2 ≤ 999 := y
      exact ⟨by rw [g2]; exact g3, fun _ => by rw [h7 k]; omega, fun q => absurd g1 q⟩
    · obtain ⟨g1, g2, g3, _⟩ := hPR.k4 h2 k
      obtain ⟨y1, y2⟩ := p2 (by omega) (by omega)
      exact ⟨by rw [g2]; exact g3, fun q => by omega, fun _ => by omega⟩
    · have := (hPR.k5 h2 k).1; omega
theorem unl_eq (h : RS P σ root price D S U b t) {R : Nat} (hR : R < (CL S).length) : unlN (S.1 (cur S)).2.1 (gq (CL S) R).1.2.1 8 = unlN (U.2.1 (cur S)) (gp U.2.2.1 R) 8 := by
  obtain ⟨_, l, hpt, _⟩ := h.pt hR
  exact unlN_eq 8 h.vals (fun k hk => (hpt.1.1 k hk).symm)
theorem xTake_c {bb : Bool} {i : Nat} {q : Pt} {k : Nat} : sC (xTake P S bb i q) k = if k = 12 then 1 else sC S k := by
  cases bb <;> rfl
theorem xTake_t {bb : Bool} {i : Nat} {q : Pt} {k : Nat} : sT (xTake P S bb i q) k = sT S k := by
  cases bb <;> rfl
theorem mo_backIn (hPR : PR M0 P σ root price e) (hM : ModelAt K 2230) (hDB : DB D) (h : RS P σ root price D S U (sC S 13) (sT S 2)) (h12 : sC S 12 = 0) (hn0 : 0 < sC S 11) : Mo K M0 P σ root price e s S U (xGoBackInNot P S) := by
  obtain ⟨d13, d4, d5, d6, d7, d8, d9, d16, d15, dl⟩ := h.bd
  have hn := h.sb.n
  have hcu := cur_n hn.1
  have hl := CL_len (S := S)
  have u12 : U.1 12 = 0 := (show U.1 12 = sC S 12 from h.2.1.2.2.2.2.2.2.2.2.2.2.1).trans h12
  have hUl := h.2.2.2.1.1
  have hA := h.2.2.2.1.2.2.2.2.2.1 (cur S) (by omega) (by omega)
  have hnb : nB S = true := decide_eq_true hn0
  have elo : loS S (sC S 11) = S.2.1.length + (sB S (cur S)).toNat := by unfold loS; rw [if_neg (by omega)]; rfl
  have hlast := chO_last (st := U.1 1) (lvl := U.1 13) (by omega) U.2.2.1 0 (-1) (Int.le_refl _)
  have run : ∀ (d : Nat) (M : ZMem) (Q : Int → ZMem → Prop), e + 8 ≤ d → RM K M0 M s (cur S) (sC S 13) U → Ci (d - 1) q10_takesNext [zr 2230] M (fun x M' => KW K M' ∧ Q x M') → Ci d q10_goesOnce [zr 2230] M Q := fun d M Q hd a k => r_once_next (by omega) a hM u12 k
  by_cases c1 : sB S (cur S) < S.2.2.1.length
  · -- the youngest
    have hR : (CL S).length - 1 < (CL S).length := by omega
    have hlv : gp U.2.2.1 ((CL S).length - 1) 45 = sC S 11 := h.2.2.2.1.level h.sb hR (by rw [elo]; omega)
    have hch : chO (U.1 1) (U.1 13) U.2.2.1 0 (-1) 0 = (((CL S).length - 1 : Nat) : Int) := by
      rcases hlast with ⟨q1, q2⟩ | ⟨J, q1, q2, q3, q4⟩
      · exact absurd (hlv.trans (by omega)) (q2 _ (by omega))
      · have : J = (CL S).length - 1 := by
          by_cases c : J < (CL S).length - 1
          · exact absurd (hlv.trans (by omega)) (q3 _ c (by omega))
          · omega
        rw [q4, this]; omega
    by_cases c2 : 0 < sC S 13
    · have hp := h.paid c2
      have hp1 := RS_mono hp (show sT S 2 ≤ sT S 2 + 1 by omega) (Int.le_refl _)
      have e1 : xGoBackInNot P S = (0, xTake P (xSpend S) true (S.2.2.1.length - 1) (gq S.2.2.1 (S.2.2.1.length - 1))) := by
        unfold xGoBackInNot
        rw [if_pos c1, if_pos c2]
        rfl
      rw [e1]
      have hnb' : nB (xSpend S) = true := hnb
      have eR : rmO (xSpend S) (S.2.2.1.length - 1) = (CL S).length - 1 := by
        unfold rmO
        rw [if_pos hnb']
        show S.2.1.length + (S.2.2.1.length - 1) = _
        omega
      have hdep := (h.1.2.2.1 ((CL S).length - 1) hR).1
      have egq : gq (CL S) ((CL S).length - 1) = gq S.2.2.1 (S.2.2.1.length - 1) := by
        rw [gq_hi (by omega)]
        congr 1; omega
      unfold dpS at hdep
      rw [egq] at hdep
      have r := RS_take hPR hp1 (i := S.2.2.1.length - 1) (by rw [hnb']; show S.2.2.1.length - 1 < S.2.2.1.length; omega) (by rw [eR]; show loS S (sC S 11) ≤ _; rw [elo]; omega) (by rw [hnb']; show (gq S.2.2.1 (S.2.2.1.length - 1)).1.1 5 + 1 ≤ _; omega)
      rw [eR, hnb'] at r
      have eg : gq (sL true (xSpend S)) (S.2.2.1.length - 1) = gq S.2.2.1 (S.2.2.1.length - 1) := rfl
      rw [eg] at r
      have c13 : sC (xTake P (xSpend S) true (S.2.2.1.length - 1) (gq S.2.2.1 (S.2.2.1.length - 1))) 13 = sC S 13 - 1 := xTake_c
      have c11 : sC (xTake P (xSpend S) true (S.2.2.1.length - 1) (gq S.2.2.1 (S.2.2.1.length - 1))) 11 = sC S 11 := xTake_c
      have t2 : sT (xTake P (xSpend S) true (S.2.2.1.length - 1) (gq S.2.2.1 (S.2.2.1.length - 1))) 2 = sT S 2 + 1 := xTake_t
      generalize xTake P (xSpend S) true (S.2.2.1.length - 1) (gq S.2.2.1 (S.2.2.1.length - 1)) = S' at *
      have ec : cur S' = cur S := by unfold cur; rw [c11]
      refine Mo.one (D' := D) (U' := oS (oTook (oW (oBump U) (cur S) (wTaken M0 (gp U.2.2.1 ((CL S).length - 1)))) ((CL S).length - 1) (gp U.2.2.1 ((CL S).length - 1))) 12 1) (fun _ => mu_step hPR.1 (by rw [c11]; exact hn.2) c13 c2) (Rx.go hDB (by decide) (by rw [c13, t2]; exact r)) fun d M Q hd a hq => run d M Q hd a ?_
      rw [c13, ec] at hq
      refine r_takesNext (by omega) a hM dl d13 d4 h.h33 d9 (fun i hi hi1 => ⟨fun c => absurd c (by omega), fun _ M4 a4 => ?_⟩) (fun c => absurd (hch.symm.trans c) (by omega)) (fun c => absurd (hch.symm.trans c) (by omega))
      rw [← hi, hch]
      have a4 : RM K M0 M4 s (cur (xSpend S)) (sC S 13 - 1) (oBump U) := a4
      refine take_run hPR hM hDB hp (show (CL S).length - 1 < (CL (xSpend S)).length from hR) (by omega) a4 fun M5 a5 => ⟨_, a5, fun M6 a6 => ?_⟩
      rw [if_neg (show ¬ (oBump U).1 13 = 0 from (show ¬ U.1 13 = 0 by omega))] at a6
      exact ⟨a6.1, hq M6 a6⟩
    · have e1 : xGoBackInNot P S = (2, S) := by
        unfold xGoBackInNot
        rw [if_pos c1, if_neg c2]
      rw [e1]
      refine Mo.one (D' := D) (U' := U) (fun q => absurd q (by decide)) (Rx.go hDB (by decide) h) fun d M Q hd a hq => run d M Q hd a ?_
      exact r_takesNext (by omega) a hM dl d13 d4 h.h33 d9 (fun i hi hi1 => ⟨fun _ => ⟨a.1, hq M a⟩, fun c => by omega⟩) (fun c => absurd (hch.symm.trans c) (by omega)) (fun c => absurd (hch.symm.trans c) (by omega))
  · -- out of the not
    have hch : chO (U.1 1) (U.1 13) U.2.2.1 0 (-1) 0 = -1 := by
      rcases hlast with ⟨q1, q2⟩ | ⟨J, q1, q2, q3, q4⟩
      · exact q1
      · exfalso
        rw [hUl] at q1
        have hJ : S.2.1.length ≤ J := by
          by_cases c : J < S.2.1.length
          · have := h.2.2.2.1.2.2.2.1 J c; omega
          · omega
        have := (hA.2.2 J hJ q1).mpr (by omega)
        rw [show ((cur S : Nat) : Int) = sC S 11 by omega, elo] at this
        omega
    have e1 : xGoBackInNot P S = (0, uW (uC (uC S 11 (sC S 11 - 1)) 12 1) (cur S - 1) (fup (S.1 (cur S - 1)).1 3 (gBehind P ((S.1 (cur S - 1)).1 3)), (S.1 (cur S - 1)).2)) := by
      unfold xGoBackInNot
      exact if_neg c1
    rw [e1]
    have r := RS_exit hPR h (by omega) c1
    have ec : cur (uW (uC (uC S 11 (sC S 11 - 1)) 12 1) (cur S - 1) (fup (S.1 (cur S - 1)).1 3 (gBehind P ((S.1 (cur S - 1)).1 3)), (S.1 (cur S - 1)).2)) = cur S - 1 := by
      show (sC S 11 - 1).toNat = _
      omega
    have hst := h.2.2.2.2.2.2.2 (cur S) (by omega) (Nat.le_refl _)
    have est : stS S (cur S : Int) = (S.1 (cur S - 1)).1 3 := by
      unfold stS
      rw [if_neg (by omega), Int.toNat_natCast]
    rw [est] at hst
    have hat := ((h.2.2.2.2.2.1 (cur S - 1) (by omega)).1.around hst.1).2
    refine Mo.one (D' := D) (fun _ => ?_) (Rx.go hDB (by decide) r) fun d M Q hd a hq => run d M Q hd a ?_
    · have hle := lvI_le hPR.1 (((uW (uC (uC S 11 (sC S 11 - 1)) 12 1) (cur S - 1) (fup (S.1 (cur S - 1)).1 3 (gBehind P ((S.1 (cur S - 1)).1 3)), (S.1 (cur S - 1)).2)).1 (cur S - 1)).1 4)
      have e12 : sC (uW (uC (uC S 11 (sC S 11 - 1)) 12 1) (cur S - 1) (fup (S.1 (cur S - 1)).1 3 (gBehind P ((S.1 (cur S - 1)).1 3)), (S.1 (cur S - 1)).2)) 12 = 1 := rfl
      have e13 : sC (uW (uC (uC S 11 (sC S 11 - 1)) 12 1) (cur S - 1) (fup (S.1 (cur S - 1)).1 3 (gBehind P ((S.1 (cur S - 1)).1 3)), (S.1 (cur S - 1)).2)) 13 = sC S 13 := rfl
      unfold muN
      rw [ec, e12, e13, if_neg (show ¬ (1 : Int) = 0 by decide), if_pos h12]
      split <;> omega
    · rw [ec] at hq
      refine r_takesNext (by omega) a hM dl d13 d4 h.h33 d9 (fun i hi hi1 => absurd (hi.symm.trans hch) hi1) (fun _ _ => ⟨by rw [hat]; exact (hPR.2.2.1 _ hst.1).1, fun M' a' => ⟨a'.1, hq M' a'⟩⟩) (fun _ c => by omega)
theorem mo_backOut (hPR : PR M0 P σ root price e) (hM : ModelAt K 2230) (hDB : DB D) (h : RS P σ root price D S U (sC S 13) (sT S 2)) (h12 : sC S 12 = 0) (hn0 : sC S 11 = 0) : Mo K M0 P σ root price e s S U (xGoBack P S) := by
  obtain ⟨d13, d4, d5, d6, d7, d8, d9, d16, d15, dl⟩ := h.bd
  have hn := h.sb.n
  have hc0 : cur S = 0 := by unfold cur; omega
  have hl := CL_len (S := S)
  have hni := h.2.2.2.1.noInner (by omega)
  have u12 : U.1 12 = 0 := (show U.1 12 = sC S 12 from h.2.1.2.2.2.2.2.2.2.2.2.2.1).trans h12
  have u1 : U.1 1 = sC S 8 := h.2.1.2.1
  have u10 : U.1 10 = sC S 10 := h.2.1.2.2.2.2.2.2.2.2.1
  have h10 := h.1.2.2.2.2.2.2.2.2.2.2.2.1
  have hUl := h.2.2.2.1.1
  have hnb : nB S = false := decide_eq_false (by omega)
  have hCL : CL S = S.2.1 := by
    unfold CL
    rw [List.eq_nil_of_length_eq_zero hni, List.append_nil]
  have hch : chO (U.1 1) (U.1 13) U.2.2.1 0 (-1) 0 = xChosen S := by
    unfold xChosen
    rw [dl, hc0, u1]
    refine chosen_eq S.2.1 U.2.2.1 0 (-1) 0 0 (by omega) (fun J hJ => ?_) (fun c => absurd rfl c)
    have h45 := h.2.2.2.1.2.2.2.1 J hJ
    obtain ⟨_, l, hpt, _⟩ := h.pt (R := J) (by omega)
    rw [hCL] at hpt
    obtain ⟨_, _, _, h5, _, _, _, _, h10, h11⟩ := hpt
    exact ⟨h45, h10, h11 h45, h5⟩
  have run : ∀ (d : Nat) (M : ZMem) (Q : Int → ZMem → Prop), e + 8 ≤ d → RM K M0 M s (cur S) (sC S 13) U → Ci (d - 1) q10_takesNext [zr 2230] M (fun x M' => KW K M' ∧ Q x M') → Ci d q10_goesOnce [zr 2230] M Q := fun d M Q hd a k => r_once_next (by omega) a hM u12 k
  have e0 : ¬ 0 < sC S 11 := by omega
  by_cases c1 : S.2.1.length = 0
  · have hch1 : chO (U.1 1) (U.1 13) U.2.2.1 0 (-1) 0 = -1 := by
      rw [hch]
      unfold xChosen
      rw [List.eq_nil_of_length_eq_zero c1]; rfl
    by_cases c2 : sC S 8 = 5 ∧ sC S 10 ≠ 0
    · have e1 : xGoBack P S = (0, xStartWay (uC S 9 (sC S 9 + 1))) := by
        unfold xGoBack
        rw [if_neg e0, if_pos c1]
        exact if_pos c2
      rw [e1]
      have r := RS_anew hPR h hn0 c1 (by omega)
      have ec : cur (xStartWay (uC S 9 (sC S 9 + 1))) = 0 := rfl
      have x13 : sC (xStartWay (uC S 9 (sC S 9 + 1))) 13 = sC S 13 := rfl
      have x12 : sC (xStartWay (uC S 9 (sC S 9 + 1))) 12 = 1 := rfl
      have xt2 : sT (xStartWay (uC S 9 (sC S 9 + 1))) 2 = sT S 2 := rfl
      have x3 : ((xStartWay (uC S 9 (sC S 9 + 1))).1 0).1 3 = 0 := rfl
      generalize xStartWay (uC S 9 (sC S 9 + 1)) = S' at *
      refine Mo.one (D' := D) (fun _ => ?_) (Rx.go hDB (by decide) (by rw [x13, xt2]; exact r)) fun d M Q hd a hq => run d M Q hd a ?_
      · unfold muN
        rw [ec, x12, x13, x3, if_neg (show ¬ (1 : Int) = 0 by decide), if_neg (show ¬ (0 : Int) = -1 by decide), if_pos h12]
        omega
      · rw [ec, x13] at hq
        refine r_takesNext (by omega) a hM dl d13 d4 h.h33 d9 (fun i hi hi1 => absurd (hi.symm.trans hch1) hi1) (fun _ c => by omega) (fun _ _ => ⟨fun c => absurd ⟨u1.trans c2.1, by omega⟩ c, fun _ M' a' => ?_⟩)
        rw [hc0] at a'
        exact ⟨a'.1, hq M' a'⟩
    · have e1 : xGoBack P S = (3, uC S 7 2) := by
        unfold xGoBack
        rw [if_neg e0, if_pos c1]
        exact if_neg c2
      rw [e1]
      refine Mo.one (D' := D) (U' := U) (fun q => absurd q (by decide)) (Rx.fin hDB (by decide) (RS_over h)) fun d M Q hd a hq => run d M Q hd a ?_
      exact r_takesNext (by omega) a hM dl d13 d4 h.h33 d9 (fun i hi hi1 => absurd (hi.symm.trans hch1) hi1) (fun _ c => by omega) (fun _ _ => ⟨fun _ => ⟨a.1, hq M a⟩, fun c => absurd ⟨u1.symm.trans c.1, by omega⟩ c2⟩)
  · have hrg := choN_range (sC S 8) S.2.1 0 (-1) 0 (Int.le_refl _) (Or.inl ⟨rfl, fun q => c1 (by rw [q]; rfl)⟩)
    have hrg : 0 ≤ xChosen S ∧ xChosen S < 0 + S.2.1.length := hrg
    obtain ⟨i, hi⟩ : ∃ i : Nat, xChosen S = i := ⟨(xChosen S).toNat, by omega⟩
    have hil : i < S.2.1.length := by omega
    have hR : i < (CL S).length := by omega
    by_cases c2 : 0 < sC S 13
    · have hp := h.paid c2
      have hu := unlN_le (S.1 (cur S)).2.1 (gq S.2.1 i).1.2.1 8
      have hp1 := RS_tally hp (Int.le_refl _) (u := unlN (S.1 (cur S)).2.1 (gq S.2.1 i).1.2.1 8) ⟨hu.1, hu.2⟩
      have e1 : xGoBack P S = (0, xTake P (xTally2 (xSpend S) (unlN (S.1 (cur S)).2.1 (gq S.2.1 i).1.2.1 8)) false i (gq S.2.1 i)) := by
        unfold xGoBack
        rw [if_neg e0, if_neg c1, if_pos c2, hi, Int.toNat_natCast]
        rfl
      rw [e1]
      have hdep := (h.1.2.2.1 i hR).1
      unfold dpS at hdep
      rw [hCL] at hdep
      have hnb' : nB (xTally2 (xSpend S) (unlN (S.1 (cur S)).2.1 (gq S.2.1 i).1.2.1 8)) = false := hnb
      have eR : rmO (xTally2 (xSpend S) (unlN (S.1 (cur S)).2.1 (gq S.2.1 i).1.2.1 8)) i = i := by
        unfold rmO
        rw [if_neg (by rw [hnb']; decide)]
      have r := RS_take hPR hp1 (i := i) (by rw [hnb']; exact hil) (by rw [eR]; show loS S (sC S 11) ≤ i; unfold loS; rw [if_pos hn0]; exact Nat.zero_le _) (by rw [hnb']; show (gq S.2.1 i).1.1 5 + 1 ≤ _; omega)
      rw [eR, hnb'] at r
      have eg : gq (sL false (xTally2 (xSpend S) (unlN (S.1 (cur S)).2.1 (gq S.2.1 i).1.2.1 8))) i = gq S.2.1 i := rfl
      rw [eg] at r
      have hue := unl_eq h hR
      rw [hCL] at hue
      have ecx : cur (xTally2 (xSpend S) (unlN (S.1 (cur S)).2.1 (gq S.2.1 i).1.2.1 8)) = cur S := rfl
      rw [ecx] at r
      have c13 : sC (xTake P (xTally2 (xSpend S) (unlN (S.1 (cur S)).2.1 (gq S.2.1 i).1.2.1 8)) false i (gq S.2.1 i)) 13 = sC S 13 - 1 := xTake_c
      have c11 : sC (xTake P (xTally2 (xSpend S) (unlN (S.1 (cur S)).2.1 (gq S.2.1 i).1.2.1 8)) false i (gq S.2.1 i)) 11 = sC S 11 := xTake_c
      have t2 : sT (xTake P (xTally2 (xSpend S) (unlN (S.1 (cur S)).2.1 (gq S.2.1 i).1.2.1 8)) false i (gq S.2.1 i)) 2 = sT S 2 + 1 := xTake_t
      generalize xTake P (xTally2 (xSpend S) (unlN (S.1 (cur S)).2.1 (gq S.2.1 i).1.2.1 8)) false i (gq S.2.1 i) = S' at *
      have ec : cur S' = cur S := by unfold cur; rw [c11]
      rw [hue] at r
      refine Mo.one (D' := D) (U' := oS (oTook (oW (oS (oS (oBump U) 6 (U.1 6 + 1)) 8 (U.1 8 + unlN (U.2.1 (cur S)) (gp U.2.2.1 i) 8)) (cur S) (wTaken M0 (gp U.2.2.1 i))) i (gp U.2.2.1 i)) 12 1) (fun _ => mu_step hPR.1 (by rw [c11]; exact hn.2) c13 c2) (Rx.go hDB (by decide) (by rw [c13, t2]; exact r)) fun d M Q hd a hq => run d M Q hd a ?_
      rw [c13, ec] at hq
      refine r_takesNext (by omega) a hM dl d13 d4 h.h33 d9 (fun j hj hj1 => ⟨fun c => absurd c (by omega), fun _ M4 a4 => ?_⟩) (fun c => absurd ((hch.symm.trans c)) (by omega)) (fun c => absurd ((hch.symm.trans c)) (by omega))
      rw [← hj, hch, hi]
      have a4 : RM K M0 M4 s (cur (xSpend S)) (sC S 13 - 1) (oBump U) := a4
      refine take_run hPR hM hDB hp (show i < (CL (xSpend S)).length from hR) (by omega) a4 fun M5 a5 => ⟨_, a5, fun M6 a6 => ?_⟩
      rw [if_pos (show (oBump U).1 13 = 0 from (show U.1 13 = 0 by omega))] at a6
      exact ⟨a6.1, hq M6 a6⟩
    · have e1 : xGoBack P S = (2, S) := by
        unfold xGoBack
        rw [if_neg e0, if_neg c1, if_neg c2]
      rw [e1]
      refine Mo.one (D' := D) (U' := U) (fun q => absurd q (by decide)) (Rx.go hDB (by decide) h) fun d M Q hd a hq => run d M Q hd a ?_
      exact r_takesNext (by omega) a hM dl d13 d4 h.h33 d9 (fun j hj hj1 => ⟨fun _ => ⟨a.1, hq M a⟩, fun c => by omega⟩) (fun c => absurd ((hch.symm.trans c)) (by omega)) (fun c => absurd ((hch.symm.trans c)) (by omega))
/-- one move -/
theorem mo (hPR : PR M0 P σ root price e) (hM : ModelAt K 2230) (hDB : DB D) (h : RS P σ root price D S U (sC S 13) (sT S 2)) (j : Pt) : Mo K M0 P σ root price e s S U (mv P S j) := by
  have hn := h.sb.n
  unfold mv
  by_cases c1 : sC S 12 = 0
  · rw [if_pos c1]
    by_cases c2 : 0 < sC S 11
    · have e1 : xGoBack P S = xGoBackInNot P S := by unfold xGoBack; exact if_pos c2
      rw [e1]
      exact mo_backIn hPR hM hDB h c1 c2
    · exact mo_backOut hPR hM hDB h c1 (by omega)
  · rw [if_neg c1]
    by_cases c2 : (S.1 (cur S)).1 3 = -1
    · rw [if_pos c2]
      exact mo_end hPR hM hDB h c1 c2
    · rw [if_neg c2]
      have hat := h.wr.2.1
      have hs : gHas P ((S.1 (cur S)).1 3) := by
        rcases hat with q | q
        · exact absurd q.1 c2
        · exact q.1
      by_cases c3 : 0 < sC S 13
      · rw [if_pos c3]
        rcases (hPR.2.2.1 _ hs).2.2.2.2 with q | q | q | q | q | q | q | q
        · exact mo_assign hPR hM hDB h c1 c3 hs rfl q.1
        · exact mo_test hPR hM hDB h c1 c3 hs rfl q.1
        · exact mo_choose hPR hM hDB h c1 c3 hs rfl (Or.inl q.1)
        · exact mo_choose hPR hM hDB h c1 c3 hs rfl (Or.inr (Or.inl q.1))
        · exact mo_choose hPR hM hDB h c1 c3 hs rfl (Or.inr (Or.inr q.1))
        · rcases q.1 with q | q
          · exact mo_once hPR hM hDB h c1 c3 hs rfl (Or.inl q.1)
          · exact mo_not hPR hM hDB h c1 c3 hs rfl q.1
        · exact mo_cut hPR hM hDB h c1 c3 hs rfl q.1
        · exact mo_once hPR hM hDB h c1 c3 hs rfl (Or.inr q.1)
      · rw [if_neg c3]
        obtain ⟨d13, d4, d5, d6, d7, d8, d9, d16, d15, dl⟩ := h.bd
        obtain ⟨a8, _⟩ := h.at hs rfl
        have hσ := (hPR.2.2.1 _ hs).1
        refine Mo.one (D' := D) (U' := U) (fun q => absurd q (by decide)) (Rx.go hDB (by decide) h) fun d M Q hd a hq => r_once (by omega) a hM (h.stands c1) ?_
        have hs' := a.2.2.2.2.2.2.1
        have hl' := a.2.2.2.2.2.2.2.1
        obtain ⟨d, rfl⟩ : ∃ c, d = c + 2 := ⟨d - 2, by omega⟩
        have e8 : mI M 2239 ((s : Int) + 17 + 35 * (cur S) + 8).toNat = σ ((S.1 (cur S)).1 3) := (a.w (v := cur S) (k := 8) rfl hl' (by omega)).trans a8
        refine B10_move a.1 hM ?_
        rw [a.2.2.1, e8]
        repeat (first | refine pe1 (by omega) ?_ | refine pe2 (by omega) ?_ | refine pe3 (by omega) ?_)
        exact ⟨fun _ => r_mayStep a hM d13 d4 (fun cb => absurd (by omega) cb) (fun cb => ⟨a.1, fun c => absurd rfl c, fun _ => pm_x a (by decide) (by decide) (hq M a)⟩), fun c => absurd (by omega) c⟩
end MOVE4
