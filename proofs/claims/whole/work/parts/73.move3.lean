/-! one move on both sides: a part's end -/
section MOVE3
variable {K M0 : ZMem} {P : Pg} {σ : Int → Int} {root price : Int} {e s : Nat} {D : Int → Int} {S S' : Sr} {U U' : Tr} {b t : Int}
theorem r_leaves0 {d lv : Nat} {M : ZMem} {Q : Int → ZMem → Prop} (h : RM K M0 M s lv b U) (hM : ModelAt K 2230) (h9 : U.2.1 lv 9 = 0) (q : Q 7 M) : Ci (d + 1) q10_leaves [zr 2230] M Q := by
  have hs := h.2.2.2.2.2.2.1
  have hl := h.2.2.2.2.2.2.2.1
  have e9 := h.w (i := (s : Int) + 17 + 35 * lv + 9) (v := lv) (k := 9) rfl hl (by omega)
  refine B10_leaves h.1 hM ?_
  rw [h.2.2.1, e9]
  repeat (first | refine pe1 (by omega) ?_ | refine pe2 (by omega) ?_ | refine pe3 (by omega) ?_)
  exact ⟨fun c => absurd h9 c, fun _ => q⟩
theorem r_move_end {d lv : Nat} {M : ZMem} {Q : Int → ZMem → Prop} (h : RM K M0 M s lv b U) (hM : ModelAt K 2230) (h8 : U.2.1 lv 8 = -1) (q : Ci d q10_leaves [zr 2230] M (fun x M' => KW K M' ∧ Q x M')) : Ci (d + 1) q10_move [zr 2230] M Q := by
  have hs := h.2.2.2.2.2.2.1
  have hl := h.2.2.2.2.2.2.2.1
  have e8 : mI M 2239 ((s : Int) + 17 + 35 * lv + 8).toNat = -1 := (h.w (v := lv) (k := 8) rfl hl (by omega)).trans h8
  refine B10_move h.1 hM ?_
  rw [h.2.2.1, e8]
  repeat (first | refine pe1 (by omega) ?_ | refine pe2 (by omega) ?_ | refine pe3 (by omega) ?_)
  exact ⟨fun c => absurd rfl c, fun _ => q⟩
theorem mu_off {x : Int} (hP : PB P) (hn : sC S 11 ≤ 6) (h12 : sC S 12 ≠ 0) (h3 : (S.1 (cur S)).1 3 = -1) (e13 : sC S' 13 = sC S 13) (e12 : sC S' 12 = 0) (e11 : cur S' ≤ cur S) : x ≤ 1 → muN P S' < muN P S := fun _ => by
  have := lvI_ge hP ((S.1 (cur S)).1 4)
  unfold muN
  rw [if_pos e12, if_neg h12, if_pos h3, e13]
  omega
theorem mo_through (hPR : PR M0 P σ root price e) (hM : ModelAt K 2230) (hDB : DB D) (h : RS P σ root price D S U (sC S 13) (sT S 2)) (h12 : sC S 12 ≠ 0) (h3 : (S.1 (cur S)).1 3 = -1) (h8 : U.2.1 (cur S) 8 = -1) (h9 : U.2.1 (cur S) 9 = 0) : Mo K M0 P σ root price e s S U (xThrough P S) := by
  obtain ⟨d13, d4, d5, d6, d7, d8, d9, d16, d15, dl⟩ := h.bd
  have hn := h.sb.n
  have hcu := cur_n hn.1
  have run : ∀ (d : Nat) (M : ZMem) (Q : Int → ZMem → Prop), e + 8 ≤ d → RM K M0 M s (cur S) (sC S 13) U → PM K (d - 1) Q 7 M → Ci d q10_goesOnce [zr 2230] M Q := fun d M Q hd a hq => by
    obtain ⟨d, rfl⟩ : ∃ c, d = c + 3 := ⟨d - 3, by omega⟩
    exact r_once (by omega) a hM (h.stands h12) (r_move_end a hM h8 (r_leaves0 a hM h9 ⟨a.1, hq⟩))
  by_cases c1 : 0 < sC S 11
  · have e1 : xThrough P S = (0, uC (uN (uC S 12 0) (S.2.2.1.take (sB S (cur S)).toNat)) 11 (sC S 11 - 1)) := by unfold xThrough; exact if_pos c1
    rw [e1]
    have r := RS_thr h (by omega)
    have ec : cur (uC (uN (uC S 12 0) (S.2.2.1.take (sB S (cur S)).toNat)) 11 (sC S 11 - 1)) = cur S - 1 := by
      show (sC S 11 - 1).toNat = _
      omega
    refine Mo.one (D' := D) (mu_off hPR.1 hn.2 h12 h3 rfl rfl (by omega)) (Rx.go hDB (by decide) r) fun d M Q hd a hq => run d M Q hd a ?_
    rw [ec] at hq
    exact pm_7n (by omega) a hM dl (by omega) hq
  · have hc0 : cur S = 0 := by omega
    have u1 : U.1 1 = sC S 8 := h.2.1.2.1
    have u9 : U.1 9 = sC S 9 := h.2.1.2.2.2.2.2.2.2.1
    have u15 : U.1 15 = (sQ S).2 := h.2.1.2.2.2.2.2.2.2.2.2.2.2.2.1
    have h32 : U.2.1 (cur S) 32 = (S.1 (cur S)).1 5 := by
      have h1 := h.wr.2.2.2.2.1
      have h0 := h.2.2.2.2.1
      rw [show ((cur S : Nat) : Int) = 0 by omega, h0] at h1
      omega
    have hex : U.1 3 ≠ -1 → exN M0 e (U.1 3) := fun c => by
      rw [h.2.2.1.2] at c ⊢
      exact hPR.price_ex c
    by_cases c2 : sC S 8 = 5 ∧ (S.1 (cur S)).1 5 ≠ sC S 9
    · have e1 : xThrough P S = (0, uC S 12 0) := by unfold xThrough; rw [if_neg c1]; exact if_pos c2
      rw [e1]
      have c2' : U.1 1 = 5 ∧ U.2.1 (cur S) 32 ≠ U.1 9 := by rw [u1, h32, u9]; exact c2
      refine Mo.one (D' := D) (U' := oS U 12 0) (mu_off hPR.1 hn.2 h12 h3 rfl rfl (Nat.le_refl _)) (Rx.go hDB (by decide) (RS_stand h (Or.inl rfl))) fun d M Q hd a hq => run d M Q hd a ?_
      exact pm_7a (n := e) (by omega) a hM (by omega) hex d15 (fun _ => hq) (fun c => absurd c2' c) (fun c => absurd c2' c)
    · have c2' : ¬ (U.1 1 = 5 ∧ U.2.1 (cur S) 32 ≠ U.1 9) := by rw [u1, h32, u9]; exact c2
      by_cases c3 : (sQ S).2 < 60
      · have e1 : xThrough P S = (1, uA (uC S 12 0) (aAdd (sQ S) (aRow (S.1 (cur S)) (gPrice P (S.1 (cur S)).2.1) (sT S 2)))) := by unfold xThrough; rw [if_neg c1]; exact (if_neg c2).trans (if_pos c3)
        rw [e1]
        have r := RS_answer hPR h (by omega) c3
        refine Mo.one (D' := D) (mu_off hPR.1 hn.2 h12 h3 rfl rfl (Nat.le_refl _)) (Rx.go hDB (by decide) r) fun d M Q hd a hq => run d M Q hd a ?_
        exact pm_7a (n := e) (by omega) a hM (by omega) hex d15 (fun c => absurd c c2') (fun _ c => by omega) (fun _ _ => hq)
      · have e1 : xThrough P S = (5, uC (uC S 12 0) 7 2) := by unfold xThrough; rw [if_neg c1]; exact (if_neg c2).trans (if_neg c3)
        rw [e1]
        refine Mo.one (D' := D) (U' := oS U 12 0) (fun q => absurd q (by decide)) (Rx.fin hDB (by decide) (RS_over (RS_stand h (Or.inl rfl)))) fun d M Q hd a hq => run d M Q hd a ?_
        exact pm_7a (n := e) (by omega) a hM (by omega) hex d15 (fun c => absurd c c2') (fun _ _ => hq) (fun _ c => by omega)
theorem mo_leave (hPR : PR M0 P σ root price e) (hM : ModelAt K 2230) (hDB : DB D) (h : RS P σ root price D S U (sC S 13) (sT S 2)) (h12 : sC S 12 ≠ 0) (h3 : (S.1 (cur S)).1 3 = -1) (h8 : U.2.1 (cur S) 8 = -1) {m : Nat} (hm : m + 1 ≤ 6) (h9 : U.2.1 (cur S) 9 = (m + 1 : Nat)) (hF : FRM P σ (S.1 (cur S)) (U.2.1 (cur S)) (stS S (cur S)) (D (cur S)) (m + 1) ((S.1 (cur S)).1 4)) : Mo K M0 P σ root price e s S U (xEndPart P S) := by
  obtain ⟨d13, d4, d5, d6, d7, d8, d9, d16, d15, dl⟩ := h.bd
  have hn := h.sb.n
  have hcu := cur_n hn.1
  obtain ⟨f1, f2, f3, f4, f5, f6, f7⟩ := hF
  have hfa : fAt (U.2.1 (cur S)) = 10 + 3 * m := by unfold fAt; omega
  generalize hi : (S.1 (cur S)).1 4 = i at *
  have hσ := (hPR.2.2.1 i f1).1
  have hlv := hPR.1.level i
  have hlI := lvI_has f1
  have hlA := hPR.lvl f1
  have h9' : U.2.1 (cur S) 9 ≠ 0 := by omega
  have hrd : gKind P i = 9 → wRoundsAt (S.1 (cur S)) (gLevel P i + 1) = U.2.1 (cur S) (10 + 3 * m + 2) := fun k => by
    have := hPR.k9 f1 k
    unfold wRoundsAt
    rw [if_pos ⟨by omega, by omega⟩]
    exact (f5 k).symm
  have hop16 : mI M0 2232 (σ i).toNat = 16 ↔ gKind P i = 9 := by
    rcases f2 with k | k | k
    · have := (hPR.k5 f1 k).1; omega
    · have := (hPR.k67 f1 (Or.inl k)).1; omega
    · have := (hPR.k9 f1 k).1; omega
  have hop13 : mI M0 2232 (σ i).toNat = 13 ↔ gKind P i = 6 := by
    rcases f2 with k | k | k
    · have := (hPR.k5 f1 k).1; omega
    · have := (hPR.k67 f1 (Or.inl k)).1; omega
    · have := (hPR.k9 f1 k).1; omega
  have run : ∀ (d : Nat) (M : ZMem) (Q : Int → ZMem → Prop), e + 8 ≤ d → RM K M0 M s (cur S) (sC S 13) U →
      (gKind P i = 9 → 0 < U.2.1 (cur S) (10 + 3 * m + 2) → sC S 13 = 0 → Q 2 M) →
      (gKind P i = 9 → 0 < U.2.1 (cur S) (10 + 3 * m + 2) → sC S 13 ≠ 0 → ∀ M', RM K M0 M' s (cur S) (sC S 13 - 1) (oRound M0 (oBump U) (cur S) (fAt (U.2.1 (cur S))) (σ i)) → Q 0 M') →
      (¬ (gKind P i = 9 ∧ 0 < U.2.1 (cur S) (10 + 3 * m + 2)) → ∀ M', RM K M0 M' s (cur S) (sC S 13) (oLeave M0 (if gKind P i = 6 then cutsF (cur S) (U.2.1 (cur S) 31) 62 U else U) (cur S) (fAt (U.2.1 (cur S))) (σ i)) → Q 0 M') → Ci d q10_goesOnce [zr 2230] M Q := fun d M Q hd a q1 q2 q3 => by
    obtain ⟨d, rfl⟩ : ∃ c, d = c + 2 := ⟨d - 2, by omega⟩
    refine r_once (by omega) a hM (h.stands h12) (r_move_end a hM h8 (r_leaves (by omega) a hM dl d13 d4 d7 (by omega) (fun _ => by rw [hfa, f3]; exact hσ) (by rw [hfa]; exact f6) (fun c => absurd c h9') (fun _ c1 c2 c3 => ?_) (fun _ c1 c2 c3 M' a' => ?_) (fun _ c1 M' a' => ?_)))
    · rw [hfa, f3] at c1
      rw [hfa] at c2
      exact ⟨a.1, pm_x a (by decide) (by decide) (q1 (hop16.mp c1) c2 c3)⟩
    · rw [hfa, f3] at c1
      rw [hfa] at c2
      refine ⟨a'.1, pm_x a' (by decide) (by decide) (q2 (hop16.mp c1) c2 c3 M' ?_)⟩
      rw [hfa, f3] at a'
      rw [hfa]
      exact a'
    · rw [hfa, f3, hop16] at c1
      refine ⟨a'.1, pm_x a' (by decide) (by decide) (q3 c1 M' ?_)⟩
      rw [hfa, f3] at a'
      rw [hfa]
      by_cases k : gKind P i = 6
      · rw [if_pos k]
        rw [if_pos (hop13.mpr k)] at a'
        exact a'
      · rw [if_neg k]
        rw [if_neg (fun c => k (hop13.mp c))] at a'
        exact a'
  have e0 : ¬ (i = -1 ∨ gKind P i = 7) := by
    have := f1.1
    omega
  by_cases c1 : gKind P i = 9 ∧ 0 < wRoundsAt (S.1 (cur S)) (gLevel P i + 1)
  · have c1' : 0 < U.2.1 (cur S) (10 + 3 * m + 2) := by rw [← hrd c1.1]; exact c1.2
    by_cases c2 : 0 < sC S 13
    · have e1 : xEndPart P S = (0, uW (xSpend S) (cur S) (wEnter (wSetRounds (S.1 (cur S)) (gLevel P i + 1) (wRoundsAt (S.1 (cur S)) (gLevel P i + 1) - 1)) i (gPartFirst P i 0) (gLevel P i + 1))) := by
        unfold xEndPart
        rw [hi, if_neg e0, if_pos c1, if_pos c2]
      rw [e1]
      obtain ⟨g1, g2, g3, g4, g5, g6, g7⟩ := hPR.k9 f1 c1.1
      have r := RS_round hPR (h.paid c2) (s := i) (y := σ i) hi f1 c1.1 g4 ⟨g5, g6⟩ g7 h9' c1.2
      refine Mo.one (D' := D) (U' := oRound M0 (oBump U) (cur S) (fAt (U.2.1 (cur S))) (σ i)) (fun _ => mu_step hPR.1 hn.2 rfl c2) (Rx.go hDB (by decide) (RS_mono r (show sT S 2 ≤ sT S 2 + 1 by omega) (Int.le_refl _))) fun d M Q hd a hq => run d M Q hd a (fun _ _ c => by omega) (fun _ _ _ => hq) (fun c => absurd ⟨c1.1, c1'⟩ c)
    · have e1 : xEndPart P S = (2, S) := by
        unfold xEndPart
        rw [hi, if_neg e0, if_pos c1, if_neg c2]
      rw [e1]
      refine Mo.one (D' := D) (U' := U) (fun q => absurd q (by decide)) (Rx.go hDB (by decide) h) fun d M Q hd a hq => run d M Q hd a (fun _ _ _ => hq M a) (fun _ _ c => by omega) (fun c => absurd ⟨c1.1, c1'⟩ c)
  · have c1' : ¬ (gKind P i = 9 ∧ 0 < U.2.1 (cur S) (10 + 3 * m + 2)) := fun q => c1 ⟨q.1, by rw [hrd q.1]; exact q.2⟩
    have hmu : ∀ S', sC S' 13 = sC S 13 → sC S' 12 = sC S 12 → cur S' = cur S → (S'.1 (cur S')).1 4 = gAround P i → muN P S' < muN P S := fun S' e13 e12 ec e4 => by
      have := lvI_ge hPR.1 (gAround P i)
      unfold muN
      rw [e13, e12, if_neg h12, if_neg h12, if_pos h3, ec]
      rw [ec] at e4
      rw [e4, hi]
      split <;> omega
    by_cases c2 : gKind P i = 6
    · have e1 : xEndPart P S = (0, xLeave P (xDrop S (wMarkAt (S.1 (cur S)) (gLevel P i + 1))) i) := by
        unfold xEndPart
        rw [hi, if_neg e0, if_neg c1, if_pos c2]
      rw [e1]
      have g3 := (hPR.k67 f1 (Or.inl c2)).2.2.1
      have h31 : U.2.1 (cur S) 31 = wMarkAt (S.1 (cur S)) (gLevel P i + 1) - D (sC S 11) := by
        have h1 := h.wr.2.2.2.1
        unfold wMarkAt
        rw [if_pos ⟨by omega, by omega⟩, h1, hi, hlI, hcu]
      have r0 := RS_drop h (since := wMarkAt (S.1 (cur S)) (gLevel P i + 1))
      rw [← h31] at r0
      have ec : cur (xDrop S (wMarkAt (S.1 (cur S)) (gLevel P i + 1))) = cur S := cur_xDrop
      have eg9 : (cutsF (cur S) (U.2.1 (cur S) 31) 62 U).2.1 (cur S) 9 = U.2.1 (cur S) 9 := cutsF_w (by decide) _ _
      have r := RS_leave hPR r0 (s := i) (by rw [ec, xDrop_way.1]; exact hi) f1 (by rw [ec, eg9]; exact h9')
      rw [ec] at r
      have efa : fAt ((cutsF (cur S) (U.2.1 (cur S) 31) 62 U).2.1 (cur S)) = fAt (U.2.1 (cur S)) := by unfold fAt; rw [eg9]
      rw [efa] at r
      have x13 : sC (xLeave P (xDrop S (wMarkAt (S.1 (cur S)) (gLevel P i + 1))) i) 13 = sC S 13 := xDrop_c
      have x12 : sC (xLeave P (xDrop S (wMarkAt (S.1 (cur S)) (gLevel P i + 1))) i) 12 = sC S 12 := xDrop_c
      have t2 : sT (xLeave P (xDrop S (wMarkAt (S.1 (cur S)) (gLevel P i + 1))) i) 2 = sT S 2 := xDrop_t2
      have ec2 : cur (xLeave P (xDrop S (wMarkAt (S.1 (cur S)) (gLevel P i + 1))) i) = cur S := ec
      have e4 : ((xLeave P (xDrop S (wMarkAt (S.1 (cur S)) (gLevel P i + 1))) i).1 (cur (xLeave P (xDrop S (wMarkAt (S.1 (cur S)) (gLevel P i + 1))) i))).1 4 = gAround P i := by
        rw [ec2]
        unfold xLeave
        rw [ec, uW_at]
        rfl
      generalize xLeave P (xDrop S (wMarkAt (S.1 (cur S)) (gLevel P i + 1))) i = S' at *
      refine Mo.one (D' := D) (fun _ => hmu S' x13 x12 ec2 e4) (Rx.go hDB (by decide) (by rw [x13, t2]; exact r)) fun d M Q hd a hq => run d M Q hd a (fun c c' => absurd ⟨c, c'⟩ c1') (fun c c' => absurd ⟨c, c'⟩ c1') fun _ M' a' => ?_
      rw [if_pos c2] at a'
      rw [x13, ec2] at hq
      exact hq M' a'
    · have e1 : xEndPart P S = (0, xLeave P S i) := by
        unfold xEndPart
        rw [hi, if_neg e0, if_neg c1, if_neg c2]
      rw [e1]
      have r := RS_leave hPR h (s := i) hi f1 h9'
      refine Mo.one (D' := D) (fun _ => hmu (xLeave P S i) rfl rfl rfl (by show (fup S.1 (cur S) _ (cur S)).1 4 = _; rw [fup_self]; rfl)) (Rx.go hDB (by decide) r) fun d M Q hd a hq => run d M Q hd a (fun c c' => absurd ⟨c, c'⟩ c1') (fun c c' => absurd ⟨c, c'⟩ c1') fun _ M' a' => ?_
      rw [if_neg c2] at a'
      exact hq M' a'
theorem mo_end (hPR : PR M0 P σ root price e) (hM : ModelAt K 2230) (hDB : DB D) (h : RS P σ root price D S U (sC S 13) (sT S 2)) (h12 : sC S 12 ≠ 0) (h3 : (S.1 (cur S)).1 3 = -1) : Mo K M0 P σ root price e s S U (xEndPart P S) := by
  have hn := h.sb.n
  have hcu := cur_n hn.1
  have hwr := h.wr
  have h8 : U.2.1 (cur S) 8 = -1 := by
    rcases hwr.2.1 with q | q
    · exact q.2
    · rw [h3] at q; exact absurd q.1 gHas_n1
  obtain ⟨m, hm, h9, hF⟩ := hwr.2.2.1
  cases m with
  | zero =>
    have e4 : (S.1 (cur S)).1 4 = stS S (cur S) := hF
    have e0 : (S.1 (cur S)).1 4 = -1 ∨ gKind P ((S.1 (cur S)).1 4) = 7 := by
      by_cases c : cur S = 0
      · left
        rw [e4]; unfold stS; rw [if_pos (by omega)]
      · right
        rw [e4]
        exact (h.2.2.2.2.2.2.2 (cur S) (by omega) (Nat.le_refl _)).2
    have e1 : xEndPart P S = xThrough P S := by unfold xEndPart; exact if_pos e0
    rw [e1]
    exact mo_through hPR hM hDB h h12 h3 h8 h9
  | succ m => exact mo_leave hPR hM hDB h h12 h3 h8 hm h9 hF
end MOVE3
