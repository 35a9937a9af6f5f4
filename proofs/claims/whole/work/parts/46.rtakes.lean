/-! the reference: makes a point or not; an answer; a part is left; a point is taken -/
def oHit (U : Tr) (lv : Nat) : Prop := U.1 13 = 0 ∧ U.1 1 = 5 ∧ U.1 9 ≤ U.2.1 lv 32
def oFull (U : Tr) : Prop := (if U.1 13 ≠ 0 then (U.2.2.1.length : Int) - cntO U.2.2.1 else cntO U.2.2.1) = 30
def oMade (U : Tr) (p : Pf) : Tr := if U.1 13 ≠ 0 then oPush U p else oS (oS (oPush U p) 5 (U.1 5 + 1)) 11 (if U.1 11 < cntO (U.2.2.1 ++ [p]) then cntO (U.2.2.1 ++ [p]) else U.1 11)
def oRow (w : Pf) (cost steps : Int) : Pf := fun v => if v < 8 then w v else if v = 8 then w 32 else if v = 9 then w 33 else if v = 10 then cost else steps
section RTAKES
variable {d : Nat} {K M0 M M' : ZMem} {s lv : Nat} {b : Int} {U : Tr}
theorem r_makes {n : Nat} {x : Int} {Q : Int → ZMem → Prop} (hd : n + 3 ≤ d) (h : RM K M0 M s lv b U) (hM : ModelAt K 2230) (hc : chN M0 n x) (hlen : ¬ oFull U → U.2.2.1.length < 61) (he : U.1 3 ≠ -1 → exN M0 n (U.1 3)) (h16 : 0 ≤ U.1 16 ∧ U.1 16 ≤ 100000000) (h5 : 0 ≤ U.1 5 ∧ U.1 5 ≤ 100000000)
    (q : ∀ (y : Int) (L : Pf), chR M0 (U.2.1 lv) n x y L → (y ≤ 0 → ∀ M', RM K M0 M' s lv b U → Q 6 M') ∧ (0 < y → oHit U lv → ∀ M', RM K M0 M' s lv b (oS U 10 1) → Q 6 M') ∧ (0 < y → ¬ oHit U lv → oFull U → ∀ M', RM K M0 M' s lv b U → Q 4 M') ∧ (0 < y → ¬ oHit U lv → ¬ oFull U → ∀ M', RM K M0 M' s lv b (oMade U (oNew (U.2.1 lv) x y L (U.1 16) (U.1 13) (oCost M0 (U.2.1 lv) n (U.1 3)))) → Q 6 M')) : Ci d q10_makes [zr 2230, zi x] M Q := by
  obtain ⟨d, rfl⟩ : ∃ e, d = e + 1 := ⟨d - 1, by omega⟩
  have hs := h.2.2.2.2.2.2.1
  have hl := h.2.2.2.2.2.2.2.1
  refine B10_makes x h.1 hM (r_choices (by omega) h hM hc fun y M1 a r hr => ⟨a.1, ?_⟩)
  obtain ⟨q1, q2, q3, q4⟩ := q y (mI M1 2240) hr
  have e1 := a.sc (i := (s : Int) + 1) (k := 1) rfl (by omega)
  have e9 := a.sc (i := (s : Int) + 9) (k := 9) rfl (by omega)
  have e32 := a.w (i := (s : Int) + 17 + 35 * lv + 32) (v := lv) (k := 32) rfl hl (by omega)
  have et := a.sc (i := (s : Int) + 14) (k := 14) rfl (by omega)
  have hn := a.n61
  have hco := cntO_le U.2.2.1
  have go : 0 < y → ¬ oHit U lv → Xi (d + 1) q10_makes 78 [some (zr 2230), some (zi x), some (zi y), none] [] M1 Q := fun c c2 => by
    have g116 : ¬ oFull U → Xi (d + 1) q10_makes 116 [some (zr 2230), some (zi x), some (zi y), none] [] M1 Q := fun cf => r_makes116 (by omega) a hM (hlen cf) he h16 h5 fun p ep M2 a2 => q4 c c2 cf M2 (by rw [← ep]; exact a2)
    refine B10_makes_78 x y a.1 hM ((r_level a hM).pure ⟨a.1, fun cl => ?_, fun cl => ?_⟩)
    · rw [a.2.1, et, hn.2.2]
      repeat (first | refine pe1 (by omega) ?_ | refine pe2 (by omega) ?_ | refine pe3 (by omega) ?_)
      refine (r_openMany (by omega) a hM).pure ⟨a.1, ?_⟩
      repeat (first | refine pe1 (by omega) ?_ | refine pe2 (by omega) ?_ | refine pe3 (by omega) ?_)
      have ef : oFull U ↔ (U.2.2.1.length : Int) - cntO U.2.2.1 = 30 := by unfold oFull; rw [if_pos cl]
      exact ⟨fun c3 => g116 fun q => c3 (ef.mp q), fun c3 => q3 c c2 (ef.mpr (Decidable.not_not.mp c3)) M1 a⟩
    · refine (r_openMany (by omega) a hM).pure ⟨a.1, ?_⟩
      have ef : oFull U ↔ cntO U.2.2.1 = 30 := by unfold oFull; rw [if_neg cl]
      exact ⟨fun c3 => g116 fun q => c3 (ef.mp q), fun c3 => q3 c c2 (ef.mpr (Decidable.not_not.mp c3)) M1 a⟩
  refine ⟨fun c => (r_level a hM).pure ⟨a.1, fun cl => go c fun q => cl q.1, fun cl => ?_⟩, fun c => q1 (by omega) M1 a⟩
  rw [a.2.1, a.2.2.1, e1, e9, e32]
  repeat (first | refine pe1 (by omega) ?_ | refine pe2 (by omega) ?_ | refine pe3 (by omega) ?_)
  refine ⟨fun c1 => go c fun q => c1 q.2.1, fun c1 => ?_⟩
  repeat (first | refine pe1 (by omega) ?_ | refine pe2 (by omega) ?_ | refine pe3 (by omega) ?_)
  refine ⟨fun c2 => go c fun q => by have := q.2.2; omega, fun c2 => ?_⟩
  repeat (first | refine pe1 (by omega) ?_ | refine pe2 (by omega) ?_ | refine pe3 (by omega) ?_)
  exact q2 c ⟨Decidable.not_not.mp cl, Decidable.not_not.mp c1, by omega⟩ _ (a.kS rfl (by omega) (by omega))
theorem vT_ans {R R' : Pf} {s : Nat} (h61 : (R (s + 14)).toNat ≤ 61) (h : ∀ j, ¬ (s + 3129 ≤ j ∧ j < s + 3849) → R' j = R j) : vT R' s = oA (vT R s) (tq 0 720 fun k => R' (s + 3129 + k)) := by
  show (_, _, _, _) = (_, _, _, _)
  rw [tq_congr (f := fun j => R' (s + j)) fun j _ hj => h (s + j) (by omega), ways_congr fun v hv => vW_congr fun j hj => h _ (by omega), pts_congr (h _ (by omega)) fun i hi => vP_congr fun j hj => h _ (by omega)]
  rfl
theorem r_answers {n : Nat} {Q : Int → ZMem → Prop} (hd : n + 2 ≤ d) (h : RM K M0 M s lv b U) (hM : ModelAt K 2230) (he : U.1 3 ≠ -1 → exN M0 n (U.1 3)) (h15 : 0 ≤ U.1 15 ∧ U.1 15 ≤ 60)
    (q1 : (U.1 1 = 5 ∧ U.2.1 lv 32 ≠ U.1 9) → ∀ M', RM K M0 M' s lv b (oS U 12 0) → Q 0 M') (q2 : ¬ (U.1 1 = 5 ∧ U.2.1 lv 32 ≠ U.1 9) → U.1 15 = 60 → ∀ M', RM K M0 M' s lv b (oS U 12 0) → Q 5 M')
    (q3 : ¬ (U.1 1 = 5 ∧ U.2.1 lv 32 ≠ U.1 9) → U.1 15 ≠ 60 → ∀ M', RM K M0 M' s lv b (oS (oA (oS U 12 0) (aFill (U.2.2.2, U.1 15) (oRow (U.2.1 lv) (oCost M0 (U.2.1 lv) n (U.1 3)) (U.1 4)) 12)) 15 (U.1 15 + 1)) → Q 1 M') : Ci d q10_answers [zr 2230] M Q := by
  obtain ⟨d, rfl⟩ : ∃ e, d = e + 1 := ⟨d - 1, by omega⟩
  have hs := h.2.2.2.2.2.2.1
  have hl := h.2.2.2.2.2.2.2.1
  have a := h.kS (i := (s : Int) + 12) (x := 0) (k := 12) rfl (by omega) (by omega)
  have e1 := a.sc (i := (s : Int) + 1) (k := 1) rfl (by omega)
  have e9 := a.sc (i := (s : Int) + 9) (k := 9) rfl (by omega)
  have e15 := a.sc (i := (s : Int) + 15) (k := 15) rfl (by omega)
  have e32 := a.w (i := (s : Int) + 17 + 35 * lv + 32) (v := lv) (k := 32) rfl hl (by omega)
  have e1 : mI (sI M 2239 ((s : Int) + 12).toNat 0) 2239 ((s : Int) + 1).toNat = U.1 1 := e1
  have e9 : mI (sI M 2239 ((s : Int) + 12).toNat 0) 2239 ((s : Int) + 9).toNat = U.1 9 := e9
  have e15 : mI (sI M 2239 ((s : Int) + 12).toNat 0) 2239 ((s : Int) + 15).toNat = U.1 15 := e15
  have e32 : mI (sI M 2239 ((s : Int) + 12).toNat 0) 2239 ((s : Int) + 17 + 35 * lv + 32).toNat = U.2.1 lv 32 := e32
  have go : ¬ (U.1 1 = 5 ∧ U.2.1 lv 32 ≠ U.1 9) → (U.1 15 ≠ 60 → Xi (d + 1) q10_answers 76 [some (zr 2230), none] [] (sI M 2239 ((s : Int) + 12).toNat 0) Q) := fun c c2 => by
    have q3 := q3 c c2
    generalize sI M 2239 ((s : Int) + 12).toNat 0 = M1 at *
    have hn := a.n61
    -- the row's cells one behind the other
    let r := oRow (U.2.1 lv) (oCost M0 (U.2.1 lv) n (U.1 3)) (U.1 4)
    have hr : r = oRow (U.2.1 lv) (oCost M0 (U.2.1 lv) n (U.1 3)) (U.1 4) := rfl
    have st : ∀ (M2 : ZMem) (m : Nat) (x : Int), m < 12 → RM K M0 M2 s lv b (oA (oS U 12 0) (aFill (U.2.2.2, U.1 15) r m)) → x = r m → RM K M0 (sI M2 2239 ((s : Int) + 3129 + 12 * U.1 15 + m).toNat x) s lv b (oA (oS U 12 0) (aFill (U.2.2.2, U.1 15) r (m + 1))) := fun M2 m x hm a2 hx => by
      have := a2.kA (i := (s : Int) + 3129 + 12 * U.1 15 + m) (x := x) (k := (U.1 15).toNat * 12 + m) (by omega) (by omega)
      rw [aFill_succ, ← hx]
      exact this
    refine B10_answers_76 a.1 hM ?_
    rw [a.2.1, e15]
    repeat (first | refine pe1 (by omega) ?_ | refine pe2 (by omega) ?_ | refine pe3 (by omega) ?_)
    refine B10_answers_101 _ a.1 hM ?_
    rw [a.2.2.1]
    repeat (first | refine pe1 (by omega) ?_ | refine pe2 (by omega) ?_ | refine pe3 (by omega) ?_)
    have a8 : RM K M0 (sA M1 2239 (zCpy (mI M1 2239) (mI M1 2239) ((s : Int) + 17 + 35 * lv).toNat ((s : Int) + 3129 + 12 * U.1 15).toNat 8)) s lv b (oA (oS U 12 0) (aFill (U.2.2.2, U.1 15) r 8)) := by
      have er : ∀ j, mI (sA M1 2239 (zCpy (mI M1 2239) (mI M1 2239) ((s : Int) + 17 + 35 * lv).toNat ((s : Int) + 3129 + 12 * U.1 15).toNat 8)) 2239 j = if ((s : Int) + 3129 + 12 * U.1 15).toNat ≤ j ∧ j < ((s : Int) + 3129 + 12 * U.1 15).toNat + 8 then mI M1 2239 (((s : Int) + 17 + 35 * lv).toNat + (j - ((s : Int) + 3129 + 12 * U.1 15).toNat)) else mI M1 2239 j := fun j => by rw [mI_sA, if_pos rfl]; rfl
      have f := a.2.2.2.2.2.2.2.2
      refine ⟨a.1.sA _ _, by rw [r_ca]; exact a.2.1, by rw [r_ca]; exact a.2.2.1, by rw [r_ca]; exact a.2.2.2.1, ?_, a.2.2.2.2.2.1, hs, hl, f.1.sA (Or.inr (Or.inl rfl)), fun k hk => by rw [er, if_neg (by omega)]; exact f.2.1 k hk, fun k hk => by rw [r_ca]; exact f.2.2 k hk⟩
      rw [vT_ans hn.1 (fun j hj => by rw [er, if_neg (by omega)]), a.2.2.2.2.1]
      show (_, _, _, _) = (_, _, _, _)
      congr 3
      funext k
      show (if 0 ≤ k ∧ k < 720 then mI _ 2239 (s + 3129 + k) else 0) = if (U.1 15).toNat * 12 ≤ k ∧ k < (U.1 15).toNat * 12 + 8 then r (k - (U.1 15).toNat * 12) else U.2.2.2 k
      by_cases c : (U.1 15).toNat * 12 ≤ k ∧ k < (U.1 15).toNat * 12 + 8
      · rw [if_pos (by omega), if_pos c, er, if_pos (by omega)]
        have ew := a.w (i := ((((s : Int) + 17 + 35 * lv).toNat + (s + 3129 + k - ((s : Int) + 3129 + 12 * U.1 15).toNat) : Nat) : Int)) (v := lv) (k := k - (U.1 15).toNat * 12) (by omega) hl (by omega)
        rw [Int.toNat_natCast] at ew
        rw [ew, hr, oRow, if_pos (by omega)]
        rfl
      · rw [if_neg c]
        have ea : (tq 0 720 fun k => mI M1 2239 (s + 3129 + k)) = U.2.2.2 := congrArg (fun T : Tr => T.2.2.2) a.2.2.2.2.1
        rw [← ea]
        show (if 0 ≤ k ∧ k < 720 then _ else 0) = if 0 ≤ k ∧ k < 720 then _ else 0
        by_cases c2 : 0 ≤ k ∧ k < 720
        · rw [if_pos c2, if_pos c2, er, if_neg (by omega)]
        · rw [if_neg c2, if_neg c2]
    generalize sA M1 2239 (zCpy (mI M1 2239) (mI M1 2239) ((s : Int) + 17 + 35 * lv).toNat ((s : Int) + 3129 + 12 * U.1 15).toNat 8) = M8 at *
    have f32 : mI M8 2239 ((s : Int) + 17 + 35 * lv + 32).toNat = U.2.1 lv 32 := a8.w (v := lv) (k := 32) rfl hl (by omega)
    refine B10_answers_119 _ a8.1 hM ?_
    rw [a8.2.2.1, f32]
    repeat (first | refine pe1 (by omega) ?_ | refine pe2 (by omega) ?_ | refine pe3 (by omega) ?_)
    have a9 := st M8 8 (U.2.1 lv 32) (by omega) a8 rfl
    rw [show ((s : Int) + 3129 + 12 * U.1 15 + ((8 : Nat) : Int)) = (s : Int) + 3129 + 12 * U.1 15 + 8 from rfl] at a9
    generalize sI M8 2239 ((s : Int) + 3129 + 12 * U.1 15 + 8).toNat (U.2.1 lv 32) = M9 at *
    have f33 : mI M9 2239 ((s : Int) + 17 + 35 * lv + 33).toNat = U.2.1 lv 33 := a9.w (v := lv) (k := 33) rfl hl (by omega)
    refine B10_answers_140 _ a9.1 hM ?_
    rw [a9.2.2.1, f33]
    repeat (first | refine pe1 (by omega) ?_ | refine pe2 (by omega) ?_ | refine pe3 (by omega) ?_)
    have a10 := st M9 9 (U.2.1 lv 33) (by omega) a9 rfl
    rw [show ((s : Int) + 3129 + 12 * U.1 15 + ((9 : Nat) : Int)) = (s : Int) + 3129 + 12 * U.1 15 + 9 from rfl] at a10
    generalize sI M9 2239 ((s : Int) + 3129 + 12 * U.1 15 + 9).toNat (U.2.1 lv 33) = M10 at *
    refine B10_answers_161 _ a10.1 hM ?_
    rw [a10.2.2.1]
    repeat (first | refine pe1 (by omega) ?_ | refine pe2 (by omega) ?_ | refine pe3 (by omega) ?_)
    refine r_costOf (n := n) (vals := U.2.1 lv) (by omega) a10 hM he (fun k hk => ⟨by omega, by omega, a10.w (v := lv) (k := k) rfl hl (by omega)⟩) fun M11 a11 _ _ => ⟨a11.1, ?_⟩
    repeat (first | refine pe1 (by omega) ?_ | refine pe2 (by omega) ?_ | refine pe3 (by omega) ?_)
    have a12 := st M11 10 (oCost M0 (U.2.1 lv) n (U.1 3)) (by omega) a11 rfl
    rw [show ((s : Int) + 3129 + 12 * U.1 15 + ((10 : Nat) : Int)) = (s : Int) + 3129 + 12 * U.1 15 + 10 from rfl] at a12
    show Xi (d + 1) q10_answers 178 _ [] (sI M11 2239 _ (oCost M0 (U.2.1 lv) n (U.1 3))) Q
    generalize sI M11 2239 ((s : Int) + 3129 + 12 * U.1 15 + 10).toNat (oCost M0 (U.2.1 lv) n (U.1 3)) = M12 at *
    have f4 : mI M12 2239 ((s : Int) + 4).toNat = U.1 4 := a12.sc (k := 4) rfl (by omega)
    refine B10_answers_178 _ a12.1 hM ?_
    rw [a12.2.1, f4]
    repeat (first | refine pe1 (by omega) ?_ | refine pe2 (by omega) ?_ | refine pe3 (by omega) ?_)
    have a13 := st M12 11 (U.1 4) (by omega) a12 rfl
    rw [show ((s : Int) + 3129 + 12 * U.1 15 + ((11 : Nat) : Int)) = (s : Int) + 3129 + 12 * U.1 15 + 11 from rfl] at a13
    generalize sI M12 2239 ((s : Int) + 3129 + 12 * U.1 15 + 11).toNat (U.1 4) = M13 at *
    have f15 : mI M13 2239 ((s : Int) + 15).toNat = U.1 15 := a13.sc (k := 15) rfl (by omega)
    refine B10_answers_198 a13.1 hM ?_
    rw [a13.2.1, f15]
    repeat (first | refine pe1 (by omega) ?_ | refine pe2 (by omega) ?_ | refine pe3 (by omega) ?_)
    exact q3 _ (a13.kS (k := 15) rfl (by omega) (by omega))
  refine B10_answers h.1 hM ?_
  simp only [r_sc]
  rw [h.2.1, h.2.2.1, e1, e9, e15, e32]
  repeat (first | refine pe1 (by omega) ?_ | refine pe2 (by omega) ?_ | refine pe3 (by omega) ?_)
  have two : ¬ (U.1 1 = 5 ∧ U.2.1 lv 32 ≠ U.1 9) → (U.1 15 ≠ 60 → Xi (d + 1) q10_answers 76 [some (zr 2230), none] [] (sI M 2239 ((s : Int) + 12).toNat 0) Q) ∧ (¬ U.1 15 ≠ 60 → Q 5 (sI M 2239 ((s : Int) + 12).toNat 0)) := fun c => ⟨go c, fun c2 => q2 c (Decidable.not_not.mp c2) _ a⟩
  refine ⟨fun c => ?_, fun c => ?_⟩
  · repeat (first | refine pe1 (by omega) ?_ | refine pe2 (by omega) ?_ | refine pe3 (by omega) ?_)
    exact two fun q => c q.1
  · repeat (first | refine pe1 (by omega) ?_ | refine pe2 (by omega) ?_ | refine pe3 (by omega) ?_)
    refine ⟨fun c2 => ?_, fun c2 => ?_⟩
    · repeat (first | refine pe1 (by omega) ?_ | refine pe2 (by omega) ?_ | refine pe3 (by omega) ?_)
      exact two fun q => q.2 c2
    · exact q1 ⟨Decidable.not_not.mp c, c2⟩ _ a
end RTAKES
