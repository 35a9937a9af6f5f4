/-! the reference: the next point, once, and on -/
def PM (K : ZMem) (d : Nat) (Q : Int → ZMem → Prop) : Int → ZMem → Prop := fun x5 M4 => KW K M4 ∧ ((x5 ≠ 6 → ((x5 = 7 → (Ci d q10_level [zr 2230] M4 (fun x9 M8 => KW K M8 ∧ ((x9 ≤ 0 → (Ci d q10_answers [zr 2230] M8 (fun x13 M12 => KW K M12 ∧ Q x13 M12))) ∧ (¬ (x9 ≤ 0) → (Cv d q10_leavesNever [zr 2230] M8 (fun M16 => KW K M16 ∧ Q 0 M16))))))) ∧ (¬ (x5 = 7) → (Q x5 M4)))) ∧ (¬ (x5 ≠ 6) → ((inR ((mI M4 2230 16) + 12)) ∧ (0 ≤ ((mI M4 2230 16) + 12)) ∧ (((mI M4 2230 16) + 12) < 19245) ∧ Q 0 (sI M4 2239 (((mI M4 2230 16) + 12).toNat) 0))))
section RONCE
variable {d : Nat} {K M0 M M' : ZMem} {s lv : Nat} {b : Int} {U : Tr}
theorem r_once {Q : Int → ZMem → Prop} (hd : 1 ≤ d) (h : RM K M0 M s lv b U) (hM : ModelAt K 2230) (h12 : U.1 12 ≠ 0) (k : Ci (d - 1) q10_move [zr 2230] M (PM K (d - 1) Q)) : Ci d q10_goesOnce [zr 2230] M Q := by
  obtain ⟨d, rfl⟩ : ∃ e, d = e + 1 := ⟨d - 1, by omega⟩
  have hs := h.2.2.2.2.2.2.1
  have e12 := h.sc (i := (s : Int) + 12) (k := 12) rfl (by omega)
  refine B10_goesOnce h.1 hM ?_
  rw [h.2.1, e12]
  repeat (first | refine pe1 (by omega) ?_ | refine pe2 (by omega) ?_ | refine pe3 (by omega) ?_)
  exact ⟨fun _ => k, fun c => absurd h12 c⟩
theorem pm_x {x : Int} {Q : Int → ZMem → Prop} (h : RM K M0 M s lv b U) (h6 : x ≠ 6) (h7 : x ≠ 7) (q : Q x M) : PM K d Q x M := ⟨h.1, fun _ => ⟨fun c => absurd c h7, fun _ => q⟩, fun c => absurd h6 c⟩
theorem pm_6 {Q : Int → ZMem → Prop} (h : RM K M0 M s lv b U) (q : ∀ M', RM K M0 M' s lv b (oS U 12 0) → Q 0 M') : PM K d Q 6 M := by
  have hs := h.2.2.2.2.2.2.1
  refine ⟨h.1, fun c => absurd rfl c, fun _ => ?_⟩
  rw [h.2.1]
  repeat (first | refine pe1 (by omega) ?_ | refine pe2 (by omega) ?_ | refine pe3 (by omega) ?_)
  exact q _ (h.kS (k := 12) rfl (by omega) (by omega))
theorem pm_7n {Q : Int → ZMem → Prop} (hd : 3 ≤ d) (h : RM K M0 M s lv b U) (hM : ModelAt K 2230) (h13 : U.1 13 = lv) (hl1 : 1 ≤ lv) (q : ∀ M', RM K M0 M' s (lv - 1) b (oS (oS (leaveF lv U.2.2.1.length U) 13 ((lv : Int) - 1)) 12 0) → Q 0 M') : PM K d Q 7 M := by
  refine ⟨h.1, fun _ => ⟨fun _ => (r_level h hM).pure ⟨h.1, fun c => absurd c (by omega), fun _ => r_leavesNever hd h hM h13 rfl hl1 fun M1 a1 => ⟨a1.1, q M1 a1⟩⟩, fun c => absurd rfl c⟩, fun c => absurd (by decide) c⟩
theorem pm_7a {n : Nat} {Q : Int → ZMem → Prop} (hd : n + 2 ≤ d) (h : RM K M0 M s lv b U) (hM : ModelAt K 2230) (h13 : U.1 13 = 0) (he : U.1 3 ≠ -1 → exN M0 n (U.1 3)) (h15 : 0 ≤ U.1 15 ∧ U.1 15 ≤ 60)
    (q1 : (U.1 1 = 5 ∧ U.2.1 lv 32 ≠ U.1 9) → ∀ M', RM K M0 M' s lv b (oS U 12 0) → Q 0 M') (q2 : ¬ (U.1 1 = 5 ∧ U.2.1 lv 32 ≠ U.1 9) → U.1 15 = 60 → ∀ M', RM K M0 M' s lv b (oS U 12 0) → Q 5 M')
    (q3 : ¬ (U.1 1 = 5 ∧ U.2.1 lv 32 ≠ U.1 9) → U.1 15 ≠ 60 → ∀ M', RM K M0 M' s lv b (oS (oA (oS U 12 0) (aFill (U.2.2.2, U.1 15) (oRow (U.2.1 lv) (oCost M0 (U.2.1 lv) n (U.1 3)) (U.1 4)) 12)) 15 (U.1 15 + 1)) → Q 1 M') : PM K d Q 7 M := by
  refine ⟨h.1, fun _ => ⟨fun _ => (r_level h hM).pure ⟨h.1, fun _ => r_answers hd h hM he h15 (fun c M1 a1 => ⟨a1.1, q1 c M1 a1⟩) (fun c c2 M1 a1 => ⟨a1.1, q2 c c2 M1 a1⟩) fun c c2 M1 a1 => ⟨a1.1, q3 c c2 M1 a1⟩, fun c => absurd (by omega) c⟩, fun c => absurd rfl c⟩, fun c => absurd (by decide) c⟩
theorem r_once_next {Q : Int → ZMem → Prop} (hd : 1 ≤ d) (h : RM K M0 M s lv b U) (hM : ModelAt K 2230) (h12 : U.1 12 = 0) (k : Ci (d - 1) q10_takesNext [zr 2230] M (fun x M' => KW K M' ∧ Q x M')) : Ci d q10_goesOnce [zr 2230] M Q := by
  obtain ⟨d, rfl⟩ : ∃ e, d = e + 1 := ⟨d - 1, by omega⟩
  have hs := h.2.2.2.2.2.2.1
  have e12 := h.sc (i := (s : Int) + 12) (k := 12) rfl (by omega)
  refine B10_goesOnce h.1 hM ?_
  rw [h.2.1, e12]
  repeat (first | refine pe1 (by omega) ?_ | refine pe2 (by omega) ?_ | refine pe3 (by omega) ?_)
  exact ⟨fun c => absurd h12 c, fun _ => k⟩
theorem chO_range (st lvl : Int) : ∀ (l : List Pf) (i best hr : Int), 0 ≤ i → (best = -1 ∨ 0 ≤ best ∧ best < i) → chO st lvl l i best hr = -1 ∨ (0 ≤ chO st lvl l i best hr ∧ chO st lvl l i best hr < i + l.length)
  | [], i, best, hr, hi, hb => by
    rw [chO]
    rcases hb with hb | hb
    · exact Or.inl hb
    · exact Or.inr ⟨hb.1, by show best < i + 0; omega⟩
  | p :: l, i, best, hr, hi, hb => by
    have e : ((p :: l).length : Int) = l.length + 1 := by simp
    rw [chO_cons]
    have fin : ∀ best hr, (best = -1 ∨ 0 ≤ best ∧ best < i + 1) → chO st lvl l (i + 1) best hr = -1 ∨ (0 ≤ chO st lvl l (i + 1) best hr ∧ chO st lvl l (i + 1) best hr < i + ((p :: l).length : Int)) := fun best hr hb => by
      rcases chO_range st lvl l (i + 1) best hr (by omega) hb with q | q
      · exact Or.inl q
      · exact Or.inr ⟨q.1, by omega⟩
    split
    · split
      · exact fin _ _ (Or.inr ⟨hi, by omega⟩)
      · exact fin _ _ (by omega)
    · exact fin _ _ (by omega)
theorem r_takesNext {Q : Int → ZMem → Prop} (hd : 5 ≤ d) (h : RM K M0 M s lv b U) (hM : ModelAt K 2230) (h13 : U.1 13 = lv) (hb : 0 ≤ b ∧ b ≤ 2000) (h4 : 0 ≤ U.1 4 ∧ U.1 4 ≤ 100000000) (h33 : ∀ p ∈ U.2.2.1, -10 ≤ p 33 ∧ p 33 ≤ 200000000) (h9 : 0 ≤ U.1 9 ∧ U.1 9 ≤ 100000000)
    (q1 : ∀ i, chO (U.1 1) (U.1 13) U.2.2.1 0 (-1) 0 = i → i ≠ -1 → (b = 0 → Q 2 M) ∧ (b ≠ 0 → ∀ M4, RM K M0 M4 s lv (b - 1) (oBump U) → Cv (d - 1) q10_takesPoint [zr 2230, zi i] M4 (fun M5 => ∃ U5, RM K M0 M5 s lv (b - 1) U5 ∧ ∀ M6, RM K M0 M6 s lv (b - 1) (oS U5 12 1) → Q 0 M6)))
    (q2 : chO (U.1 1) (U.1 13) U.2.2.1 0 (-1) 0 = -1 → 1 ≤ lv → (0 ≤ U.2.1 (lv - 1) 8 ∧ U.2.1 (lv - 1) 8 < 70200) ∧ ∀ M', RM K M0 M' s (lv - 1) b (oS (oW (oS U 13 ((lv : Int) - 1)) (lv - 1) (fup (U.2.1 (lv - 1)) 8 (mI M0 2236 (U.2.1 (lv - 1) 8).toNat))) 12 1) → Q 0 M')
    (q3 : chO (U.1 1) (U.1 13) U.2.2.1 0 (-1) 0 = -1 → lv = 0 → (¬ (U.1 1 = 5 ∧ U.1 10 = 1) → Q 3 M) ∧ ((U.1 1 = 5 ∧ U.1 10 = 1) → ∀ M', RM K M0 M' s lv b (oAnew (oS (oS U 10 0) 9 (U.1 9 + 1)) lv) → Q 0 M')) : Ci d q10_takesNext [zr 2230] M Q := by
  obtain ⟨d, rfl⟩ : ∃ e, d = e + 1 := ⟨d - 1, by omega⟩
  have hs := h.2.2.2.2.2.2.1
  have hl := h.2.2.2.2.2.2.2.1
  refine B10_takesNext h.1 hM (r_chosen (by omega) h hM h33 (by omega) ⟨h.1, fun c => ?_, fun c => ?_⟩)
  · refine (r_level h hM).pure ⟨h.1, fun c2 => ?_, fun c2 => ?_⟩
    · obtain ⟨g1, g2⟩ := q3 c (by omega)
      have e1 : mI M 2239 ((s : Int) + 1).toNat = U.1 1 := h.sc (k := 1) rfl (by omega)
      have e10 : mI M 2239 ((s : Int) + 10).toNat = U.1 10 := h.sc (k := 10) rfl (by omega)
      have a1 := h.kS (i := (s : Int) + 10) (x := 0) (k := 10) rfl (by omega) (by omega)
      have e9 : mI (sI M 2239 ((s : Int) + 10).toNat 0) 2239 ((s : Int) + 9).toNat = U.1 9 := (a1.sc (k := 9) rfl (by omega)).trans (show fup U.1 10 0 9 = U.1 9 from fup_ne (by decide))
      simp only [r_sc]
      rw [h.2.1, e1, e10, e9]
      repeat (first | refine pe1 (by omega) ?_ | refine pe2 (by omega) ?_ | refine pe3 (by omega) ?_)
      refine ⟨fun c3 => g1 fun q => c3 q.1, fun c3 => ?_⟩
      repeat (first | refine pe1 (by omega) ?_ | refine pe2 (by omega) ?_ | refine pe3 (by omega) ?_)
      refine ⟨fun c4 => g1 fun q => c4 q.2, fun c4 => ?_⟩
      repeat (first | refine pe1 (by omega) ?_ | refine pe2 (by omega) ?_ | refine pe3 (by omega) ?_)
      have a2 := a1.kS (i := (s : Int) + 9) (x := U.1 9 + 1) (k := 9) rfl (by omega) (by omega)
      exact r_startsAnew (by omega) a2 hM fun M3 a3 => ⟨a3.1, g2 ⟨Decidable.not_not.mp c3, Decidable.not_not.mp c4⟩ M3 a3⟩
    · obtain ⟨hr, g⟩ := q2 c (by omega)
      refine (r_level h hM).pure ⟨h.1, ?_⟩
      rw [h13]
      repeat (first | refine pe1 (by omega) ?_ | refine pe2 (by omega) ?_ | refine pe3 (by omega) ?_)
      refine r_atLevel (v := lv - 1) h hM (by omega) (by omega) fun M2 a2 => ⟨a2.1, ?_⟩
      have e8 : mI M2 2239 ((s : Int) + 17 + 35 * ((lv - 1 : Nat) : Int) + 8).toNat = U.2.1 (lv - 1) 8 := a2.w (v := lv - 1) (k := 8) rfl (by omega) (by omega)
      simp only [r_sc]
      rw [a2.2.2.1, e8]
      have en : mI M2 2236 (U.2.1 (lv - 1) 8).toNat = mI M0 2236 (U.2.1 (lv - 1) 8).toNat := a2.nd 2236 (by omega) (by omega) _
      rw [en, a2.2.1]
      repeat (first | refine pe1 (by omega) ?_ | refine pe2 (by omega) ?_ | refine pe3 (by omega) ?_)
      exact g _ ((a2.kW (i := (s : Int) + 17 + 35 * ((lv - 1 : Nat) : Int) + 8) (v := lv - 1) (k := 8) rfl (by omega) (by omega)).kS (k := 12) rfl (by omega) (by omega))
  · obtain ⟨g0, g1⟩ := q1 _ rfl c
    refine r_mayStep h hM hb h4 (fun cb M4 a4 => ⟨a4.1, fun _ => ?_, fun c => absurd (by decide) c⟩) (fun cb => ⟨h.1, fun c => absurd rfl c, fun _ => g0 cb⟩)
    refine (g1 cb M4 a4).mono fun M5 ⟨U5, a5, q5⟩ => ⟨a5.1, ?_⟩
    rw [a5.2.1]
    repeat (first | refine pe1 (by omega) ?_ | refine pe2 (by omega) ?_ | refine pe3 (by omega) ?_)
    exact q5 _ (a5.kS (k := 12) rfl (by omega) (by omega))
/-- goes: what it is told by once, over and over -/
theorem r_goes_step {Q : Int → ZMem → Prop} (h : KW K M) (hM : ModelAt K 2230) (k : Ci d q10_goesOnce [zr 2230] M (fun x M' => KW K M' ∧ Xi (d + 1) q10_goes 2 [some (zr 2230), some (zi x)] [] M' Q)) : Xi (d + 1) q10_goes 2 [some (zr 2230), some (zi 0)] [] M Q :=
  B10_goes_2 0 h hM ⟨fun c => absurd rfl c, fun _ => k⟩
theorem r_goes_end {x : Int} {Q : Int → ZMem → Prop} (h : RM K M0 M s lv b U) (hM : ModelAt K 2230) (hx : x ≠ 0) (q1 : x ≤ 2 → Q x M) (q2 : 2 < x → ∀ M', RM K M0 M' s lv b (oS (oS U 0 2) 12 0) → Q x M') : Xi (d + 1) q10_goes 2 [some (zr 2230), some (zi x)] [] M Q := by
  have hs := h.2.2.2.2.2.2.1
  refine B10_goes_2 x h.1 hM ⟨fun _ => ⟨fun c => q1 c, fun c => ?_⟩, fun c => absurd hx c⟩
  simp only [r_sc]
  rw [h.2.1]
  repeat (first | refine pe1 (by omega) ?_ | refine pe2 (by omega) ?_ | refine pe3 (by omega) ?_)
  have a := (h.kS (i := (s : Int) + 0) (x := 2) (k := 0) rfl (by omega) (by omega)).kS (i := (s : Int) + 12) (x := 0) (k := 12) rfl (by omega) (by omega)
  exact q2 (by omega) _ a
end RONCE
