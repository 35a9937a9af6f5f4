/-! one move on both sides: a not, a choice point, the end of a part -/
section MOVE2
variable {K M0 : ZMem} {P : Pg} {σ : Int → Int} {root price : Int} {e s : Nat} {D : Int → Int} {S S' : Sr} {U U' : Tr} {b t : Int}
theorem mo_not (hPR : PR M0 P σ root price e) (hM : ModelAt K 2230) (hDB : DB D) (h : RS P σ root price D S U (sC S 13) (sT S 2)) (h12 : sC S 12 ≠ 0) (hb : 0 < sC S 13) {i : Int} {j : Pt} (hs : gHas P i) (h3 : (S.1 (cur S)).1 3 = i) (hk : gKind P i = 7) : Mo K M0 P σ root price e s S U (xBegin P (xSpend S) i j) := by
  have hp := h.paid hb
  obtain ⟨d13, d4, d5, d6, d7, d8, d9, d16, d15, dl⟩ := h.bd
  obtain ⟨a8, ar⟩ := h.at hs h3
  have hσ := (hPR.2.2.1 i hs).1
  have hn := h.sb.n
  have hcu := cur_n hn.1
  obtain ⟨g1, g2, g3, g4, g5, g6⟩ := hPR.k67 hs (Or.inr hk)
  have g1' : mI M0 2232 (σ i).toNat = 14 := by
    rcases g1 with q | q
    · omega
    · exact q.2
  obtain ⟨h7, D', hD', r⟩ := RS_not hPR hp (s := i) h3 hs hk
  have hDB' : DB D' := fun l => by
    rw [hD']
    split
    · exact (h.sb.1 (cur S)).2.1
    · exact hDB l
  have h7 : sC S 11 + 1 < 7 := h7
  have e0 : xBegin P (xSpend S) i j = (0, uW (uB (uC (xSpend S) 11 (sC (xSpend S) 11 + 1)) (cur (xSpend S) + 1) (xSpend S).2.2.1.length) (cur (xSpend S) + 1) (wEnter (((xSpend S).1 (cur (xSpend S))).1, ((xSpend S).1 (cur (xSpend S))).2.1, ((xSpend S).1 (cur (xSpend S))).2.2.1, ((xSpend S).1 (cur (xSpend S))).2.2.2.1, fun _ => false) i (gPartFirst P i 0) (gLevel P i + 1))) := by
    unfold xBegin
    rw [if_neg (by omega), if_neg (by omega), if_neg (by omega), if_pos hk]
    unfold xBeginNot
    exact if_pos h7
  rw [e0]
  have c13 : sC (uW (uB (uC (xSpend S) 11 (sC (xSpend S) 11 + 1)) (cur (xSpend S) + 1) (xSpend S).2.2.1.length) (cur (xSpend S) + 1) (wEnter (((xSpend S).1 (cur (xSpend S))).1, ((xSpend S).1 (cur (xSpend S))).2.1, ((xSpend S).1 (cur (xSpend S))).2.2.1, ((xSpend S).1 (cur (xSpend S))).2.2.2.1, fun _ => false) i (gPartFirst P i 0) (gLevel P i + 1))) 13 = sC S 13 - 1 := rfl
  have c11 : sC (uW (uB (uC (xSpend S) 11 (sC (xSpend S) 11 + 1)) (cur (xSpend S) + 1) (xSpend S).2.2.1.length) (cur (xSpend S) + 1) (wEnter (((xSpend S).1 (cur (xSpend S))).1, ((xSpend S).1 (cur (xSpend S))).2.1, ((xSpend S).1 (cur (xSpend S))).2.2.1, ((xSpend S).1 (cur (xSpend S))).2.2.2.1, fun _ => false) i (gPartFirst P i 0) (gLevel P i + 1))) 11 = sC S 11 + 1 := rfl
  have t2 : sT (uW (uB (uC (xSpend S) 11 (sC (xSpend S) 11 + 1)) (cur (xSpend S) + 1) (xSpend S).2.2.1.length) (cur (xSpend S) + 1) (wEnter (((xSpend S).1 (cur (xSpend S))).1, ((xSpend S).1 (cur (xSpend S))).2.1, ((xSpend S).1 (cur (xSpend S))).2.2.1, ((xSpend S).1 (cur (xSpend S))).2.2.2.1, fun _ => false) i (gPartFirst P i 0) (gLevel P i + 1))) 2 = sT S 2 + 1 := rfl
  generalize uW (uB (uC (xSpend S) 11 (sC (xSpend S) 11 + 1)) (cur (xSpend S) + 1) (xSpend S).2.2.1.length) (cur (xSpend S) + 1) (wEnter (((xSpend S).1 (cur (xSpend S))).1, ((xSpend S).1 (cur (xSpend S))).2.1, ((xSpend S).1 (cur (xSpend S))).2.2.1, ((xSpend S).1 (cur (xSpend S))).2.2.2.1, fun _ => false) i (gPartFirst P i 0) (gLevel P i + 1)) = S' at *
  have ec : cur S' = cur S + 1 := by
    have : cur S' = (sC S' 11).toNat := rfl
    omega
  refine Mo.one (D' := D') (U' := oW (oS (oBump U) 13 ((cur S : Int) + 1)) (cur S + 1) (wBegins (U.2.1 (cur S)) (mI M0 2233 (σ i).toNat))) (fun _ => mu_step hPR.1 (by omega) c13 hb) (Rx.go hDB' (by decide) (by rw [c13]; exact RS_mono r (by omega) (Int.le_refl _))) fun d M Q hd a hq => ?_
  rw [c13, ec] at hq
  exact r_once (by omega) a hM (h.stands h12) (r_move_never (n := σ i) (e := e) (by omega) a hM d13 d4 a8 hσ g1' dl (by omega) (fun c => absurd c (by omega)) (fun _ M' a' => pm_x a' (by decide) (by decide) (hq M' a')))
theorem chR_ex {M : ZMem} {vals : Nat → Int} {n : Nat} {x : Int} : ∃ y L, chR M vals n x y L := by
  unfold chR
  split
  · exact ⟨_, fun _ => 0, rfl⟩
  · split
    · cases ea : evN M vals n (mI M 2234 x.toNat) with
      | none => exact ⟨-1, fun _ => 0, fun lo hi c => (by cases c), fun _ => rfl⟩
      | some lo =>
        cases eb : evN M vals n (mI M 2235 x.toNat) with
        | none => exact ⟨-1, fun _ => 0, fun lo hi _ c => (by cases c), fun _ => rfl⟩
        | some hi =>
          refine ⟨hi - lo + 1, fun _ => lo, fun lo' hi' c c2 => ?_, fun c => ?_⟩
          · obtain rfl := Option.some.inj c
            obtain rfl := Option.some.inj c2
            exact ⟨rfl, rfl⟩
          · rcases c with c | c <;> cases c
    · by_cases c : ∃ j : Nat, (j : Int) < mI M 2235 x.toNat ∧ evN M vals n (mI M 2233 (pk M (mI M 2234 x.toNat) j).toNat) = none
      · refine ⟨-1, fun _ => 0, fun q => ?_, fun _ => rfl⟩
        obtain ⟨j, c1, c2⟩ := c
        exact absurd c2 (q j c1)
      · refine ⟨mI M 2235 x.toNat, fun j => (evN M vals n (mI M 2233 (pk M (mI M 2234 x.toNat) j).toNat)).getD 0, fun q => ⟨rfl, fun j hj => ?_⟩, fun q => absurd q c⟩
        have := q j hj
        cases ev : evN M vals n (mI M 2233 (pk M (mI M 2234 x.toNat) j).toNat) with
        | none => exact absurd ev this
        | some u =>
          show some u = some ((evN M vals n (mI M 2233 (pk M (mI M 2234 x.toNat) j).toNat)).getD 0)
          rw [ev]; rfl
theorem mo_choose (hPR : PR M0 P σ root price e) (hM : ModelAt K 2230) (hDB : DB D) (h : RS P σ root price D S U (sC S 13) (sT S 2)) (h12 : sC S 12 ≠ 0) (hb : 0 < sC S 13) {i : Int} {j : Pt} (hs : gHas P i) (h3 : (S.1 (cur S)).1 3 = i) (hk : gKind P i = 3 ∨ gKind P i = 4 ∨ gKind P i = 5) : Mo K M0 P σ root price e s S U (xBegin P (xSpend S) i j) := by
  have hp := h.paid hb
  obtain ⟨d13, d4, d5, d6, d7, d8, d9, d16, d15, dl⟩ := h.bd
  obtain ⟨a8, ar⟩ := h.at hs h3
  have hσ := (hPR.2.2.1 i hs).1
  have hn := h.sb.n
  have hcu := cur_n hn.1
  obtain ⟨hch, hop⟩ := hPR.chN hs hk
  have hfull := hp.full
  have hfl : ¬ oFull U → U.2.2.1.length < 61 := fun _ => by
    have h1 := h.2.2.2.1.1
    have := CL_len (S := S)
    have := h.sb.2.2.2.1
    have := h.sb.2.2.2.2.1
    omega
  have hex : U.1 3 ≠ -1 → exN M0 e (U.1 3) := fun c => by
    rw [h.2.2.1.2] at c ⊢
    exact hPR.price_ex c
  have hsl : (sL (nB (xSpend S)) (xSpend S)).length ≤ 30 := by
    cases nB (xSpend S)
    · exact h.sb.2.2.2.1
    · exact h.sb.2.2.2.2.1
  have u9 : U.1 9 = sC S 9 := h.2.1.2.2.2.2.2.2.2.1
  have u1 : U.1 1 = sC S 8 := h.2.1.2.1
  have u13 : U.1 13 = sC S 11 := h.2.1.2.2.2.2.2.2.2.2.2.2.2.1
  have e0 : xBegin P (xSpend S) i j = xChoose2 P (xSpend S) (cPrep P (S.1 (cur S)).2.1 i j) := by unfold xBegin; rw [if_neg (by omega), if_neg (by omega), if_pos hk]; rfl
  rw [e0]
  have hce := fun y L r => choices_eq (y := y) (L := L) (j := j) hPR hs hk h.vals2 r
  generalize cPrep P (S.1 (cur S)).2.1 i j = c at *
  have h32 : sC S 11 = 0 → U.2.1 (cur S) 32 = (S.1 (cur S)).1 5 := fun q => by
    have h1 := h.wr.2.2.2.2.1
    have h0 := h.2.2.2.2.1
    rw [show ((cur S : Nat) : Int) = 0 by omega, h0] at h1
    omega
  have hhit : oHit U (cur S) ↔ (sC S 11 = 0 ∧ sC S 8 = 5 ∧ sC S 9 ≤ (S.1 (cur S)).1 5) := by
    unfold oHit
    rw [u13, u1, u9]
    constructor
    · rintro ⟨c1, c2, c3⟩
      exact ⟨c1, c2, by rw [← h32 c1]; exact c3⟩
    · rintro ⟨c1, c2, c3⟩
      exact ⟨c1, c2, by rw [h32 c1]; exact c3⟩
  have run : ∀ (d : Nat) (M : ZMem) (Q : Int → ZMem → Prop), e + 8 ≤ d → RM K M0 M s (cur S) (sC S 13) U → (∀ (y : Int) (L : Pf), chR M0 (U.2.1 (cur S)) e (σ i) y L → (y ≤ 0 → ∀ M', RM K M0 M' s (cur S) (sC S 13 - 1) (oBump U) → PM K (d - 1) Q 6 M') ∧ (0 < y → oHit U (cur S) → ∀ M', RM K M0 M' s (cur S) (sC S 13 - 1) (oS (oBump U) 10 1) → PM K (d - 1) Q 6 M') ∧ (0 < y → ¬ oHit U (cur S) → oFull U → ∀ M', RM K M0 M' s (cur S) (sC S 13 - 1) (oBump U) → PM K (d - 1) Q 4 M') ∧ (0 < y → ¬ oHit U (cur S) → ¬ oFull U → ∀ M', RM K M0 M' s (cur S) (sC S 13 - 1) (oMade (oBump U) (oNew (U.2.1 (cur S)) (σ i) y L (U.1 16) (U.1 13) (oCost M0 (U.2.1 (cur S)) e (U.1 3)))) → PM K (d - 1) Q 6 M')) → Ci d q10_goesOnce [zr 2230] M Q := fun d M Q hd a hq =>
    r_once (by omega) a hM (h.stands h12) (r_move_choose (n := σ i) (e := e) (by omega) a hM d13 d4 a8 hσ hop hch hfl hex d16 d5 (fun c => absurd c (by omega)) (fun _ => hq))
  by_cases c1 : c.1 ≤ 0
  · have e1 : xChoose2 P (xSpend S) c = (0, uC (xSpend S) 12 0) := by unfold xChoose2; exact if_pos c1
    rw [e1]
    refine Mo.one (D' := D) (U' := oS (oBump U) 12 0) (fun _ => mu_step hPR.1 hn.2 rfl hb) (Rx.go hDB (by decide) (RS_mono (RS_stand hp (Or.inl rfl)) (show sT S 2 ≤ sT S 2 + 1 by omega) (Int.le_refl _))) fun d M Q hd a hq => run d M Q hd a fun y L r => ?_
    have hy : y ≤ 0 := by
      rcases hce y L r with q | q
      · exact q.2
      · omega
    exact ⟨fun _ M' a' => pm_6 a' hq, fun q => absurd q (by omega), fun q => absurd q (by omega), fun q => absurd q (by omega)⟩
  · have hyc : ∀ y L, chR M0 (U.2.1 (cur S)) e (σ i) y L → c.1 = y ∧ 0 < y ∧ y ≤ 3000 ∧ (gKind P i = 3 → L 0 = c.2.2.2 2 ∧ isV (L 0) ∧ L 0 + y ≤ 1000) ∧ (gKind P i = 4 → y ≤ 6 ∧ ∀ k : Nat, (k : Int) < y → L k = c.2.2.1 k ∧ isV (L k)) ∧ (gKind P i = 5 → y = gParts P i) := fun y L r => by
      rcases hce y L r with q | q
      · omega
      · exact q
    by_cases c2 : sC S 11 = 0 ∧ sC S 8 = 5 ∧ sC S 9 ≤ (S.1 (cur S)).1 5
    · have e1 : xChoose2 P (xSpend S) c = (0, uC (uC (xSpend S) 10 1) 12 0) := by unfold xChoose2; rw [if_neg c1]; exact if_pos c2
      rw [e1]
      have r0 := RS_hit hp (Int.le_refl _)
      refine Mo.one (D' := D) (U' := oS (oS (oBump U) 10 1) 12 0) (fun _ => mu_step hPR.1 hn.2 rfl hb) (Rx.go hDB (by decide) r0) fun d M Q hd a hq => run d M Q hd a fun y L r => ?_
      obtain ⟨_, y2, _⟩ := hyc y L r
      have hh := hhit.mpr c2
      exact ⟨fun q => absurd q (by omega), fun _ _ M' a' => pm_6 a' hq, fun _ q => absurd hh q, fun _ q => absurd hh q⟩
    · have hh : ¬ oHit U (cur S) := fun q => c2 (hhit.mp q)
      by_cases c3 : (sL (nB (xSpend S)) (xSpend S)).length < 30
      · have e1 : xChoose2 P (xSpend S) c = (0, yPush (xSpend S) (cNew P (S.1 (cur S)) c)) := by
          unfold xChoose2
          rw [if_neg c1]
          refine (if_neg c2).trans ?_
          unfold xKeep
          rw [if_pos c3]
          rfl
        rw [e1]
        have hnf : ¬ oFull U := fun q => (hfull.mp q) c3
        have c13 : sC (yPush (xSpend S) (cNew P (S.1 (cur S)) c)) 13 = sC S 13 - 1 := by unfold yPush; split <;> cases nB (xSpend S) <;> rfl
        have c11 : sC (yPush (xSpend S) (cNew P (S.1 (cur S)) c)) 11 = sC S 11 := by unfold yPush; split <;> cases nB (xSpend S) <;> rfl
        have t2 : sT (yPush (xSpend S) (cNew P (S.1 (cur S)) c)) 2 = sT S 2 + 1 := by unfold yPush; split <;> cases nB (xSpend S) <;> rfl
        have made := fun y L r => RS_made hPR hp (Int.le_refl _) (s := i) (y := y) (L := L) (c := c) h3 hs hk c3 (hyc y L r)
        have ecS : (xSpend S).1 (cur (xSpend S)) = S.1 (cur S) := rfl
        rw [ecS] at made
        generalize yPush (xSpend S) (cNew P (S.1 (cur S)) c) = S' at *
        have ec : cur S' = cur S := by unfold cur; rw [c11]
        have hRx : ∀ y L, chR M0 (U.2.1 (cur S)) e (σ i) y L → Rx P σ root price D 0 S' (oS (oMade (oBump U) (oNew (U.2.1 (cur S)) (σ i) y L (U.1 16) (U.1 13) (oCost M0 (U.2.1 (cur S)) e (U.1 3)))) 12 0) := fun y L r => Rx.go hDB (by decide) (by rw [c13, t2]; exact made y L r)
        refine ⟨fun _ => mu_step hPR.1 (by show sC S' 11 ≤ 6; rw [c11]; exact hn.2) c13 hb, D, ?_, fun d M Q hd a hq => run d M Q hd a fun y L r => ?_⟩
        · obtain ⟨y0, L0, r0⟩ := chR_ex (M := M0) (vals := U.2.1 (cur S)) (n := e) (x := σ i)
          exact ⟨_, hRx y0 L0 r0⟩
        · obtain ⟨_, y2, _⟩ := hyc y L r
          have hq : ∀ M' U', RM K M0 M' s (cur S') (sC S' 13) U' → Rx P σ root price D 0 S' U' → Q 0 M' := hq
          rw [c13, ec] at hq
          exact ⟨fun q => absurd q (by omega), fun _ q => absurd q hh, fun _ _ q => absurd q hnf, fun _ _ _ M' a' => pm_6 a' fun M2 a2 => hq M2 _ a2 (hRx y L r)⟩
      · have e1 : xChoose2 P (xSpend S) c = (4, uC (xSpend S) 7 2) := by
          unfold xChoose2
          rw [if_neg c1]
          refine (if_neg c2).trans ?_
          unfold xKeep
          rw [if_neg c3]
        rw [e1]
        have hf : oFull U := hfull.mpr c3
        have r0 := RS_mono (RS_over hp) (show sT S 2 ≤ sT S 2 + 1 by omega) (Int.le_refl _)
        refine Mo.one (D' := D) (U' := oBump U) (fun q => absurd q (by decide)) (Rx.fin hDB (by decide) r0) fun d M Q hd a hq => run d M Q hd a fun y L r => ?_
        obtain ⟨_, y2, _⟩ := hyc y L r
        exact ⟨fun q => absurd q (by omega), fun _ q => absurd q hh, fun _ _ _ M' a' => pm_x a' (by decide) (by decide) (hq M' a'), fun _ _ q => absurd hf q⟩
end MOVE2
