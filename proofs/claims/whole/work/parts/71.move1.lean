/-! one move on both sides: how it is said; the small statements -/
def muN (P : Pg) (S : Sr) : Nat := 200 * (sC S 13).toNat + (if sC S 12 = 0 then 20 * cur S + 5 else if (S.1 (cur S)).1 3 = -1 then 20 * cur S + 10 + (lvI P ((S.1 (cur S)).1 4)).toNat else 0)
def DB (D : Int → Int) : Prop := ∀ l, 0 ≤ D l ∧ D l ≤ 100000000
def Rx (P : Pg) (σ : Int → Int) (root price : Int) (D : Int → Int) (x : Int) (S : Sr) (U : Tr) : Prop :=
  DB D ∧ (x ≤ 2 → RS P σ root price D S U (sC S 13) (sT S 2)) ∧ (2 < x → RS P σ root price D (uC S 12 0) (oS (oS U 0 2) 12 0) (sC S 13) (sT S 2))
def Mo (K M0 : ZMem) (P : Pg) (σ : Int → Int) (root price : Int) (e s : Nat) (S : Sr) (U : Tr) (r : Int × Sr) : Prop :=
  (r.1 ≤ 1 → muN P r.2 < muN P S) ∧ ∃ D', (∃ U', Rx P σ root price D' r.1 r.2 U') ∧ ∀ (d : Nat) (M : ZMem) (Q : Int → ZMem → Prop), e + 8 ≤ d → RM K M0 M s (cur S) (sC S 13) U → (∀ M' U', RM K M0 M' s (cur r.2) (sC r.2 13) U' → Rx P σ root price D' r.1 r.2 U' → Q r.1 M') → Ci d q10_goesOnce [zr 2230] M Q
section MOVE1
variable {K M0 : ZMem} {P : Pg} {σ : Int → Int} {root price : Int} {e s : Nat} {D : Int → Int} {S S' : Sr} {U U' : Tr} {b t : Int}
theorem Mo.one {x : Int} {D' : Int → Int} (hm : x ≤ 1 → muN P S' < muN P S) (hx : Rx P σ root price D' x S' U') (k : ∀ (d : Nat) (M : ZMem) (Q : Int → ZMem → Prop), e + 8 ≤ d → RM K M0 M s (cur S) (sC S 13) U → (∀ M', RM K M0 M' s (cur S') (sC S' 13) U' → Q x M') → Ci d q10_goesOnce [zr 2230] M Q) : Mo K M0 P σ root price e s S U (x, S') :=
  ⟨hm, D', ⟨U', hx⟩, fun d M Q hd hr hq => k d M Q hd hr fun M' a => hq M' U' a hx⟩
theorem Rx.go {x : Int} (hDB : DB D) (hx : x ≤ 2) (h : RS P σ root price D S U (sC S 13) (sT S 2)) : Rx P σ root price D x S U := ⟨hDB, fun _ => h, fun c => absurd c (by omega)⟩
theorem Rx.fin {x : Int} (hDB : DB D) (hx : 2 < x) (h : RS P σ root price D (uC S 12 0) (oS (oS U 0 2) 12 0) (sC S 13) (sT S 2)) : Rx P σ root price D x S U := ⟨hDB, fun c => absurd c (by omega), fun _ => h⟩
theorem lvI_le (hP : PB P) (c : Int) : lvI P c ≤ 7 := by
  have := hP.level c
  unfold lvI
  split <;> omega
theorem mu_le (hP : PB P) (hn : sC S 11 ≤ 6) : muN P S ≤ 200 * (sC S 13).toNat + 137 := by
  have := lvI_le hP ((S.1 (cur S)).1 4)
  have hc : cur S ≤ 6 := by unfold cur; omega
  unfold muN
  split
  · omega
  · split <;> omega
theorem mu_ge : 200 * (sC S 13).toNat ≤ muN P S := by unfold muN; omega
theorem mu_step (hP : PB P) (hn : sC S' 11 ≤ 6) (h13 : sC S' 13 = sC S 13 - 1) (hb : 0 < sC S 13) : muN P S' < muN P S := by
  have h1 := mu_le (S := S') hP hn
  have h2 := mu_ge (P := P) (S := S)
  rw [h13] at h1
  omega
theorem RS.bd (h : RS P σ root price D S U b t) : (0 ≤ sC S 13 ∧ sC S 13 ≤ 2000) ∧ (0 ≤ U.1 4 ∧ U.1 4 ≤ 100000000) ∧ (0 ≤ U.1 5 ∧ U.1 5 ≤ 100000000) ∧ (0 ≤ U.1 6 ∧ U.1 6 ≤ 100000000) ∧ (0 ≤ U.1 7 ∧ U.1 7 ≤ 100000000) ∧ (0 ≤ U.1 8 ∧ U.1 8 ≤ 100000000) ∧ (0 ≤ U.1 9 ∧ U.1 9 ≤ 100000000) ∧ (0 ≤ U.1 16 ∧ U.1 16 ≤ 100000000) ∧ (0 ≤ U.1 15 ∧ U.1 15 ≤ 60) ∧ U.1 13 = (cur S : Int) := by
  obtain ⟨⟨b1, b2, b3, b4, b5, b6, b7, b8, b9, b10, b11, b12, b13, b14, b15⟩, ⟨n0, n1, n4, n5, n6, n7, n8, n9, n10, n11, n12, n13, n15, nb, na⟩, hRP, hP, hW⟩ := h
  have hcu := cur_n b1.n.1
  obtain ⟨s1, s2, s3, s4, s5, s6, s7, s8, s9, s10, s11⟩ := b1
  have h2 := s6 2
  rw [n4, n5, n6, n7, n8, n9, n15, n13, hcu]
  exact ⟨s9, s6 2, s6 5, s6 6, s6 7, s6 8, s8, ⟨b14, by omega⟩, s10, rfl⟩
/-- after a step is paid -/
theorem RS.paid (h : RS P σ root price D S U (sC S 13) (sT S 2)) (hb : 0 < sC S 13) : RS P σ root price D (xSpend S) (oBump U) (sC S 13 - 1) (sT S 2) := RS_spend h hb
theorem RS.at (hR : RS P σ root price D S U b t) {i : Int} (hs : gHas P i) (h3 : (S.1 (cur S)).1 3 = i) : U.2.1 (cur S) 8 = σ i ∧ gAround P i = (S.1 (cur S)).1 4 := by
  subst h3
  have := hR.wr.around hs
  exact ⟨this.2, this.1⟩
theorem RS.vals (hR : RS P σ root price D S U b t) : ∀ k, k < 8 → (S.1 (cur S)).2.1 k = U.2.1 (cur S) k := fun k hk => (hR.wr.1 k hk).symm
theorem RS.vals2 (hR : RS P σ root price D S U b t) : (∀ k, isV ((S.1 (cur S)).2.1 k)) ∧ ∀ k, k < 8 → (S.1 (cur S)).2.1 k = U.2.1 (cur S) k := ⟨(hR.sb.1 (cur S)).1, hR.vals⟩
theorem RS.stands (hR : RS P σ root price D S U b t) (h : sC S 12 ≠ 0) : U.1 12 ≠ 0 := by
  rw [show U.1 12 = sC S 12 from hR.2.1.2.2.2.2.2.2.2.2.2.2.1]; exact h
theorem mo_assign (hPR : PR M0 P σ root price e) (hM : ModelAt K 2230) (hDB : DB D) (h : RS P σ root price D S U (sC S 13) (sT S 2)) (h12 : sC S 12 ≠ 0) (hb : 0 < sC S 13) {i : Int} {j : Pt} (hs : gHas P i) (h3 : (S.1 (cur S)).1 3 = i) (hk : gKind P i = 1) : Mo K M0 P σ root price e s S U (xBegin P (xSpend S) i j) := by
  have hp := h.paid hb
  obtain ⟨d13, d4, d5, d6, d7, d8, d9, d16, d15, dl⟩ := h.bd
  obtain ⟨g1, g2, g3, g4⟩ := hPR.k1 hs hk
  obtain ⟨a8, _⟩ := h.at hs h3
  have hσ := (hPR.2.2.1 i hs).1
  have hn := h.sb.n
  have e0 : xBegin P (xSpend S) i j = xAssign P (xSpend S) i := by unfold xBegin; rw [if_pos hk]
  rw [e0]
  rcases g4.val h.vals2 with ⟨q1, q2⟩ | ⟨u, q1, q2, q3⟩
  · have e1 : xAssign P (xSpend S) i = (0, uC (xSpend S) 12 0) := by unfold xAssign; exact if_pos q1
    rw [e1]
    refine Mo.one (D' := D) (U' := oS (oBump U) 12 0) (fun _ => mu_step hPR.1 hn.2 rfl hb) (Rx.go hDB (by decide) (RS_mono (RS_stand hp (Or.inl rfl)) (show sT S 2 ≤ sT S 2 + 1 by omega) (Int.le_refl _))) fun d M Q hd a hq => ?_
    refine r_once (by omega) a hM (h.stands h12) (r_move_assign (n := σ i) (e := e) (by omega) a hM d13 d4 a8 hσ g1 (by rw [g2]; exact g3) g4.1 (fun c => absurd c (by omega)) (fun _ _ M' a' => pm_6 a' hq) (fun _ v qv => by rw [q2] at qv; cases qv))
  · have e1 : xAssign P (xSpend S) i = (0, uW (xSpend S) (cur S) (fup (wSetValue (S.1 (cur S)) (gDetail P i) u).1 3 (gBehind P i), (wSetValue (S.1 (cur S)) (gDetail P i) u).2)) := by
      unfold xAssign
      have q1' : fWorth P.2.1 (gForm P i) ((xSpend S).1 (cur (xSpend S))).2.1 = u := q1
      rw [q1', if_neg (by omega)]
      rfl
    rw [e1]
    have r := RS_assign hPR hp (s := i) (a := gDetail P i) (v := u) h3 hs g3 q3
    refine Mo.one (D' := D) (U' := oW (oBump U) (cur S) (fup (fup (U.2.1 (cur S)) (gDetail P i).toNat u) 8 (mI M0 2236 (σ i).toNat))) (fun _ => mu_step hPR.1 hn.2 rfl hb) (Rx.go hDB (by decide) (RS_mono r (show sT S 2 ≤ sT S 2 + 1 by omega) (Int.le_refl _))) fun d M Q hd a hq => ?_
    refine r_once (by omega) a hM (h.stands h12) (r_move_assign (n := σ i) (e := e) (by omega) a hM d13 d4 a8 hσ g1 (by rw [g2]; exact g3) g4.1 (fun c => absurd c (by omega)) (fun _ qn => by rw [q2] at qn; cases qn) (fun _ v qv M' a' => ?_))
    rw [q2] at qv
    obtain rfl := Option.some.inj qv
    rw [g2] at a'
    exact pm_x a' (by decide) (by decide) (hq M' a')
theorem oIs_eq {v v' : Nat → Int} {i : Int} (hPR : PR M0 P σ root price e) (hs : gHas P i) (hk : gKind P i = 2) (hv : (∀ k, isV (v k)) ∧ ∀ k, k < 8 → v k = v' k) : (fWorth P.2.1 (gForm P i) v = 999999 ∨ fWorth P.2.1 (gForm P i + 1) v = 999999 ∨ gIsSo (fWorth P.2.1 (gForm P i) v) (gDetail P i) (fWorth P.2.1 (gForm P i + 1) v) = false) ↔ oIs M0 v' e (σ i) = false := by
  obtain ⟨g1, g2, g3, g4⟩ := hPR.k2 hs hk
  unfold oIs
  rcases g3.val hv with ⟨q1, q2⟩ | ⟨u, q1, q2, q3⟩
  · rw [q2]
    exact ⟨fun _ => rfl, fun _ => Or.inl q1⟩
  · rcases g4.val hv with ⟨r1, r2⟩ | ⟨u', r1, r2, r3⟩
    · rw [q2, r2]
      exact ⟨fun _ => rfl, fun _ => Or.inr (Or.inl r1)⟩
    · rw [q2, r2, q1, r1, g2]
      constructor
      · rintro (c | c | c)
        · omega
        · omega
        · exact c
      · exact fun c => Or.inr (Or.inr c)
theorem mo_test (hPR : PR M0 P σ root price e) (hM : ModelAt K 2230) (hDB : DB D) (h : RS P σ root price D S U (sC S 13) (sT S 2)) (h12 : sC S 12 ≠ 0) (hb : 0 < sC S 13) {i : Int} {j : Pt} (hs : gHas P i) (h3 : (S.1 (cur S)).1 3 = i) (hk : gKind P i = 2) : Mo K M0 P σ root price e s S U (xBegin P (xSpend S) i j) := by
  have hp := h.paid hb
  obtain ⟨d13, d4, d5, d6, d7, d8, d9, d16, d15, dl⟩ := h.bd
  obtain ⟨g1, g2, g3, g4⟩ := hPR.k2 hs hk
  obtain ⟨a8, _⟩ := h.at hs h3
  have hσ := (hPR.2.2.1 i hs).1
  have hn := h.sb.n
  have e0 : xBegin P (xSpend S) i j = xTest P (xSpend S) i := by unfold xBegin; rw [if_neg (by omega), if_pos hk]
  rw [e0]
  have hiff := oIs_eq (v := ((xSpend S).1 (cur (xSpend S))).2.1) (v' := U.2.1 (cur S)) hPR hs hk h.vals2
  cases ho : oIs M0 (U.2.1 (cur S)) e (σ i) with
  | false =>
    have e1 : xTest P (xSpend S) i = (0, uC (xSpend S) 12 0) := by unfold xTest; exact if_pos (hiff.mpr ho)
    rw [e1]
    refine Mo.one (D' := D) (U' := oS (oBump U) 12 0) (fun _ => mu_step hPR.1 hn.2 rfl hb) (Rx.go hDB (by decide) (RS_mono (RS_stand hp (Or.inl rfl)) (show sT S 2 ≤ sT S 2 + 1 by omega) (Int.le_refl _))) fun d M Q hd a hq => ?_
    exact r_once (by omega) a hM (h.stands h12) (r_move_test (n := σ i) (e := e) (by omega) a hM d13 d4 a8 hσ g1 g3.1 g4.1 (fun c => absurd c (by omega)) (fun _ _ M' a' => pm_6 a' hq) (fun _ c => by rw [ho] at c; cases c))
  | true =>
    have e1 : xTest P (xSpend S) i = (0, xOn P (xSpend S) i) := by unfold xTest; exact if_neg (fun c => by rw [hiff.mp c] at ho; cases ho)
    rw [e1]
    have r := RS_on hPR hp (s := i) h3 hs
    refine Mo.one (D' := D) (U' := oW (oBump U) (cur S) (fup (U.2.1 (cur S)) 8 (mI M0 2236 (σ i).toNat))) (fun _ => mu_step hPR.1 hn.2 rfl hb) (Rx.go hDB (by decide) (RS_mono r (show sT S 2 ≤ sT S 2 + 1 by omega) (Int.le_refl _))) fun d M Q hd a hq => ?_
    exact r_once (by omega) a hM (h.stands h12) (r_move_test (n := σ i) (e := e) (by omega) a hM d13 d4 a8 hσ g1 g3.1 g4.1 (fun c => absurd c (by omega)) (fun _ c => by rw [ho] at c; cases c) (fun _ _ M' a' => pm_x a' (by decide) (by decide) (hq M' a')))
theorem mo_once (hPR : PR M0 P σ root price e) (hM : ModelAt K 2230) (hDB : DB D) (h : RS P σ root price D S U (sC S 13) (sT S 2)) (h12 : sC S 12 ≠ 0) (hb : 0 < sC S 13) {i : Int} {j : Pt} (hs : gHas P i) (h3 : (S.1 (cur S)).1 3 = i) (hk : gKind P i = 6 ∨ gKind P i = 9) : Mo K M0 P σ root price e s S U (xBegin P (xSpend S) i j) := by
  have hp := h.paid hb
  obtain ⟨d13, d4, d5, d6, d7, d8, d9, d16, d15, dl⟩ := h.bd
  obtain ⟨a8, _⟩ := h.at hs h3
  have hσ := (hPR.2.2.1 i hs).1
  have hn := h.sb.n
  have e0 : xBegin P (xSpend S) i j = (0, xEnter P (xSpend S) i) := by unfold xBegin; rw [if_neg (by omega), if_neg (by omega), if_neg (by omega), if_neg (by omega), if_neg (by omega)]
  rw [e0]
  obtain ⟨m, hm, h9, _⟩ := h.wr.2.2.1
  rcases hk with k | k
  · obtain ⟨g1, g2, g3, g4, g5, g6⟩ := hPR.k67 hs (Or.inl k)
    have g1' : mI M0 2232 (σ i).toNat = 13 := by
      rcases g1 with q | q
      · exact q.2
      · omega
    have r := RS_enter hPR hp (s := i) (x := σ i) (y := mI M0 2233 (σ i).toNat) (n := gDetail P i - 1) (rounds := 0) h3 hs (Or.inl k) g3 ⟨g4, g5⟩ rfl g6 ⟨by omega, by omega⟩ (by decide) (fun q => by omega)
    refine Mo.one (D' := D) (U' := oW (oBump U) (cur S) (wEnters (U.2.1 (cur S)) (σ i) (mI M0 2233 (σ i).toNat) 0)) (fun _ => mu_step hPR.1 hn.2 rfl hb) (Rx.go hDB (by decide) (RS_mono r (show sT S 2 ≤ sT S 2 + 1 by omega) (Int.le_refl _))) fun d M Q hd a hq => ?_
    exact r_once (by omega) a hM (h.stands h12) (r_move_once (n := σ i) (e := e) (by omega) a hM d13 d4 a8 hσ g1' (by omega) (fun c => absurd c (by omega)) (fun _ M' a' => pm_x a' (by decide) (by decide) (hq M' a')))
  · obtain ⟨g1, g2, g3, g4, g5, g6, g7⟩ := hPR.k9 hs k
    have r := RS_enter hPR hp (s := i) (x := σ i) (y := mI M0 2234 (σ i).toNat) (n := gDetail P i - 1) (rounds := mI M0 2233 (σ i).toNat - 1) h3 hs (Or.inr k) g4 ⟨g5, g6⟩ rfl g7 ⟨by omega, by omega⟩ (by omega) (fun q => by omega)
    refine Mo.one (D' := D) (U' := oW (oBump U) (cur S) (wEnters (U.2.1 (cur S)) (σ i) (mI M0 2234 (σ i).toNat) (mI M0 2233 (σ i).toNat - 1))) (fun _ => mu_step hPR.1 hn.2 rfl hb) (Rx.go hDB (by decide) (RS_mono r (show sT S 2 ≤ sT S 2 + 1 by omega) (Int.le_refl _))) fun d M Q hd a hq => ?_
    exact r_once (by omega) a hM (h.stands h12) (r_move_rounds (n := σ i) (e := e) (by omega) a hM d13 d4 a8 hσ g1 (by omega) (by omega) (fun c => absurd c (by omega)) (fun _ M' a' => pm_x a' (by decide) (by decide) (hq M' a')))
theorem xDrop_way {since : Int} {i : Nat} : ((xDrop S since).1 i).1 = (S.1 i).1 ∧ ((xDrop S since).1 i).2.2.1 = (S.1 i).2.2.1 := by
  by_cases c : i = cur S
  · subst c
    unfold xDrop
    split
    · show ((fup S.1 (cur S) _) (cur S)).1 = _ ∧ ((fup S.1 (cur S) _) (cur S)).2.2.1 = _
      rw [fup_self]
      exact ⟨(dropN_way _ _ _ _).1, (dropN_way _ _ _ _).2.2.1⟩
    · show ((fup S.1 (cur S) _) (cur S)).1 = _ ∧ ((fup S.1 (cur S) _) (cur S)).2.2.1 = _
      rw [fup_self]
      exact ⟨(dropN_way _ _ _ _).1, (dropN_way _ _ _ _).2.2.1⟩
  · rw [SB.xDrop_ways c]; exact ⟨rfl, rfl⟩
theorem xDrop_c {since : Int} {k : Nat} : sC (xDrop S since) k = sC S k := by unfold xDrop; split <;> rfl
theorem xDrop_t2 {since : Int} : sT (xDrop S since) 2 = sT S 2 := by
  unfold xDrop
  split
  · rfl
  · rfl
theorem mo_cut (hPR : PR M0 P σ root price e) (hM : ModelAt K 2230) (hDB : DB D) (h : RS P σ root price D S U (sC S 13) (sT S 2)) (h12 : sC S 12 ≠ 0) (hb : 0 < sC S 13) {i : Int} {j : Pt} (hs : gHas P i) (h3 : (S.1 (cur S)).1 3 = i) (hk : gKind P i = 8) : Mo K M0 P σ root price e s S U (xBegin P (xSpend S) i j) := by
  have hp := h.paid hb
  obtain ⟨d13, d4, d5, d6, d7, d8, d9, d16, d15, dl⟩ := h.bd
  obtain ⟨a8, ar⟩ := h.at hs h3
  have hσ := (hPR.2.2.1 i hs).1
  have hn := h.sb.n
  have hcu := cur_n hn.1
  have e0 : xBegin P (xSpend S) i j = (0, xOn P (xDrop (xSpend S) (wMarkAt (S.1 (cur S)) (gLevel P i))) i) := by unfold xBegin; rw [if_neg (by omega), if_neg (by omega), if_neg (by omega), if_neg (by omega), if_pos hk]; rfl
  rw [e0]
  have hl := hPR.1.level i
  have h31 : U.2.1 (cur S) 31 = wMarkAt (S.1 (cur S)) (gLevel P i) - D (sC (xSpend S) 11) := by
    have h1 := h.wr.2.2.2.1
    have h2 := hPR.lvl hs
    unfold wMarkAt
    rw [if_pos ⟨hl.1, by omega⟩, h1, h2, ar, hcu]
    rfl
  have r0 := RS_drop hp (since := wMarkAt (S.1 (cur S)) (gLevel P i))
  rw [← h31] at r0
  have ec : cur (xDrop (xSpend S) (wMarkAt (S.1 (cur S)) (gLevel P i))) = cur S := cur_xDrop
  have r := RS_on hPR r0 (s := i) (by rw [ec, xDrop_way.1]; exact h3) hs
  rw [ec] at r
  have c13 : sC (xOn P (xDrop (xSpend S) (wMarkAt (S.1 (cur S)) (gLevel P i))) i) 13 = sC S 13 - 1 := xDrop_c
  have c11 : sC (xOn P (xDrop (xSpend S) (wMarkAt (S.1 (cur S)) (gLevel P i))) i) 11 = sC S 11 := xDrop_c
  have t2 : sT (xOn P (xDrop (xSpend S) (wMarkAt (S.1 (cur S)) (gLevel P i))) i) 2 = sT S 2 + 1 := xDrop_t2
  have ec2 : cur (xOn P (xDrop (xSpend S) (wMarkAt (S.1 (cur S)) (gLevel P i))) i) = cur S := ec
  generalize xOn P (xDrop (xSpend S) (wMarkAt (S.1 (cur S)) (gLevel P i))) i = S' at *
  refine Mo.one (D' := D) (U' := oW (cutsF (cur S) (U.2.1 (cur S) 31) 62 (oBump U)) (cur S) (fup ((cutsF (cur S) (U.2.1 (cur S) 31) 62 (oBump U)).2.1 (cur S)) 8 (mI M0 2236 (σ i).toNat))) (fun _ => mu_step hPR.1 (by rw [c11]; exact hn.2) c13 hb) (Rx.go hDB (by decide) (by rw [c13]; exact RS_mono r (by omega) (Int.le_refl _))) fun d M Q hd a hq => ?_
  rw [c13, ec2] at hq
  exact r_once (by omega) a hM (h.stands h12) (r_move_cut (n := σ i) (e := e) (by omega) a hM d13 d4 a8 hσ (hPR.k8 hs hk) dl d7 (fun c => absurd c (by omega)) (fun _ M' a' => pm_x a' (by decide) (by decide) (hq M' a')))
end MOVE1
