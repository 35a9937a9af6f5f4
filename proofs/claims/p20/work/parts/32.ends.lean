/-! a way is through; a part ends; assign, test, not -/
def gIsSo (l s r : Int) : Bool := if s = 60 then decide (l < r) else if s = 61 then decide (l = r) else if s = 62 then decide (r < l) else decide (l ≠ r)
def xAssign (P : Pg) (S : Sr) (s : Int) : Int × Sr :=
  if fWorth P.2.1 (gForm P s) (S.1 (cur S)).2.1 = 999999 then (0, uC S 12 0)
  else (0, uW S (cur S) (fup (wSetValue (S.1 (cur S)) (gDetail P s) (fWorth P.2.1 (gForm P s) (S.1 (cur S)).2.1)).1 3 (gBehind P s), (wSetValue (S.1 (cur S)) (gDetail P s) (fWorth P.2.1 (gForm P s) (S.1 (cur S)).2.1)).2))
def xOn (P : Pg) (S : Sr) (s : Int) : Sr := uW S (cur S) (fup (S.1 (cur S)).1 3 (gBehind P s), (S.1 (cur S)).2)
section ENDS
variable {d : Nat} {K M0 M M' : ZMem} {o : Nat} {P : Pg} {S : Sr}
theorem SB.vals (hS : SB P S) (i k : Nat) : -999 ≤ (S.1 i).2.1 k ∧ (S.1 i).2.1 k ≤ 999 := (hS.1 i).1 k
theorem Ax.on {s : Int} (h : Ax K M0 M o P S) (hc : cur S < 7) : Ax K M0 (sI M (o + 397 + 4 * cur S) 3 (gBehind P s)) o P (xOn P S s) := h.kWf hc (by omega) (by omega)
theorem s_wworth {x : Int} {i : Nat} (hd : 1 ≤ d) (h : Ax K M0 M o P S) (hL : SrK K o) (hP : PB P) (hS : SB P S) (hi : i < 7) : Ci d q1_worth [zr (o + 10), zi x, zr (o + 397 + 4 * i + 1)] M (fun y M' => y = fWorth P.2.1 x (S.1 i).2.1 ∧ M' = M) := by
  have hv := h.vals hi
  have hf := h.f
  have r := s_worth (x := x) hd h.1.1 hL.form (hL.way hi).2.2.2.2.2.1 (by rw [hf]; exact hP.1) (by rw [hv]; exact hS.vals i)
  rw [hf, hv] at r
  exact r
theorem s_wprice {i : Nat} (hd : 2 ≤ d) (h : Ax K M0 M o P S) (hL : SrK K o) (hP : PB P) (hS : SB P S) (hi : i < 7) : Ci d q4_priceOf [zr (o + 1), zr (o + 397 + 4 * i + 1)] M (fun y M' => y = gPrice P (S.1 i).2.1 ∧ M' = M) := by
  have hv := h.vals hi
  have hg := h.g
  have r := s_priceOf hd h.1.1 hL.prog (hL.way hi).2.2.2.2.2.1 (by rw [hg]; exact hP.2.1) (by rw [hv]; exact hS.vals i)
  rw [hg, hv] at r
  exact r
theorem s_through {Q : Int → ZMem → Prop} (hd : 4 ≤ d) (h : Ax K M0 M o P S) (hL : SrK K o) (hP : PB P) (hS : SB P S) (q : ∀ M', Ax K M0 M' o P (xThrough P S).2 → Q (xThrough P S).1 M') : Ci d q6_through [zr o, zr (o + 397 + 4 * cur S)] M Q := by
  obtain ⟨d, rfl⟩ : ∃ e, d = e + 1 := ⟨d - 1, by omega⟩
  have hS' := hS
  obtain ⟨hS1, hS2, hS3, hS4, hS5, hS6, hS7, hS8, hS9, hS10, hS11⟩ := hS
  have hcur : cur S = (sC S 11).toNat := rfl
  have hc : cur S < 7 := by omega
  have a1 := h.kC (k := 12) (x := 0) (by omega) (by omega)
  have hSB : SB P (uC S 12 0) := hS'
  have e8 : mI (sI M o 12 0) o 8 = sC S 8 := a1.1.c (by omega) (by omega)
  have e9 : mI (sI M o 12 0) o 9 = sC S 9 := a1.1.c (by omega) (by omega)
  have e11 : mI (sI M o 12 0) o 11 = sC S 11 := a1.1.c (by omega) (by omega)
  have e5 : mI (sI M o 12 0) (o + 397 + 4 * cur S) 5 = (S.1 (cur S)).1 5 := a1.w3 hc (by omega) (by omega)
  have add : ∀ (q : ∀ M', Ax K M0 M' o P (if (sQ S).2 < 60 then (1, uA (uC S 12 0) (aAdd (sQ S) (aRow (S.1 (cur S)) (gPrice P (S.1 (cur S)).2.1) (sT S 2)))) else ((5 : Int), uC (uC S 12 0) 7 2)).2 → Q (if (sQ S).2 < 60 then (1, uA (uC S 12 0) (aAdd (sQ S) (aRow (S.1 (cur S)) (gPrice P (S.1 (cur S)).2.1) (sT S 2)))) else ((5 : Int), uC (uC S 12 0) 7 2)).1 M'),
      Ci d q4_priceOf [zr (o + 1), zr (o + 397 + 4 * cur S + 1)] (sI M o 12 0) (fun x3 M2 => KW K M2 ∧ Ci d q6_tell [zr o, zi 2] M2 (fun x7 M6 => KW K M6 ∧ Ci d q0_add [zr (o + 18), zr (o + 397 + 4 * cur S), zi x3, zi x7] M6 (fun x11 M10 => KW K M10 ∧ ((x11 = 0 → (Ci d q6_finish [zr o, zi 5] M10 (fun x15 M14 => KW K M14 ∧ Q x15 M14))) ∧ (¬ (x11 = 0) → (Q 1 M10)))))) := fun q => by
    refine (s_wprice (S := uC S 12 0) (by omega) a1 hL hP hSB hc).pure ⟨a1.1.1, (s_tell a1 hL).pure ⟨a1.1.1, ?_⟩⟩
    have hn : 0 ≤ (gA (sI M o 12 0) (o + 18)).2 := by rw [a1.1.ans]; exact hS10.1
    refine (s_add (by omega) a1.1.1 hL.ans (hL.way hc).2 (by omega) hn).mono fun x M2 ⟨k2, f2, r2⟩ => ⟨k2, ?_⟩
    rw [a1.1.ans, a1.1.way hc] at r2
    have et : xTell (uC S 12 0) 2 = sT S 2 := rfl
    have es : sQ (uC S 12 0) = sQ S := rfl
    have ew : (uC S 12 0).1 = S.1 := rfl
    rw [et, es, ew] at r2
    by_cases c : (sQ S).2 < 60
    · rw [if_pos c] at q r2
      have r1 : x = 1 := congrArg Prod.fst r2
      refine ⟨fun c2 => absurd c2 (by rw [r1]; decide), fun _ => q M2 (a1.kA k2 (f2.wide fun q hq => hq) (congrArg Prod.snd r2))⟩
    · rw [if_neg c] at q r2
      have r1 : x = 0 := congrArg Prod.fst r2
      have a2 := a1.kA k2 f2 (congrArg Prod.snd r2)
      have a3 : Ax K M0 M2 o P (uC S 12 0) := a2
      refine ⟨fun _ => s_finish a3 hL fun M3 a4 => ⟨a4.1.1, q M3 a4⟩, fun c2 => absurd r1 c2⟩
  refine B6_through o _ h.1.1 hL.1 (hL.way hc).2 ?_
  rw [e8, e9, e11, e5]
  refine ⟨fun c => ⟨fun c2 => ?_, fun c2 => ⟨fun c3 => ?_, fun c3 => ?_⟩⟩, fun c => ?_⟩
  · rw [xThrough, if_neg (by omega), if_neg (fun q => c2 q.1)] at q
    exact add q
  · rw [xThrough, if_neg (by omega), if_neg (fun q => q.2 c3)] at q
    exact add q
  · rw [xThrough, if_neg (by omega), if_pos ⟨Decidable.not_not.mp c2, c3⟩] at q
    exact q _ a1
  · rw [xThrough, if_pos (by omega)] at q
    refine (s_baseOfNot a1 hL hS7).pure ⟨a1.1.1, ?_⟩
    have hb := hS11 (cur S) (by omega) (by omega)
    have eb : sB (uC S 12 0) (sC (uC S 12 0) 11).toNat = sB S (cur S) := rfl
    rw [eb]
    have a2 : Ax K M0 (sI (sI M o 12 0) (o + 208) 1 (sB S (cur S))) o P (uN (uC S 12 0) (S.2.2.1.take (sB S (cur S)).toNat)) := by
      refine ⟨a1.1.kN (a1.1.1.sI _ _ _) (Fr.refl.sI ⟨by omega, by omega⟩) (a1.1.2.2.1.size (by omega) (by omega)) ?_, a1.2.sI ⟨by omega, by omega⟩⟩
      rw [gL_take a1.1.2.2.1 (by rw [a1.1.nlen]; exact hb.2), a1.1.inn]
      rfl
    have e12 : mI (sI (sI M o 12 0) (o + 208) 1 (sB S (cur S))) o 11 = sC S 11 := a2.1.c (by omega) (by omega)
    rw [e12]
    exact ⟨⟨by omega, by omega⟩, q _ (a2.kC (by omega) (by omega))⟩
theorem SB.xDrop_ways {x : Int} {i : Nat} (h : i ≠ cur S) : (xDrop S x).1 i = S.1 i := by
  unfold xDrop
  split
  · exact fup_ne h
  · exact fup_ne h
theorem s_leave {s : Int} {Q : Int → ZMem → Prop} (hd : 1 ≤ d) (h : Ax K M0 M o P S) (hL : SrK K o) (hc : cur S < 7) (q : ∀ M', Ax K M0 M' o P (xLeave P S s) → Q 0 M') : Ci d q4_around [zr (o + 1), zi s] M (fun x15 M14 => KW K M14 ∧ Ci d q4_behind [zr (o + 1), zi s] (sI M14 (o + 397 + 4 * cur S) 4 x15) (fun x20 M19 => KW K M19 ∧ Q 0 (sI M19 (o + 397 + 4 * cur S) 3 x20))) := by
  refine (s_around hd h.1.1 hL.prog).pure ⟨h.1.1, ?_⟩
  rw [h.g]
  have a1 := h.kWf (i := cur S) (k := 4) (x := gAround P s) hc (by omega) (by omega)
  refine (s_behind hd a1.1.1 hL.prog).pure ⟨a1.1.1, q _ ?_⟩
  rw [a1.g]
  exact a1.kWf2 hc (by omega) (by omega)
theorem s_endPart {Q : Int → ZMem → Prop} (hd : 5 ≤ d) (h : Ax K M0 M o P S) (hL : SrK K o) (hP : PB P) (hS : SB P S) (q : ∀ M', Ax K M0 M' o P (xEndPart P S).2 → Q (xEndPart P S).1 M') : Ci d q6_endPart [zr o, zr (o + 397 + 4 * cur S)] M Q := by
  obtain ⟨d, rfl⟩ : ∃ e, d = e + 1 := ⟨d - 1, by omega⟩
  have hS' := hS
  obtain ⟨hS1, hS2, hS3, hS4, hS5, hS6, hS7, hS8, hS9, hS10, hS11⟩ := hS
  have hcur : cur S = (sC S 11).toNat := rfl
  have hc : cur S < 7 := by omega
  have hway := (hL.way hc).2
  have e4 : mI M (o + 397 + 4 * cur S) 4 = (S.1 (cur S)).1 4 := h.w3 hc (by omega) (by omega)
  have ew : gW M (o + 397 + 4 * cur S) = S.1 (cur S) := h.1.way hc
  have hrb := (hS1 (cur S)).2.2.2
  refine B6_endPart o _ h.1.1 hL.1 hway ?_
  rw [e4]
  unfold xEndPart at q
  generalize hs : (S.1 (cur S)).1 4 = s at *
  have hlv := hP.level s
  have mk : ∀ l, -10 ≤ wRoundsAt (S.1 (cur S)) l ∧ wRoundsAt (S.1 (cur S)) l ≤ 1000 := fun l => by
    unfold wRoundsAt
    split
    · exact hrb _
    · omega
  refine (s_kindOf (by omega) h.1.1 hL.prog).pure ⟨h.1.1, (s_levelOf (by omega) h.1.1 hL.prog).pure ⟨h.1.1, ?_⟩⟩
  rw [h.g]
  have hdrop : gKind P s = 6 → ∀ (q : ∀ M', Ax K M0 M' o P (xLeave P (xDrop S (wMarkAt (S.1 (cur S)) (gLevel P s + 1))) s) → Q 0 M'),
      Ci d q8_markAt [zr (o + 397 + 4 * cur S), zi (gLevel P s + 1)] M (fun x25 M24 => KW K M24 ∧ Cv d q6_drop [zr o, zr (o + 397 + 4 * cur S), zi x25] M24 (fun M28 => KW K M28 ∧ Ci d q4_around [zr (o + 1), zi s] M28 (fun x32 M31 => KW K M31 ∧ Ci d q4_behind [zr (o + 1), zi s] (sI M31 (o + 397 + 4 * cur S) 4 x32) (fun x37 M36 => KW K M36 ∧ Q 0 (sI M36 (o + 397 + 4 * cur S) 3 x37))))) := fun _ q => by
    refine (s_markAt h.1.1 hway).pure ⟨h.1.1, ?_⟩
    rw [ew]
    refine s_sdrop (by omega) h hL hS' fun M2 a2 => ⟨a2.1.1, ?_⟩
    have := s_leave (d := d) (s := s) (Q := Q) (by omega) a2 hL (by rw [cur_xDrop]; exact hc) q
    rw [cur_xDrop] at this
    exact this
  refine ⟨⟨by omega, by omega⟩, fun c => ?_, fun c => ⟨fun c7 => ⟨fun c9 => ⟨fun c6 => ?_, fun c6 => ?_⟩, fun c9 => ?_⟩, fun c7 => ?_⟩⟩
  · rw [if_pos (Or.inl c)] at q
    exact s_through (by omega) h hL hP hS' fun M1 a1 => ⟨a1.1.1, q M1 a1⟩
  · rw [if_neg (fun q => q.elim c c7), if_neg (fun q => c9 q.1), if_neg c6] at q
    exact s_leave (by omega) h hL hc q
  · rw [if_neg (fun q => q.elim c c7), if_neg (fun q => c9 q.1), if_pos (Decidable.not_not.mp c6)] at q
    exact hdrop (Decidable.not_not.mp c6) q
  · have c9 := Decidable.not_not.mp c9
    rw [if_neg (fun q => q.elim c c7)] at q
    refine (s_roundsAt h.1.1 hway).pure ⟨h.1.1, ?_⟩
    rw [ew]
    refine ⟨fun c0 => ⟨fun c6 => ?_, fun c6 => absurd c9 (by have := Decidable.not_not.mp c6; omega)⟩, fun c0 => ?_⟩
    · rw [if_neg (fun q => by omega), if_neg c6] at q
      exact s_leave (by omega) h hL hc q
    · rw [if_pos ⟨c9, by omega⟩] at q
      refine s_spend (by omega) h hL hS9 (hS6 2) (fun c2 M1 a1 => ⟨a1.1.1, fun _ => ?_, fun c3 => absurd (by decide) c3⟩) (fun c2 => ⟨h.1.1, fun c3 => absurd rfl c3, fun _ => ?_⟩)
      · rw [if_pos c2] at q
        have ew1 : gW M1 (o + 397 + 4 * cur S) = S.1 (cur S) := a1.1.way hc
        refine (s_roundsAt a1.1.1 hway).pure ⟨a1.1.1, ?_⟩
        rw [ew1]
        have := mk (gLevel P s + 1)
        refine ⟨⟨by omega, by omega⟩, (s_setRounds a1.1.1 hway).mono fun M2 ⟨k2, f2, g2⟩ => ⟨k2, ?_⟩⟩
        have a2 := a1.kW k2 hc f2 g2
        rw [ew1] at a2 g2
        refine (s_partFirst (by omega) k2 hL.prog).pure ⟨k2, ?_⟩
        rw [a2.g]
        refine (s_enter (by omega) k2 hway).mono fun M3 ⟨k3, f3, g3⟩ => ⟨k3, q M3 ?_⟩
        rw [g2] at g3
        exact a2.kW2 k3 hc f3 g3
      · rw [if_neg c2] at q
        exact q M h
  · rw [if_pos (Or.inr (Decidable.not_not.mp c7))] at q
    exact s_through (by omega) h hL hP hS' fun M1 a1 => ⟨a1.1.1, q M1 a1⟩
theorem s_assign {s : Int} {Q : Int → ZMem → Prop} (hd : 2 ≤ d) (h : Ax K M0 M o P S) (hL : SrK K o) (hP : PB P) (hS : SB P S) (q : ∀ M', Ax K M0 M' o P (xAssign P S s).2 → Q (xAssign P S s).1 M') : Ci d q6_assign [zr o, zr (o + 397 + 4 * cur S), zi s] M Q := by
  obtain ⟨d, rfl⟩ : ∃ e, d = e + 1 := ⟨d - 1, by omega⟩
  have hcur : cur S = (sC S 11).toNat := rfl
  have hc : cur S < 7 := by have := hS.2.2.2.2.2.2.1; omega
  have hway := (hL.way hc).2
  refine B6_assign o _ s h.1.1 hL.1 hway ((s_formulaOf (by omega) h.1.1 hL.prog).pure ⟨h.1.1, ?_⟩)
  rw [h.g]
  refine (s_wworth (by omega) h hL hP hS hc).pure ⟨h.1.1, fun c => ?_, fun c => ?_⟩
  · rw [xAssign, if_neg c] at q
    refine (s_detailOf (by omega) h.1.1 hL.prog).pure ⟨h.1.1, ?_⟩
    rw [h.g]
    refine (s_setValue h.1.1 hway).mono fun M1 ⟨k1, f1, g1⟩ => ⟨k1, ?_⟩
    have a1 := h.kW k1 hc f1 g1
    rw [h.1.way hc] at a1
    refine (s_behind (by omega) k1 hL.prog).pure ⟨k1, q _ ?_⟩
    rw [a1.g]
    exact a1.kWf2 hc (by omega) (by omega)
  · rw [xAssign, if_pos (Decidable.not_not.mp c)] at q
    exact s_endWay h hL fun M1 a1 => ⟨a1.1.1, q M1 a1⟩
theorem s_isSo {l s r : Int} (hK : KW K M) : Ci d q6_isSo [zi l, zi s, zi r] M (fun x M' => (x ≠ 0 ↔ gIsSo l s r = true) ∧ M' = M) := by
  have fin : ∀ x, (x ≠ 0 ↔ gIsSo l s r = true) → (fun (x : Int) M' => (x ≠ 0 ↔ gIsSo l s r = true) ∧ M' = M) x M := fun x h => ⟨h, rfl⟩
  refine B6_isSo l s r hK ⟨fun c => ⟨fun c2 => fin _ ?_, fun c2 => fin _ ?_⟩, fun c => ⟨fun c2 => fin _ ?_, fun c2 => fin _ ?_⟩, fun c => ⟨fun c2 => fin _ ?_, fun c2 => fin _ ?_⟩, fun c => ⟨fun c2 => fin _ ?_, fun c2 => fin _ ?_⟩⟩
  all_goals unfold gIsSo
  · rw [if_pos c, decide_eq_true_iff]; omega
  · rw [if_pos c, decide_eq_true_iff]; omega
  · rw [if_neg (by omega), if_pos c, decide_eq_true_iff]; omega
  · rw [if_neg (by omega), if_pos c, decide_eq_true_iff]; omega
  · rw [if_neg (by omega), if_neg (by omega), if_pos c, decide_eq_true_iff]; omega
  · rw [if_neg (by omega), if_neg (by omega), if_pos c, decide_eq_true_iff]; omega
  · rw [if_neg (by omega), if_neg (by omega), if_neg (by omega), decide_eq_true_iff]; omega
  · rw [if_neg (by omega), if_neg (by omega), if_neg (by omega), decide_eq_true_iff]; omega
end ENDS
