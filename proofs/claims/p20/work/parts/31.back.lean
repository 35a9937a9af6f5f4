/-! which point, going back, going deeper; a way is through, a part ends -/
def p0 : Pt := (w0, fun _ => 0, fun _ => 0)
def choN (st : Int) : List Pt → Int → Int → Int → Int
  | [], _, best, _ => best
  | p :: l, i, best, least => if best = -1 ∨ pWeight p st < least ∨ (pWeight p st = least ∧ ¬ (st = 1 ∨ st = 2)) then choN st l (i + 1) i (pWeight p st) else choN st l (i + 1) best least
theorem choN_range (st : Int) : ∀ (l : List Pt) (i best least : Int), 0 ≤ i → (best = -1 ∧ l ≠ [] ∨ 0 ≤ best ∧ best < i + l.length) → 0 ≤ choN st l i best least ∧ choN st l i best least < i + l.length
  | [], i, best, least, hi, hb => by
    rcases hb with hb | hb
    · exact absurd rfl hb.2
    · exact hb
  | p :: l, i, best, least, hi, hb => by
    rw [choN]
    have e : ((p :: l).length : Int) = l.length + 1 := by simp
    split
    · have := choN_range st l (i + 1) i (pWeight p st) (by omega) (Or.inr ⟨hi, by omega⟩)
      omega
    · rename_i h
      have := choN_range st l (i + 1) best least (by omega) (Or.inr ⟨by omega, by omega⟩)
      omega
def xChosen (S : Sr) : Int := choN (sC S 8) S.2.1 0 (-1) 0
def xGoBackInNot (P : Pg) (S : Sr) : Int × Sr :=
  if sB S (cur S) < S.2.2.1.length then (if 0 < sC S 13 then (0, xTake P (xSpend S) true (S.2.2.1.length - 1) ((S.2.2.1[S.2.2.1.length - 1]?).getD p0)) else (2, S))
  else (0, uW (uC (uC S 11 (sC S 11 - 1)) 12 1) (cur S - 1) (fup (S.1 (cur S - 1)).1 3 (gBehind P ((S.1 (cur S - 1)).1 3)), (S.1 (cur S - 1)).2))
def xGoDeeper (S : Sr) : Int × Sr := if sC S 8 = 5 ∧ sC S 10 ≠ 0 then (0, xStartWay (uC S 9 (sC S 9 + 1))) else (3, uC S 7 2)
def xTally2 (S : Sr) (u : Int) : Sr := uT (uT S 6 (sT S 6 + 1)) 8 (sT S 8 + u)
def xGoBack (P : Pg) (S : Sr) : Int × Sr :=
  if 0 < sC S 11 then xGoBackInNot P S
  else if S.2.1.length = 0 then xGoDeeper S
  else if 0 < sC S 13 then (0, xTake P (xTally2 (xSpend S) (unlN (S.1 (cur S)).2.1 ((S.2.1[(xChosen S).toNat]?).getD p0).1.2.1 8)) false (xChosen S).toNat ((S.2.1[(xChosen S).toNat]?).getD p0))
  else (2, S)
def xThrough (P : Pg) (S : Sr) : Int × Sr :=
  if 0 < sC S 11 then (0, uC (uN (uC S 12 0) (S.2.2.1.take (sB S (cur S)).toNat)) 11 (sC S 11 - 1))
  else if sC S 8 = 5 ∧ (S.1 (cur S)).1 5 ≠ sC S 9 then (0, uC S 12 0)
  else if (sQ S).2 < 60 then (1, uA (uC S 12 0) (aAdd (sQ S) (aRow (S.1 (cur S)) (gPrice P (S.1 (cur S)).2.1) (sT S 2))))
  else (5, uC (uC S 12 0) 7 2)
def xLeave (P : Pg) (S : Sr) (s : Int) : Sr := uW S (cur S) (fup (fup (S.1 (cur S)).1 4 (gAround P s)) 3 (gBehind P s), (S.1 (cur S)).2)
def xEndPart (P : Pg) (S : Sr) : Int × Sr :=
  if (S.1 (cur S)).1 4 = -1 ∨ gKind P ((S.1 (cur S)).1 4) = 7 then xThrough P S
  else if gKind P ((S.1 (cur S)).1 4) = 9 ∧ 0 < wRoundsAt (S.1 (cur S)) (gLevel P ((S.1 (cur S)).1 4) + 1) then
    (if 0 < sC S 13 then (0, uW (xSpend S) (cur S) (wEnter (wSetRounds (S.1 (cur S)) (gLevel P ((S.1 (cur S)).1 4) + 1) (wRoundsAt (S.1 (cur S)) (gLevel P ((S.1 (cur S)).1 4) + 1) - 1)) ((S.1 (cur S)).1 4) (gPartFirst P ((S.1 (cur S)).1 4) 0) (gLevel P ((S.1 (cur S)).1 4) + 1))) else (2, S))
  else if gKind P ((S.1 (cur S)).1 4) = 6 then (0, xLeave P (xDrop S (wMarkAt (S.1 (cur S)) (gLevel P ((S.1 (cur S)).1 4) + 1))) ((S.1 (cur S)).1 4))
  else (0, xLeave P S ((S.1 (cur S)).1 4))
theorem pB_getD {P : Pg} {l : List Pt} {i : Nat} (h : ∀ p ∈ l, pB P p) (hi : i < l.length) : l[i]? = some ((l[i]?).getD p0) ∧ pB P ((l[i]?).getD p0) := by
  rw [List.getElem?_eq_getElem hi]
  exact ⟨rfl, h _ (List.getElem_mem hi)⟩
theorem cur_xDrop {S : Sr} {x : Int} : cur (xDrop S x) = cur S := by
  unfold xDrop
  split <;> rfl
section BACK
variable {d : Nat} {K M0 M M' : ZMem} {o : Nat} {P : Pg} {S : Sr}
theorem s_chosen_loop {Q : Int → ZMem → Prop} (h : Ax K M0 M o P S) (hL : SrK K o) (hB : ∀ p ∈ S.2.1, pB P p) (hlen : S.2.1.length ≤ 30) : ∀ (j n : Nat) (best least : Int), n + j = S.2.1.length → Q (choN (sC S 8) (S.2.1.drop n) n best least) M → Xi (d + 1) q6_chosen 29 [some (zr o), some (zi (if sC S 8 = 1 ∨ sC S 8 = 2 then 1 else 0)), some (zi best), some (zi least), some (zi n), none, none] [] M Q
  | 0, n, best, least, e, q => by
    rw [List.drop_eq_nil_of_le (by omega)] at q
    exact B6_chosen_29 o _ best least n h.1.1 hL.1 ⟨fun _ => q, fun c => absurd c (by rw [h.1.plen]; omega)⟩
  | j + 1, n, best, least, e, q => by
    have hn : n < S.2.1.length := by omega
    have hp := hB _ (List.getElem_mem hn)
    have hrn : inR ((n : Int) + 1) := ⟨by omega, by omega⟩
    rw [List.drop_eq_getElem_cons hn, choN] at q
    have ih := s_chosen_loop (Q := Q) h hL hB hlen j (n + 1)
    have e8 : mI M o 8 = sC S 8 := h.1.c (by omega) (by omega)
    have hps := h.1.2.1
    have hsz : n < (mI M (o + 20) 1).toNat := by rw [h.1.plen]; omega
    have hgp : gP M (mR M (o + 20 + 1) n) = S.2.1[n] := by
      have e := gL_get hsz
      rw [h.1.pts, List.getElem?_eq_getElem hn] at e
      exact (Option.some.inj e).symm
    have hrow := hps.row (i := n) (by omega)
    have hat := hps.at hL.2.1 (i := n) (by omega)
    obtain ⟨hw5, hw6, hw3⟩ := hp.1.2
    refine B6_chosen_29 o _ best least n h.1.1 hL.1 ⟨fun c => absurd c (by rw [h.1.plen]; omega), fun _ => (s_openAt h.1.1 hL.2.1 hps).pure ⟨h.1.1, ?_⟩⟩
    rw [if_pos (by rw [h.1.plen]; omega), Int.toNat_natCast]
    refine ⟨fun _ => ⟨hat, (s_weight h.1.1 hat (by rw [hgp]; exact ⟨⟨by omega, by omega⟩, ⟨by omega, by omega⟩⟩)).pure ⟨h.1.1, ?_⟩⟩, fun c => absurd c (by omega)⟩
    rw [hgp, e8]
    have yes : (best = -1 ∨ pWeight S.2.1[n] (sC S 8) < least ∨ (pWeight S.2.1[n] (sC S 8) = least ∧ ¬ (sC S 8 = 1 ∨ sC S 8 = 2))) → inR ((n : Int) + 1) ∧ Xi (d + 1) q6_chosen 29 [some (zr o), some (zi (if sC S 8 = 1 ∨ sC S 8 = 2 then 1 else 0)), some (zi n), some (zi (pWeight S.2.1[n] (sC S 8))), some (zi ((n : Int) + 1)), none, none] [] M Q := fun c => ⟨hrn, ih _ _ (by omega) (by rw [if_pos c] at q; exact q)⟩
    have no : ¬ (best = -1 ∨ pWeight S.2.1[n] (sC S 8) < least ∨ (pWeight S.2.1[n] (sC S 8) = least ∧ ¬ (sC S 8 = 1 ∨ sC S 8 = 2))) → inR ((n : Int) + 1) ∧ Xi (d + 1) q6_chosen 29 [some (zr o), some (zi (if sC S 8 = 1 ∨ sC S 8 = 2 then 1 else 0)), some (zi best), some (zi least), some (zi ((n : Int) + 1)), none, none] [] M Q := fun c => ⟨hrn, ih _ _ (by omega) (by rw [if_neg c] at q; exact q)⟩
    have ho : (if sC S 8 = 1 ∨ sC S 8 = 2 then (1 : Int) else 0) ≠ 0 ↔ (sC S 8 = 1 ∨ sC S 8 = 2) := by split <;> simp_all
    refine ⟨fun c => yes (Or.inl c), fun c => ⟨fun c2 => yes (Or.inr (Or.inl c2)), fun c2 => ⟨fun c3 => no (by omega), fun c3 => ⟨fun c4 => no ?_, fun c4 => yes ?_⟩⟩⟩⟩
    · have := ho.mp c4; omega
    · have : ¬ (sC S 8 = 1 ∨ sC S 8 = 2) := fun q => c4 (ho.mpr q)
      omega
theorem s_chosen (hd : 1 ≤ d) (h : Ax K M0 M o P S) (hL : SrK K o) (hB : ∀ p ∈ S.2.1, pB P p) (hlen : S.2.1.length ≤ 30) : Ci d q6_chosen [zr o] M (fun x M' => x = xChosen S ∧ M' = M) := by
  obtain ⟨d, rfl⟩ : ∃ e, d = e + 1 := ⟨d - 1, by omega⟩
  have e8 : mI M o 8 = sC S 8 := h.1.c (by omega) (by omega)
  have l := s_chosen_loop (d := d) (Q := fun x M' => x = xChosen S ∧ M' = M) h hL hB hlen S.2.1.length 0 (-1) 0 (by omega) ⟨rfl, rfl⟩
  refine B6_chosen o h.1.1 hL.1 ⟨fun c => ?_, fun c => ⟨fun c2 => ?_, fun c2 => ?_⟩⟩
  · rw [if_pos (by omega)] at l; exact l
  · rw [if_neg (by omega)] at l; exact l
  · rw [if_pos (by omega)] at l; exact l
theorem s_tallyF {k : Nat} {x : Int} {Q : ZMem → Prop} (h : Ax K M0 M o P S) (hL : SrK K o) (hk : k < 9) (hr : inR (sT S k + x)) (q : ∀ M', Ax K M0 M' o P (uT S k (sT S k + x)) → Fr (bk (o + 426) 1) M M' → Q M') : Cv d q6_tally [zr o, zi k, zi x] M Q := by
  have e : mI M (o + 426) k = sT S k := h.1.t hk
  refine B6_tally o k x h.1.1 hL.1 ⟨fun c => absurd c (by omega), fun c => ⟨fun c => absurd c (by omega), fun c => ⟨by omega, by omega, ?_, by omega, by omega, ?_⟩⟩⟩
  · rw [Int.toNat_natCast, e]; exact hr
  · rw [Int.toNat_natCast, e]; exact q _ (h.kT hk) (Fr.refl.sI ⟨by omega, by omega⟩)
theorem s_goBackInNot {Q : Int → ZMem → Prop} (hd : 4 ≤ d) (h : Ax K M0 M o P S) (hL : SrK K o) (hP : PB P) (hS : SB P S) (hn : 0 < sC S 11) (q : ∀ M', Ax K M0 M' o P (xGoBackInNot P S).2 → Q (xGoBackInNot P S).1 M') : Ci d q6_goBackInNot [zr o] M Q := by
  obtain ⟨d, rfl⟩ : ∃ e, d = e + 1 := ⟨d - 1, by omega⟩
  obtain ⟨hS1, hS2, hS3, hS4, hS5, hS6, hS7, hS8, hS9, hS10, hS11⟩ := hS
  have hcur : cur S = (sC S 11).toNat := rfl
  have hc : cur S < 7 := by omega
  refine B6_goBackInNot o h.1.1 hL.1 ((s_baseOfNot h hL hS7).pure ⟨h.1.1, fun c => ?_, fun c => ?_⟩)
  · rw [h.1.nlen] at c
    rw [← hcur] at c
    have hb := hS11 (cur S) (by omega) (by omega)
    rw [xGoBackInNot, if_pos c] at q
    refine s_spend (by omega) h hL hS9 (hS6 2) (fun c2 M1 a1 => ⟨a1.1.1, fun _ => ?_, fun c3 => absurd (by decide) c3⟩) (fun c2 => ⟨h.1.1, fun c3 => absurd rfl c3, fun _ => ?_⟩)
    · rw [if_pos c2] at q
      have en : mI M1 (o + 208) 1 = S.2.2.1.length := a1.1.nlen
      rw [en, show ((S.2.2.1.length : Nat) : Int) - 1 = ((S.2.2.1.length - 1 : Nat) : Int) by omega]
      obtain ⟨hg, hpb⟩ := pB_getD (i := S.2.2.1.length - 1) hS3 (by omega)
      refine ⟨⟨by omega, by omega⟩, s_take (b := true) (S := xSpend S) (by omega) a1 hL hP hS7 hS5 hg hpb fun M2 a2 => ⟨a2.1.1, q M2 a2⟩⟩
    · rw [if_neg c2] at q
      exact q M h
  · rw [h.1.nlen] at c
    rw [← hcur] at c
    rw [xGoBackInNot, if_neg c] at q
    have e11 : mI M o 11 = sC S 11 := h.1.c (by omega) (by omega)
    rw [e11]
    have a1 := (h.kC (k := 11) (x := sC S 11 - 1) (by omega) (by omega)).kC (k := 12) (x := 1) (by omega) (by omega)
    refine ⟨⟨by omega, by omega⟩, (s_currentWay a1 hL (by show 0 ≤ sC S 11 - 1 ∧ sC S 11 - 1 ≤ 6; omega)).pure ⟨a1.1.1, ?_⟩⟩
    show _ ∧ _
    have ec : (sC (uC (uC S 11 (sC S 11 - 1)) 12 1) 11).toNat = cur S - 1 := by show (sC S 11 - 1).toNat = _; omega
    rw [ec]
    refine ⟨(hL.way (by omega)).2, (s_behind (by omega) a1.1.1 hL.prog).pure ⟨a1.1.1, q _ ?_⟩⟩
    rw [a1.g, a1.w3 (i := cur S - 1) (by omega) (by omega) (by omega)]
    exact a1.kWf (by omega) (by omega) (by omega)
theorem s_goDeeper {Q : Int → ZMem → Prop} (hd : 3 ≤ d) (h : Ax K M0 M o P S) (hL : SrK K o) (hb : 0 ≤ sC S 9 ∧ sC S 9 ≤ 100000000) (q : ∀ M', Ax K M0 M' o P (xGoDeeper S).2 → Q (xGoDeeper S).1 M') : Ci d q6_goDeeper [zr o] M Q := by
  obtain ⟨d, rfl⟩ : ∃ e, d = e + 1 := ⟨d - 1, by omega⟩
  have e8 : mI M o 8 = sC S 8 := h.1.c (by omega) (by omega)
  have e9 : mI M o 9 = sC S 9 := h.1.c (by omega) (by omega)
  have e10 : mI M o 10 = sC S 10 := h.1.c (by omega) (by omega)
  refine B6_goDeeper o h.1.1 hL.1 ?_
  rw [e8, e9, e10]
  refine ⟨fun c => ?_, fun c => ⟨fun c2 => ⟨⟨by omega, by omega⟩, ?_⟩, fun c2 => ?_⟩⟩
  · rw [xGoDeeper, if_neg (fun q => c q.1)] at q
    exact s_finish h hL fun M1 a1 => ⟨a1.1.1, q M1 a1⟩
  · rw [xGoDeeper, if_pos ⟨Decidable.not_not.mp c, c2⟩] at q
    exact s_startWay (by omega) (h.kC (by omega) (by omega)) hL fun M1 a1 => ⟨a1.1.1, q M1 a1⟩
  · rw [xGoDeeper, if_neg (fun q => c2 q.2)] at q
    exact s_finish h hL fun M1 a1 => ⟨a1.1.1, q M1 a1⟩
theorem s_goBack {Q : Int → ZMem → Prop} (hd : 5 ≤ d) (h : Ax K M0 M o P S) (hL : SrK K o) (hP : PB P) (hS : SB P S) (q : ∀ M', Ax K M0 M' o P (xGoBack P S).2 → Q (xGoBack P S).1 M') : Ci d q6_goBack [zr o, zr (o + 397 + 4 * cur S)] M Q := by
  obtain ⟨d, rfl⟩ : ∃ e, d = e + 1 := ⟨d - 1, by omega⟩
  have hS' := hS
  obtain ⟨hS1, hS2, hS3, hS4, hS5, hS6, hS7, hS8, hS9, hS10, hS11⟩ := hS
  have hcur : cur S = (sC S 11).toNat := rfl
  have hc : cur S < 7 := by omega
  have e11 : mI M o 11 = sC S 11 := h.1.c (by omega) (by omega)
  refine B6_goBack o _ h.1.1 hL.1 (hL.way hc).2 ⟨fun c => ⟨fun c2 => ?_, fun c2 => ?_⟩, fun c => ?_⟩
  · rw [h.1.plen] at c2
    rw [xGoBack, if_neg (by omega), if_neg (by omega)] at q
    refine s_spend (by omega) h hL hS9 (hS6 2) (fun c3 M1 a1 => ⟨a1.1.1, fun _ => ?_, fun c3 => absurd (by decide) c3⟩) (fun c3 => ⟨h.1.1, fun c4 => absurd rfl c4, fun _ => ?_⟩)
    · rw [if_pos c3] at q
      have hr := choN_range (sC S 8) S.2.1 0 (-1) 0 (by omega) (Or.inl ⟨rfl, fun e => c2 (by rw [e]; rfl)⟩)
      have hch : xChosen S = choN (sC S 8) S.2.1 0 (-1) 0 := rfl
      rw [← hch] at hr
      have hi : (xChosen S).toNat < S.2.1.length := by omega
      obtain ⟨hg, hpb⟩ := pB_getD hS2 hi
      generalize ((S.2.1[(xChosen S).toNat]?).getD p0) = p at *
      refine (s_chosen (S := xSpend S) (by omega) a1 hL hS2 hS4).pure ⟨a1.1.1, (s_openAt a1.1.1 hL.2.1 a1.1.2.1).pure ⟨a1.1.1, ?_⟩⟩
      have ech : xChosen (xSpend S) = xChosen S := rfl
      have epl : mI M1 (o + 20) 1 = S.2.1.length := a1.1.plen
      rw [ech, if_pos (by rw [epl]; omega)]
      have hps := a1.1.2.1
      have hrow := hps.row (i := (xChosen S).toNat) (by omega)
      have hat := hps.at hL.2.1 (i := (xChosen S).toNat) (by omega)
      have hgp : gP M1 (mR M1 (o + 20 + 1) (xChosen S).toNat) = p := by
        have e := gL_get (M := M1) (p := o + 20) (i := (xChosen S).toNat) (by omega)
        rw [a1.1.pts] at e
        have e2 : (xSpend S).2.1[(xChosen S).toNat]? = some p := hg
        rw [e2] at e
        exact (Option.some.inj e).symm
      have ht6 := hS6 6
      have ht8 := hS6 8
      refine ⟨fun c4 => absurd c4 (by omega), fun _ => s_tallyF (k := 6) a1 hL (by omega) (show inR (sT S 6 + 1) from ⟨by omega, by omega⟩) fun M2 a2 f2 => ⟨a2.1.1, hat, (s_unlike (by omega) a2.1.1 (hL.way hc).2 hat.2.2.2.2).pure ⟨a2.1.1, ?_⟩⟩⟩
      have hw1 : gW M2 (o + 397 + 4 * cur S) = S.1 (cur S) := a2.1.way hc
      have hgp2 : gP M2 (mR M1 (o + 20 + 1) (xChosen S).toNat) = p := by
        have er : mR M2 (o + 20 + 1) (xChosen S).toNat = mR M1 (o + 20 + 1) (xChosen S).toNat := f2.r (fun q => by unfold bk at q; omega) _
        have e := gL_get (M := M2) (p := o + 20) (i := (xChosen S).toNat) (by rw [a2.1.plen]; exact (by omega : (xChosen S).toNat < (S.2.1.length : Int).toNat))
        rw [a2.1.pts, er] at e
        have e2 : (uT (xSpend S) 6 (sT (xSpend S) 6 + 1)).2.1[(xChosen S).toNat]? = some p := hg
        rw [e2] at e
        exact (Option.some.inj e).symm
      have hw2 : gW M2 (mR M1 (o + 20 + 1) (xChosen S).toNat + 1) = p.1 := congrArg Prod.fst hgp2
      rw [hw1, hw2]
      have hu := unlN_le (S.1 (cur S)).2.1 p.1.2.1 8
      refine s_tally (k := 8) a2 hL (by omega) (show inR (sT S 8 + _) from ⟨by omega, by omega⟩) fun M3 a3 => ⟨a3.1.1, ?_⟩
      rw [show xChosen S = (((xChosen S).toNat : Nat) : Int) by omega]
      exact s_take (b := false) (S := xTally2 (xSpend S) (unlN (S.1 (cur S)).2.1 p.1.2.1 8)) (by omega) a3 hL hP hS7 hS4 hg hpb fun M4 a4 => ⟨a4.1.1, q M4 a4⟩
    · rw [if_neg c3] at q
      exact q M h
  · rw [h.1.plen] at c2
    rw [xGoBack, if_neg (by omega), if_pos (by omega)] at q
    exact s_goDeeper (by omega) h hL hS8 fun M1 a1 => ⟨a1.1.1, q M1 a1⟩
  · rw [xGoBack, if_pos (by omega)] at q
    exact s_goBackInNot (by omega) h hL hP hS' (by omega) fun M1 a1 => ⟨a1.1.1, q M1 a1⟩
end BACK
