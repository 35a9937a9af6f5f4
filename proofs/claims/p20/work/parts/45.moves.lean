/-! the other moves: a test, an end, a taking, deeper, done -/
def Fin3 (c : Nm) (st : Int) (S : Sr) : Prop := S.2.1 = [] ∧ Rl st (aL (sQ S)) (AL c) ∧ (st = 5 → AL c ≠ [] → sC S 9 = 3) ∧ sC S 12 = 0
section MVS
variable {c : Nm} {st : Int} {P : Pg} {S : Sr}
theorem mv_test (hP : PF c P) (hB : NmB c) (h : Iv c st S) (h12 : sC S 12 = 1) (hw : Shp c 3 3 (S.1 0)) (hb : 0 < sC S 13) : (xTest P (xSpend S) 3).1 = 0 ∧ Gd c st S (xTest P (xSpend S) 3).2 0 := by
  obtain ⟨⟨i1, ⟨i2, i3, i4, i5⟩, i6, i7, i8, i9⟩, h2, h3⟩ := h
  have hcur : cur (xSpend S) = 0 := by show (sC S 11).toNat = 0; rw [i2]; rfl
  have hL := (i7.resolve_left fun q => by omega).2.2
  have hf := hw.sml hB
  obtain ⟨⟨v0, v1, v2, v5, v6, v7, v8⟩, -⟩ := hP.2.2.2.2.2.2 _ hf
  have g0 : gForm P 3 = 7 := hP.form (s := 3) (by decide)
  have g1 : gDetail P 3 = nmS c := hP.det (s := 3) (by decide)
  have g2 : gBehind P 3 = -1 := hP.beh (s := 3) (by decide)
  have b := hB
  obtain ⟨b1, b2, b3, b4, b5⟩ := b
  have hbu : 0 ≤ (S.1 0).2.1 1 * nmU c ∧ (S.1 0).2.1 1 * nmU c ≤ 32 := by
    obtain ⟨h3, h4⟩ := hf.2.1
    refine ⟨Int.mul_nonneg h3 b3.1, ?_⟩
    have : (S.1 0).2.1 1 * nmU c ≤ 8 * 4 := Int.mul_le_mul h4 b3.2 b3.1 (by decide)
    omega
  have h3' := h3
  obtain ⟨a1, a2, a3, a4, a5, a6⟩ := h3'
  have hWon : ∀ a b l, zW c a b l S = 2 * l + rW c a b l S.2.1 := fun a b l => by rw [zW_on h12, wWt_3 hw]
  have hAw := wA_3 hw
  have t2 : ∀ S' : Sr, sT S' 2 = sT S 2 + 1 → sC S' 13 = sC S 13 - 1 → sT S' 2 + sC S' 13 = sT S 2 + sC S 13 ∧ sC S 13 ≤ sC S' 13 + 1 ∧ sT S 2 ≤ sT S' 2 := fun S' q1 q2 => by omega
  have eX : xTest P (xSpend S) 3 = if qTest c (S.1 0).2.1 = false then (0, uC (xSpend S) 12 0) else (0, xOn P (xSpend S) 3) := by
    unfold xTest
    rw [hcur]
    show (if fWorth P.2.1 (gForm P 3) (S.1 0).2.1 = 999999 ∨ fWorth P.2.1 (gForm P 3 + 1) (S.1 0).2.1 = 999999 ∨ gIsSo (fWorth P.2.1 (gForm P 3) (S.1 0).2.1) (gDetail P 3) (fWorth P.2.1 (gForm P 3 + 1) (S.1 0).2.1) = false then _ else _) = _
    rw [g0, g1, show (7 : Int) + 1 = 8 from rfl, v7, v8]
    by_cases q : qTest c (S.1 0).2.1 = false
    · rw [if_pos q, if_pos]
      exact Or.inr (Or.inr q)
    · rw [if_neg q, if_neg]
      rintro (q1 | q1 | q1)
      · have := hf.1; omega
      · have := hf.2.2; omega
      · exact q q1
  rw [eX]
  by_cases q : qTest c (S.1 0).2.1 = false
  · rw [if_pos q]
    have eW : ∀ a b l, 2 * l + zW c a b l (uC (xSpend S) 12 0) = zW c a b l S := fun a b l => by
      rw [hWon, zW_off rfl]
      rfl
    have w1 := eW 1 1 1
    have w2 := eW 1 0 0
    have w3 := eW 0 1 0
    obtain ⟨g1, g2⟩ := Iv3_mk (S' := uC (xSpend S) 12 0) h3 rfl (by omega) (fun k k2 _ _ _ _ => fup_ne k2) ⟨by show sT S 2 ≤ sT S 2 + 1; omega, by show sT S 2 + 1 ≤ sT S 2 + 1; omega⟩ ⟨by show sT S 5 ≤ sT S 5; omega, by show sT S 5 ≤ sT S 5 + 1; omega⟩ ⟨by show sT S 6 ≤ sT S 6; omega, by show sT S 6 ≤ sT S 6 + 1; omega⟩ ⟨by show sT S 8 ≤ sT S 8; omega, by show sT S 8 ≤ sT S 8 + 8; omega⟩ ⟨by show 0 ≤ sT S 4; omega, by show sT S 4 ≤ sT S 5; omega⟩ a4.2 (by show S.2.1.length + _ ≤ _; omega) (fun q => by show sT S 6 + _ = _; omega)
    have eA : zA c (uC (xSpend S) 12 0) = zA c S := by
      rw [zA_off rfl, zA_on h12, hAw, q]
      rfl
    refine ⟨rfl, ⟨⟨i1, ⟨i2, i3, i4, i5⟩, by show 0 ≤ sC S 13 - 1 ∧ sC S 13 - 1 ≤ 2000; omega, Or.inl rfl, i8, i9⟩, ⟨h2.1, ?_⟩, g1⟩, g2, by show (sQ S).2 = (sQ S).2 + 0; omega, t2 _ rfl rfl⟩
    rw [eA]
    exact h2.2
  · rw [if_neg q]
    have qt : qTest c (S.1 0).2.1 = true := by
      cases hq : qTest c (S.1 0).2.1
      · exact absurd hq q
      · rfl
    generalize hw2 : (fup (S.1 0).1 3 (-1), (S.1 0).2) = w2
    have hsh : Shp c (-1) 3 w2 := by
      rw [← hw2]
      exact ⟨⟨rfl, hw.1.2⟩, hw.2⟩
    have hv : w2.2.1 = (S.1 0).2.1 := by rw [← hw2]
    have eO : xOn P (xSpend S) 3 = uW (xSpend S) 0 w2 := by
      unfold xOn
      rw [hcur, g2, ← hw2]
      rfl
    rw [eO]
    have eW : ∀ a b l, l + zW c a b l (uW (xSpend S) 0 w2) = zW c a b l S := fun a b l => by
      rw [hWon, zW_on (S := uW (xSpend S) 0 w2) h12, uW_at, wWt_e hsh]
      show l + (l + rW c a b l S.2.1) = _
      omega
    have w1 := eW 1 1 1
    have w2' := eW 1 0 0
    have w3 := eW 0 1 0
    obtain ⟨g1, g2⟩ := Iv3_mk (S' := uW (xSpend S) 0 w2) h3 rfl (by omega) (fun k k2 _ _ _ _ => fup_ne k2) ⟨by show sT S 2 ≤ sT S 2 + 1; omega, by show sT S 2 + 1 ≤ sT S 2 + 1; omega⟩ ⟨by show sT S 5 ≤ sT S 5; omega, by show sT S 5 ≤ sT S 5 + 1; omega⟩ ⟨by show sT S 6 ≤ sT S 6; omega, by show sT S 6 ≤ sT S 6 + 1; omega⟩ ⟨by show sT S 8 ≤ sT S 8; omega, by show sT S 8 ≤ sT S 8 + 8; omega⟩ ⟨by show 0 ≤ sT S 4; omega, by show sT S 4 ≤ sT S 5; omega⟩ a4.2 (by show S.2.1.length + _ ≤ _; omega) (fun q => by show sT S 6 + _ = _; omega)
    have eA : zA c (uW (xSpend S) 0 w2) = zA c S := by
      rw [zA_on (S := uW (xSpend S) 0 w2) h12, zA_on h12, uW_at, hAw, wA_3 hsh, hv]
      rfl
    refine ⟨rfl, ⟨⟨fun i => ?_, ⟨i2, i3, i4, i5⟩, by show 0 ≤ sC S 13 - 1 ∧ sC S 13 - 1 ≤ 2000; omega, Or.inr ⟨h12, Or.inr ⟨by rw [uW_at]; exact hsh, by rw [uW_at, hv]; exact qt⟩, ?_⟩, i8, i9⟩, ⟨h2.1, ?_⟩, g1⟩, g2, by show (sQ S).2 = (sQ S).2 + 0; omega, t2 _ rfl rfl⟩
    · show wB (fup S.1 0 w2 i)
      unfold fup
      split
      · exact hsh.2.2.1
      · exact i1 i
    · rw [uW_at, hsh.1.2.2]
      rw [hw.1.2.2] at hL
      exact hL
    · rw [eA]
      exact h2.2
theorem mv_end (hP : PF c P) (hB : NmB c) (h : Iv c st S) (h12 : sC S 12 = 1) (hw : Shp c (-1) 3 (S.1 0)) (hq : qTest c (S.1 0).2.1 = true) : (xEndPart P S).1 = 1 ∧ Gd c st S (xEndPart P S).2 1 := by
  obtain ⟨⟨i1, ⟨i2, i3, i4, i5⟩, i6, i7, i8, i9⟩, h2, h3⟩ := h
  have hcur : cur S = 0 := by show (sC S 11).toNat = 0; rw [i2]; rfl
  have hL := (i7.resolve_left fun q => by omega).2.2
  rw [hw.1.2.2] at hL
  have hL3 : stL st S = 3 := by unfold stL at hL ⊢; split <;> omega
  have hf := hw.sml hB
  obtain ⟨-, vp⟩ := hP.2.2.2.2.2.2 _ hf
  have hA3 := wA_3 hw
  rw [if_pos hq] at hA3
  have hn := h2.n54 hB
  rw [if_pos hL3, zA_on h12, hA3] at hn
  have hn60 : (sQ S).2 < 60 := by
    have := hn.2
    rw [List.length_append] at this
    omega
  obtain ⟨q1, q2, q3⟩ := h2.2.resolve_left fun q => by omega
  generalize hr : aRow (S.1 0) (gPrice P (S.1 0).2.1) (sT S 2) = r
  have r0 : r 0 = (S.1 0).2.1 0 := by rw [← hr]; rfl
  have r1 : r 1 = (S.1 0).2.1 1 := by rw [← hr]; rfl
  have r2 : r 2 = (S.1 0).2.1 2 := by rw [← hr]; rfl
  have r8 : r 8 = 3 := by rw [← hr]; exact hw.1.2.2
  have r10 : r 10 = r 0 * r 1 - r 2 := by rw [r0, r1, r2, ← vp, ← hr]; rfl
  have r3 : ∀ k : Nat, 3 ≤ k → k < 8 → r k = 0 := fun k k1 k2 => by
    rw [← hr]
    show (if k < 8 then (S.1 0).2.1 k else _) = 0
    rw [if_pos k2]
    exact hw.2.2.2.1 k k1
  have eX : xEndPart P S = (1, uA (uC S 12 0) (aAdd (sQ S) r)) := by
    unfold xEndPart
    rw [hcur, if_pos (Or.inl hw.1.2.1)]
    unfold xThrough
    rw [if_neg (by omega), hcur, if_neg, if_pos hn60, hr]
    rintro ⟨k1, k2⟩
    rw [hw.1.2.2] at k2
    unfold stL at hL3
    rw [if_pos (i5.symm.trans k1)] at hL3
    exact k2 hL3.symm
  rw [eX]
  have h3' := h3
  obtain ⟨a1, a2, a3, a4, a5, a6⟩ := h3'
  have eW : ∀ a b l, l + zW c a b l (uA (uC S 12 0) (aAdd (sQ S) r)) = zW c a b l S := fun a b l => by
    rw [zW_on h12, wWt_e hw, zW_off (S := uA (uC S 12 0) (aAdd (sQ S) r)) rfl]
    rfl
  have w1 := eW 1 1 1
  have w2 := eW 1 0 0
  have w3 := eW 0 1 0
  obtain ⟨g1, g2⟩ := Iv3_mk (S' := uA (uC S 12 0) (aAdd (sQ S) r)) h3 rfl (by omega) (fun k _ _ _ _ _ => rfl) ⟨by show sT S 2 ≤ sT S 2; omega, by show sT S 2 ≤ sT S 2 + 1; omega⟩ ⟨by show sT S 5 ≤ sT S 5; omega, by show sT S 5 ≤ sT S 5 + 1; omega⟩ ⟨by show sT S 6 ≤ sT S 6; omega, by show sT S 6 ≤ sT S 6 + 1; omega⟩ ⟨by show sT S 8 ≤ sT S 8; omega, by show sT S 8 ≤ sT S 8 + 8; omega⟩ ⟨by show 0 ≤ sT S 4; omega, by show sT S 4 ≤ sT S 5; omega⟩ a4.2 (by show S.2.1.length + _ ≤ _; omega) (fun q => by show sT S 6 + _ = _; omega)
  refine ⟨rfl, ⟨⟨i1, ⟨i2, i3, i4, i5⟩, i6, Or.inl rfl, i8, i9⟩, ⟨aOK_add h2.1 hn60 r8 r10 r3, Or.inr ⟨hL3, q2, ?_⟩⟩, g1⟩, g2, rfl, rfl, by show sC S 13 ≤ sC S 13 + 1; omega, by show sT S 2 ≤ sT S 2; omega⟩
  have e : aL (aAdd (sQ S) r) ++ zA c (uA (uC S 12 0) (aAdd (sQ S) r)) = aL (sQ S) ++ zA c S := by
    rw [aL_add h2.1.1 hn60, zA_off (S := uA (uC S 12 0) (aAdd (sQ S) r)) rfl, zA_on h12, hA3, r0, r1, r2, List.append_assoc]
    rfl
  show Rl st (aL (aAdd (sQ S) r) ++ zA c (uA (uC S 12 0) (aAdd (sQ S) r))) (AL c)
  rw [e]
  exact q3
theorem cho_last (hst : st = 0 ∨ st = 5) : ∀ (l : List Pt) (i best : Int), choN st l i best 0 = if l.length = 0 then best else i + l.length - 1
  | [], i, best => rfl
  | p :: l, i, best => by
    have hw : pWeight p st = 0 := by
      unfold pWeight
      rw [if_neg (by omega), if_neg (by omega)]
    rw [choN, if_pos (Or.inr (Or.inr ⟨hw, by omega⟩)), hw, cho_last hst l]
    rw [if_neg (show ¬ (p :: l).length = 0 by simp)]
    by_cases q : l.length = 0
    · rw [if_pos q]
      show i = i + ((l.length + 1 : Nat) : Int) - 1
      omega
    · rw [if_neg q]
      show i + 1 + (l.length : Int) - 1 = i + ((l.length + 1 : Nat) : Int) - 1
      omega
theorem mv_take (hP : PF c P) (hB : NmB c) (h : Iv c st S) (h12 : sC S 12 = 0) (hne : S.2.1.length ≠ 0) (hb : 0 < sC S 13) : (xGoBack P S).1 = 0 ∧ Gd c st S (xGoBack P S).2 0 := by
  obtain ⟨⟨i1, ⟨i2, i3, i4, i5⟩, i6, i7, i8, i9⟩, h2, h3⟩ := h
  have hcur : cur S = 0 := by show (sC S 11).toNat = 0; rw [i2]; rfl
  have hch := choN_range (sC S 8) S.2.1 0 (-1) 0 (Int.le_refl 0) (Or.inl ⟨rfl, fun q => hne (by rw [q]; rfl)⟩)
  have hch' : 0 ≤ xChosen S ∧ xChosen S < 0 + S.2.1.length := hch
  generalize hi : (xChosen S).toNat = i
  have hil : i < S.2.1.length := by omega
  obtain ⟨p, hp⟩ : ∃ p, S.2.1[i]? = some p := ⟨S.2.1[i], List.getElem?_eq_getElem hil⟩
  have hst : st = 0 ∨ st = 5 → i + 1 = S.2.1.length := fun q => by
    have e : xChosen S = choN (sC S 8) S.2.1 0 (-1) 0 := rfl
    rw [i5, cho_last q, if_neg hne] at e
    omega
  obtain ⟨k1, k2, k3, k4, k5, k6, k7⟩ := tk_all (i := i) hP hB hp i8 hst
  have eX : xGoBack P S = (0, xTake P (xTally2 (xSpend S) (unlN (S.1 0).2.1 p.1.2.1 8)) false i p) := by
    unfold xGoBack
    rw [if_neg (by omega), if_neg hne, if_pos hb, hcur, hi, hp]
    rfl
  rw [eX]
  have hu := unlN_le (S.1 0).2.1 p.1.2.1 8
  generalize unlN (S.1 0).2.1 p.1.2.1 8 = u at *
  generalize hT : tTake P S.2.1 i p = T at *
  generalize hS2 : xTake P (xTally2 (xSpend S) u) false i p = S2
  have eS2 : S2 = uC (uW (uP (xTally2 (xSpend S) u) T.1) 0 T.2) 12 1 := by
    rw [← hS2, ← hT]
    unfold xTake
    rw [show cur (xTally2 (xSpend S) u) = 0 from hcur]
    rfl
  have r1 : ∀ j, S2.1 j = if j = 0 then T.2 else S.1 j := fun j => by rw [eS2]; rfl
  have r10 : S2.1 0 = T.2 := r1 0
  have r2 : S2.2.1 = T.1 := by rw [eS2]; rfl
  have r3 : S2.2.2.1 = S.2.2.1 := by rw [eS2]; rfl
  have rC : ∀ k, k ≠ 12 → k ≠ 13 → sC S2 k = sC S k := fun k k1 k2 => by
    rw [eS2]
    show fup (fup _ 13 _) 12 1 k = _
    rw [fup_ne k1, fup_ne k2]; rfl
  have r12 : sC S2 12 = 1 := by rw [eS2]; rfl
  have r13 : sC S2 13 = sC S 13 - 1 := by rw [eS2]; rfl
  have rQ : sQ S2 = sQ S := by rw [eS2]; rfl
  have u2 : sT S2 2 = sT S 2 + 1 := by rw [eS2]; rfl
  have u4 : sT S2 4 = sT S 4 := by rw [eS2]; rfl
  have u5 : sT S2 5 = sT S 5 := by rw [eS2]; rfl
  have u6 : sT S2 6 = sT S 6 + 1 := by rw [eS2]; rfl
  have u8 : sT S2 8 = sT S 8 + u := by rw [eS2]; rfl
  have u0 : ∀ k, k ≠ 2 → k ≠ 4 → k ≠ 5 → k ≠ 6 → k ≠ 8 → sT S2 k = sT S k := fun k k2 _ _ k6 k8 => by
    rw [eS2]
    show fup (fup (fup _ 2 _) 6 _) 8 _ k = _
    rw [fup_ne k8, fup_ne k6, fup_ne k2]; rfl
  have rS : stL st S2 = stL st S := by unfold stL; rw [rC 9 (by decide) (by decide)]
  have eW : ∀ a b l, b + zW c a b l S2 = zW c a b l S := fun a b l => by
    rw [zW_on r12, zW_off h12, r10, r2, ← k6 a b l]
    omega
  have w1 := eW 1 1 1
  have w2 := eW 1 0 0
  have w3 := eW 0 1 0
  obtain ⟨a1, a2, a3, a4, a5, a6⟩ := id h3
  have rl : S2.2.1.length ≤ S.2.1.length := by rw [r2]; exact k5
  obtain ⟨g1, g2⟩ := Iv3_mk (S' := S2) h3 (rC 9 (by decide) (by decide)) (by omega) u0 ⟨by omega, by omega⟩ ⟨by omega, by omega⟩ ⟨by omega, by omega⟩ ⟨by omega, by omega⟩ ⟨by omega, by omega⟩ (by omega) (by omega) (fun q => by omega)
  have eRl : ∀ B, Rl st (aL (sQ S) ++ zA c S) B → Rl st (aL (sQ S2) ++ zA c S2) B := fun B hBB => by
    rw [zA_on r12, r10, r2, rQ]
    rw [zA_off h12] at hBB
    exact ⟨(List.Perm.append_left _ k7.1).trans hBB.1, fun q => by rw [k7.2 q]; exact hBB.2 q⟩
  refine ⟨rfl, ?_⟩
  show Gd c st S S2 0
  refine ⟨⟨⟨fun j => ?_, ⟨by rw [rC 11 (by decide) (by decide)]; exact i2, by rw [r3]; exact i3, by rw [rC 7 (by decide) (by decide)]; exact i4, by rw [rC 8 (by decide) (by decide)]; exact i5⟩, by rw [r13]; omega, Or.inr ⟨r12, Or.inl ⟨pS p + 1, by omega, by rw [r10]; exact k1⟩, ?_⟩, by rw [r2, rS]; exact k4, by rw [rC 9 (by decide) (by decide)]; exact i9⟩, ⟨by rw [rQ]; exact h2.1, ?_⟩, g1⟩, g2, by rw [rQ]; omega, by omega, by omega, by omega⟩
  · rw [r1]
    split
    · exact k1.2.2.1
    · exact i1 j
  · rw [rS, r10, k1.1.2.2]
    omega
  · rw [rS, rQ, rC 10 (by decide) (by decide)]
    rcases h2.2 with ⟨q1, q2, q3⟩ | ⟨q1, q2, q3⟩
    · refine Or.inl ⟨q1, q2, q3.elim Or.inl fun q => Or.inr ?_⟩
      have hs5 : st = 5 := by
        unfold stL at q1
        by_cases q5 : st = 5
        · exact q5
        · rw [if_neg q5] at q1; omega
      rw [zA_on r12, r10, r2, k7.2 (Or.inr hs5), ← q, zA_off h12]
    · refine Or.inr ⟨q1, q2, ?_⟩
      have := eRl _ q3
      rw [rQ] at this
      exact this
theorem mv_deep (hB : NmB c) (h : Iv c st S) (h12 : sC S 12 = 0) (hne : S.2.1.length = 0) : ((xGoDeeper S).1 = 0 ∧ Gd c st S (xGoDeeper S).2 0) ∨ ((xGoDeeper S).1 = 3 ∧ (xGoDeeper S).2 = uC S 7 2 ∧ Fin3 c st S) := by
  obtain ⟨⟨i1, ⟨i2, i3, i4, i5⟩, i6, i7, i8, i9⟩, h2, h3⟩ := h
  have hnil : S.2.1 = [] := List.eq_nil_of_length_eq_zero hne
  have eZ : zA c S = [] := by rw [zA_off h12, hnil]; rfl
  unfold xGoDeeper
  by_cases q : sC S 8 = 5 ∧ sC S 10 ≠ 0
  · rw [if_pos q]
    refine Or.inl ⟨rfl, ?_⟩
    have st5 : st = 5 := i5.symm.trans q.1
    have eL : stL st S = sC S 9 := if_pos st5
    obtain ⟨q1, q2, -⟩ := h2.2.resolve_right fun k => q.2 k.2.1
    rw [eL] at q1
    generalize hS2 : xStartWay (uC S 9 (sC S 9 + 1)) = S2
    obtain ⟨s1, s2⟩ := Shp_start (c := c) (i1 0)
    have r1 : ∀ j, S2.1 j = if j = 0 then wStart (S.1 0) else S.1 j := fun j => by rw [← hS2]; rfl
    have r10 : S2.1 0 = wStart (S.1 0) := r1 0
    have r2 : S2.2.1 = [] := by rw [← hS2]; exact hnil
    have r3 : S2.2.2.1 = [] := by rw [← hS2]; rfl
    have c7 : sC S2 7 = sC S 7 := by rw [← hS2]; rfl
    have c8 : sC S2 8 = sC S 8 := by rw [← hS2]; rfl
    have c9 : sC S2 9 = sC S 9 + 1 := by rw [← hS2]; rfl
    have c10 : sC S2 10 = 0 := by rw [← hS2]; rfl
    have c11 : sC S2 11 = 0 := by rw [← hS2]; rfl
    have c12 : sC S2 12 = 1 := by rw [← hS2]; rfl
    have c13 : sC S2 13 = sC S 13 := by rw [← hS2]; rfl
    have rQ : sQ S2 = sQ S := by rw [← hS2]; rfl
    have uT : ∀ k, sT S2 k = sT S k := fun k => by rw [← hS2]; rfl
    have eL2 : stL st S2 = sC S 9 + 1 := by unfold stL; rw [if_pos st5, c9]
    have e5 : (wStart (S.1 0)).1 5 = 0 := s1.1.2.2
    have eA : zA c S2 = AL c := by
      rw [zA_on c12, r2, r10, wA, wR, e5, s2]
      show an c 3 f0 ++ [] = _
      rw [List.append_nil]; rfl
    have eW : ∀ a b l, zW c a b l S2 = wt c a b l 3 f0 := fun a b l => by
      rw [zW_on c12, r2, r10, wWt, if_neg (by rw [s1.1.1]; decide), wR, e5, s2]
      rfl
    obtain ⟨b1, b2, -⟩ := wt_b hB
    have ec : cst c st S2 + 1 ≤ cst c st S := by
      unfold cst
      rw [eW, if_pos st5, if_pos st5, c9]
      omega
    obtain ⟨a1, a2, a3, a4, a5, a6⟩ := h3
    show Gd c st S S2 0
    refine ⟨⟨⟨fun j => ?_, ⟨c11, r3, by rw [c7]; exact i4, by rw [c8]; exact i5⟩, by rw [c13]; exact i6, Or.inr ⟨c12, Or.inl ⟨0, by omega, by rw [r10]; exact s1⟩, by rw [r10, e5, eL2]; omega⟩, fun p hp => (by rw [r2] at hp; cases hp), by rw [c9]; omega, by rw [c9]; omega, fun k => absurd st5 k⟩, ⟨by rw [rQ]; exact h2.1, ?_⟩, fun k k2 k4 k5 k6 k8 => by rw [uT]; exact a1 k k2 k4 k5 k6 k8, ?_, ?_, ?_, by rw [r2, eW]; show 0 + _ ≤ 17; omega, fun k => absurd st5 k⟩, ec, by rw [rQ]; omega, by rw [uT, c13], by rw [c13]; omega, by rw [uT]; omega⟩
    · rw [r1]
      split
      · exact s1.2.2.1
      · exact i1 j
    · rw [eL2, rQ]
      by_cases k : sC S 9 + 1 < 3
      · exact Or.inl ⟨k, q2, Or.inr eA⟩
      · refine Or.inr ⟨by omega, c10, ?_⟩
        rw [eA, show aL (sQ S) = [] by unfold aL; rw [q2]; rfl, List.nil_append]
        exact ⟨List.Perm.refl _, fun _ => rfl⟩
    · rw [uT, uT, uT, uT, uT]; exact a2
    · rw [uT, uT, uT, uT]; omega
    · rw [uT, uT, r2]; exact ⟨a4.1, by show (0 : Int) ≤ sT S 5; omega⟩
  · rw [if_neg q]
    refine Or.inr ⟨rfl, rfl, hnil, ?_, fun k5 kA => ?_, h12⟩
    · rcases h2.2 with ⟨q1, q2, q3⟩ | ⟨q1, q2, q3⟩
      · have hs5 : st = 5 := by
          unfold stL at q1
          by_cases q5 : st = 5
          · exact q5
          · rw [if_neg q5] at q1; omega
        have eA : zA c S = AL c := q3.resolve_left fun k => q ⟨i5.trans hs5, k⟩
        rw [← eA, eZ, show aL (sQ S) = [] by unfold aL; rw [q2]; rfl]
        exact ⟨List.Perm.refl _, fun _ => rfl⟩
      · rw [eZ, List.append_nil] at q3
        exact q3
    · rcases h2.2 with ⟨q1, q2, q3⟩ | ⟨q1, q2, q3⟩
      · have eA : zA c S = AL c := q3.resolve_left fun k => q ⟨i5.trans k5, k⟩
        exact absurd (eA.symm.trans eZ) kA
      · unfold stL at q1
        rw [if_pos k5] at q1
        exact q1
end MVS
