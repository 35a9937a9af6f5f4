/-! a statement that chooses is begun -/
section CHS
variable {c : Nm} {st : Int} {P : Pg} {S : Sr} {s : Nat} {f : Nat → Int}
theorem prep (hP : PF c P) (hB : NmB c) (hs : s < 3) (hf : sml f) (j : Pt) : ∃ jp : Pt, cPrep P f (s : Int) j = ((nch c s f : Int), jp) ∧ (s ≠ 1 → jp.2.2 2 = cval c s 0) ∧ (s = 1 → ∀ k, k < 3 → jp.2.1 k = nmL c k) := by
  obtain ⟨⟨v0, v1, v2, v5, v6, v7, v8⟩, -⟩ := hP.2.2.2.2.2.2 f hf
  obtain ⟨b1, b2, b3, b4, b5⟩ := hB
  obtain rfl | rfl | rfl : s = 0 ∨ s = 1 ∨ s = 2 := by omega
  · have k0 : gKind P ((0 : Nat) : Int) = 3 := hP.kind (s := 0) (by decide)
    have g0 : gForm P ((0 : Nat) : Int) = 0 := hP.form (s := 0) (by decide)
    refine ⟨(j.1, j.2.1, fup j.2.2 2 (nmP c)), ?_, fun _ => ?_, fun q => absurd q (by decide)⟩
    · unfold cPrep
      rw [if_neg (by rw [k0]; decide), if_pos k0, g0, show (0 : Int) + 1 = 1 from rfl, v0, v1, if_neg (by omega)]
      refine Prod.ext ?_ rfl
      show nmQ c - nmP c + 1 = ((nmQ c - nmP c + 1).toNat : Int)
      omega
    · show fup j.2.2 2 (nmP c) 2 = nmP c + ((0 : Nat) : Int)
      rw [fup_self]; omega
  · have k0 : gKind P ((1 : Nat) : Int) = 4 := hP.kind (s := 1) (by decide)
    have g0 : gForm P ((1 : Nat) : Int) = 2 := hP.form (s := 1) (by decide)
    have g1 : gForm P (((1 : Nat) : Int) + 1) = 5 := hP.form (s := 2) (by decide)
    have w0 := v2 0 (by decide)
    have w1 := v2 1 (by decide)
    have w2 := v2 2 (by decide)
    have n0 := b5 0
    have n1 := b5 1
    have n2 := b5 2
    have e : amN P.2.1 f 2 (5 - 2) 6 0 j.2.1 = (3, fup (fup (fup j.2.1 0 (nmL c 0)) 1 (nmL c 1)) 2 (nmL c 2)) := by
      show amN P.2.1 f 2 3 6 0 j.2.1 = _
      rw [amN, if_neg (by decide), w0, if_neg (by omega), amN, if_neg (by decide), w1, if_neg (by omega), amN, if_neg (by decide), w2, if_neg (by omega), amN, if_pos (by decide)]
    refine ⟨(j.1, fup (fup (fup j.2.1 0 (nmL c 0)) 1 (nmL c 1)) 2 (nmL c 2), j.2.2), ?_, fun q => absurd rfl q, fun _ k hk => ?_⟩
    · unfold cPrep
      rw [if_neg (by rw [k0]; decide), if_neg (by rw [k0]; decide), g0, g1, e]
      rfl
    · show fup (fup (fup j.2.1 0 (nmL c 0)) 1 (nmL c 1)) 2 (nmL c 2) k = nmL c k
      obtain rfl | rfl | rfl : k = 0 ∨ k = 1 ∨ k = 2 := by omega
      · rfl
      · rfl
      · rfl
  · have k0 : gKind P ((2 : Nat) : Int) = 3 := hP.kind (s := 2) (by decide)
    have g0 : gForm P ((2 : Nat) : Int) = 5 := hP.form (s := 2) (by decide)
    refine ⟨(j.1, j.2.1, fup j.2.2 2 (-2)), ?_, fun _ => ?_, fun q => absurd q (by decide)⟩
    · unfold cPrep
      rw [if_neg (by rw [k0]; decide), if_pos k0, g0, show (5 : Int) + 1 = 6 from rfl, v5, v6, if_neg (by have := hf.1; omega)]
      refine Prod.ext ?_ rfl
      show f 0 - (-2) + 1 = ((f 0 + 3).toNat : Int)
      have := hf.1
      omega
    · rfl
theorem mv_choose (hP : PF c P) (hB : NmB c) (h : Iv c st S) (h12 : sC S 12 = 1) (hw : Shp c s s (S.1 0)) (hs : s < 3) (hb : 0 < sC S 13) (j : Pt) : (xChoose P (xSpend S) s j).1 = 0 ∧ Gd c st S (xChoose P (xSpend S) s j).2 0 := by
  obtain ⟨⟨i1, ⟨i2, i3, i4, i5⟩, i6, i7, i8, i9⟩, h2, h3⟩ := h
  have hcur : cur (xSpend S) = 0 := by show (sC S 11).toNat = 0; rw [i2]; rfl
  have hL := (i7.resolve_left fun q => by omega).2.2
  rw [hw.1.2.2] at hL
  have hf := hw.sml hB
  have hn6 := nch_le (s := s) hB hf.1.2
  obtain ⟨jp, e1, e2, e3⟩ := prep (c := c) (s := s) hP hB hs hf j
  have eX : xChoose P (xSpend S) s j = xChoose2 P (xSpend S) ((nch c s (S.1 0).2.1 : Int), jp) := by
    unfold xChoose
    rw [hcur]
    show xChoose2 P (xSpend S) (cPrep P (S.1 0).2.1 s j) = _
    rw [e1]
  rw [eX]
  have t2 : ∀ S' : Sr, sT S' 2 = sT S 2 + 1 → sC S' 13 = sC S 13 - 1 → sT S' 2 + sC S' 13 = sT S 2 + sC S 13 ∧ sC S 13 ≤ sC S' 13 + 1 ∧ sT S 2 ≤ sT S' 2 := fun S' q1 q2 => by omega
  have hWon : ∀ a b l, zW c a b l S = wWt c a b l (S.1 0) + rW c a b l S.2.1 := fun a b l => zW_on h12
  have hWw : ∀ a b l, wWt c a b l (S.1 0) = a + ((rst c s (S.1 0).2.1 0 (nch c s (S.1 0).2.1)).map fun g => b + wt c a b l (2 - s) g).sum := fun a b l => wWt_sh hw hs
  have hAw := wA_sh hw hs
  have h3' := h3
  obtain ⟨a1, a2, a3, a4, a5, a6⟩ := h3'
  unfold xChoose2
  by_cases c1 : ((nch c s (S.1 0).2.1 : Nat) : Int) ≤ 0
  · rw [if_pos c1]
    -- nothing to choose
    have er : rst c s (S.1 0).2.1 0 (nch c s (S.1 0).2.1) = [] := rst_nil (by omega)
    have eW : ∀ a b l, a + zW c a b l (uC (xSpend S) 12 0) = zW c a b l S := fun a b l => by
      rw [hWon, hWw, er, zW_off rfl]
      rfl
    have w1 := eW 1 1 1
    have w2 := eW 1 0 0
    have w3 := eW 0 1 0
    obtain ⟨g1, g2⟩ := Iv3_mk (S' := uC (xSpend S) 12 0) h3 rfl (by omega) (fun k k2 _ _ _ _ => fup_ne k2) ⟨by show sT S 2 ≤ sT S 2 + 1; omega, by show sT S 2 + 1 ≤ sT S 2 + 1; omega⟩ ⟨by show sT S 5 ≤ sT S 5; omega, by show sT S 5 ≤ sT S 5 + 1; omega⟩ ⟨by show sT S 6 ≤ sT S 6; omega, by show sT S 6 ≤ sT S 6 + 1; omega⟩ ⟨by show sT S 8 ≤ sT S 8; omega, by show sT S 8 ≤ sT S 8 + 8; omega⟩ ⟨by show 0 ≤ sT S 4; omega, by show sT S 4 ≤ sT S 5; omega⟩ a4.2 (by show S.2.1.length + _ ≤ _; omega) (fun q => by show sT S 6 + _ = _; omega)
    have eA : zA c (uC (xSpend S) 12 0) = zA c S := by
      rw [zA_off rfl, zA_on h12, hAw, er]
      rfl
    refine ⟨rfl, ⟨⟨i1, ⟨i2, i3, i4, i5⟩, by show 0 ≤ sC S 13 - 1 ∧ sC S 13 - 1 ≤ 2000; omega, Or.inl rfl, i8, i9⟩, ⟨h2.1, ?_⟩, g1⟩, g2, by show (sQ S).2 = (sQ S).2 + 0; omega, t2 _ rfl rfl⟩
    rw [eA]
    exact h2.2
  · rw [if_neg c1]
    by_cases c2 : sC (xSpend S) 11 = 0 ∧ sC (xSpend S) 8 = 5 ∧ sC (xSpend S) 9 ≤ ((xSpend S).1 (cur (xSpend S))).1 5
    · rw [if_pos c2]
      -- too deep
      have st5 : st = 5 := i5.symm.trans c2.2.1
      have hlim : sC S 9 ≤ s := by
        have := c2.2.2
        rw [hcur] at this
        have e : ((xSpend S).1 0).1 5 = s := hw.1.2.2
        have e' : sC (xSpend S) 9 = sC S 9 := rfl
        omega
      have eW : ∀ a b l, a + zW c a b l (uC (uC (xSpend S) 10 1) 12 0) ≤ zW c a b l S := fun a b l => by
        rw [hWon, hWw, zW_off rfl]
        show a + rW c a b l S.2.1 ≤ _
        omega
      have w1 := eW 1 1 1
      have w2 := eW 1 0 0
      obtain ⟨g1, g2⟩ := Iv3_mk (S' := uC (uC (xSpend S) 10 1) 12 0) h3 rfl (by omega) (fun k k2 _ _ _ _ => fup_ne k2) ⟨by show sT S 2 ≤ sT S 2 + 1; omega, by show sT S 2 + 1 ≤ sT S 2 + 1; omega⟩ ⟨by show sT S 5 ≤ sT S 5; omega, by show sT S 5 ≤ sT S 5 + 1; omega⟩ ⟨by show sT S 6 ≤ sT S 6; omega, by show sT S 6 ≤ sT S 6 + 1; omega⟩ ⟨by show sT S 8 ≤ sT S 8; omega, by show sT S 8 ≤ sT S 8 + 8; omega⟩ ⟨by show 0 ≤ sT S 4; omega, by show sT S 4 ≤ sT S 5; omega⟩ a4.2 (by show S.2.1.length + _ ≤ _; omega) (fun q => absurd st5 q)
      have eL : stL st S = sC S 9 := if_pos st5
      refine ⟨rfl, ⟨⟨i1, ⟨i2, i3, i4, i5⟩, by show 0 ≤ sC S 13 - 1 ∧ sC S 13 - 1 ≤ 2000; omega, Or.inl rfl, i8, i9⟩, ⟨h2.1, ?_⟩, g1⟩, g2, by show (sQ S).2 = (sQ S).2 + 0; omega, t2 _ rfl rfl⟩
      rcases h2.2 with ⟨q1, q2, -⟩ | ⟨q1, -, -⟩
      · exact Or.inl ⟨q1, q2, Or.inl (by show (1 : Int) ≠ 0; decide)⟩
      · omega
    · rw [if_neg c2]
      -- a point is made
      have hnB : nB (xSpend S) = false := by unfold nB; show decide (0 < sC S 11) = false; rw [i2]; rfl
      have hsL : (s : Int) < stL st S := by
        unfold stL at hL ⊢
        by_cases q : st = 5
        · rw [if_pos q] at hL ⊢
          refine Int.not_le.mp fun q2 => c2 ⟨i2, i5.trans q, ?_⟩
          rw [hcur]
          have e : ((xSpend S).1 0).1 5 = s := hw.1.2.2
          rw [e]
          exact q2
        · rw [if_neg q]; omega
      generalize hpt : cNew P (S.1 0) ((nch c s (S.1 0).2.1 : Int), jp) = pt
      have hpt1 : pt.1 = S.1 0 := by rw [← hpt]; rfl
      have hpt3 : pt.2.2 3 = nch c s (S.1 0).2.1 := by rw [← hpt]; rfl
      have hpt4 : pt.2.2 4 = 0 := by rw [← hpt]; rfl
      have hok : okP c pt := ⟨s, hs, by rw [hpt1]; exact hw, by rw [hpt4, hpt3]; omega, by rw [hpt1]; exact hpt3, fun q => by rw [← hpt]; exact e2 q, fun q => by rw [← hpt]; exact e3 q⟩
      have hS : pS pt = s := by unfold pS; rw [hpt1, hw.1.2.2, Int.toNat_natCast]
      have hR : pRst c pt = rst c s (S.1 0).2.1 0 (nch c s (S.1 0).2.1) := by
        unfold pRst
        rw [hS, hpt1, hpt3, hpt4, Int.toNat_natCast]; rfl
      have hpA : pA c pt = wA c (S.1 0) := by unfold pA; rw [hR, hS, hAw]
      have hpW : ∀ a b l, a + pWt c a b l pt = wWt c a b l (S.1 0) := fun a b l => by unfold pWt; rw [hR, hS, hWw]
      have eK : xKeep P (xSpend S) ((nch c s (S.1 0).2.1 : Int), jp) = (0, uC (xMade (uP (xSpend S) (S.2.1 ++ [pt]))) 12 0) := by
        unfold xKeep
        rw [hnB, hcur]
        rw [if_pos (show (sL false (xSpend S)).length < 30 from by show S.2.1.length < 30; omega), if_neg (fun q => q i2)]
        show (0, uC (xMade (uP (xSpend S) (S.2.1 ++ [cNew P (S.1 0) ((nch c s (S.1 0).2.1 : Int), jp)]))) 12 0) = _
        rw [hpt]
      rw [eK]
      generalize hS2 : uC (xMade (uP (xSpend S) (S.2.1 ++ [pt]))) 12 0 = S2
      have r1 : S2.1 = S.1 := by rw [← hS2]; rfl
      have r2 : S2.2.1 = S.2.1 ++ [pt] := by rw [← hS2]; rfl
      have r3 : S2.2.2.1 = S.2.2.1 := by rw [← hS2]; rfl
      have rC : ∀ k, k ≠ 12 → k ≠ 13 → sC S2 k = sC S k := fun k k1 k2 => by
        rw [← hS2]
        show fup (fup _ 13 _) 12 0 k = _
        rw [fup_ne k1, fup_ne k2]; rfl
      have r12 : sC S2 12 = 0 := by rw [← hS2]; rfl
      have r13 : sC S2 13 = sC S 13 - 1 := by rw [← hS2]; rfl
      have rQ : sQ S2 = sQ S := by rw [← hS2]; rfl
      have rl : S2.2.1.length = S.2.1.length + 1 := by rw [r2, List.length_append]; rfl
      have u2 : sT S2 2 = sT S 2 + 1 := by rw [← hS2]; rfl
      have u5 : sT S2 5 = sT S 5 + 1 := by rw [← hS2]; rfl
      have u6 : sT S2 6 = sT S 6 := by rw [← hS2]; rfl
      have u8 : sT S2 8 = sT S 8 := by rw [← hS2]; rfl
      have u4 : sT S2 4 = sT S 4 + (if 0 < ((S.2.1 ++ [pt]).length : Int) - sT S 4 then ((S.2.1 ++ [pt]).length : Int) - sT S 4 else 0) := by rw [← hS2]; rfl
      have u0 : ∀ k, k ≠ 2 → k ≠ 4 → k ≠ 5 → k ≠ 6 → k ≠ 8 → sT S2 k = sT S k := fun k k2 k4 k5 _ _ => by
        rw [← hS2]
        show fup (fup (fup _ 2 _) 5 _) 4 _ k = _
        rw [fup_ne k4, fup_ne k5, fup_ne k2]; rfl
      have rS : stL st S2 = stL st S := by unfold stL; rw [rC 9 (by decide) (by decide)]
      have eW : ∀ a b l, a + zW c a b l S2 = zW c a b l S := fun a b l => by
        rw [zW_off r12, hWon, r2, ← hpW]
        unfold rW
        rw [List.map_append, List.sum_append]
        show a + (_ + (pWt c a b l pt + 0)) = _
        omega
      have eA : zA c S2 = zA c S := by
        rw [zA_off r12, zA_on h12, r2, List.reverse_append, ← hpA]
        rfl
      have w1 := eW 1 1 1
      have w2 := eW 1 0 0
      have w3 := eW 0 1 0
      have hl2 : (S.2.1 ++ [pt]).length = S.2.1.length + 1 := by rw [List.length_append]; rfl
      rw [hl2] at u4
      obtain ⟨g1, g2⟩ := Iv3_mk (S' := S2) h3 (rC 9 (by decide) (by decide)) (by omega) u0 ⟨by omega, by omega⟩ ⟨by omega, by omega⟩ ⟨by omega, by omega⟩ ⟨by omega, by omega⟩ ⟨by rw [u4]; split <;> omega, by rw [u4, u5]; split <;> omega⟩ (by rw [rl, u5]; omega) (by rw [rl]; omega) (fun q => by omega)
      refine ⟨rfl, ⟨⟨by rw [r1]; exact i1, ⟨by rw [rC 11 (by decide) (by decide)]; exact i2, by rw [r3]; exact i3, by rw [rC 7 (by decide) (by decide)]; exact i4, by rw [rC 8 (by decide) (by decide)]; exact i5⟩, by rw [r13]; omega, Or.inl r12, fun p hp => ?_, by rw [rC 9 (by decide) (by decide)]; exact i9⟩, ⟨by rw [rQ]; exact h2.1, ?_⟩, g1⟩, g2, by rw [rQ]; omega, t2 _ u2 r13⟩
      · rw [rS]
        rw [r2] at hp
        rcases List.mem_append.mp hp with q | q
        · exact i8 p q
        · rw [List.mem_singleton.mp q]
          exact ⟨hok, by rw [hpt1, hw.1.2.2]; exact hsL⟩
      · rw [rS, rQ, rC 10 (by decide) (by decide), eA]
        exact h2.2
end CHS
