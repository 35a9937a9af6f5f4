/-! test, not, choose; a statement begins -/
def xTest (P : Pg) (S : Sr) (s : Int) : Int × Sr :=
  if fWorth P.2.1 (gForm P s) (S.1 (cur S)).2.1 = 999999 ∨ fWorth P.2.1 (gForm P s + 1) (S.1 (cur S)).2.1 = 999999 ∨ gIsSo (fWorth P.2.1 (gForm P s) (S.1 (cur S)).2.1) (gDetail P s) (fWorth P.2.1 (gForm P s + 1) (S.1 (cur S)).2.1) = false then (0, uC S 12 0)
  else (0, xOn P S s)
def xBeginNot (P : Pg) (S : Sr) (s : Int) : Int × Sr :=
  if sC S 11 + 1 < 7 then (0, uW (uB (uC S 11 (sC S 11 + 1)) (cur S + 1) S.2.2.1.length) (cur S + 1) (wEnter ((S.1 (cur S)).1, (S.1 (cur S)).2.1, (S.1 (cur S)).2.2.1, (S.1 (cur S)).2.2.2.1, fun _ => false) s (gPartFirst P s 0) (gLevel P s + 1)))
  else (0, uC S 12 0)
def amN (F : Fm) (vals : Nat → Int) (first ch : Int) : Nat → Nat → (Nat → Int) → Int × (Nat → Int)
  | 0, _, a => (ch, a)
  | m + 1, i, a => if ch ≤ i then (ch, a) else if fWorth F (first + i) vals = 999999 then (0, a) else amN F vals first ch m (i + 1) (fup a i (fWorth F (first + i) vals))
/-- how many choices, with what the spare row is then -/
def cPrep (P : Pg) (vals : Nat → Int) (s : Int) (j : Pt) : Int × Pt :=
  if gKind P s = 5 then (gParts P s, j)
  else if gKind P s = 3 then (if fWorth P.2.1 (gForm P s) vals = 999999 ∨ fWorth P.2.1 (gForm P s + 1) vals = 999999 then (0, j) else (fWorth P.2.1 (gForm P s + 1) vals - fWorth P.2.1 (gForm P s) vals + 1, (j.1, j.2.1, fup j.2.2 2 (fWorth P.2.1 (gForm P s) vals))))
  else ((amN P.2.1 vals (gForm P s) (gForm P (s + 1) - gForm P s) 6 0 j.2.1).1, (j.1, (amN P.2.1 vals (gForm P s) (gForm P (s + 1) - gForm P s) 6 0 j.2.1).2, j.2.2))
def xMade (S : Sr) : Sr := uT (uT S 5 (sT S 5 + 1)) 4 (sT S 4 + (if 0 < (S.2.1.length : Int) - sT S 4 then (S.2.1.length : Int) - sT S 4 else 0))
def cNew (P : Pg) (w : Wy) (c : Int × Pt) : Pt := (w, c.2.2.1, fup (fup (fup c.2.2.2 3 c.1) 4 0) 5 (gPrice P w.2.1))
def nB (S : Sr) : Bool := decide (0 < sC S 11)
def xKeep (P : Pg) (S : Sr) (c : Int × Pt) : Int × Sr :=
  if (sL (nB S) S).length < 30 then
    (0, uC (if sC S 11 ≠ 0 then uL (nB S) S (sL (nB S) S ++ [cNew P (S.1 (cur S)) c]) else xMade (uL (nB S) S (sL (nB S) S ++ [cNew P (S.1 (cur S)) c]))) 12 0)
  else (4, uC S 7 2)
def xChoose2 (P : Pg) (S : Sr) (c : Int × Pt) : Int × Sr :=
  if c.1 ≤ 0 then (0, uC S 12 0)
  else if sC S 11 = 0 ∧ sC S 8 = 5 ∧ sC S 9 ≤ (S.1 (cur S)).1 5 then (0, uC (uC S 10 1) 12 0)
  else xKeep P S c
def xChoose (P : Pg) (S : Sr) (s : Int) (j : Pt) : Int × Sr := xChoose2 P S (cPrep P (S.1 (cur S)).2.1 s j)
theorem uL_sL {b : Bool} {S : Sr} : uL b S (sL b S) = S := by cases b <;> rfl
section CHOOSE
variable {d : Nat} {K M0 M M' : ZMem} {o : Nat} {P : Pg} {S : Sr}
theorem s_test {s : Int} {Q : Int → ZMem → Prop} (hd : 2 ≤ d) (h : Ax K M0 M o P S) (hL : SrK K o) (hP : PB P) (hS : SB P S) (q : ∀ M', Ax K M0 M' o P (xTest P S s).2 → Q (xTest P S s).1 M') : Ci d q6_test [zr o, zr (o + 397 + 4 * cur S), zi s] M Q := by
  obtain ⟨d, rfl⟩ : ∃ e, d = e + 1 := ⟨d - 1, by omega⟩
  have hcur : cur S = (sC S 11).toNat := rfl
  have hc : cur S < 7 := by have := hS.2.2.2.2.2.2.1; omega
  have hway := (hL.way hc).2
  have hf := hP.form s
  refine B6_test o _ s h.1.1 hL.1 hway ((s_formulaOf (by omega) h.1.1 hL.prog).pure ⟨h.1.1, ?_⟩)
  rw [h.g]
  refine (s_wworth (by omega) h hL hP hS hc).pure ⟨h.1.1, ⟨by omega, by omega⟩, (s_wworth (by omega) h hL hP hS hc).pure ⟨h.1.1, fun c => ?_, fun c => ⟨fun c2 => ?_, fun c2 => ?_⟩⟩⟩
  · rw [xTest, if_pos (Or.inl c)] at q
    exact s_endWay h hL fun M1 a1 => ⟨a1.1.1, q M1 a1⟩
  · rw [xTest, if_pos (Or.inr (Or.inl c2))] at q
    exact s_endWay h hL fun M1 a1 => ⟨a1.1.1, q M1 a1⟩
  · refine (s_detailOf (by omega) h.1.1 hL.prog).pure ⟨h.1.1, ?_⟩
    rw [h.g]
    refine (s_isSo h.1.1).mono fun x M1 ⟨hx, e⟩ => ?_
    subst e
    refine ⟨h.1.1, fun c3 => ?_, fun c3 => ?_⟩
    · have := hx.mp c3
      rw [xTest, if_neg (by rw [this]; simp [c, c2])] at q
      refine (s_behind (by omega) h.1.1 hL.prog).pure ⟨h.1.1, q _ ?_⟩
      rw [h.g]
      exact h.on hc
    · have : gIsSo (fWorth P.2.1 (gForm P s) (S.1 (cur S)).2.1) (gDetail P s) (fWorth P.2.1 (gForm P s + 1) (S.1 (cur S)).2.1) = false := Bool.not_eq_true _ ▸ fun q => c3 (hx.mpr q)
      rw [xTest, if_pos (Or.inr (Or.inr this))] at q
      exact s_endWay h hL fun M1 a1 => ⟨a1.1.1, q M1 a1⟩
theorem s_beginNot {s : Int} {Q : Int → ZMem → Prop} (hd : 2 ≤ d) (h : Ax K M0 M o P S) (hL : SrK K o) (hP : PB P) (hS : SB P S) (q : ∀ M', Ax K M0 M' o P (xBeginNot P S s).2 → Q (xBeginNot P S s).1 M') : Ci d q6_beginNot [zr o, zr (o + 397 + 4 * cur S), zi s] M Q := by
  obtain ⟨d, rfl⟩ : ∃ e, d = e + 1 := ⟨d - 1, by omega⟩
  have hcur : cur S = (sC S 11).toNat := rfl
  have hn := hS.2.2.2.2.2.2.1
  have hc : cur S < 7 := by omega
  have hlv := hP.level s
  have e11 : mI M o 11 = sC S 11 := h.1.c (by omega) (by omega)
  refine B6_beginNot o _ s h.1.1 hL.1 (hL.way hc).2 ?_
  rw [e11]
  refine ⟨⟨by omega, by omega⟩, fun c => absurd c (by omega), fun _ => ⟨fun c => ?_, fun c => ⟨fun c2 => ?_, fun c2 => absurd (by omega) c2⟩⟩⟩
  · rw [xBeginNot, if_neg (by omega)] at q
    exact s_endWay h hL fun M1 a1 => ⟨a1.1.1, q M1 a1⟩
  · rw [xBeginNot, if_pos c2] at q
    have et : (sC S 11 + 1).toNat = cur S + 1 := by omega
    rw [et]
    have a1 := h.kC (k := 11) (x := sC S 11 + 1) (by omega) (by omega)
    have en : mI (sI M o 11 (sC S 11 + 1)) (o + 208) 1 = S.2.2.1.length := a1.1.nlen
    rw [en]
    have a2 := a1.kB (k := cur S + 1) (x := S.2.2.1.length) (by omega)
    have hs : mS K (o + 396) = (5, 7) := hL.1.2.2.2.2.2.2.2.2.1
    have er : mR (sI (sI M o 11 (sC S 11 + 1)) (o + 425) (cur S + 1) S.2.2.1.length) (o + 396) (cur S + 1) = o + 397 + 4 * (cur S + 1) := by
      rw [a2.1.1.2.2.2 _ _ (by rw [hs]; decide)]
      exact (hL.way (by omega)).1
    rw [er]
    have hw1 := (hL.way (i := cur S + 1) (by omega)).2
    refine ⟨by omega, by omega, by omega, by omega, hw1, (s_wbecome (by omega) a2.1.1 hw1 (hL.way hc).2).mono fun M3 ⟨k3, f3, g3⟩ => ⟨k3, ?_⟩⟩
    rw [a2.1.way hc] at g3
    have a3 := a2.kW k3 (by omega) f3 g3
    have a4 : Ax K M0 (sI M3 (o + 397 + 4 * (cur S + 1)) 7 0) o P (uW (uB (uC S 11 (sC S 11 + 1)) (cur S + 1) S.2.2.1.length) (cur S + 1) ((S.1 (cur S)).1, (S.1 (cur S)).2.1, (S.1 (cur S)).2.2.1, (S.1 (cur S)).2.2.2.1, fun _ => false)) := by
      refine a3.kW2 (a3.1.1.sI _ _ _) (by omega) (Fr.refl.sI ⟨by omega, by omega⟩) ?_
      rw [gW_c, g3, show zBit 0 = fun _ => false from funext zBit_0]
      rfl
    refine (s_partFirst (by omega) a4.1.1 hL.prog).pure ⟨a4.1.1, (s_levelOf (by omega) a4.1.1 hL.prog).pure ⟨a4.1.1, ?_⟩⟩
    rw [a4.g]
    refine ⟨⟨by omega, by omega⟩, (s_enter (by omega) a4.1.1 hw1).mono fun M5 ⟨k5, f5, g5⟩ => ⟨k5, q M5 ?_⟩⟩
    rw [a4.w2 (by omega)] at g5
    exact a4.kW2 k5 (by omega) f5 g5
theorem fW_range {F : Fm} {x : Int} {v : Nat → Int} : (-999 ≤ fWorth F x v ∧ fWorth F x v ≤ 999) ∨ fWorth F x v = 999999 := fWorth_range F x v
theorem s_prepareUpTo {s : Int} {X : Nat} {Q : Int → ZMem → Prop} (hd : 2 ≤ d) (h : Ax K M0 M o P S) (hL : SrK K o) (hP : PB P) (hS : SB P S) (hX : PointAt K X) (hk : gKind P s = 3)
    (q : ∀ M', KW K M' → Fr (bk X 6) M M' → gP M' X = (cPrep P (S.1 (cur S)).2.1 s (gP M X)).2 → Q (cPrep P (S.1 (cur S)).2.1 s (gP M X)).1 M') : Ci d q6_prepareUpTo [zr o, zr X, zr (o + 397 + 4 * cur S), zi s] M Q := by
  obtain ⟨d, rfl⟩ : ∃ e, d = e + 1 := ⟨d - 1, by omega⟩
  have hcur : cur S = (sC S 11).toNat := rfl
  have hc : cur S < 7 := by have := hS.2.2.2.2.2.2.1; omega
  have hf := hP.form s
  unfold cPrep at q
  rw [if_neg (by omega), if_pos hk] at q
  refine B6_prepareUpTo o X _ s h.1.1 hL.1 hX (hL.way hc).2 ((s_formulaOf (by omega) h.1.1 hL.prog).pure ⟨h.1.1, ?_⟩)
  rw [h.g]
  have r1 := fW_range (F := P.2.1) (x := gForm P s) (v := (S.1 (cur S)).2.1)
  have r2 := fW_range (F := P.2.1) (x := gForm P s + 1) (v := (S.1 (cur S)).2.1)
  refine (s_wworth (by omega) h hL hP hS hc).pure ⟨h.1.1, ⟨by omega, by omega⟩, (s_wworth (by omega) h hL hP hS hc).pure ⟨h.1.1, fun c => ?_, fun c => ⟨fun c2 => ⟨⟨by omega, by omega⟩, ⟨by omega, by omega⟩, ?_⟩, fun c2 => ?_⟩⟩⟩
  · rw [if_pos (Or.inl c)] at q
    exact q M h.1.1 Fr.refl rfl
  · rw [if_neg (by omega)] at q
    refine q _ (h.1.1.sI _ _ _) (Fr.refl.sI ⟨by omega, by omega⟩) ?_
    rw [gP_f (by omega) (by omega)]
  · rw [if_pos (Or.inr (Decidable.not_not.mp c2))] at q
    exact q M h.1.1 Fr.refl rfl
end CHOOSE
