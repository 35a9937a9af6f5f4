/-! a search on both sides: what holds between them -/
def gq (l : List Pt) (J : Nat) : Pt := (l[J]?).getD p0
theorem gq_some {l : List Pt} {i : Nat} (h : i < l.length) : l[i]? = some (gq l i) := by
  unfold gq
  rw [List.getElem?_eq_getElem h]; rfl
/-- the level within a statement's bracket -/
def lvI (P : Pg) (s : Int) : Int := if s = -1 then 0 else gLevel P s + 1
/-- the frames, the innermost first, up to the not -/
def FRM (P : Pg) (σ : Int → Int) (w : Wy) (r : Pf) (stop D : Int) : Nat → Int → Prop
  | 0, c => c = stop
  | m + 1, c => gHas P c ∧ (gKind P c = 5 ∨ gKind P c = 6 ∨ gKind P c = 9) ∧ r (10 + 3 * m) = σ c ∧ r (10 + 3 * m + 1) = w.2.2.1 (gLevel P c).toNat - D ∧ (gKind P c = 9 → r (10 + 3 * m + 2) = w.2.2.2.1 (gLevel P c + 1).toNat) ∧ r (10 + 3 * m + 2) ≤ 100000 ∧ FRM P σ w r stop D m (gAround P c)
def WR (P : Pg) (σ : Int → Int) (stop D : Int) (w : Wy) (r : Pf) : Prop :=
  (∀ k, k < 8 → r k = w.2.1 k) ∧ ((w.1 3 = -1 ∧ r 8 = -1) ∨ (gHas P (w.1 3) ∧ gAround P (w.1 3) = w.1 4 ∧ r 8 = σ (w.1 3))) ∧ (∃ m : Nat, m ≤ 6 ∧ r 9 = m ∧ FRM P σ w r stop D m (w.1 4)) ∧ r 31 = w.2.2.1 (lvI P (w.1 4)).toNat - D ∧ r 32 = w.1 5 - D ∧ 0 ≤ r 33 ∧ r 33 ≤ w.1 6
def PtR (P : Pg) (σ : Int → Int) (stop D : Int) (q : Pt) (p : Pf) : Prop :=
  WR P σ stop D q.1 p ∧ (gHas P (q.1.1 3) ∧ (gKind P (q.1.1 3) = 3 ∨ gKind P (q.1.1 3) = 4 ∨ gKind P (q.1.1 3) = 5)) ∧ p 35 = σ (q.1.1 3) ∧ p 36 = q.2.2 4 ∧ p 37 = q.2.2 3 ∧ (gKind P (q.1.1 3) = 3 → p 38 = q.2.2 2) ∧ (gKind P (q.1.1 3) = 4 → ∀ j : Nat, (j : Int) < q.2.2 3 → p (38 + j) = q.2.1 j) ∧ (gKind P (q.1.1 3) = 5 → q.2.2 3 = gParts P (q.1.1 3)) ∧ p 46 = q.2.2 5 ∧ (p 45 = 0 → p 33 = q.1.1 6)
def CL (S : Sr) : List Pt := S.2.1 ++ S.2.2.1
def shf (off : Nat) (c : Nat → Bool) : Nat → Bool := fun j => if j < off then false else c (j - off)
def csS (S : Sr) (J : Nat) : Nat → Bool := if J < S.2.1.length then (gq (CL S) J).1.2.2.2.2 else shf S.2.1.length (gq (CL S) J).1.2.2.2.2
def dpS (S : Sr) (J : Nat) : Int := (gq (CL S) J).1.1 5
def loS (S : Sr) (i : Int) : Nat := if i = 0 then 0 else S.2.1.length + (sB S i.toNat).toNat
def hiS (S : Sr) (i : Nat) : Nat := if (i : Int) < sC S 11 then loS S (i + 1) else (CL S).length
def cwW (S : Sr) (i : Nat) : Nat → Bool := if i = 0 then (S.1 i).2.2.2.2 else shf S.2.1.length (S.1 i).2.2.2.2
def stS (S : Sr) (i : Int) : Int := if i = 0 then -1 else (S.1 (i.toNat - 1)).1 3
def idU (U : Tr) (J : Nat) : Int := gp U.2.2.1 J 44
/-- bounds -/
def RBt (P : Pg) (S : Sr) (U : Tr) (t : Int) : Prop :=
  SB P S ∧ (∀ i, i ≤ cur S → (S.1 i).1 5 ≤ t ∧ (S.1 i).1 6 ≤ (S.1 i).1 5) ∧ (∀ J, J < (CL S).length → dpS S J ≤ t ∧ (gq (CL S) J).1.1 6 ≤ dpS S J) ∧ sT S 5 ≤ t ∧ sT S 6 ≤ t ∧ sT S 8 ≤ 8 * t ∧ sT S 7 + S.2.1.length ≤ sT S 5 ∧ sC S 9 + sC S 10 ≤ t ∧ t ≤ sT S 2 ∧ sT S 2 + sC S 13 ≤ 1100000 ∧ sT S 4 ≤ 31 ∧ (sC S 10 = 0 ∨ sC S 10 = 1) ∧ (sC S 12 = 0 ∨ sC S 12 = 1) ∧ 0 ≤ U.1 16 ∧ U.1 16 ≤ t
/-- numbers -/
def RN (S : Sr) (U : Tr) (b : Int) : Prop :=
  U.1 0 = sC S 7 ∧ U.1 1 = sC S 8 ∧ U.1 4 = sT S 2 ∧ U.1 5 = sT S 5 ∧ U.1 6 = sT S 6 ∧ U.1 7 = sT S 7 ∧ U.1 8 = sT S 8 ∧ U.1 9 = sC S 9 ∧ U.1 10 = sC S 10 ∧ U.1 11 = sT S 4 ∧ U.1 12 = sC S 12 ∧ U.1 13 = sC S 11 ∧ U.1 15 = (sQ S).2 ∧ b = sC S 13 ∧ ∀ k : Nat, (k : Int) < 12 * (sQ S).2 → U.2.2.2 k = (sQ S).1 k
/-- points -/
def RP (P : Pg) (σ : Int → Int) (D : Int → Int) (S : Sr) (U : Tr) : Prop :=
  U.2.2.1.length = (CL S).length ∧ (∀ J, J < (CL S).length → 0 ≤ idU U J ∧ idU U J < U.1 16) ∧ (∀ i j, i < j → j < (CL S).length → idU U i < idU U j) ∧
  (∀ J, J < S.2.1.length → gp U.2.2.1 J 45 = 0) ∧ (∀ J, S.2.1.length ≤ J → J < (CL S).length → 1 ≤ gp U.2.2.1 J 45 ∧ gp U.2.2.1 J 45 ≤ sC S 11) ∧
  (∀ i : Nat, 1 ≤ i → (i : Int) ≤ sC S 11 → 0 ≤ sB S i ∧ sB S i ≤ S.2.2.1.length ∧ ∀ J, S.2.1.length ≤ J → J < (CL S).length → (loS S i ≤ J ↔ (i : Int) ≤ gp U.2.2.1 J 45)) ∧
  ∀ J, J < (CL S).length → PtR P σ (stS S (gp U.2.2.1 J 45)) (D (gp U.2.2.1 J 45)) (gq (CL S) J) (gp U.2.2.1 J) ∧ CM (idU U) (csS S) (dpS S) (loS S (gp U.2.2.1 J 45)) J (csS S J) (gp U.2.2.1 J 34) (dpS S J)
/-- ways -/
def RW (P : Pg) (σ : Int → Int) (D : Int → Int) (S : Sr) (U : Tr) : Prop :=
  D 0 = 0 ∧ (∀ i : Nat, i ≤ cur S → WR P σ (stS S i) (D i) (S.1 i) (U.2.1 i) ∧ CM (idU U) (csS S) (dpS S) (loS S i) (hiS S i) (cwW S i) (U.2.1 i 34) ((S.1 i).1 5)) ∧ U.2.1 0 33 = (S.1 0).1 6 ∧ ∀ i : Nat, 1 ≤ i → i ≤ cur S → gHas P (stS S i) ∧ gKind P (stS S i) = 7
def RS (P : Pg) (σ : Int → Int) (root price : Int) (D : Int → Int) (S : Sr) (U : Tr) (b t : Int) : Prop :=
  RBt P S U t ∧ RN S U b ∧ (U.1 2 = root ∧ U.1 3 = price) ∧ RP P σ D S U ∧ RW P σ D S U
/-- an E and its node -/
def EqE (M : ZMem) (F : Fm) (e : Nat) (f x : Int) : Prop := exN M e x ∧ ∀ v v' : Nat → Int, (∀ k, isV (v k)) → (∀ k, k < 8 → v k = v' k) → fWorth F f v = (evN M v' e x).getD 999999
/-- a program and its nodes -/
def PR (M : ZMem) (P : Pg) (σ : Int → Int) (root price : Int) (e : Nat) : Prop :=
  PB P ∧ (gHas P 0 ∧ σ 0 = root ∧ gAround P 0 = -1) ∧
  (∀ s, gHas P s → (0 ≤ σ s ∧ σ s < 70200) ∧ gLevel P s = lvI P (gAround P s) ∧ (gAround P s = -1 ∨ gHas P (gAround P s)) ∧
    ((gBehind P s = -1 ∧ mI M 2236 (σ s).toNat = -1) ∨ (gHas P (gBehind P s) ∧ gAround P (gBehind P s) = gAround P s ∧ mI M 2236 (σ s).toNat = σ (gBehind P s))) ∧
    ((gKind P s = 1 ∧ mI M 2232 (σ s).toNat = 7 ∧ mI M 2233 (σ s).toNat = gDetail P s ∧ (0 ≤ gDetail P s ∧ gDetail P s < 8) ∧ EqE M P.2.1 e (gForm P s) (mI M 2234 (σ s).toNat)) ∨
    (gKind P s = 2 ∧ mI M 2232 (σ s).toNat = 10 ∧ mI M 2235 (σ s).toNat = gDetail P s ∧ EqE M P.2.1 e (gForm P s) (mI M 2233 (σ s).toNat) ∧ EqE M P.2.1 e (gForm P s + 1) (mI M 2234 (σ s).toNat)) ∨
    (gKind P s = 3 ∧ mI M 2232 (σ s).toNat = 8 ∧ mI M 2233 (σ s).toNat = gDetail P s ∧ (0 ≤ gDetail P s ∧ gDetail P s < 8) ∧ EqE M P.2.1 e (gForm P s) (mI M 2234 (σ s).toNat) ∧ EqE M P.2.1 e (gForm P s + 1) (mI M 2235 (σ s).toNat)) ∨
    (gKind P s = 4 ∧ mI M 2232 (σ s).toNat = 9 ∧ mI M 2233 (σ s).toNat = gDetail P s ∧ (0 ≤ gDetail P s ∧ gDetail P s < 8) ∧ mI M 2235 (σ s).toNat = gForm P (s + 1) - gForm P s ∧ (1 ≤ mI M 2235 (σ s).toNat ∧ mI M 2235 (σ s).toNat ≤ 6) ∧ (∀ j : Nat, (j : Int) < mI M 2235 (σ s).toNat → (0 ≤ pk M (mI M 2234 (σ s).toNat) j ∧ pk M (mI M 2234 (σ s).toNat) j < 70200) ∧ EqE M P.2.1 e (gForm P s + j) (mI M 2233 (pk M (mI M 2234 (σ s).toNat) j).toNat)) ∧ pk M (mI M 2234 (σ s).toNat) (mI M 2235 (σ s).toNat).toNat = -1) ∨
    (gKind P s = 5 ∧ mI M 2232 (σ s).toNat = 11 ∧ mI M 2234 (σ s).toNat = gParts P s ∧ (1 ≤ gParts P s ∧ gParts P s ≤ 6) ∧ gLevel P s ≤ 5 ∧ ∀ k : Nat, (k : Int) < gParts P s → (0 ≤ pk M (mI M 2233 (σ s).toNat) k ∧ pk M (mI M 2233 (σ s).toNat) k < 70200) ∧ gHas P (gPartFirst P s k) ∧ gAround P (gPartFirst P s k) = s ∧ mI M 2233 (pk M (mI M 2233 (σ s).toNat) k).toNat = σ (gPartFirst P s k)) ∨
    ((gKind P s = 6 ∧ mI M 2232 (σ s).toNat = 13 ∨ gKind P s = 7 ∧ mI M 2232 (σ s).toNat = 14) ∧ (0 ≤ gDetail P s ∧ gDetail P s ≤ 9) ∧ gLevel P s ≤ 5 ∧ gHas P (gPartFirst P s 0) ∧ gAround P (gPartFirst P s 0) = s ∧ mI M 2233 (σ s).toNat = σ (gPartFirst P s 0)) ∨
    (gKind P s = 8 ∧ mI M 2232 (σ s).toNat = 15) ∨
    (gKind P s = 9 ∧ mI M 2232 (σ s).toNat = 16 ∧ mI M 2233 (σ s).toNat = gDetail P s ∧ (1 ≤ gDetail P s ∧ gDetail P s ≤ 9) ∧ gLevel P s ≤ 5 ∧ gHas P (gPartFirst P s 0) ∧ gAround P (gPartFirst P s 0) = s ∧ mI M 2234 (σ s).toNat = σ (gPartFirst P s 0)))) ∧
  ((price = -1 ∧ P.2.2.1.2.2.2.2 = 0) ∨ (price ≠ -1 ∧ P.2.2.1.2.2.2.2 ≠ 0 ∧ EqE M P.2.2.1 e 0 price))
theorem gHas_n1 {P : Pg} : ¬ gHas P (-1) := fun q => by have := q.1; omega
/-- without brackets around, which point: the same -/
theorem chosen_eq {st : Int} : ∀ (l : List Pt) (l' : List Pf) (i best least hr : Int), l'.length = l.length → (∀ J, J < l.length → gp l' J 45 = 0 ∧ gp l' J 46 = (gq l J).2.2 5 ∧ gp l' J 33 = (gq l J).1.1 6 ∧ gp l' J 36 = (gq l J).2.2 4) → (best ≠ -1 → least = hr) → chO st 0 l' i best hr = choN st l i best least
  | [], [], i, best, least, hr, _, _, _ => rfl
  | [], _ :: _, _, _, _, _, h, _, _ => by simp at h
  | _ :: _, [], _, _, _, _, h, _, _ => by simp at h
  | q :: l, p :: l', i, best, least, hr, hlen, hh, hb => by
    obtain ⟨h45, h46, h33, h36⟩ := hh 0 (by simp)
    have h45 : p 45 = 0 := h45
    have h46 : p 46 = q.2.2 5 := h46
    have h33 : p 33 = q.1.1 6 := h33
    have h36 : p 36 = q.2.2 4 := h36
    have em : oMine st 0 p = pWeight q st := by
      unfold oMine oRank pWeight
      rw [if_neg (by omega), h46, h33, h36]
    have ih := fun i best least hr hb => chosen_eq (st := st) l l' i best least hr (by simpa using hlen) (fun J hJ => by have := hh (J + 1) (by simpa using hJ); exact this) hb
    rw [chO_cons, choN, if_pos h45, em]
    by_cases c : best = -1
    · rw [if_pos (Or.inl c), if_pos (Or.inl c)]
      exact ih _ _ _ _ fun _ => rfl
    · rw [hb c]
      by_cases c2 : best = -1 ∨ pWeight q st < hr ∨ pWeight q st = hr ∧ ¬ (st = 1 ∨ st = 2)
      · rw [if_pos c2, if_pos (by omega)]
        exact ih _ _ _ _ fun _ => rfl
      · rw [if_neg c2, if_neg (by omega)]
        exact ih _ _ _ _ fun _ => rfl
/-- within a not: the youngest of its level -/
theorem chO_last {st lvl : Int} (hl : 0 < lvl) : ∀ (l : List Pf) (i best : Int), 0 ≤ i → chO st lvl l i best 0 = best ∧ (∀ J, J < l.length → gp l J 45 ≠ lvl) ∨ ∃ J, J < l.length ∧ gp l J 45 = lvl ∧ (∀ J', J < J' → J' < l.length → gp l J' 45 ≠ lvl) ∧ chO st lvl l i best 0 = i + J
  | [], i, best, hi => Or.inl ⟨rfl, fun J hJ => by simp at hJ⟩
  | p :: l, i, best, hi => by
    have em : oMine st lvl p = 0 := if_pos hl
    rw [chO_cons, em]
    have up : ∀ best', chO st lvl l (i + 1) best' 0 = best' ∧ (∀ J, J < l.length → gp l J 45 ≠ lvl) ∨ ∃ J, J < l.length ∧ gp l J 45 = lvl ∧ (∀ J', J < J' → J' < l.length → gp l J' 45 ≠ lvl) ∧ chO st lvl l (i + 1) best' 0 = i + 1 + J := fun best' => chO_last hl l (i + 1) best' (by omega)
    have sh : ∀ J, gp (p :: l) (J + 1) = gp l J := fun J => rfl
    by_cases c : p 45 = lvl
    · rw [if_pos c, if_pos (Or.inr (Or.inr ⟨rfl, fun q => by omega⟩))]
      rcases up i with ⟨h1, h2⟩ | ⟨J, h1, h2, h3, h4⟩
      · refine Or.inr ⟨0, by simp, c, fun J' hJ h => ?_, by rw [h1]; omega⟩
        obtain ⟨J, rfl⟩ : ∃ J, J' = J + 1 := ⟨J' - 1, by omega⟩
        exact h2 J (by simpa using h)
      · refine Or.inr ⟨J + 1, by simpa using h1, h2, fun J' hJ h => ?_, by rw [h4]; omega⟩
        obtain ⟨J2, rfl⟩ : ∃ J, J' = J + 1 := ⟨J' - 1, by omega⟩
        exact h3 J2 (by omega) (by simpa using h)
    · rw [if_neg c]
      rcases up best with ⟨h1, h2⟩ | ⟨J, h1, h2, h3, h4⟩
      · refine Or.inl ⟨h1, fun J hJ => ?_⟩
        cases J with
        | zero => exact c
        | succ J => exact h2 J (by simpa using hJ)
      · refine Or.inr ⟨J + 1, by simpa using h1, h2, fun J' hJ h => ?_, by rw [h4]; omega⟩
        obtain ⟨J2, rfl⟩ : ∃ J, J' = J + 1 := ⟨J' - 1, by omega⟩
        exact h3 J2 (by omega) (by simpa using h)
