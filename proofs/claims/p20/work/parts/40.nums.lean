/-! the search of this program: its numbers, its choices, what is to come -/
abbrev T3 : Type := Int × Int × Int
/-- the numbers of a run: p q u v, the sign, the list -/
abbrev Nm : Type := Int × Int × Int × Int × Int × (Nat → Int)
def nmP (c : Nm) : Int := c.1
def nmQ (c : Nm) : Int := c.2.1
def nmU (c : Nm) : Int := c.2.2.1
def nmV (c : Nm) : Int := c.2.2.2.1
def nmS (c : Nm) : Int := c.2.2.2.2.1
def nmL (c : Nm) : Nat → Int := c.2.2.2.2.2
def NmB (c : Nm) : Prop := (-3 ≤ nmP c ∧ nmP c ≤ 0) ∧ (nmP c - 1 ≤ nmQ c ∧ nmQ c ≤ nmP c + 3) ∧ (0 ≤ nmU c ∧ nmU c ≤ 4) ∧ (-4 ≤ nmV c ∧ nmV c ≤ 4) ∧ ∀ k, 0 ≤ nmL c k ∧ nmL c k ≤ 8
/-- how many choices there are at a statement; which is the k-th -/
def nch (c : Nm) (s : Nat) (f : Nat → Int) : Nat := if s = 0 then (nmQ c - nmP c + 1).toNat else if s = 1 then 3 else (f 0 + 3).toNat
def cval (c : Nm) (s : Nat) (k : Nat) : Int := if s = 0 then nmP c + k else if s = 1 then nmL c k else -2 + (k : Int)
def qTest (c : Nm) (f : Nat → Int) : Bool := gIsSo (f 0 + f 1 * nmU c) (nmS c) (f 2 + nmV c)
/-- the values of the ways that are still to be taken at a statement -/
def rst (c : Nm) (s : Nat) (f : Nat → Int) (t n : Nat) : List (Nat → Int) := (List.range' t (n - t)).map fun k => fup f s (cval c s k)
/-- the answers of a way that has r statements to choose at before it -/
def an (c : Nm) : Nat → (Nat → Int) → List T3
  | 0, f => if qTest c f = true then [(f 0, f 1, f 2)] else []
  | r + 1, f => (rst c (2 - r) f 0 (nch c (2 - r) f)).flatMap (an c r)
/-- a weight of such a way: a for each statement begun, b for each taking, l at its end -/
def wt (c : Nm) (a b l : Nat) : Nat → (Nat → Int) → Nat
  | 0, _ => 2 * l
  | r + 1, f => a + ((rst c (2 - r) f 0 (nch c (2 - r) f)).map fun g => b + wt c a b l r g).sum
def wR (w : Wy) : Nat := 3 - (w.1 5).toNat
def wA (c : Nm) (w : Wy) : List T3 := an c (wR w) w.2.1
def wWt (c : Nm) (a b l : Nat) (w : Wy) : Nat := if w.1 3 = -1 then l else wt c a b l (wR w) w.2.1
def pS (p : Pt) : Nat := (p.1.1 5).toNat
def pRst (c : Nm) (p : Pt) : List (Nat → Int) := rst c (pS p) p.1.2.1 (p.2.2 4).toNat (p.2.2 3).toNat
def pA (c : Nm) (p : Pt) : List T3 := (pRst c p).flatMap (an c (2 - pS p))
def pWt (c : Nm) (a b l : Nat) (p : Pt) : Nat := ((pRst c p).map fun g => b + wt c a b l (2 - pS p) g).sum
def zA (c : Nm) (S : Sr) : List T3 := (if sC S 12 = 0 then [] else wA c (S.1 0)) ++ S.2.1.reverse.flatMap (pA c)
def rW (c : Nm) (a b l : Nat) (r : List Pt) : Nat := (r.map (pWt c a b l)).sum
def zW (c : Nm) (a b l : Nat) (S : Sr) : Nat := (if sC S 12 = 0 then 0 else wWt c a b l (S.1 0)) + rW c a b l S.2.1
def f0 : Nat → Int := fun _ => 0
def AL (c : Nm) : List T3 := an c 3 f0
section NUMS
variable {c : Nm} {s t n a b l : Nat} {f : Nat → Int}
theorem rst_cons (h : t < n) : rst c s f t n = fup f s (cval c s t) :: rst c s f (t + 1) n := by
  unfold rst
  rw [show n - t = (n - (t + 1)) + 1 by omega, List.range'_succ, List.map_cons]
theorem rst_nil (h : n ≤ t) : rst c s f t n = [] := by
  unfold rst
  rw [show n - t = 0 by omega]; rfl
theorem nch_le (hB : NmB c) (hf : f 0 ≤ 3) : nch c s f ≤ 6 := by
  obtain ⟨h1, h2, -⟩ := hB
  unfold nch
  split
  · omega
  · split
    · omega
    · omega
/-- a way's shape: at a, behind s takings -/
def Shp (c : Nm) (a : Int) (s : Nat) (w : Wy) : Prop := (w.1 3 = a ∧ w.1 4 = -1 ∧ w.1 5 = s) ∧ (0 ≤ w.1 6 ∧ w.1 6 ≤ s) ∧ wB w ∧ (∀ k, s ≤ k → w.2.1 k = 0) ∧ (1 ≤ s → nmP c ≤ w.2.1 0 ∧ w.2.1 0 ≤ nmQ c) ∧ (2 ≤ s → ∃ j, j < 3 ∧ w.2.1 1 = nmL c j) ∧ (3 ≤ s → -2 ≤ w.2.1 2 ∧ w.2.1 2 ≤ w.2.1 0)
def okW (c : Nm) (w : Wy) : Prop := (∃ s : Nat, s ≤ 3 ∧ Shp c s s w) ∨ (Shp c (-1) 3 w ∧ qTest c w.2.1 = true)
def okP (c : Nm) (p : Pt) : Prop := ∃ s : Nat, s < 3 ∧ Shp c s s p.1 ∧ (0 ≤ p.2.2 4 ∧ p.2.2 4 < p.2.2 3) ∧ p.2.2 3 = nch c s p.1.2.1 ∧ (s ≠ 1 → p.2.2 2 = cval c s 0) ∧ (s = 1 → ∀ k, k < 3 → p.2.1 k = nmL c k)
def sml (f : Nat → Int) : Prop := (-3 ≤ f 0 ∧ f 0 ≤ 3) ∧ (0 ≤ f 1 ∧ f 1 ≤ 8) ∧ (-2 ≤ f 2 ∧ f 2 ≤ 3)
/-- what the program is -/
def PF (c : Nm) (P : Pg) : Prop := PB P ∧ P.2.2.2 = 4 ∧ (P.1 0 0 = 3 ∧ P.1 0 1 = 4 ∧ P.1 0 2 = 3 ∧ P.1 0 3 = 2) ∧ (P.1 1 0 = 0 ∧ P.1 1 1 = 1 ∧ P.1 1 2 = 2 ∧ P.1 1 3 = nmS c) ∧ (P.1 2 0 = 0 ∧ P.1 2 1 = 2 ∧ P.1 2 2 = 5 ∧ P.1 2 3 = 7) ∧ (P.1 3 0 = 1 ∧ P.1 3 1 = 2 ∧ P.1 3 2 = 3 ∧ P.1 3 3 = -1) ∧ ∀ f, sml f → (fWorth P.2.1 0 f = nmP c ∧ fWorth P.2.1 1 f = nmQ c ∧ (∀ k : Nat, k < 3 → fWorth P.2.1 (2 + k) f = nmL c k) ∧ fWorth P.2.1 5 f = -2 ∧ fWorth P.2.1 6 f = f 0 ∧ fWorth P.2.1 7 f = f 0 + f 1 * nmU c ∧ fWorth P.2.1 8 f = f 2 + nmV c) ∧ gPrice P f = f 0 * f 1 - f 2
theorem Shp.sml {x : Int} {w : Wy} (h : Shp c x s w) (hB : NmB c) : sml w.2.1 := by
  obtain ⟨-, -, -, h4, h5, h6, h7⟩ := h
  obtain ⟨b1, b2, -, -, b5⟩ := hB
  have e0 : -3 ≤ w.2.1 0 ∧ w.2.1 0 ≤ 3 := by
    by_cases q : 1 ≤ s
    · have := h5 q; omega
    · have := h4 0 (by omega); omega
  refine ⟨e0, ?_, ?_⟩
  · by_cases q : 2 ≤ s
    · obtain ⟨j, -, hj⟩ := h6 q
      have := b5 j
      omega
    · have := h4 1 (by omega); omega
  · by_cases q : 3 ≤ s
    · have := h7 q; omega
    · have := h4 2 (by omega); omega
theorem wA_sh {x : Int} {w : Wy} (h : Shp c x s w) (hs : s < 3) : wA c w = (rst c s w.2.1 0 (nch c s w.2.1)).flatMap (an c (2 - s)) := by
  unfold wA wR
  rw [h.1.2.2, Int.toNat_natCast]
  obtain rfl | rfl | rfl : s = 0 ∨ s = 1 ∨ s = 2 := by omega
  all_goals rfl
theorem wA_3 {x : Int} {w : Wy} (h : Shp c x 3 w) : wA c w = if qTest c w.2.1 = true then [(w.2.1 0, w.2.1 1, w.2.1 2)] else [] := by
  unfold wA wR
  rw [h.1.2.2]
  rfl
theorem wWt_sh {w : Wy} (h : Shp c s s w) (hs : s < 3) : wWt c a b l w = a + ((rst c s w.2.1 0 (nch c s w.2.1)).map fun g => b + wt c a b l (2 - s) g).sum := by
  unfold wWt wR
  rw [h.1.2.2, Int.toNat_natCast, if_neg (by rw [h.1.1]; omega)]
  obtain rfl | rfl | rfl : s = 0 ∨ s = 1 ∨ s = 2 := by omega
  all_goals rfl
theorem wWt_3 {w : Wy} (h : Shp c 3 3 w) : wWt c a b l w = 2 * l := by
  unfold wWt wR
  rw [h.1.2.2, if_neg (by rw [h.1.1]; decide)]
  rfl
theorem wWt_e {w : Wy} (h : Shp c (-1) 3 w) : wWt c a b l w = l := if_pos h.1.1
theorem gK {P : Pg} (h : PF c P) (hs : s < 4) : gHas P s := ⟨by omega, by have := h.2.1; omega, by omega⟩
theorem PF.kind {P : Pg} (h : PF c P) (hs : s < 4) : gKind P s = if s = 1 then 4 else if s = 3 then 2 else 3 := by
  unfold gKind
  rw [if_pos (gK h hs), Int.toNat_natCast]
  obtain ⟨-, -, ⟨k0, k1, k2, k3⟩, -⟩ := h
  obtain rfl | rfl | rfl | rfl : s = 0 ∨ s = 1 ∨ s = 2 ∨ s = 3 := by omega
  · exact k0
  · exact k1
  · exact k2
  · exact k3
theorem PF.det {P : Pg} (h : PF c P) (hs : s < 4) : gDetail P s = if s = 3 then nmS c else s := by
  unfold gDetail
  rw [if_pos (gK h hs), Int.toNat_natCast]
  obtain ⟨-, -, -, ⟨k0, k1, k2, k3⟩, -⟩ := h
  obtain rfl | rfl | rfl | rfl : s = 0 ∨ s = 1 ∨ s = 2 ∨ s = 3 := by omega
  · exact k0
  · exact k1
  · exact k2
  · exact k3
theorem PF.form {P : Pg} (h : PF c P) (hs : s < 4) : gForm P s = if s = 0 then 0 else if s = 1 then 2 else if s = 2 then 5 else 7 := by
  unfold gForm
  rw [if_pos (gK h hs), Int.toNat_natCast]
  obtain ⟨-, -, -, -, ⟨k0, k1, k2, k3⟩, -⟩ := h
  obtain rfl | rfl | rfl | rfl : s = 0 ∨ s = 1 ∨ s = 2 ∨ s = 3 := by omega
  · exact k0
  · exact k1
  · exact k2
  · exact k3
theorem PF.beh {P : Pg} (h : PF c P) (hs : s < 4) : gBehind P s = if s = 3 then -1 else ((s + 1 : Nat) : Int) := by
  unfold gBehind
  rw [if_pos (gK h hs), Int.toNat_natCast]
  obtain ⟨-, -, -, -, -, ⟨k0, k1, k2, k3⟩, -⟩ := h
  obtain rfl | rfl | rfl | rfl : s = 0 ∨ s = 1 ∨ s = 2 ∨ s = 3 := by omega
  · exact k0
  · exact k1
  · exact k2
  · exact k3
theorem okP.pB {P : Pg} {p : Pt} (h : okP c p) (hP : PF c P) (hB : NmB c) : pB P p := by
  obtain ⟨s, hs, h1, h2, h3, h4, h5⟩ := h
  have hm := h1.sml hB
  have hn := nch_le (s := s) hB hm.1.2
  obtain ⟨b1, b2, b3, b4, b5⟩ := hB
  have ek := hP.kind (s := s) (by omega)
  refine ⟨h1.2.2.1, fun k3 k5 => ?_, fun k3 => ?_, by omega, h2⟩
  · rw [h1.1.1, ek] at k3
    have e1 : s = 1 := by
      by_cases q : s = 1
      · exact q
      · rw [if_neg q, if_neg (by omega)] at k3; exact absurd rfl k3
    refine ⟨by omega, fun k hk => ?_⟩
    have e3 : nch c s p.1.2.1 = 3 := by rw [e1]; rfl
    rw [h5 e1 k (by omega)]
    have := b5 k
    exact ⟨by omega, by omega⟩
  · rw [h1.1.1, ek] at k3
    have e1 : s ≠ 1 := fun q => by rw [if_pos q] at k3; exact absurd k3 (by decide)
    rw [h4 e1]
    unfold cval
    obtain rfl | rfl : s = 0 ∨ s = 2 := by omega
    · rw [if_pos rfl]; exact ⟨⟨by omega, by omega⟩, by omega⟩
    · rw [if_neg (by decide), if_neg (by decide)]; exact ⟨⟨by omega, by omega⟩, by omega⟩
end NUMS
