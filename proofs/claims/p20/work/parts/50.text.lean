/-! a text as it is read: numbers and names, E's; what an E is worth -/
/-- the bytes of a text, 0 behind it -/
def Tp (tp : Nat → Int) (n : Nat) : Prop := n ≤ 150 ∧ (∀ k, k < n → 1 ≤ tp k ∧ tp k ≤ 255) ∧ ∀ k, n ≤ k → tp k = 0
theorem Tp.in {tp : Nat → Int} {n p : Nat} (h : Tp tp n) (hp : tp p ≠ 0) : p < n := by
  by_cases c : p < n
  · exact c
  · exact absurd (h.2.2 p (by omega)) hp
abbrev dg (x : Int) : Prop := 48 ≤ x ∧ x ≤ 57
/-- a number: where it ends, what it is -/
def nu (tp : Nat → Int) (p : Nat) : Nat × Int :=
  if dg (tp (p + 1)) then (if dg (tp (p + 2)) then (p + 3, 100 * (tp p - 48) + 10 * (tp (p + 1) - 48) + (tp (p + 2) - 48)) else (p + 2, 10 * (tp p - 48) + (tp (p + 1) - 48)))
  else (p + 1, tp p - 48)
/-- a U: whether it is one, where it ends (or fails), its sign -/
def un (tp : Nat → Int) : Nat → Nat → Int × Nat × Int
  | 0, p => (0, p, 0)
  | f + 1, p =>
    if tp p = 45 then ((un tp f (p + 1)).1, (un tp f (p + 1)).2.1, -1 - (un tp f (p + 1)).2.2)
    else if 97 ≤ tp p ∧ tp p ≤ 104 then (1, p + 1, 1000 + (tp p - 97))
    else if dg (tp p) then (1, (nu tp p).1, (nu tp p).2)
    else (0, p, 0)
theorem nu_b {tp : Nat → Int} {n p : Nat} (h : Tp tp n) (hp : dg (tp p)) : p < (nu tp p).1 ∧ (nu tp p).1 ≤ n ∧ (nu tp p).1 ≤ p + 3 ∧ 0 ≤ (nu tp p).2 ∧ (nu tp p).2 ≤ 999 := by
  have h0 := h.in (p := p) (by omega)
  unfold nu
  by_cases c : dg (tp (p + 1))
  · have h1 := h.in (p := p + 1) (by omega)
    rw [if_pos c]
    by_cases c2 : dg (tp (p + 2))
    · have h2 := h.in (p := p + 2) (by omega)
      rw [if_pos c2]
      show p < p + 3 ∧ p + 3 ≤ n ∧ p + 3 ≤ p + 3 ∧ _ ≤ _ ∧ _ ≤ _
      omega
    · rw [if_neg c2]
      show p < p + 2 ∧ p + 2 ≤ n ∧ p + 2 ≤ p + 3 ∧ _ ≤ _ ∧ _ ≤ _
      omega
  · rw [if_neg c]
    show p < p + 1 ∧ p + 1 ≤ n ∧ p + 1 ≤ p + 3 ∧ _ ≤ _ ∧ _ ≤ _
    omega
theorem un_b {tp : Nat → Int} {n : Nat} (h : Tp tp n) : ∀ (f p : Nat), p ≤ n → n < p + f → p ≤ (un tp f p).2.1 ∧ (un tp f p).2.1 ≤ n ∧ ((un tp f p).1 = 0 ∨ (un tp f p).1 = 1) ∧ ((un tp f p).1 = 1 → p < (un tp f p).2.1) ∧ -1008 ≤ (un tp f p).2.2 ∧ (un tp f p).2.2 ≤ 1007
  | 0, p, h1, h2 => by omega
  | f + 1, p, h1, h2 => by
    rw [un]
    by_cases c : tp p = 45
    · have h0 := h.in (p := p) (by omega)
      have ih := un_b h f (p + 1) (by omega) (by omega)
      rw [if_pos c]
      show p ≤ (un tp f (p + 1)).2.1 ∧ (un tp f (p + 1)).2.1 ≤ n ∧ ((un tp f (p + 1)).1 = 0 ∨ (un tp f (p + 1)).1 = 1) ∧ ((un tp f (p + 1)).1 = 1 → p < (un tp f (p + 1)).2.1) ∧ -1008 ≤ -1 - (un tp f (p + 1)).2.2 ∧ -1 - (un tp f (p + 1)).2.2 ≤ 1007
      obtain ⟨i1, i2, i3, i4, i5, i6⟩ := ih
      exact ⟨by omega, i2, i3, fun _ => by omega, by omega, by omega⟩
    · rw [if_neg c]
      by_cases c2 : 97 ≤ tp p ∧ tp p ≤ 104
      · have h0 := h.in (p := p) (by omega)
        rw [if_pos c2]
        show p ≤ p + 1 ∧ p + 1 ≤ n ∧ ((1 : Int) = 0 ∨ (1 : Int) = 1) ∧ ((1 : Int) = 1 → p < p + 1) ∧ -1008 ≤ 1000 + (tp p - 97) ∧ 1000 + (tp p - 97) ≤ 1007
        exact ⟨by omega, by omega, Or.inr rfl, fun _ => by omega, by omega, by omega⟩
      · rw [if_neg c2]
        by_cases c3 : dg (tp p)
        · have hn := nu_b h c3
          rw [if_pos c3]
          show p ≤ (nu tp p).1 ∧ (nu tp p).1 ≤ n ∧ ((1 : Int) = 0 ∨ (1 : Int) = 1) ∧ ((1 : Int) = 1 → p < (nu tp p).1) ∧ -1008 ≤ (nu tp p).2 ∧ (nu tp p).2 ≤ 1007
          exact ⟨by omega, by omega, Or.inr rfl, fun _ => by omega, by omega, by omega⟩
        · rw [if_neg c3]
          show p ≤ p ∧ p ≤ n ∧ ((0 : Int) = 0 ∨ (0 : Int) = 1) ∧ ((0 : Int) = 1 → p < p) ∧ -1008 ≤ (0 : Int) ∧ (0 : Int) ≤ 1007
          exact ⟨Nat.le_refl _, h1, Or.inl rfl, fun q => absurd q (by decide), by omega, by omega⟩
theorem un_fuel {tp : Nat → Int} {n : Nat} (h : Tp tp n) : ∀ (f f' p : Nat), n < p + f → n < p + f' → p ≤ n → un tp f p = un tp f' p
  | 0, f', p, h1, h2, h3 => by omega
  | f + 1, 0, p, h1, h2, h3 => by omega
  | f + 1, f' + 1, p, h1, h2, h3 => by
    rw [un, un]
    by_cases c : tp p = 45
    · have h0 := h.in (p := p) (by omega)
      rw [if_pos c, if_pos c, un_fuel h f f' (p + 1) (by omega) (by omega) (by omega)]
    · rw [if_neg c, if_neg c]
/-- how a factor is joined to what stands before -/
def jo (x : Int) : Int := if x = 43 then 1 else if x = 45 then 2 else if x = 42 then 3 else 0
abbrev FL : Type := List (Int × Int)
/-- an E from its factors' place on; behind a factor -/
def er (tp : Nat → Int) (N : Nat) : Nat → Nat → Int → FL → Int × Nat × FL
  | 0, p, _, l => (0, p, l)
  | f + 1, p, j, l =>
    if (un tp N p).1 = 1 then
      (if jo (tp (un tp N p).2.1) = 0 then (1, (un tp N p).2.1, l ++ [(j, (un tp N p).2.2)])
       else er tp N f ((un tp N p).2.1 + 1) (jo (tp (un tp N p).2.1)) (l ++ [(j, (un tp N p).2.2)]))
    else (0, (un tp N p).2.1, l)
def er2 (tp : Nat → Int) (N f q : Nat) (l : FL) : Int × Nat × FL := if jo (tp q) = 0 then (1, q, l) else er tp N f (q + 1) (jo (tp q)) l
theorem er_ok {tp : Nat → Int} {N f p : Nat} {j : Int} {l : FL} (h : (un tp N p).1 = 1) : er tp N (f + 1) p j l = er2 tp N f (un tp N p).2.1 (l ++ [(j, (un tp N p).2.2)]) := by
  rw [er, if_pos h]; rfl
theorem er_bad {tp : Nat → Int} {N f p : Nat} {j : Int} {l : FL} (h : (un tp N p).1 ≠ 1) : er tp N (f + 1) p j l = (0, (un tp N p).2.1, l) := by
  rw [er, if_neg h]
theorem jo_in {tp : Nat → Int} {n q : Nat} (h : Tp tp n) (hj : jo (tp q) ≠ 0) : q < n := by
  refine h.in fun c => hj ?_
  rw [c]; decide
/-- what it is: where it ends, how its factors stand -/
theorem er_b {tp : Nat → Int} {n N : Nat} (h : Tp tp n) (hN : n < N) : ∀ (f p : Nat) (j : Int) (l : FL), p ≤ n → n < p + f → p ≤ (er tp N f p j l).2.1 ∧ (er tp N f p j l).2.1 ≤ n ∧ ((er tp N f p j l).1 = 0 ∨ (er tp N f p j l).1 = 1) ∧ ∃ l', (er tp N f p j l).2.2 = l ++ l' ∧ l'.length ≤ (er tp N f p j l).2.1 - p ∧ ((er tp N f p j l).1 = 1 → 1 ≤ l'.length ∧ p < (er tp N f p j l).2.1 ∧ jo (tp (er tp N f p j l).2.1) = 0)
  | 0, p, j, l, h1, h2 => by omega
  | f + 1, p, j, l, h1, h2 => by
    obtain ⟨i1, i2, i3, i4, i5, i6⟩ := un_b h N p h1 (by omega)
    by_cases c : (un tp N p).1 = 1
    · have i4 := i4 c
      rw [er_ok c, er2]
      by_cases c2 : jo (tp (un tp N p).2.1) = 0
      · rw [if_pos c2]
        exact ⟨by show p ≤ (un tp N p).2.1; omega, by show (un tp N p).2.1 ≤ n; omega, Or.inr rfl, [(j, (un tp N p).2.2)], rfl, by show 1 ≤ (un tp N p).2.1 - p; omega, fun _ => ⟨Nat.le_refl 1, i4, c2⟩⟩
      · rw [if_neg c2]
        have hq := jo_in h c2
        obtain ⟨k1, k2, k3, l', k4, k5, k6⟩ := er_b h hN f ((un tp N p).2.1 + 1) (jo (tp (un tp N p).2.1)) (l ++ [(j, (un tp N p).2.2)]) (by omega) (by omega)
        refine ⟨by omega, k2, k3, (j, (un tp N p).2.2) :: l', by rw [k4, List.append_assoc]; rfl, by show l'.length + 1 ≤ _; omega, fun q => ?_⟩
        obtain ⟨k7, k8, k9⟩ := k6 q
        exact ⟨by show 1 ≤ l'.length + 1; omega, by omega, k9⟩
    · rw [er_bad c]
      refine ⟨i1, i2, Or.inl rfl, [], by rw [List.append_nil], Nat.zero_le _, fun q => by cases q⟩
def ee (tp : Nat → Int) (N p : Nat) : Int × Nat × FL := er tp N N p 0 []
def chk (v : Int) : Option Int := if -999 ≤ v ∧ v ≤ 999 then some v else none
/-- a factor's worth; the working -/
def cw (vals : Nat → Int) (c : Int) : Int := if 0 ≤ c then (if 1000 ≤ c ∧ c < 1008 then vals (c - 1000).toNat else c) else (if c ≤ -1001 ∧ -1009 < c then - vals (-1 - c - 1000).toNat else 1 + c)
abbrev Ws : Type := Option Int × Int × Option Int
def wfin (s : Ws) : Option Int := s.1.bind fun a => s.2.2.bind fun p => chk (a + s.2.1 * p)
def wstp (vals : Nat → Int) (s : Ws) (c : Int × Int) : Ws := if c.1 = 3 then (s.1, s.2.1, s.2.2.bind fun p => chk (p * cw vals c.2)) else (wfin s, (if c.1 = 2 then -1 else 1), chk (cw vals c.2))
def w00 : Ws := (some 0, 1, some 0)
def wst (vals : Nat → Int) (l : FL) : Ws := l.foldl (wstp vals) w00
def lval (vals : Nat → Int) (l : FL) : Option Int := wfin (wst vals l)
theorem wst_app {vals : Nat → Int} {l : FL} {c : Int × Int} : wst vals (l ++ [c]) = wstp vals (wst vals l) c := by
  unfold wst
  rw [List.foldl_append]; rfl
theorem cw_neg {vals : Nat → Int} {c : Int} : cw vals (-1 - c) = - cw vals c := by
  unfold cw
  by_cases h : 0 ≤ c
  · rw [if_pos h, if_neg (by omega)]
    by_cases h2 : 1000 ≤ c ∧ c < 1008
    · rw [if_pos h2, if_pos (by omega), show -1 - (-1 - c) - 1000 = c - 1000 by omega]
    · rw [if_neg h2, if_neg (by omega)]; omega
  · rw [if_neg h, if_pos (by omega)]
    by_cases h2 : c ≤ -1001 ∧ -1009 < c
    · rw [if_pos h2, if_pos (by omega)]; omega
    · rw [if_neg h2, if_neg (by omega)]; omega
theorem cw_eq {v v' : Nat → Int} (hv : ∀ k, k < 8 → v k = v' k) (c : Int) : cw v c = cw v' c := by
  unfold cw
  split
  · split
    · exact hv _ (by omega)
    · rfl
  · split
    · rw [hv _ (by omega)]
    · rfl
theorem wst_eq {v v' : Nat → Int} (hv : ∀ k, k < 8 → v k = v' k) (l : FL) : wst v l = wst v' l := by
  unfold wst
  have : wstp v = wstp v' := by
    funext s c
    unfold wstp
    rw [cw_eq hv]
  rw [this]
theorem wfin_none {s : Ws} (h : s.1 = none ∨ s.2.2 = none) : wfin s = none := by
  unfold wfin
  rcases h with h | h
  · rw [h]; rfl
  · rw [h]
    cases s.1 <;> rfl
theorem wfold_none {vals : Nat → Int} : ∀ (l : FL) (s : Ws), (s.1 = none ∨ s.2.2 = none) → wfin (l.foldl (wstp vals) s) = none
  | [], s, h => wfin_none h
  | c :: l, s, h => by
    refine wfold_none l (wstp vals s c) ?_
    unfold wstp
    by_cases c3 : c.1 = 3
    · rw [if_pos c3]
      rcases h with h | h
      · exact Or.inl h
      · exact Or.inr (by show s.2.2.bind _ = none; rw [h]; rfl)
    · rw [if_neg c3]
      exact Or.inl (wfin_none h)
theorem fWork_cw {f vals : Nat → Int} {i : Int} : fWork f vals i = cw vals (fOf f i) := rfl
/-- the class's working is this one -/
theorem wLoop_eq {f j vals : Nat → Int} : ∀ (k : Nat) (i s g p : Int), isV s → wLoop f j vals k i s g p = (wfin (((List.range k).map fun t : Nat => (fOf j (i + t), fOf f (i + t))).foldl (wstp vals) (some s, g, some p))).getD 999999
  | 0, i, s, g, p, hs => by
    rw [wLoop]
    show _ = (chk (s + g * p)).getD 999999
    unfold chk
    by_cases c : isV (s + g * p)
    · rw [if_pos c, if_pos (show -999 ≤ s + g * p ∧ s + g * p ≤ 999 from c)]; rfl
    · rw [if_neg c, if_neg (show ¬ (-999 ≤ s + g * p ∧ s + g * p ≤ 999) from c)]; rfl
  | k + 1, i, s, g, p, hs => by
    have el : ((List.range (k + 1)).map fun t : Nat => (fOf j (i + t), fOf f (i + t))) = (fOf j i, fOf f i) :: ((List.range k).map fun t : Nat => (fOf j (i + 1 + t), fOf f (i + 1 + t))) := by
      rw [List.range_succ_eq_map, List.map_cons, List.map_map]
      congr 1
      · show (fOf j (i + ((0 : Nat) : Int)), fOf f (i + ((0 : Nat) : Int))) = _
        rw [show i + ((0 : Nat) : Int) = i by omega]
      · refine List.map_congr_left fun t _ => ?_
        show (fOf j (i + ((t + 1 : Nat) : Int)), fOf f (i + ((t + 1 : Nat) : Int))) = _
        rw [show i + ((t + 1 : Nat) : Int) = i + 1 + t by omega]
    rw [el, wLoop, List.foldl_cons, fWork_cw]
    by_cases c3 : fOf j i = 3
    · rw [if_pos c3]
      have e1 : wstp vals (some s, g, some p) (fOf j i, fOf f i) = (some s, g, chk (p * cw vals (fOf f i))) := by
        unfold wstp
        exact if_pos c3
      rw [e1]
      by_cases c4 : isV (p * cw vals (fOf f i))
      · rw [if_pos ⟨c4, hs⟩, show chk (p * cw vals (fOf f i)) = some (p * cw vals (fOf f i)) from if_pos c4]
        exact wLoop_eq k (i + 1) s g _ hs
      · rw [if_neg (fun q => c4 q.1), show chk (p * cw vals (fOf f i)) = none from if_neg c4, wfold_none _ _ (Or.inr rfl)]
        rfl
    · rw [if_neg c3]
      have e1 : wstp vals (some s, g, some p) (fOf j i, fOf f i) = (chk (s + g * p), (if fOf j i = 2 then -1 else 1), chk (cw vals (fOf f i))) := by
        unfold wstp
        exact if_neg c3
      rw [e1]
      by_cases c4 : isV (s + g * p)
      · by_cases c5 : isV (cw vals (fOf f i))
        · rw [if_pos ⟨c5, c4⟩, show chk (s + g * p) = some (s + g * p) from if_pos c4, show chk (cw vals (fOf f i)) = some (cw vals (fOf f i)) from if_pos c5]
          exact wLoop_eq k (i + 1) _ _ _ c4
        · rw [if_neg (fun q => c5 q.1), show chk (cw vals (fOf f i)) = none from if_neg c5, wfold_none _ _ (Or.inr rfl)]
          rfl
      · rw [if_neg (fun q => c4 q.2), show chk (s + g * p) = none from if_neg c4, wfold_none _ _ (Or.inl rfl)]
        rfl
def nuL (tp : Nat → Int) : Nat → Nat → Int → Nat × Int
  | 0, q, v => (q, v)
  | j + 1, q, v => if dg (tp q) then nuL tp j (q + 1) (10 * v + tp q - 48) else (q, v)
theorem nu_nuL {tp : Nat → Int} {p : Nat} (h : dg (tp p)) : nuL tp 3 p 0 = nu tp p := by
  unfold nu
  rw [nuL, if_pos h, nuL]
  by_cases c : dg (tp (p + 1))
  · rw [if_pos c, if_pos c, nuL]
    by_cases c2 : dg (tp (p + 2))
    · rw [if_pos c2, if_pos (show dg (tp (p + 1 + 1)) from c2), nuL]
      refine Prod.ext rfl ?_
      show 10 * (10 * (10 * 0 + tp p - 48) + tp (p + 1) - 48) + tp (p + 1 + 1) - 48 = 100 * (tp p - 48) + 10 * (tp (p + 1) - 48) + (tp (p + 2) - 48)
      rw [show p + 1 + 1 = p + 2 from rfl]
      omega
    · rw [if_neg c2, if_neg (show ¬ dg (tp (p + 1 + 1)) from c2)]
      refine Prod.ext rfl ?_
      show 10 * (10 * 0 + tp p - 48) + tp (p + 1) - 48 = 10 * (tp p - 48) + (tp (p + 1) - 48)
      omega
  · rw [if_neg c, if_neg c]
    refine Prod.ext rfl ?_
    show 10 * 0 + tp p - 48 = tp p - 48
    omega
theorem nuL_no {tp : Nat → Int} {p : Nat} (h : ¬ dg (tp p)) : nuL tp 3 p 0 = (p, 0) := by rw [nuL, if_neg h]
theorem nuL_le {tp : Nat → Int} : ∀ (j q : Nat) (v : Int), q ≤ (nuL tp j q v).1
  | 0, q, v => Nat.le_refl _
  | j + 1, q, v => by
    rw [nuL]
    split
    · have := nuL_le (tp := tp) j (q + 1) (10 * v + tp q - 48); omega
    · exact Nat.le_refl _
