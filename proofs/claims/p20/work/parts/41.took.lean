/-! rows of points: sums, what comes of them; a point is taken -/
section ROWS
variable {α β : Type}
theorem sum_set (f : α → Nat) : ∀ (l : List α) (i : Nat) (p p' : α), l[i]? = some p → ((l.set i p').map f).sum + f p = (l.map f).sum + f p'
  | [], i, p, p', h => by simp at h
  | x :: l, 0, p, p', h => by
    simp at h
    subst h
    simp [List.sum_cons]; omega
  | x :: l, i + 1, p, p', h => by
    have ih := sum_set f l i p p' (by simpa using h)
    show (f x + ((l.set i p').map f).sum) + f p = (f x + (l.map f).sum) + f p'
    omega
theorem sum_erase (f : α → Nat) : ∀ (l : List α) (i : Nat) (p : α), l[i]? = some p → ((l.eraseIdx i).map f).sum + f p = (l.map f).sum
  | [], i, p, h => by simp at h
  | x :: l, 0, p, h => by
    simp at h
    subst h
    simp [List.sum_cons]; omega
  | x :: l, i + 1, p, h => by
    have ih := sum_erase f l i p (by simpa using h)
    show (f x + ((l.eraseIdx i).map f).sum) + f p = f x + (l.map f).sum
    omega
theorem fm_erase (f : α → List β) : ∀ (l : List α) (i : Nat) (p : α), l[i]? = some p → (l.flatMap f).Perm (f p ++ (l.eraseIdx i).flatMap f)
  | [], i, p, h => by simp at h
  | x :: l, 0, p, h => by
    simp at h
    subst h
    exact List.Perm.refl _
  | x :: l, i + 1, p, h => by
    have ih := fm_erase f l i p (by simpa using h)
    show (f x ++ l.flatMap f).Perm (f p ++ (f x ++ (l.eraseIdx i).flatMap f))
    exact (List.Perm.append_left _ ih).trans (List.perm_append_comm_assoc _ _ _)
theorem fm_set (f : α → List β) : ∀ (l : List α) (i : Nat) (p p' : α), l[i]? = some p → ((l.set i p').flatMap f).Perm (f p' ++ (l.eraseIdx i).flatMap f)
  | [], i, p, p', h => by simp at h
  | x :: l, 0, p, p', h => List.Perm.refl _
  | x :: l, i + 1, p, p', h => by
    have ih := fm_set f l i p p' (by simpa using h)
    show (f x ++ (l.set i p').flatMap f).Perm (f p' ++ (f x ++ (l.eraseIdx i).flatMap f))
    exact (List.Perm.append_left _ ih).trans (List.perm_append_comm_assoc _ _ _)
theorem last_set : ∀ (l : List α) (i : Nat) (p p' : α), l[i]? = some p → i + 1 = l.length → l = l.take i ++ [p] ∧ l.set i p' = l.take i ++ [p'] ∧ l.eraseIdx i = l.take i
  | [], i, p, p', h, e => by simp at h
  | x :: l, 0, p, p', h, e => by
    simp at h e
    subst h
    subst e
    exact ⟨rfl, rfl, rfl⟩
  | x :: l, i + 1, p, p', h, e => by
    obtain ⟨h1, h2, h3⟩ := last_set l i p p' (by simpa using h) (by simpa using e)
    refine ⟨?_, ?_, ?_⟩
    · show x :: l = x :: (l.take i ++ [p]); rw [← h1]
    · show x :: l.set i p' = x :: (l.take i ++ [p']); rw [← h2]
    · show x :: l.eraseIdx i = x :: l.take i; rw [← h3]
theorem mem_set {l : List α} {i : Nat} {p q : α} (h : q ∈ l.set i p) : q ∈ l ∨ q = p := List.mem_or_eq_of_mem_set h
end ROWS
section TOOK
variable {c : Nm} {P : Pg} {p : Pt} {i s : Nat}
theorem wo_Shp {x : Int} {w : Wy} (h : Shp c x s w) : Shp c x s (wWithout w i) := h
theorem wo_okP (h : okP c p) : okP c (pWithout i p) := h
theorem wo_pA : pA c (pWithout i p) = pA c p := rfl
theorem wo_pW {a b l : Nat} : pWt c a b l (pWithout i p) = pWt c a b l p := rfl
theorem okP_s (h : okP c p) : pS p < 3 ∧ p.1.1 5 = pS p ∧ Shp c (pS p) (pS p) p.1 ∧ p.2.2 3 = nch c (pS p) p.1.2.1 := by
  obtain ⟨s, hs, h1, h2, h3, -⟩ := h
  have e : pS p = s := by unfold pS; rw [h1.1.2.2, Int.toNat_natCast]
  rw [e]
  exact ⟨hs, h1.1.2.2, h1, h3⟩
theorem gK' {P : Pg} {s : Nat} (h : PF c P) (hs : s < 3) : gKind P s ≠ 5 := by
  rw [h.kind (by omega)]
  split
  · decide
  · split
    · decide
    · decide
/-- the way that goes on -/
theorem took_way (hP : PF c P) (hB : NmB c) (h : okP c p) : Shp c ((pS p + 1 : Nat) : Int) (pS p + 1) (tWay P p i) ∧ (tWay P p i).2.1 = fup p.1.2.1 (pS p) (cval c (pS p) (p.2.2 4).toNat) := by
  obtain ⟨e1, e2, -, -⟩ := okP_s h
  obtain ⟨s, hs, h1, h2, h3, h4, h5⟩ := h
  have e : pS p = s := by have := h1.1.2.2; omega
  rw [e] at e1 e2 ⊢
  have hn := nch_le (s := s) (f := p.1.2.1) hB (h1.sml hB).1.2
  have hv : tVal P p = cval c s (p.2.2 4).toNat := by
    unfold tVal
    rw [h1.1.1, hP.kind (by omega)]
    by_cases q : s = 1
    · rw [if_pos q, if_neg (by decide), if_pos (by omega), h5 q _ (by rw [h3, q] at h2; unfold nch at h2; simp at h2; omega), q]
      rfl
    · rw [if_neg q, if_neg (show ¬ s = 3 by omega), if_pos rfl, h4 q]
      unfold cval
      obtain rfl | rfl : s = 0 ∨ s = 2 := by omega
      · rw [if_pos rfl, if_pos rfl]; omega
      · rw [if_neg (by decide), if_neg (by decide), if_neg (by decide), if_neg (by decide)]; omega
  have hw : tWay P p i = (fup (tUp p i).1 3 ((s + 1 : Nat) : Int), fup p.1.2.1 s (cval c s (p.2.2 4).toNat), (tUp p i).2.2) := by
    unfold tWay
    rw [h1.1.1, if_neg (gK' hP hs), hP.det (by omega), if_neg (by omega), hP.beh (by omega), if_neg (by omega), hv]
    unfold wSetValue
    rw [if_pos (by omega), Int.toNat_natCast]
    rfl
  obtain ⟨⟨g1, g2, g3⟩, ⟨g4, g5⟩, ⟨w1, w2, w3, w4⟩, g6, g7, g8, g9⟩ := h1
  have b := hB
  obtain ⟨b1, b2, b3, b4, b5⟩ := b
  have hcv : -3 ≤ cval c s (p.2.2 4).toNat ∧ cval c s (p.2.2 4).toNat ≤ 8 := by
    unfold cval
    split
    · omega
    · split
      · have := b5 (p.2.2 4).toNat; omega
      · omega
  rw [hw]
  refine ⟨⟨⟨rfl, g2, ?_⟩, ?_, ⟨fun v => ?_, ?_, ?_, w4⟩, fun k hk => ?_, fun _ => ?_, fun q => ?_, fun q => ?_⟩, rfl⟩
  · show p.1.1 5 + 1 = _
    omega
  · show 0 ≤ p.1.1 6 + (if 0 < p.2.2 4 then 1 else 0) ∧ p.1.1 6 + (if 0 < p.2.2 4 then 1 else 0) ≤ ((s + 1 : Nat) : Int)
    split <;> omega
  · show isV (fup p.1.2.1 s _ v)
    unfold fup
    split
    · exact ⟨by omega, by omega⟩
    · exact w1 v
  · show 0 ≤ p.1.1 5 + 1 ∧ p.1.1 5 + 1 ≤ 100000000
    omega
  · show 0 ≤ p.1.1 6 + (if 0 < p.2.2 4 then 1 else 0) ∧ p.1.1 6 + (if 0 < p.2.2 4 then 1 else 0) ≤ 100000000
    split <;> omega
  · show fup p.1.2.1 s _ k = 0
    rw [fup_ne (by omega)]
    exact g6 k (by omega)
  · show nmP c ≤ fup p.1.2.1 s _ 0 ∧ fup p.1.2.1 s _ 0 ≤ nmQ c
    by_cases q0 : s = 0
    · subst q0
      rw [fup_self]
      unfold cval
      rw [if_pos rfl]
      have : p.2.2 3 = ((nmQ c - nmP c + 1).toNat : Nat) := h3
      omega
    · rw [fup_ne (by omega)]
      exact g7 (by omega)
  · show ∃ j, j < 3 ∧ fup p.1.2.1 s _ 1 = nmL c j
    by_cases q0 : s = 1
    · subst q0
      rw [fup_self]
      refine ⟨(p.2.2 4).toNat, ?_, rfl⟩
      have : p.2.2 3 = ((3 : Nat) : Int) := h3
      omega
    · rw [fup_ne (by omega)]
      exact g8 (by omega)
  · show -2 ≤ fup p.1.2.1 s _ 2 ∧ fup p.1.2.1 s _ 2 ≤ fup p.1.2.1 s _ 0
    have q0 : s = 2 := by omega
    subst q0
    rw [fup_self, fup_ne (by omega)]
    have h3' : p.2.2 3 = ((p.1.2.1 0 + 3).toNat : Nat) := h3
    unfold cval
    rw [if_neg (by decide), if_neg (by decide)]
    omega
theorem pT_okP (h : okP c p) (h2 : p.2.2 4 + 1 < p.2.2 3) : okP c (pTook p) := by
  obtain ⟨s, hs, h1, h2', h3, h4, h5⟩ := h
  exact ⟨s, hs, h1, ⟨by show 0 ≤ p.2.2 4 + 1; omega, by show p.2.2 4 + 1 < p.2.2 3; omega⟩, h3, h4, h5⟩
/-- what a point weighs, and what comes of it: its next way, and the rest -/
theorem pT_A (h : okP c p) : pA c p = an c (2 - pS p) (fup p.1.2.1 (pS p) (cval c (pS p) (p.2.2 4).toNat)) ++ pA c (pTook p) ∧ (∀ a b l, pWt c a b l p = b + wt c a b l (2 - pS p) (fup p.1.2.1 (pS p) (cval c (pS p) (p.2.2 4).toNat)) + pWt c a b l (pTook p)) := by
  obtain ⟨s, hs, h1, h2, h3, -⟩ := h
  have e : (pTook p).2.2 4 = p.2.2 4 + 1 := rfl
  have e' : pRst c p = fup p.1.2.1 (pS p) (cval c (pS p) (p.2.2 4).toNat) :: pRst c (pTook p) := by
    unfold pRst
    rw [rst_cons (by omega), e, show (p.2.2 4 + 1).toNat = (p.2.2 4).toNat + 1 by omega]
    rfl
  refine ⟨?_, fun a b l => ?_⟩
  · unfold pA
    rw [e', List.flatMap_cons]
    rfl
  · unfold pWt
    rw [e', List.map_cons, List.sum_cons]
    rfl
theorem pT_end (h : okP c p) (h2 : ¬ p.2.2 4 + 1 < p.2.2 3) : pA c (pTook p) = [] ∧ ∀ a b l, pWt c a b l (pTook p) = 0 := by
  have e' : pRst c (pTook p) = [] := rst_nil (by
    show (p.2.2 3).toNat ≤ (p.2.2 4 + 1).toNat
    obtain ⟨s, hs, h1, h2, h3, -⟩ := h
    omega)
  refine ⟨?_, fun a b l => ?_⟩
  · unfold pA; rw [e']; rfl
  · unfold pWt; rw [e']; rfl
theorem rW_rm {a b l : Nat} {r : List Pt} : rW c a b l (rmL r i) = rW c a b l (r.eraseIdx i) := by
  unfold rW rmL
  rw [List.map_map]
  rfl
theorem fm_rm {r : List Pt} : (rmL r i).reverse.flatMap (pA c) = (r.eraseIdx i).reverse.flatMap (pA c) := by
  unfold rmL
  rw [← List.map_reverse, List.flatMap_map]
  rfl
/-- all of a taking -/
theorem tk_all (hP : PF c P) (hB : NmB c) {r : List Pt} {st : Int} {L : Int} (hr : r[i]? = some p) (hok : ∀ q ∈ r, okP c q ∧ q.1.1 5 < L) (hst : st = 0 ∨ st = 5 → i + 1 = r.length) :
    Shp c ((pS p + 1 : Nat) : Int) (pS p + 1) (tTake P r i p).2 ∧ (pS p : Int) < L ∧ pS p < 3 ∧ (∀ q ∈ (tTake P r i p).1, okP c q ∧ q.1.1 5 < L) ∧ (tTake P r i p).1.length ≤ r.length ∧ (∀ a b l, b + wWt c a b l (tTake P r i p).2 + rW c a b l (tTake P r i p).1 = rW c a b l r) ∧ ((wA c (tTake P r i p).2 ++ (tTake P r i p).1.reverse.flatMap (pA c)).Perm (r.reverse.flatMap (pA c)) ∧ (st = 0 ∨ st = 5 → wA c (tTake P r i p).2 ++ (tTake P r i p).1.reverse.flatMap (pA c) = r.reverse.flatMap (pA c))) := by
  have hm := List.mem_of_getElem? hr
  have hp := (hok p hm).1
  have hL := (hok p hm).2
  obtain ⟨t1, t2⟩ := took_way (i := i) hP hB hp
  obtain ⟨s1, s2, -, -⟩ := okP_s hp
  obtain ⟨a1, a2⟩ := pT_A hp
  have hw : ∀ w, Shp c ((pS p + 1 : Nat) : Int) (pS p + 1) w → w.2.1 = fup p.1.2.1 (pS p) (cval c (pS p) (p.2.2 4).toNat) → wA c w = an c (2 - pS p) (fup p.1.2.1 (pS p) (cval c (pS p) (p.2.2 4).toNat)) ∧ ∀ a b l, wWt c a b l w = wt c a b l (2 - pS p) (fup p.1.2.1 (pS p) (cval c (pS p) (p.2.2 4).toNat)) := fun w h1 h2 => by
    have e5 : (w.1 5).toNat = pS p + 1 := by rw [h1.1.2.2]; exact Int.toNat_natCast _
    refine ⟨?_, fun a b l => ?_⟩
    · unfold wA wR
      rw [e5, h2, show 3 - (pS p + 1) = 2 - pS p by omega]
    · unfold wWt wR
      rw [if_neg (by rw [h1.1.1]; omega), e5, h2, show 3 - (pS p + 1) = 2 - pS p by omega]
  unfold tTake
  by_cases k : 0 < p.2.2 3 - (p.2.2 4 + 1)
  · rw [if_pos k]
    obtain ⟨w1, w2⟩ := hw (tWay P p i) t1 t2
    refine ⟨t1, by omega, s1, fun q hq => ?_, by rw [List.length_set]; exact Nat.le_refl _, fun a b l => ?_, ?_, fun q => ?_⟩
    · rcases mem_set hq with h | h
      · exact hok q h
      · subst h
        exact ⟨pT_okP hp (by omega), hL⟩
    · have := sum_set (pWt c a b l) r i p (pTook p) hr
      show b + wWt c a b l (tWay P p i) + ((r.set i (pTook p)).map _).sum = (r.map _).sum
      rw [w2, a2] at *
      omega
    · show (wA c (tWay P p i) ++ (r.set i (pTook p)).reverse.flatMap (pA c)).Perm _
      rw [w1]
      refine List.Perm.trans (List.Perm.append_left _ ((List.Perm.flatMap_right _ (List.reverse_perm _)).trans (fm_set (pA c) r i p (pTook p) hr))) ?_
      rw [← List.append_assoc, ← a1]
      exact ((List.Perm.flatMap_right _ (List.reverse_perm _)).trans (fm_erase (pA c) r i p hr)).symm
    · obtain ⟨l1, l2, l3⟩ := last_set r i p (pTook p) hr (hst q)
      show wA c (tWay P p i) ++ (r.set i (pTook p)).reverse.flatMap (pA c) = _
      rw [w1, l2]
      conv => rhs; rw [l1]
      rw [List.reverse_append, List.reverse_append, List.flatMap_append, List.flatMap_append]
      show _ ++ ((pA c (pTook p) ++ []) ++ _) = (pA c p ++ []) ++ _
      rw [a1, List.append_nil, List.append_nil, List.append_assoc]
  · rw [if_neg k]
    obtain ⟨n1, n2⟩ := pT_end hp (by omega)
    obtain ⟨w1, w2⟩ := hw (wWithout (tWay P p i) i) (wo_Shp t1) t2
    rw [n1, List.append_nil] at a1
    have er : (r.set i (pTook p)).eraseIdx i = r.eraseIdx i := List.eraseIdx_set_eq
    refine ⟨wo_Shp t1, by omega, s1, fun q hq => ?_, ?_, fun a b l => ?_, ?_, fun q => ?_⟩
    · obtain ⟨q0, hq0, rfl⟩ := List.mem_map.mp hq
      rw [er] at hq0
      have hq1 := hok q0 (List.mem_of_mem_eraseIdx hq0)
      exact ⟨wo_okP hq1.1, hq1.2⟩
    · show (rmL (r.set i (pTook p)) i).length ≤ _
      unfold rmL
      rw [List.length_map, er, List.length_eraseIdx]
      split <;> omega
    · have := sum_erase (pWt c a b l) r i p hr
      show b + wWt c a b l (wWithout (tWay P p i) i) + rW c a b l (rmL (r.set i (pTook p)) i) = rW c a b l r
      rw [rW_rm, er, w2]
      unfold rW
      rw [a2, n2] at this
      omega
    · show (wA c (wWithout (tWay P p i) i) ++ (rmL (r.set i (pTook p)) i).reverse.flatMap (pA c)).Perm _
      rw [w1, fm_rm, er, ← a1]
      exact (List.Perm.append_left _ (List.Perm.flatMap_right _ (List.reverse_perm _))).trans ((List.Perm.flatMap_right _ (List.reverse_perm _)).trans (fm_erase (pA c) r i p hr)).symm
    · obtain ⟨l1, l2, l3⟩ := last_set r i p (pTook p) hr (hst q)
      show wA c (wWithout (tWay P p i) i) ++ (rmL (r.set i (pTook p)) i).reverse.flatMap (pA c) = _
      rw [w1, fm_rm, er, l3, ← a1]
      conv => rhs; rw [l1]
      rw [List.reverse_append, List.flatMap_append]
      show _ = (pA c p ++ []) ++ _
      rw [List.append_nil]
end TOOK
