/-! a search as it is seen; what changes of it -/
/-- ways, points, inner points, bases, tallies, answers, and 7 stage 8 strategy 9 limit 10 tooDeep 11 nest 12 standing 13 budget -/
abbrev Sr : Type := (Nat → Wy) × List Pt × List Pt × (Nat → Int) × (Nat → Int) × An × (Nat → Int)
def w0 : Wy := (fun _ => 0, fun _ => 0, fun _ => 0, fun _ => 0, fun _ => false)
def gS (M : ZMem) (o : Nat) : Sr := (fun i => if i < 7 then gW M (o + 397 + 4 * i) else w0, gL M (o + 20), gL M (o + 208), tq 0 7 (mI M (o + 425)), tq 0 9 (mI M (o + 426)), gA M (o + 18), tq 7 14 (mI M o))
def SrK (K : ZMem) (o : Nat) : Prop := SearchAt K o ∧ PsK K (o + 20) ∧ PsK K (o + 208)
def At (K M : ZMem) (o : Nat) (P : Pg) (S : Sr) : Prop := KW K M ∧ PsOK M (o + 20) ∧ PsOK M (o + 208) ∧ gG M (o + 1) = P ∧ gS M o = S
def uW (S : Sr) (i : Nat) (w : Wy) : Sr := (fup S.1 i w, S.2)
def uP (S : Sr) (l : List Pt) : Sr := (S.1, l, S.2.2)
def uN (S : Sr) (l : List Pt) : Sr := (S.1, S.2.1, l, S.2.2.2)
def uB (S : Sr) (k : Nat) (x : Int) : Sr := (S.1, S.2.1, S.2.2.1, fup S.2.2.2.1 k x, S.2.2.2.2)
def uT (S : Sr) (k : Nat) (x : Int) : Sr := (S.1, S.2.1, S.2.2.1, S.2.2.2.1, fup S.2.2.2.2.1 k x, S.2.2.2.2.2)
def uA (S : Sr) (a : An) : Sr := (S.1, S.2.1, S.2.2.1, S.2.2.2.1, S.2.2.2.2.1, a, S.2.2.2.2.2.2)
def uC (S : Sr) (k : Nat) (x : Int) : Sr := (S.1, S.2.1, S.2.2.1, S.2.2.2.1, S.2.2.2.2.1, S.2.2.2.2.2.1, fup S.2.2.2.2.2.2 k x)
def sC (S : Sr) (k : Nat) : Int := S.2.2.2.2.2.2 k
def sT (S : Sr) (k : Nat) : Int := S.2.2.2.2.1 k
def sB (S : Sr) (k : Nat) : Int := S.2.2.2.1 k
def sQ (S : Sr) : An := S.2.2.2.2.2.1
theorem gL_take {M : ZMem} {p : Nat} {x : Int} (hp : PsOK M p) (hx : x ≤ mI M p 1) : gL (sI M p 1 x) p = (gL M p).take x.toNat := by
  have p2 := hp.2.1
  apply List.ext_getElem?
  intro i
  rw [List.getElem?_take]
  by_cases hi : i < x.toNat
  · have hr := hp.row (i := i) (by omega)
    rw [if_pos hi, gL_get (by rw [mI_sI_eq]; exact hi), gL_get (by omega), mR_sI, gP_fr (X := bk p 1) (Fr.refl.sI ⟨by omega, by omega⟩) fun j hj q => by unfold bk at q; omega]
  · rw [if_neg hi, List.getElem?_eq_none (by rw [gL_len, mI_sI_eq]; omega)]
theorem PsOK.size {M : ZMem} {p : Nat} {x : Int} (hp : PsOK M p) (h0 : 0 ≤ x) (h1 : x ≤ 31) : PsOK (sI M p 1 x) p := by
  refine ⟨by rw [mI_sI_eq]; exact h0, by rw [mI_sI_eq]; exact h1, hp.2.2⟩
theorem ways_fr {M M' : ZMem} {o : Nat} (h : ∀ i, i < 7 → gW M' (o + 397 + 4 * i) = gW M (o + 397 + 4 * i)) : (fun i => if i < 7 then gW M' (o + 397 + 4 * i) else w0) = (gS M o).1 := funext fun i => by
  show (if i < 7 then gW M' (o + 397 + 4 * i) else w0) = if i < 7 then gW M (o + 397 + 4 * i) else w0
  by_cases hi : i < 7
  · rw [if_pos hi, if_pos hi, h i hi]
  · rw [if_neg hi, if_neg hi]
section SEARCH
variable {d : Nat} {K M M' : ZMem} {o : Nat} {P : Pg} {S : Sr}
theorem At.way (h : At K M o P S) {i : Nat} (hi : i < 7) : gW M (o + 397 + 4 * i) = S.1 i := by
  rw [← h.2.2.2.2]
  exact (if_pos hi).symm
theorem At.pts (h : At K M o P S) : gL M (o + 20) = S.2.1 := congrArg (fun S : Sr => S.2.1) h.2.2.2.2
theorem At.inn (h : At K M o P S) : gL M (o + 208) = S.2.2.1 := congrArg (fun S : Sr => S.2.2.1) h.2.2.2.2
theorem At.ans (h : At K M o P S) : gA M (o + 18) = sQ S := congrArg (fun S : Sr => sQ S) h.2.2.2.2
theorem At.c (h : At K M o P S) {k : Nat} (h1 : 7 ≤ k) (h2 : k < 14) : mI M o k = sC S k := by
  rw [← h.2.2.2.2]
  exact (tq_at h1 h2).symm
theorem At.t (h : At K M o P S) {k : Nat} (h2 : k < 9) : mI M (o + 426) k = sT S k := by
  rw [← h.2.2.2.2]
  exact (tq_at (by omega) h2).symm
theorem At.b (h : At K M o P S) {k : Nat} (h2 : k < 7) : mI M (o + 425) k = sB S k := by
  rw [← h.2.2.2.2]
  exact (tq_at (by omega) h2).symm
theorem At.plen (h : At K M o P S) : mI M (o + 20) 1 = S.2.1.length := by
  have h1 := h.2.1.1
  rw [← h.pts, gL_len]
  omega
theorem At.nlen (h : At K M o P S) : mI M (o + 208) 1 = S.2.2.1.length := by
  have h1 := h.2.2.1.1
  rw [← h.inn, gL_len]
  omega
/-- what a change leaves as it was, part by part -/
theorem At.up {X : Nat → Prop} {S' : Sr} (h : At K M o P S) (hK : KW K M') (hF : Fr X M M') (hg : ∀ j, j < 17 → ¬ X (o + 1 + j)) (hp : PsOK M' (o + 20)) (hn : PsOK M' (o + 208)) (hS : gS M' o = S') : At K M' o P S' :=
  ⟨hK, hp, hn, by rw [gG_fr hF hg]; exact h.2.2.2.1, hS⟩
theorem At.kC (h : At K M o P S) {k : Nat} {x : Int} (h1 : 7 ≤ k) (h2 : k < 14) : At K (sI M o k x) o P (uC S k x) := by
  have F : Fr (bk o 1) M (sI M o k x) := Fr.refl.sI ⟨by omega, by omega⟩
  refine h.up (h.1.sI _ _ _) F (fun j hj q => by unfold bk at q; omega) (h.2.1.fr F fun j hj q => by unfold bk at q; omega) (h.2.2.1.fr F fun j hj q => by unfold bk at q; omega) ?_
  rw [← h.2.2.2.2]
  have e0 : tq 7 14 (mI (sI M o k x) o) = fup (tq 7 14 (mI M o)) k x := tq_fup h1 h2 fun j => by rw [mI_sI]; by_cases q : j = k <;> simp [q]
  show (_, _, _, _, _, _, _) = (_, _, _, _, _, _, _)
  rw [e0, gL_fr h.2.1 F fun j hj q => by unfold bk at q; omega, gL_fr h.2.2.1 F fun j hj q => by unfold bk at q; omega, gA_fr F fun j hj q => by unfold bk at q; omega]
  rw [show mI (sI M o k x) (o + 425) = mI M (o + 425) from funext fun j => F.i (fun q => by unfold bk at q; omega) j, show mI (sI M o k x) (o + 426) = mI M (o + 426) from funext fun j => F.i (fun q => by unfold bk at q; omega) j]
  congr 1
  exact ways_fr fun i hi => gW_fr F fun l hl q => by unfold bk at q; omega
theorem At.kT (h : At K M o P S) {k : Nat} {x : Int} (h2 : k < 9) : At K (sI M (o + 426) k x) o P (uT S k x) := by
  have F : Fr (bk (o + 426) 1) M (sI M (o + 426) k x) := Fr.refl.sI ⟨by omega, by omega⟩
  refine h.up (h.1.sI _ _ _) F (fun j hj q => by unfold bk at q; omega) (h.2.1.fr F fun j hj q => by unfold bk at q; omega) (h.2.2.1.fr F fun j hj q => by unfold bk at q; omega) ?_
  rw [← h.2.2.2.2]
  have e0 : tq 0 9 (mI (sI M (o + 426) k x) (o + 426)) = fup (tq 0 9 (mI M (o + 426))) k x := tq_fup (by omega) h2 fun j => by rw [mI_sI]; by_cases q : j = k <;> simp [q]
  show (_, _, _, _, _, _, _) = (_, _, _, _, _, _, _)
  rw [e0, gL_fr h.2.1 F fun j hj q => by unfold bk at q; omega, gL_fr h.2.2.1 F fun j hj q => by unfold bk at q; omega, gA_fr F fun j hj q => by unfold bk at q; omega]
  rw [show mI (sI M (o + 426) k x) (o + 425) = mI M (o + 425) from funext fun j => F.i (fun q => by unfold bk at q; omega) j, show mI (sI M (o + 426) k x) o = mI M o from funext fun j => F.i (fun q => by unfold bk at q; omega) j]
  congr 1
  exact ways_fr fun i hi => gW_fr F fun l hl q => by unfold bk at q; omega
theorem At.kB (h : At K M o P S) {k : Nat} {x : Int} (h2 : k < 7) : At K (sI M (o + 425) k x) o P (uB S k x) := by
  have F : Fr (bk (o + 425) 1) M (sI M (o + 425) k x) := Fr.refl.sI ⟨by omega, by omega⟩
  refine h.up (h.1.sI _ _ _) F (fun j hj q => by unfold bk at q; omega) (h.2.1.fr F fun j hj q => by unfold bk at q; omega) (h.2.2.1.fr F fun j hj q => by unfold bk at q; omega) ?_
  rw [← h.2.2.2.2]
  have e0 : tq 0 7 (mI (sI M (o + 425) k x) (o + 425)) = fup (tq 0 7 (mI M (o + 425))) k x := tq_fup (by omega) h2 fun j => by rw [mI_sI]; by_cases q : j = k <;> simp [q]
  show (_, _, _, _, _, _, _) = (_, _, _, _, _, _, _)
  rw [e0, gL_fr h.2.1 F fun j hj q => by unfold bk at q; omega, gL_fr h.2.2.1 F fun j hj q => by unfold bk at q; omega, gA_fr F fun j hj q => by unfold bk at q; omega]
  rw [show mI (sI M (o + 425) k x) (o + 426) = mI M (o + 426) from funext fun j => F.i (fun q => by unfold bk at q; omega) j, show mI (sI M (o + 425) k x) o = mI M o from funext fun j => F.i (fun q => by unfold bk at q; omega) j]
  congr 1
  exact ways_fr fun i hi => gW_fr F fun l hl q => by unfold bk at q; omega
/-- one of the ways changed -/
theorem At.kW (h : At K M o P S) (hK : KW K M') {i : Nat} {w : Wy} (hi : i < 7) (F : Fr (bk (o + 397 + 4 * i) 4) M M') (hw : gW M' (o + 397 + 4 * i) = w) : At K M' o P (uW S i w) := by
  refine h.up hK F (fun j hj q => by unfold bk at q; omega) (h.2.1.fr F fun j hj q => by unfold bk at q; omega) (h.2.2.1.fr F fun j hj q => by unfold bk at q; omega) ?_
  rw [← h.2.2.2.2]
  show (_, _, _, _, _, _, _) = (_, _, _, _, _, _, _)
  rw [gL_fr h.2.1 F fun j hj q => by unfold bk at q; omega, gL_fr h.2.2.1 F fun j hj q => by unfold bk at q; omega, gA_fr F fun j hj q => by unfold bk at q; omega]
  rw [show mI M' (o + 425) = mI M (o + 425) from funext fun j => F.i (fun q => by unfold bk at q; omega) j, show mI M' (o + 426) = mI M (o + 426) from funext fun j => F.i (fun q => by unfold bk at q; omega) j, show mI M' o = mI M o from funext fun j => F.i (fun q => by unfold bk at q; omega) j]
  congr 1
  funext j
  show (if j < 7 then gW M' (o + 397 + 4 * j) else w0) = if j = i then w else if j < 7 then gW M (o + 397 + 4 * j) else w0
  by_cases q : j = i
  · subst q; rw [if_pos hi, if_pos rfl, hw]
  · rw [if_neg q]
    by_cases hj : j < 7
    · rw [if_pos hj, if_pos hj, gW_fr F fun l hl q => by unfold bk at q; omega]
    · rw [if_neg hj, if_neg hj]
theorem At.kA (h : At K M o P S) (hK : KW K M') {a : An} (F : Fr (bk (o + 18) 2) M M') (ha : gA M' (o + 18) = a) : At K M' o P (uA S a) := by
  refine h.up hK F (fun j hj q => by unfold bk at q; omega) (h.2.1.fr F fun j hj q => by unfold bk at q; omega) (h.2.2.1.fr F fun j hj q => by unfold bk at q; omega) ?_
  rw [← h.2.2.2.2]
  show (_, _, _, _, _, _, _) = (_, _, _, _, _, _, _)
  rw [gL_fr h.2.1 F fun j hj q => by unfold bk at q; omega, gL_fr h.2.2.1 F fun j hj q => by unfold bk at q; omega, ha]
  rw [show mI M' (o + 425) = mI M (o + 425) from funext fun j => F.i (fun q => by unfold bk at q; omega) j, show mI M' (o + 426) = mI M (o + 426) from funext fun j => F.i (fun q => by unfold bk at q; omega) j, show mI M' o = mI M o from funext fun j => F.i (fun q => by unfold bk at q; omega) j]
  congr 1
  exact ways_fr fun i hi => gW_fr F fun l hl q => by unfold bk at q; omega
theorem At.kP (h : At K M o P S) (hK : KW K M') {l : List Pt} (F : Fr (bk (o + 20) 188) M M') (hp : PsOK M' (o + 20)) (hl : gL M' (o + 20) = l) : At K M' o P (uP S l) := by
  refine h.up hK F (fun j hj q => by unfold bk at q; omega) hp (h.2.2.1.fr F fun j hj q => by unfold bk at q; omega) ?_
  rw [← h.2.2.2.2]
  show (_, _, _, _, _, _, _) = (_, _, _, _, _, _, _)
  rw [hl, gL_fr h.2.2.1 F fun j hj q => by unfold bk at q; omega, gA_fr F fun j hj q => by unfold bk at q; omega]
  rw [show mI M' (o + 425) = mI M (o + 425) from funext fun j => F.i (fun q => by unfold bk at q; omega) j, show mI M' (o + 426) = mI M (o + 426) from funext fun j => F.i (fun q => by unfold bk at q; omega) j, show mI M' o = mI M o from funext fun j => F.i (fun q => by unfold bk at q; omega) j]
  congr 1
  exact ways_fr fun i hi => gW_fr F fun l hl q => by unfold bk at q; omega
theorem At.kN (h : At K M o P S) (hK : KW K M') {l : List Pt} (F : Fr (bk (o + 208) 188) M M') (hp : PsOK M' (o + 208)) (hl : gL M' (o + 208) = l) : At K M' o P (uN S l) := by
  refine h.up hK F (fun j hj q => by unfold bk at q; omega) (h.2.1.fr F fun j hj q => by unfold bk at q; omega) hp ?_
  rw [← h.2.2.2.2]
  show (_, _, _, _, _, _, _) = (_, _, _, _, _, _, _)
  rw [hl, gL_fr h.2.1 F fun j hj q => by unfold bk at q; omega, gA_fr F fun j hj q => by unfold bk at q; omega]
  rw [show mI M' (o + 425) = mI M (o + 425) from funext fun j => F.i (fun q => by unfold bk at q; omega) j, show mI M' (o + 426) = mI M (o + 426) from funext fun j => F.i (fun q => by unfold bk at q; omega) j, show mI M' o = mI M o from funext fun j => F.i (fun q => by unfold bk at q; omega) j]
  congr 1
  exact ways_fr fun i hi => gW_fr F fun l hl q => by unfold bk at q; omega
/-- points and one of the ways changed -/
theorem At.kPW (h : At K M o P S) (hK : KW K M') {i : Nat} {l : List Pt} {w : Wy} (hi : i < 7) (F : Fr (two (o + 20) (o + 397 + 4 * i)) M M') (hp : PsOK M' (o + 20)) (hl : gL M' (o + 20) = l) (hw : gW M' (o + 397 + 4 * i) = w) : At K M' o P (uW (uP S l) i w) := by
  refine h.up hK F (fun j hj q => by unfold two bk at q; omega) hp (h.2.2.1.fr F fun j hj q => by unfold two bk at q; omega) ?_
  rw [← h.2.2.2.2]
  show (_, _, _, _, _, _, _) = (_, _, _, _, _, _, _)
  rw [hl, gL_fr h.2.2.1 F fun j hj q => by unfold two bk at q; omega, gA_fr F fun j hj q => by unfold two bk at q; omega]
  rw [show mI M' (o + 425) = mI M (o + 425) from funext fun j => F.i (fun q => by unfold two bk at q; omega) j, show mI M' (o + 426) = mI M (o + 426) from funext fun j => F.i (fun q => by unfold two bk at q; omega) j, show mI M' o = mI M o from funext fun j => F.i (fun q => by unfold two bk at q; omega) j]
  congr 1
  funext j
  show (if j < 7 then gW M' (o + 397 + 4 * j) else w0) = if j = i then w else if j < 7 then gW M (o + 397 + 4 * j) else w0
  by_cases q : j = i
  · subst q; rw [if_pos hi, if_pos rfl, hw]
  · rw [if_neg q]
    by_cases hj : j < 7
    · rw [if_pos hj, if_pos hj, gW_fr F fun l hl q => by unfold two bk at q; omega]
    · rw [if_neg hj, if_neg hj]
theorem At.kNW (h : At K M o P S) (hK : KW K M') {i : Nat} {l : List Pt} {w : Wy} (hi : i < 7) (F : Fr (two (o + 208) (o + 397 + 4 * i)) M M') (hp : PsOK M' (o + 208)) (hl : gL M' (o + 208) = l) (hw : gW M' (o + 397 + 4 * i) = w) : At K M' o P (uW (uN S l) i w) := by
  refine h.up hK F (fun j hj q => by unfold two bk at q; omega) (h.2.1.fr F fun j hj q => by unfold two bk at q; omega) hp ?_
  rw [← h.2.2.2.2]
  show (_, _, _, _, _, _, _) = (_, _, _, _, _, _, _)
  rw [hl, gL_fr h.2.1 F fun j hj q => by unfold two bk at q; omega, gA_fr F fun j hj q => by unfold two bk at q; omega]
  rw [show mI M' (o + 425) = mI M (o + 425) from funext fun j => F.i (fun q => by unfold two bk at q; omega) j, show mI M' (o + 426) = mI M (o + 426) from funext fun j => F.i (fun q => by unfold two bk at q; omega) j, show mI M' o = mI M o from funext fun j => F.i (fun q => by unfold two bk at q; omega) j]
  congr 1
  funext j
  show (if j < 7 then gW M' (o + 397 + 4 * j) else w0) = if j = i then w else if j < 7 then gW M (o + 397 + 4 * j) else w0
  by_cases q : j = i
  · subst q; rw [if_pos hi, if_pos rfl, hw]
  · rw [if_neg q]
    by_cases hj : j < 7
    · rw [if_pos hj, if_pos hj, gW_fr F fun l hl q => by unfold two bk at q; omega]
    · rw [if_neg hj, if_neg hj]
end SEARCH
