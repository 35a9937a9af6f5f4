/-! a point is taken -/
theorem fup_fup {α : Type} {f : Nat → α} {k : Nat} {x y : α} : fup (fup f k x) k y = fup f k y := by
  funext j
  show (if j = k then y else if j = k then x else f j) = if j = k then y else f j
  by_cases h : j = k
  · rw [if_pos h, if_pos h]
  · rw [if_neg h, if_neg h, if_neg h]
theorem uW_uW {S : Sr} {i : Nat} {w w' : Wy} : uW (uW S i w) i w' = uW S i w' := by
  show (fup (fup S.1 i w) i w', S.2) = (fup S.1 i w', S.2)
  rw [fup_fup]
theorem uW_at {S : Sr} {i : Nat} {w : Wy} : (uW S i w).1 i = w := fup_self
def pO (o : Nat) (b : Bool) : Nat := cond b (o + 208) (o + 20)
def sL (b : Bool) (S : Sr) : List Pt := cond b S.2.2.1 S.2.1
def uL (b : Bool) (S : Sr) (l : List Pt) : Sr := cond b (uN S l) (uP S l)
theorem pO_le {o : Nat} {b : Bool} : o + 20 ≤ pO o b ∧ pO o b + 188 ≤ o + 396 := by
  cases b
  · show o + 20 ≤ o + 20 ∧ o + 20 + 188 ≤ o + 396; omega
  · show o + 20 ≤ o + 208 ∧ o + 208 + 188 ≤ o + 396; omega
theorem uL_uL {b : Bool} {S : Sr} {i : Nat} {w w' : Wy} {l l' : List Pt} : uW (uL b (uW (uL b S l) i w) l') i w' = uW (uL b S l') i w' := by
  cases b
  · show (fup (fup S.1 i w) i w', _) = (fup S.1 i w', _)
    rw [fup_fup]; rfl
  · show (fup (fup S.1 i w) i w', _) = (fup S.1 i w', _)
    rw [fup_fup]; rfl
theorem gL_set {M M' : ZMem} {p i : Nat} (hp : PsOK M p) (hi : i < (mI M p 1).toNat) (F : Fr (bk (mR M (p + 1) i) 6) M M') : gL M' p = (gL M p).set i (gP M' (mR M (p + 1) i)) := by
  have p2 := hp.2.1
  have hr := hp.row (i := i) (by omega)
  have e1 : mI M' p 1 = mI M p 1 := F.i (fun q => by unfold bk at q; omega) 1
  apply List.ext_getElem?
  intro j
  rw [List.getElem?_set]
  by_cases hj : j < (mI M p 1).toNat
  · rw [gL_get (by rw [e1]; exact hj), F.r (fun q => by unfold bk at q; omega)]
    by_cases q : i = j
    · subst q
      rw [if_pos rfl, if_pos (by rw [gL_len]; exact hi)]
    · have hs := hp.sep (i := i) (j := j) (by omega) (by omega) q
      rw [if_neg q, gL_get hj, gP_fr F fun l hl q => by unfold bk at q; omega]
  · rw [List.getElem?_eq_none (by rw [gL_len, e1]; omega), if_neg (by omega), List.getElem?_eq_none (by rw [gL_len]; omega)]
section TAKE
variable {d : Nat} {K M0 M M' : ZMem} {o : Nat} {P : Pg} {S : Sr}
theorem SrK.ps (h : SrK K o) (b : Bool) : PsK K (pO o b) := by
  cases b
  · exact h.2.1
  · exact h.2.2
theorem At.ps (h : At K M o P S) (b : Bool) : PsOK M (pO o b) := by
  cases b
  · exact h.2.1
  · exact h.2.2.1
theorem At.lst (h : At K M o P S) (b : Bool) : gL M (pO o b) = sL b S := by
  cases b
  · exact h.pts
  · exact h.inn
theorem At.len (h : At K M o P S) (b : Bool) : mI M (pO o b) 1 = (sL b S).length := by
  cases b
  · exact h.plen
  · exact h.nlen
theorem Ax.kL (h : Ax K M0 M o P S) (b : Bool) (hK : KW K M') {l : List Pt} (F : Fr (bk (pO o b) 188) M M') (hp : PsOK M' (pO o b)) (hl : gL M' (pO o b) = l) : Ax K M0 M' o P (uL b S l) := by
  have := pO_le (o := o) (b := b)
  refine ⟨?_, h.2.trans (F.wide fun q hq => by unfold bk at *; omega)⟩
  cases b
  · exact h.1.kP hK F hp hl
  · exact h.1.kN hK F hp hl
theorem Ax.kLW (h : Ax K M0 M o P S) (b : Bool) (hK : KW K M') {i : Nat} {l : List Pt} {w : Wy} (hi : i < 7) (F : Fr (two (pO o b) (o + 397 + 4 * i)) M M') (hp : PsOK M' (pO o b)) (hl : gL M' (pO o b) = l) (hw : gW M' (o + 397 + 4 * i) = w) : Ax K M0 M' o P (uW (uL b S l) i w) := by
  have := pO_le (o := o) (b := b)
  refine ⟨?_, h.2.trans (F.wide fun q hq => by unfold two bk at *; omega)⟩
  cases b
  · exact h.1.kPW hK hi F hp hl hw
  · exact h.1.kNW hK hi F hp hl hw
theorem Ax.kW2 {i : Nat} {w w' : Wy} (h : Ax K M0 M o P (uW S i w)) (hK : KW K M') (hi : i < 7) (F : Fr (bk (o + 397 + 4 * i) 4) M M') (hw : gW M' (o + 397 + 4 * i) = w') : Ax K M0 M' o P (uW S i w') := by
  have := h.kW hK hi F hw
  rwa [uW_uW] at this
theorem Ax.kWf2 {i k : Nat} {w : Wy} {x : Int} (h : Ax K M0 M o P (uW S i w)) (hi : i < 7) (h1 : 3 ≤ k) (h2 : k < 7) : Ax K M0 (sI M (o + 397 + 4 * i) k x) o P (uW S i (fup w.1 k x, w.2)) :=
  h.kW2 (h.1.1.sI _ _ _) hi (Fr.refl.sI ⟨by omega, by omega⟩) (by rw [gW_f h1 h2, h.1.way hi, uW_at])
theorem Ax.w2 {i : Nat} {w : Wy} (h : Ax K M0 M o P (uW S i w)) (hi : i < 7) : gW M (o + 397 + 4 * i) = w := by rw [h.1.way hi, uW_at]
def pTook (p : Pt) : Pt := (p.1, p.2.1, fup p.2.2 4 (p.2.2 4 + 1))
def tUp (p : Pt) (i : Nat) : Wy := (fup (fup p.1.1 5 (p.1.1 5 + 1)) 6 (p.1.1 6 + (if 0 < p.2.2 4 then 1 else 0)), p.1.2.1, p.1.2.2.1, p.1.2.2.2.1, fup p.1.2.2.2.2 i true)
def tVal (P : Pg) (p : Pt) : Int := if gKind P (p.1.1 3) = 3 then p.2.2 2 + p.2.2 4 else if 0 ≤ p.2.2 4 ∧ p.2.2 4 < 6 then p.2.1 (p.2.2 4).toNat else 0
def tWay (P : Pg) (p : Pt) (i : Nat) : Wy :=
  if gKind P (p.1.1 3) = 5 then wEnter (tUp p i) (p.1.1 3) (gPartFirst P (p.1.1 3) (p.2.2 4)) (gLevel P (p.1.1 3) + 1)
  else (fup (wSetValue (tUp p i) (gDetail P (p.1.1 3)) (tVal P p)).1 3 (gBehind P (p.1.1 3)), (wSetValue (tUp p i) (gDetail P (p.1.1 3)) (tVal P p)).2)
def tTake (P : Pg) (l : List Pt) (i : Nat) (p : Pt) : List Pt × Wy :=
  if 0 < p.2.2 3 - (p.2.2 4 + 1) then (l.set i (pTook p), tWay P p i) else (rmL (l.set i (pTook p)) i, wWithout (tWay P p i) i)
def xTake (P : Pg) (S : Sr) (b : Bool) (i : Nat) (p : Pt) : Sr := uC (uW (uL b S (tTake P (sL b S) i p).1) (cur S) (tTake P (sL b S) i p).2) 12 1
theorem s_take {b : Bool} {i : Nat} {p : Pt} {Q : ZMem → Prop} (hd : 3 ≤ d) (h : Ax K M0 M o P S) (hL : SrK K o) (hP : PB P) (hn : 0 ≤ sC S 11 ∧ sC S 11 ≤ 6) (hlen : (sL b S).length ≤ 30) (hi : (sL b S)[i]? = some p) (hp : pB P p) (q : ∀ M', Ax K M0 M' o P (xTake P S b i p) → Q M') : Cv d q6_take [zr o, zr (pO o b), zi i] M Q := by
  obtain ⟨d, rfl⟩ : ∃ e, d = e + 1 := ⟨d - 1, by omega⟩
  have hO := pO_le (o := o) (b := b)
  have hc : cur S < 7 := by unfold cur; omega
  obtain ⟨hw5, hw6, hw3⟩ := hp.1.2
  obtain ⟨p3, p4⟩ := hp.2.2.2
  have hlow := hp.2.2.1
  have hp34 : 0 ≤ p.2.2 4 ∧ p.2.2 4 ≤ 3000 := ⟨p4.1, by omega⟩
  have hps := h.1.ps b
  have hlst := h.1.lst b
  have hln := h.1.len b
  have hil : i < (sL b S).length := (List.getElem?_eq_some_iff.mp hi).1
  have hisz : i < (mI M (pO o b) 1).toNat := by omega
  have hrow := hps.row (i := i) (by omega)
  have hat := hps.at (hL.ps b) (i := i) (by omega)
  have hgp : gP M (mR M (pO o b + 1) i) = p := by
    have e := gL_get hisz
    rw [hlst, hi] at e
    exact (Option.some.inj e).symm
  have e4 : mI M (mR M (pO o b + 1) i) 4 = p.2.2 4 := by rw [← hgp]; rfl
  have hWat := (hL.way hc).2
  generalize hX : mR M (pO o b + 1) i = X at *
  -- the end: what is left of the point
  have tail : ∀ (M1 : ZMem) (w : Wy), Ax K M0 M1 o P (uW (uL b S ((sL b S).set i (pTook p))) (cur S) w) → mR M1 (pO o b + 1) i = X → (tTake P (sL b S) i p).2 = (if 0 < p.2.2 3 - (p.2.2 4 + 1) then w else wWithout w i) → Ci d q2_left [zr X] M1 (fun x M2 => KW K M2 ∧ ((0 < x → Q (sI M2 o 12 1)) ∧ (¬ (0 < x) → (Cv d q3_remove [zr (pO o b), zi i, zr (o + 397 + 4 * cur S)] M2 (fun M3 => KW K M3 ∧ Q (sI M3 o 12 1)))))) := fun M1 w a hr hw => by
    have hps1 := a.1.ps b
    have hl1 : gL M1 (pO o b) = (sL b S).set i (pTook p) := by rw [a.1.lst b]; cases b <;> rfl
    have hn1 : (mI M1 (pO o b) 1).toNat = (sL b S).length := by rw [← gL_len, hl1, List.length_set]
    have hg1 : gP M1 X = pTook p := by
      have e := gL_get (M := M1) (p := pO o b) (i := i) (by omega)
      rw [hl1, hr, List.getElem?_set_self hil] at e
      exact (Option.some.inj e).symm
    refine (s_left a.1.1 hat (by rw [hg1]; show inR (p.2.2 3 - (p.2.2 4 + 1)); exact ⟨by omega, by omega⟩)).pure ⟨a.1.1, ?_⟩
    rw [hg1]
    show (0 < p.2.2 3 - (p.2.2 4 + 1) → _) ∧ (¬ 0 < p.2.2 3 - (p.2.2 4 + 1) → _)
    refine ⟨fun c => q _ ?_, fun c => ?_⟩
    · have := a.kC (k := 12) (x := 1) (by omega) (by omega)
      rw [xTake, hw, tTake, if_pos c, if_pos c]
      exact this
    · refine (s_remove (by omega) (by omega) a.1.1 (hL.ps b) hWat hps1 (i := i) (by omega)).mono fun M3 ⟨k3, f3, o3, n3, l3, w3⟩ => ⟨k3, q _ ?_⟩
      have := (a.kLW b k3 hc f3 o3 l3 w3).kC (k := 12) (x := 1) (by omega) (by omega)
      rw [uL_uL, hl1, a.w2 hc] at this
      rw [xTake, hw, tTake, if_neg c, if_neg c]
      exact this
  -- the middle: by the kind of the statement
  have mid : ∀ (M1 : ZMem), Ax K M0 M1 o P (uW (uL b S ((sL b S).set i (pTook p))) (cur S) (tUp p i)) → mR M1 (pO o b + 1) i = X → Ci d q4_kindOf [zr (o + 1), zi (mI M1 (o + 397 + 4 * cur S) 3)] M1 (fun x22 M21 => KW K M21 ∧ ((x22 ≠ 5 → ((x22 ≠ 3 → (Ci d q2_amongAt [zr X, zi (p.2.2 4)] M21 (fun x26 M25 => KW K M25 ∧ Ci d q4_detailOf [zr (o + 1), zi (mI M1 (o + 397 + 4 * cur S) 3)] M25 (fun x30 M29 => KW K M29 ∧ Cv d q8_setValue [zr (o + 397 + 4 * cur S), zi x30, zi x26] M29 (fun M33 => KW K M33 ∧ Ci d q4_behind [zr (o + 1), zi (mI M1 (o + 397 + 4 * cur S) 3)] M33 (fun x37 M36 => KW K M36 ∧ Ci d q2_left [zr X] (sI M36 (o + 397 + 4 * cur S) 3 x37) (fun x42 M41 => KW K M41 ∧ ((0 < x42 → (Q (sI M41 o 12 1))) ∧ (¬ (0 < x42) → (Cv d q3_remove [zr (pO o b), zi i, zr (o + 397 + 4 * cur S)] M41 (fun M46 => KW K M46 ∧ Q (sI M46 o 12 1)))))))))))) ∧ (¬ (x22 ≠ 3) → ((inR ((mI M21 X 2) + (p.2.2 4))) ∧ Ci d q4_detailOf [zr (o + 1), zi (mI M1 (o + 397 + 4 * cur S) 3)] M21 (fun x52 M51 => KW K M51 ∧ Cv d q8_setValue [zr (o + 397 + 4 * cur S), zi x52, zi ((mI M21 X 2) + (p.2.2 4))] M51 (fun M55 => KW K M55 ∧ Ci d q4_behind [zr (o + 1), zi (mI M1 (o + 397 + 4 * cur S) 3)] M55 (fun x59 M58 => KW K M58 ∧ Ci d q2_left [zr X] (sI M58 (o + 397 + 4 * cur S) 3 x59) (fun x64 M63 => KW K M63 ∧ ((0 < x64 → (Q (sI M63 o 12 1))) ∧ (¬ (0 < x64) → (Cv d q3_remove [zr (pO o b), zi i, zr (o + 397 + 4 * cur S)] M63 (fun M68 => KW K M68 ∧ Q (sI M68 o 12 1))))))))))))) ∧ (¬ (x22 ≠ 5) → (Ci d q4_partFirst [zr (o + 1), zi (mI M1 (o + 397 + 4 * cur S) 3), zi (p.2.2 4)] M21 (fun x73 M72 => KW K M72 ∧ Ci d q4_levelOf [zr (o + 1), zi (mI M1 (o + 397 + 4 * cur S) 3)] M72 (fun x77 M76 => KW K M76 ∧ (inR (x77 + 1)) ∧ Cv d q8_enter [zr (o + 397 + 4 * cur S), zi (mI M1 (o + 397 + 4 * cur S) 3), zi x73, zi (x77 + 1)] M76 (fun M81 => KW K M81 ∧ Ci d q2_left [zr X] M81 (fun x85 M84 => KW K M84 ∧ ((0 < x85 → (Q (sI M84 o 12 1))) ∧ (¬ (0 < x85) → (Cv d q3_remove [zr (pO o b), zi i, zr (o + 397 + 4 * cur S)] M84 (fun M89 => KW K M89 ∧ Q (sI M89 o 12 1))))))))))))) := fun M1 a hr => by
    have hl1 : gL M1 (pO o b) = (sL b S).set i (pTook p) := by rw [a.1.lst b]; cases b <;> rfl
    have hn1 : (mI M1 (pO o b) 1).toNat = (sL b S).length := by rw [← gL_len, hl1, List.length_set]
    have hg1 : gP M1 X = pTook p := by
      have e := gL_get (M := M1) (p := pO o b) (i := i) (by omega)
      rw [hl1, hr, List.getElem?_set_self hil] at e
      exact (Option.some.inj e).symm
    have es : mI M1 (o + 397 + 4 * cur S) 3 = p.1.1 3 := by
      have : (gW M1 (o + 397 + 4 * cur S)).1 3 = (tUp p i).1 3 := by rw [a.w2 hc]
      exact this
    have e2 : mI M1 X 2 = p.2.2 2 := by
      have : (gP M1 X).2.2 2 = (pTook p).2.2 2 := by rw [hg1]
      exact this
    rw [es]
    have hlv := hP.level (p.1.1 3)
    refine (s_kindOf (by omega) a.1.1 hL.prog).pure ⟨a.1.1, fun c5 => ⟨fun c3 => ?_, fun c3 => ?_⟩, fun c5 => ?_⟩
    · rw [a.g] at c5 c3
      refine (s_amongAt a.1.1 hat).pure ⟨a.1.1, (s_detailOf (by omega) a.1.1 hL.prog).pure ⟨a.1.1, ?_⟩⟩
      rw [a.g, hg1]
      refine (s_setValue a.1.1 hWat).mono fun M2 ⟨k2, f2, g2⟩ => ⟨k2, ?_⟩
      have a2 := a.kW2 k2 hc f2 g2
      rw [a.w2 hc] at a2
      refine (s_behind (by omega) k2 hL.prog).pure ⟨k2, ?_⟩
      rw [a2.g]
      refine tail _ _ (a2.kWf2 hc (by omega) (by omega)) ?_ ?_
      · rw [mR_sI, f2.r (fun q => by unfold bk at q; omega), hr]
      · rw [tTake, tWay, if_neg c5, tVal, if_neg c3]
        split <;> rfl
    · rw [a.g] at c5 c3
      have hlow := (hlow (Decidable.not_not.mp c3)).1
      rw [e2]
      refine ⟨⟨by omega, by omega⟩, (s_detailOf (by omega) a.1.1 hL.prog).pure ⟨a.1.1, ?_⟩⟩
      rw [a.g]
      refine (s_setValue a.1.1 hWat).mono fun M2 ⟨k2, f2, g2⟩ => ⟨k2, ?_⟩
      have a2 := a.kW2 k2 hc f2 g2
      rw [a.w2 hc] at a2
      refine (s_behind (by omega) k2 hL.prog).pure ⟨k2, ?_⟩
      rw [a2.g]
      refine tail _ _ (a2.kWf2 hc (by omega) (by omega)) ?_ ?_
      · rw [mR_sI, f2.r (fun q => by unfold bk at q; omega), hr]
      · rw [tTake, tWay, if_neg c5, tVal, if_pos (Decidable.not_not.mp c3)]
        split <;> rfl
    · rw [a.g] at c5
      refine (s_partFirst (by omega) a.1.1 hL.prog).pure ⟨a.1.1, (s_levelOf (by omega) a.1.1 hL.prog).pure ⟨a.1.1, ?_⟩⟩
      rw [a.g]
      refine ⟨⟨by omega, by omega⟩, (s_enter (by omega) a.1.1 hWat).mono fun M2 ⟨k2, f2, g2⟩ => ⟨k2, ?_⟩⟩
      have a2 := a.kW2 k2 hc f2 g2
      rw [a.w2 hc] at a2
      refine tail _ _ a2 ?_ ?_
      · rw [f2.r (fun q => by unfold bk at q; omega), hr]
      · rw [tTake, tWay, if_pos (Decidable.not_not.mp c5)]
        split <;> rfl
  have F1 : ∀ x, Fr (bk X 6) M (sI M X 4 x) := fun x => Fr.refl.sI ⟨by omega, by omega⟩
  have hX0 : X ≠ 0 := by omega
  refine B6_take o (pO o b) i h.1.1 hL.1 (hL.ps b).1 ((s_openAt h.1.1 (hL.ps b) hps).pure ⟨h.1.1, ?_⟩)
  rw [if_pos (by omega), Int.toNat_natCast, hX]
  refine ⟨fun _ => (s_currentWay h hL hn).pure ⟨h.1.1, hat, ?_, hWat, ?_⟩, fun c => absurd hX0 c⟩
  · rw [e4]; exact ⟨by omega, by omega⟩
  rw [e4]
  have a1 : Ax K M0 (sI M X 4 (p.2.2 4 + 1)) o P (uL b S ((sL b S).set i (pTook p))) := by
    refine h.kL b (h.1.1.sI _ _ _) ((F1 _).wide fun q hq => by unfold bk at *; omega) (hps.fr (F1 _) fun j hj q => by unfold bk at q; omega) ?_
    rw [gL_set hps hisz (by rw [hX]; exact F1 _), hlst, hX, gP_f (by omega) (by omega), hgp]
    rfl
  have hw1 : gW (sI M X 4 (p.2.2 4 + 1)) (X + 1) = p.1 := by
    have : (gP (sI M X 4 (p.2.2 4 + 1)) X).1 = p.1 := by rw [gP_f (by omega) (by omega), hgp]
    exact this
  refine (s_wbecome (by show o + 397 + 4 * cur S + 4 ≤ X + 1 ∨ X + 1 + 4 ≤ o + 397 + 4 * cur S; omega) a1.1.1 hWat hat.2.2.2.2).mono fun M13 ⟨k13, f13, g13⟩ => ⟨k13, ?_⟩
  rw [hw1] at g13
  have hcur : cur S = (sC S 11).toNat := rfl
  rw [← hcur]
  have a2 := a1.kW k13 hc f13 g13
  have c7 : zBit (mI M13 (o + 397 + 4 * cur S) 7) = p.1.2.2.2.2 := congrArg (fun w : Wy => w.2.2.2.2) g13
  have a3 : Ax K M0 (sI M13 (o + 397 + 4 * cur S) 7 (zOr (mI M13 (o + 397 + 4 * cur S) 7) (zShl 1 i))) o P (uW (uL b S ((sL b S).set i (pTook p))) (cur S) (p.1.1, p.1.2.1, p.1.2.2.1, p.1.2.2.2.1, fup p.1.2.2.2.2 i true)) := by
    refine a2.kW2 (a2.1.1.sI _ _ _) hc (Fr.refl.sI ⟨by omega, by omega⟩) ?_
    rw [gW_c, zBit_with (by omega), c7, g13]
  have hr14 : mR (sI M13 (o + 397 + 4 * cur S) 7 (zOr (mI M13 (o + 397 + 4 * cur S) 7) (zShl 1 i))) (pO o b + 1) i = X := by rw [mR_sI, f13.r (fun q => by unfold bk at q; omega), mR_sI, hX]
  generalize (sI M13 (o + 397 + 4 * cur S) 7 (zOr (mI M13 (o + 397 + 4 * cur S) 7) (zShl 1 i))) = M14 at *
  have e5 : mI M14 (o + 397 + 4 * cur S) 5 = p.1.1 5 := by
    have : (gW M14 (o + 397 + 4 * cur S)).1 5 = p.1.1 5 := by rw [a3.w2 hc]
    exact this
  rw [e5]
  refine ⟨⟨by omega, by omega⟩, ?_⟩
  have a4 := a3.kWf2 (k := 5) (x := p.1.1 5 + 1) hc (by omega) (by omega)
  have e6 : mI (sI M14 (o + 397 + 4 * cur S) 5 (p.1.1 5 + 1)) (o + 397 + 4 * cur S) 6 = p.1.1 6 := by
    have : (gW (sI M14 (o + 397 + 4 * cur S) 5 (p.1.1 5 + 1)) (o + 397 + 4 * cur S)).1 6 = p.1.1 6 := by rw [a4.w2 hc]; rfl
    exact this
  rw [e6]
  refine ⟨fun c => ⟨⟨by omega, by omega⟩, mid _ ?_ ?_⟩, fun c => ⟨⟨by omega, by omega⟩, mid _ ?_ ?_⟩⟩
  · have a5 := a4.kWf2 (k := 6) (x := p.1.1 6 + 0) hc (by omega) (by omega)
    rw [tUp, if_neg (by omega)]
    exact a5
  · rw [mR_sI, mR_sI, hr14]
  · have a5 := a4.kWf2 (k := 6) (x := p.1.1 6 + 1) hc (by omega) (by omega)
    rw [tUp, if_pos (by omega)]
    exact a5
  · rw [mR_sI, mR_sI, hr14]
end TAKE
