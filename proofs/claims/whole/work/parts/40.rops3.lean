/-! the reference: a step, a way's begin, a part's begin, cuts, leaving a not -/
def wBegins (w : Pf) (part : Int) : Pf := fup (fup (fup (fup (fup (fup w 8 part) 9 0) 31 0) 32 0) 33 0) 34 (-1)
def wEnters (w : Pf) (n part rounds : Int) : Pf := fup (fup (fup (fup (fup (fup w (10 + 3 * (w 9).toNat) n) (10 + 3 * (w 9).toNat + 1) (w 31)) (10 + 3 * (w 9).toNat + 2) rounds) 9 (w 9 + 1)) 31 (w 32)) 8 part
theorem oW_oW {U : Tr} {i : Nat} {w w' : Pf} : oW (oW U i w) i w' = oW U i w' := by
  show (_, fup (fup U.2.1 i w) i w', _) = (_, fup U.2.1 i w', _)
  rw [fup_fup]; rfl
theorem oW_at {U : Tr} {i : Nat} {w : Pf} : (oW U i w).2.1 i = w := fup_self
theorem pOf_range (id : Int) : ∀ (l : List Pf) (i : Int), 0 ≤ i → pOf id l i = -1 ∨ (i ≤ pOf id l i ∧ pOf id l i < i + l.length)
  | [], i, h => Or.inl rfl
  | p :: l, i, h => by
    have e : ((p :: l).length : Int) = l.length + 1 := by simp
    rw [pOf]
    split
    · exact Or.inr ⟨by omega, by omega⟩
    · rcases pOf_range id l (i + 1) (by omega) with q | q
      · exact Or.inl q
      · exact Or.inr ⟨by omega, by omega⟩
def gp (l : List Pf) (i : Nat) : Pf := (l[i]?).getD fun _ => 0
theorem gp_some {l : List Pf} {i : Nat} (h : i < l.length) : l[i]? = some (gp l i) := by
  unfold gp
  rw [List.getElem?_eq_getElem h]; rfl
def cutsF (lv : Nat) (since : Int) : Nat → Tr → Tr
  | 0, U => U
  | n + 1, U =>
    if pOf (U.2.1 lv 34) U.2.2.1 0 = -1 then U
    else if gp U.2.2.1 (pOf (U.2.1 lv 34) U.2.2.1 0).toNat 32 < since then U
    else cutsF lv since n (oOff (oS U 7 (U.1 7 + if U.1 13 = 0 then 1 else 0)) (pOf (U.2.1 lv 34) U.2.2.1 0).toNat (gp U.2.2.1 (pOf (U.2.1 lv 34) U.2.2.1 0).toNat))
def leaveF (gone : Int) : Nat → Tr → Tr
  | 0, U => U
  | i + 1, U => if gp U.2.2.1 i 45 < gone then leaveF gone i U else leaveF gone i (oOff U i (gp U.2.2.1 i))
theorem oOff_len {U : Tr} {i : Nat} {p : Pf} (h : i < U.2.2.1.length) : (oOff U i p).2.2.1.length = U.2.2.1.length - 1 := by
  show (List.eraseIdx (List.map _ _) i).length = _
  rw [List.length_eraseIdx, List.length_map, if_pos h]
section ROPS3
variable {d : Nat} {K M0 M M' : ZMem} {s lv : Nat} {b : Int} {U : Tr}
theorem RM.kW2 {w : Pf} (h : RM K M0 M s lv b (oW U lv w)) {i x : Int} {k : Nat} (e : i = s + 17 + 35 * lv + k) (hk : k < 35) : RM K M0 (sI M 2239 i.toNat x) s lv b (oW U lv (fup w k x)) := by
  have a := h.kW (x := x) e h.2.2.2.2.2.2.2.1 hk
  rwa [oW_oW, oW_at] at a
theorem RM.w2 {w : Pf} (h : RM K M0 M s lv b (oW U lv w)) {i : Int} {k : Nat} (e : i = s + 17 + 35 * lv + k) (hk : k < 35) : mI M 2239 i.toNat = w k := by
  have a := h.w e h.2.2.2.2.2.2.2.1 hk
  rwa [oW_at] at a
theorem RM.oWs (h : RM K M0 M s lv b U) : RM K M0 M s lv b (oW U lv (U.2.1 lv)) := by
  have e : oW U lv (U.2.1 lv) = U := by
    show (_, fup U.2.1 lv (U.2.1 lv), _) = U
    rw [show fup U.2.1 lv (U.2.1 lv) = U.2.1 from funext fun j => by
      show (if j = lv then U.2.1 lv else U.2.1 j) = U.2.1 j
      by_cases q : j = lv
      · rw [if_pos q, q]
      · rw [if_neg q]]
  rw [e]; exact h
theorem r_mayStep {Q : Int → ZMem → Prop} (h : RM K M0 M s lv b U) (hM : ModelAt K 2230) (hb : 0 ≤ b ∧ b ≤ 2000) (h4 : 0 ≤ U.1 4 ∧ U.1 4 ≤ 100000000) (q1 : b ≠ 0 → ∀ M', RM K M0 M' s lv (b - 1) (oS U 4 (U.1 4 + 1)) → Q 1 M') (q0 : b = 0 → Q 0 M) : Ci d q10_mayStep [zr 2230] M Q := by
  have hs := h.2.2.2.2.2.2.1
  have h18 := h.2.2.2.1
  refine B10_mayStep h.1 hM ?_
  rw [h18]
  refine ⟨fun c => ?_, fun c => q0 (Decidable.not_not.mp c)⟩
  have a := h.kb (x := b - 1)
  have e4 := a.sc (i := (s : Int) + 4) (k := 4) rfl (by omega)
  rw [a.2.1, e4]
  repeat (first | refine pe1 (by omega) ?_ | refine pe2 (by omega) ?_ | refine pe3 (by omega) ?_)
  exact q1 c _ (a.kS rfl (by omega) (by omega))
theorem r_begins {part : Int} {Q : ZMem → Prop} (h : RM K M0 M s lv b U) (hM : ModelAt K 2230) (q : ∀ M', RM K M0 M' s lv b (oW U lv (wBegins (U.2.1 lv) part)) → Q M') : Cv d q10_begins [zr 2230, zi part] M Q := by
  have hs := h.2.2.2.2.2.2.1
  have hl := h.2.2.2.2.2.2.2.1
  refine B10_begins part h.1 hM ?_
  simp only [r_sc]
  rw [h.2.2.1]
  repeat (first | refine pe1 (by omega) ?_ | refine pe2 (by omega) ?_ | refine pe3 (by omega) ?_)
  exact q _ ((((((h.oWs.kW2 (k := 8) rfl (by omega)).kW2 (k := 9) rfl (by omega)).kW2 (k := 31) rfl (by omega)).kW2 (k := 32) rfl (by omega)).kW2 (k := 33) rfl (by omega)).kW2 (k := 34) rfl (by omega))
theorem r_enters {n part rounds : Int} {Q : ZMem → Prop} (h : RM K M0 M s lv b U) (hM : ModelAt K 2230) (h9 : 0 ≤ U.2.1 lv 9 ∧ U.2.1 lv 9 ≤ 6) (q : ∀ M', RM K M0 M' s lv b (oW U lv (wEnters (U.2.1 lv) n part rounds)) → Q M') : Cv d q10_enters [zr 2230, zi n, zi part, zi rounds] M Q := by
  have hs := h.2.2.2.2.2.2.1
  have hl := h.2.2.2.2.2.2.2.1
  have e9 := h.w (i := (s : Int) + 17 + 35 * lv + 9) (v := lv) (k := 9) rfl hl (by omega)
  refine B10_enters n part rounds h.1 hM ?_
  simp only [r_sc]
  rw [h.2.2.1, e9]
  have a1 := h.oWs.kW2 (i := (s : Int) + 17 + 35 * lv + 10 + 3 * U.2.1 lv 9) (x := n) (k := 10 + 3 * (U.2.1 lv 9).toNat) (by omega) (by omega)
  have e31 := a1.w2 (i := (s : Int) + 17 + 35 * lv + 31) (k := 31) rfl (by omega)
  rw [fup_ne (by omega)] at e31
  rw [e31]
  have a2 := a1.kW2 (i := (s : Int) + 17 + 35 * lv + 10 + 3 * U.2.1 lv 9 + 1) (x := U.2.1 lv 31) (k := 10 + 3 * (U.2.1 lv 9).toNat + 1) (by omega) (by omega)
  have a3 := a2.kW2 (i := (s : Int) + 17 + 35 * lv + 10 + 3 * U.2.1 lv 9 + 2) (x := rounds) (k := 10 + 3 * (U.2.1 lv 9).toNat + 2) (by omega) (by omega)
  have e9' := a3.w2 (i := (s : Int) + 17 + 35 * lv + 9) (k := 9) rfl (by omega)
  rw [fup_ne (by omega), fup_ne (by omega), fup_ne (by omega)] at e9'
  rw [e9']
  have a4 := a3.kW2 (i := (s : Int) + 17 + 35 * lv + 9) (x := U.2.1 lv 9 + 1) (k := 9) rfl (by omega)
  have e32 := a4.w2 (i := (s : Int) + 17 + 35 * lv + 32) (k := 32) rfl (by omega)
  rw [fup_ne (by omega), fup_ne (by omega), fup_ne (by omega), fup_ne (by omega)] at e32
  rw [e32]
  repeat (first | refine pe1 (by omega) ?_ | refine pe2 (by omega) ?_ | refine pe3 (by omega) ?_)
  exact q _ ((a4.kW2 (k := 31) rfl (by omega)).kW2 (k := 8) rfl (by omega))
theorem r_cuts_loop {since : Int} {Q : ZMem → Prop} (hM : ModelAt K 2230) : ∀ (n : Nat) (M : ZMem) (U : Tr), U.2.2.1.length < n → RM K M0 M s lv b U → U.1 13 = lv → (0 ≤ U.1 7 ∧ U.1 7 + n ≤ 200000000) → (∀ M', RM K M0 M' s lv b (cutsF lv since n U) → Q M') → Xv (d + 3) q10_cuts 17 [some (zr 2230), some (zi since), some (zi (pOf (U.2.1 lv 34) U.2.2.1 0))] [] M Q
  | 0, M, U, hlt, h, h13, h7, q => absurd hlt (by omega)
  | n + 1, M, U, hlt, h, h13, h7, q => by
    have hs := h.2.2.2.2.2.2.1
    have hl := h.2.2.2.2.2.2.2.1
    have hn := h.n61
    have hr := pOf_range (U.2.1 lv 34) U.2.2.1 0 (by omega)
    rw [cutsF] at q
    generalize hi : pOf (U.2.1 lv 34) U.2.2.1 0 = i at *
    refine B10_cuts_17 since i h.1 hM ⟨fun c => ?_, fun c => ?_⟩
    · rw [if_pos c] at q; exact q M h
    rw [if_neg c] at q
    have hi2 : i.toNat < U.2.2.1.length := by omega
    have hp := gp_some hi2
    have e32 := h.p (i := (s : Int) + 262 + 47 * i + 32) (v := i.toNat) (k := 32) (by omega) hp (by omega)
    refine (r_pointAt h hM (by omega)).pure ⟨h.1, ?_⟩
    repeat (first | refine pe1 (by omega) ?_ | refine pe2 (by omega) ?_ | refine pe3 (by omega) ?_)
    rw [e32]
    refine ⟨fun c2 => ?_, fun c2 => ?_⟩
    · rw [if_pos c2] at q; exact q M h
    rw [if_neg c2] at q
    have e7 := h.sc (i := (s : Int) + 7) (k := 7) rfl (by omega)
    rw [h.2.1, e7]
    repeat (first | refine pe1 (by omega) ?_ | refine pe2 (by omega) ?_ | refine pe3 (by omega) ?_)
    -- the rest, for either way the count goes
    have go : ∀ x, x = U.1 7 + (if U.1 13 = 0 then 1 else 0) → Cv (d + 2) q10_takesOff [zr 2230, zi i] (sI M 2239 ((s : Int) + 7).toNat x) (fun M19 => KW K M19 ∧ (inR ((mI M19 2230 17) + 34)) ∧ (0 ≤ ((mI M19 2230 17) + 34)) ∧ (((mI M19 2230 17) + 34) < 19245) ∧ Ci (d + 2) q10_pointOf [zr 2230, zi (mI M19 2239 ((mI M19 2230 17) + 34).toNat)] M19 (fun x26 M25 => KW K M25 ∧ Xv (d + 3) q10_cuts 17 [some (zr 2230), some (zi since), some (zi x26)] [] M25 Q)) := fun x hx => by
      have a := h.kS (i := (s : Int) + 7) (x := x) (k := 7) rfl (by omega) (by omega)
      have ei : (i : Int) = ((i.toNat : Nat) : Int) := by omega
      rw [ei]
      refine r_takesOff (i := i.toNat) (by omega) a hM h13 hp fun M19 a19 => ⟨a19.1, ?_⟩
      have ew := a19.w (i := (s : Int) + 17 + 35 * lv + 34) (v := lv) (k := 34) rfl hl (by omega)
      rw [a19.2.2.1, ew]
      repeat (first | refine pe1 (by omega) ?_ | refine pe2 (by omega) ?_ | refine pe3 (by omega) ?_)
      refine (r_pointOf (by omega) a19 hM).pure ⟨a19.1, ?_⟩
      have hlen := oOff_len (U := oS U 7 x) (i := i.toNat) (p := gp U.2.2.1 i.toNat) hi2
      refine r_cuts_loop hM n M19 _ ?_ a19 ?_ ?_ ?_
      · rw [hlen]; show U.2.2.1.length - 1 < n; omega
      · exact h13
      · show 0 ≤ x ∧ x + n ≤ 200000000
        rw [hx]
        split <;> omega
      · rw [hx]; exact q
    refine (r_level h hM).pure ⟨h.1, fun c3 => ?_, fun c3 => ?_⟩
    · repeat (first | refine pe1 (by omega) ?_ | refine pe2 (by omega) ?_ | refine pe3 (by omega) ?_)
      exact go _ (by rw [if_neg c3])
    · repeat (first | refine pe1 (by omega) ?_ | refine pe2 (by omega) ?_ | refine pe3 (by omega) ?_)
      exact go _ (by rw [if_pos (Decidable.not_not.mp c3)])
theorem r_cuts {since : Int} {Q : ZMem → Prop} (hd : 3 ≤ d) (h : RM K M0 M s lv b U) (hM : ModelAt K 2230) (h13 : U.1 13 = lv) (h7 : 0 ≤ U.1 7 ∧ U.1 7 ≤ 100000000) (q : ∀ M', RM K M0 M' s lv b (cutsF lv since 62 U) → Q M') : Cv d q10_cuts [zr 2230, zi since] M Q := by
  obtain ⟨d, rfl⟩ : ∃ e, d = e + 3 := ⟨d - 3, by omega⟩
  have hs := h.2.2.2.2.2.2.1
  have hl := h.2.2.2.2.2.2.2.1
  have hn := h.n61
  have ew := h.w (i := (s : Int) + 17 + 35 * lv + 34) (v := lv) (k := 34) rfl hl (by omega)
  refine B10_cuts since h.1 hM ?_
  rw [h.2.2.1, ew]
  repeat (first | refine pe1 (by omega) ?_ | refine pe2 (by omega) ?_ | refine pe3 (by omega) ?_)
  exact (r_pointOf (by omega) h hM).pure ⟨h.1, r_cuts_loop hM 62 M U (by omega) h h13 ⟨by omega, by omega⟩ q⟩
theorem r_leaveN_loop {gone : Nat} {Q : ZMem → Prop} (hM : ModelAt K 2230) (hg : 1 ≤ gone ∧ gone < 8) : ∀ (n : Nat) (M : ZMem) (U : Tr), n ≤ U.2.2.1.length → RM K M0 M s lv b U → U.1 13 = lv → (∀ M', RM K M0 M' s (gone - 1) b (oS (oS (leaveF gone n U) 13 ((gone : Int) - 1)) 12 0) → Q M') → Xv (d + 3) q10_leavesNever 20 [some (zr 2230), some (zi gone), some (zi ((n : Int) - 1))] [] M Q
  | 0, M, U, hn, h, h13, q => by
    refine B10_leavesNever_20 gone _ h.1 hM ⟨fun _ => ?_, fun c => absurd (by omega) c⟩
    refine pe1 (by omega) (r_atLevel (v := gone - 1) h hM (by omega) (by omega) fun M1 a1 => ⟨a1.1, ?_⟩)
    have hs := h.2.2.2.2.2.2.1
    rw [a1.2.1]
    repeat (first | refine pe1 (by omega) ?_ | refine pe2 (by omega) ?_ | refine pe3 (by omega) ?_)
    exact q _ (a1.kS rfl (by omega) (by omega))
  | n + 1, M, U, hn, h, h13, q => by
    have hs := h.2.2.2.2.2.2.1
    have hn6 := h.n61
    have hp := gp_some (l := U.2.2.1) (i := n) (by omega)
    have e45 := h.p (i := (s : Int) + 262 + 47 * n + 45) (v := n) (k := 45) rfl hp (by omega)
    have en : (((n + 1 : Nat) : Int) - 1) = n := by omega
    rw [leaveF] at q
    refine B10_leavesNever_20 gone _ h.1 hM ⟨fun c => absurd c (by omega), fun _ => (r_pointAt h hM (by omega)).pure ⟨h.1, ?_⟩⟩
    rw [en]
    repeat (first | refine pe1 (by omega) ?_ | refine pe2 (by omega) ?_ | refine pe3 (by omega) ?_)
    rw [e45]
    have nx : ∀ M, Xv (d + 3) q10_leavesNever 20 [some (zr 2230), some (zi gone), some (zi ((n : Int) - 1))] [] M Q → (inR ((n : Int) + (-1))) ∧ Xv (d + 3) q10_leavesNever 20 [some (zr 2230), some (zi gone), some (zi ((n : Int) + (-1)))] [] M Q := fun M h => ⟨⟨by omega, by omega⟩, by rw [show (n : Int) + (-1) = (n : Int) - 1 by omega]; exact h⟩
    refine ⟨fun c => ?_, fun c => ?_⟩
    · rw [if_pos c] at q
      exact nx M (r_leaveN_loop hM hg n M U (by omega) h h13 q)
    · rw [if_neg c] at q
      refine r_takesOff (by omega) h hM h13 hp fun M1 a1 => ⟨a1.1, nx M1 (r_leaveN_loop hM hg n M1 _ ?_ a1 h13 q)⟩
      rw [oOff_len (by omega)]; omega
theorem r_leavesNever {gone : Nat} {Q : ZMem → Prop} (hd : 3 ≤ d) (h : RM K M0 M s lv b U) (hM : ModelAt K 2230) (h13 : U.1 13 = lv) (hg : lv = gone) (hg1 : 1 ≤ gone) (q : ∀ M', RM K M0 M' s (gone - 1) b (oS (oS (leaveF gone U.2.2.1.length U) 13 ((gone : Int) - 1)) 12 0) → Q M') : Cv d q10_leavesNever [zr 2230] M Q := by
  obtain ⟨d, rfl⟩ : ∃ e, d = e + 3 := ⟨d - 3, by omega⟩
  have hs := h.2.2.2.2.2.2.1
  have hl := h.2.2.2.2.2.2.2.1
  have hn := h.n61
  have et := h.sc (i := (s : Int) + 14) (k := 14) rfl (by omega)
  refine B10_leavesNever h.1 hM ((r_level h hM).pure ⟨h.1, ?_⟩)
  rw [h.2.1, et, hn.2.2, h13, hg]
  repeat (first | refine pe1 (by omega) ?_ | refine pe2 (by omega) ?_ | refine pe3 (by omega) ?_)
  exact r_leaveN_loop hM ⟨hg1, by omega⟩ U.2.2.1.length M U (by omega) h h13 q
theorem r_startsAnew_loop {root : Int} {U0 : Tr} {Q : ZMem → Prop} (hM : ModelAt K 2230) (hroot : U0.1 2 = root) (q : ∀ M', RM K M0 M' s lv b (oS (oW U0 lv (wBegins (fun k => if k < 8 then 0 else U0.2.1 lv k) root)) 12 1) → Q M') : ∀ (j n : Nat) (M : ZMem), n + j = 8 → RM K M0 M s lv b (oW U0 lv (fun k => if k < n then 0 else U0.2.1 lv k)) → Xv (d + 1) q10_startsAnew 2 [some (zr 2230), some (zi n)] [] M Q
  | 0, n, M, e, h => by
    obtain rfl : n = 8 := by omega
    have hs := h.2.2.2.2.2.2.1
    have e2 := h.sc (i := (s : Int) + 2) (k := 2) rfl (by omega)
    refine B10_startsAnew_2 (8 : Nat) h.1 hM ⟨fun _ => ?_, fun c => absurd (by decide) c⟩
    rw [h.2.1, e2]
    repeat (first | refine pe1 (by omega) ?_ | refine pe2 (by omega) ?_ | refine pe3 (by omega) ?_)
    rw [show (oW U0 lv fun k => if k < 8 then 0 else U0.2.1 lv k).1 2 = root from hroot]
    refine r_begins h hM fun M1 a1 => ⟨a1.1, ?_⟩
    rw [a1.2.1]
    repeat (first | refine pe1 (by omega) ?_ | refine pe2 (by omega) ?_ | refine pe3 (by omega) ?_)
    rw [oW_oW, oW_at] at a1
    exact q _ (a1.kS rfl (by omega) (by omega))
  | j + 1, n, M, e, h => by
    have hs := h.2.2.2.2.2.2.1
    have hl := h.2.2.2.2.2.2.2.1
    refine B10_startsAnew_2 (n : Int) h.1 hM ⟨fun c => absurd c (by omega), fun _ => ?_⟩
    rw [h.2.2.1]
    repeat (first | refine pe1 (by omega) ?_ | refine pe2 (by omega) ?_ | refine pe3 (by omega) ?_)
    refine r_startsAnew_loop hM hroot q j (n + 1) _ (by omega) ?_
    have a := h.kW2 (i := (s : Int) + 17 + 35 * lv + n) (x := 0) (k := n) rfl (by omega)
    have e : fup (fun k => if k < n then 0 else U0.2.1 lv k) n 0 = fun k => if k < n + 1 then 0 else U0.2.1 lv k := funext fun k => by
      show (if k = n then 0 else if k < n then 0 else U0.2.1 lv k) = _
      by_cases c : k = n
      · rw [if_pos c, if_pos (by omega)]
      · rw [if_neg c]
        by_cases c2 : k < n
        · rw [if_pos c2, if_pos (by omega)]
        · rw [if_neg c2, if_neg (by omega)]
    rwa [e] at a
def oAnew (U : Tr) (lv : Nat) : Tr := oS (oW U lv (wBegins (fun k => if k < 8 then 0 else U.2.1 lv k) (U.1 2))) 12 1
theorem r_startsAnew {Q : ZMem → Prop} (hd : 1 ≤ d) (h : RM K M0 M s lv b U) (hM : ModelAt K 2230) (q : ∀ M', RM K M0 M' s lv b (oAnew U lv) → Q M') : Cv d q10_startsAnew [zr 2230] M Q := by
  obtain ⟨d, rfl⟩ : ∃ e, d = e + 1 := ⟨d - 1, by omega⟩
  refine B10_startsAnew h.1 hM (r_startsAnew_loop (U0 := U) hM rfl q 8 0 M rfl ?_)
  have := h.oWs
  rwa [show U.2.1 lv = fun k => if k < 0 then 0 else U.2.1 lv k from funext fun k => (if_neg (by omega)).symm] at this
end ROPS3
