/-! the reference: whoever came by, what goes, cuts, a way's begin, a step -/
section ROPS2
variable {d : Nat} {K M0 M M' : ZMem} {s lv : Nat} {b : Int} {U : Tr}
theorem r_cb1 {id ins : Int} {U0 : Tr} {Q : ZMem → Prop} (hM : ModelAt K 2230) (h13 : U0.1 13 = lv) (q : ∀ M', RM K M0 M' s lv b (oCb U0 id ins) → Q M') : ∀ (j n : Nat) (M : ZMem) (l : List Pf), n + j = U0.2.2.1.length → l.length = U0.2.2.1.length → RM K M0 M s lv b (oP U0 l) → (∀ i, l[i]? = if i < n then (U0.2.2.1[i]?).map (cb id ins) else U0.2.2.1[i]?) → Xv (d + 1) q10_comesBy 2 [some (zr 2230), some (zi id), some (zi ins), some (zi n), none] [] M Q
  | 0, n, M, l, e, hll, h, hl => by
    have hs := h.2.2.2.2.2.2.1
    have el : l = U0.2.2.1.map (cb id ins) := by
      apply List.ext_getElem?
      intro i
      rw [hl, List.getElem?_map]
      by_cases c : i < n
      · rw [if_pos c]
      · rw [if_neg c, List.getElem?_eq_none (by omega)]; rfl
    subst el
    have hn := h.n61
    have hn2 : (U0.2.2.1.map (cb id ins)).length = U0.2.2.1.length := List.length_map ..
    have hn3 : (oP U0 (U0.2.2.1.map (cb id ins))).2.2.1.length = U0.2.2.1.length := hn2
    have et := h.sc (i := (s : Int) + 14) (k := 14) rfl (by omega)
    refine B10_comesBy_2 id ins n h.1 hM ?_
    rw [h.2.1]
    repeat (first | refine pe1 (by omega) ?_ | refine pe2 (by omega) ?_ | refine pe3 (by omega) ?_)
    rw [et]
    refine ⟨fun _ => ?_, fun c => absurd c (by omega)⟩
    refine r_cb2 (lv := lv) (U0 := oP U0 (U0.2.2.1.map (cb id ins))) hM h13 q (lv + 1) 0 M (by omega) ?_
    have e2 : (fun v => if v < 0 then cb id ins ((oP U0 (U0.2.2.1.map (cb id ins))).2.1 v) else (oP U0 (U0.2.2.1.map (cb id ins))).2.1 v) = (oP U0 (U0.2.2.1.map (cb id ins))).2.1 := funext fun v => if_neg (by omega)
    rw [e2]
    exact h
  | j + 1, n, M, l, e, hll, h, hl => by
    have hs := h.2.2.2.2.2.2.1
    have hn := h.n61
    have hn3 : (oP U0 l).2.2.1.length = U0.2.2.1.length := hll
    have et := h.sc (i := (s : Int) + 14) (k := 14) rfl (by omega)
    have hln : n < U0.2.2.1.length := by omega
    have hp : (oP U0 l).2.2.1[n]? = some U0.2.2.1[n] := by
      show l[n]? = _
      rw [hl, if_neg (by omega), List.getElem?_eq_getElem hln]
    have ep := h.p (i := (s : Int) + 262 + 47 * n + 34) (k := 34) rfl hp (by omega)
    have st : ∀ x, x = (if U0.2.2.1[n] 34 = id then ins else U0.2.2.1[n] 34) → Xv (d + 1) q10_comesBy 2 [some (zr 2230), some (zi id), some (zi ins), some (zi ((n : Int) + 1)), none] [] (sI M 2239 ((s : Int) + 262 + 47 * n + 34).toNat x) Q := fun x hx => by
      refine r_cb1 hM h13 q j (n + 1) _ (l.set n (fup U0.2.2.1[n] 34 x)) (by omega) (by rw [List.length_set]; exact hll) (h.kP (i := (s : Int) + 262 + 47 * n + 34) (k := 34) rfl hp (by omega)) fun i => ?_
      rw [List.getElem?_set, hl, hx, cb_eq]
      by_cases c : n = i
      · subst c
        rw [if_pos rfl, if_pos (by omega), if_pos (by omega), List.getElem?_eq_getElem hln]; rfl
      · rw [if_neg c]
        by_cases c2 : i < n
        · rw [if_pos c2, if_pos (by omega)]
        · rw [if_neg c2, if_neg (by omega)]
    refine B10_comesBy_2 id ins n h.1 hM ?_
    rw [h.2.1]
    repeat (first | refine pe1 (by omega) ?_ | refine pe2 (by omega) ?_ | refine pe3 (by omega) ?_)
    rw [et]
    refine ⟨fun c => absurd c (by omega), fun _ => (r_pointAt h hM (by omega)).pure ⟨h.1, ?_⟩⟩
    repeat (first | refine pe1 (by omega) ?_ | refine pe2 (by omega) ?_ | refine pe3 (by omega) ?_)
    rw [ep]
    refine ⟨fun c => ?_, fun c => ?_⟩
    · repeat (first | refine pe1 (by omega) ?_ | refine pe2 (by omega) ?_ | refine pe3 (by omega) ?_)
      exact st _ (by rw [if_neg c])
    · repeat (first | refine pe1 (by omega) ?_ | refine pe2 (by omega) ?_ | refine pe3 (by omega) ?_)
      exact st _ (by rw [if_pos (Decidable.not_not.mp c)])
theorem r_comesBy {id ins : Int} {Q : ZMem → Prop} (hd : 1 ≤ d) (h : RM K M0 M s lv b U) (hM : ModelAt K 2230) (h13 : U.1 13 = lv) (q : ∀ M', RM K M0 M' s lv b (oCb U id ins) → Q M') : Cv d q10_comesBy [zr 2230, zi id, zi ins] M Q := by
  obtain ⟨d, rfl⟩ : ∃ e, d = e + 1 := ⟨d - 1, by omega⟩
  exact B10_comesBy id ins h.1 hM (r_cb1 hM h13 q U.2.2.1.length 0 M U.2.2.1 (by omega) rfl h fun i => by rw [if_neg (by omega)])
theorem tq_fup' {a n k : Nat} {f g : Nat → Int} {x : Int} (h1 : a ≤ k) (h2 : k < n) (h : ∀ j, a ≤ j → j < n → g j = if j = k then x else f j) : tq a n g = fup (tq a n f) k x := by
  funext j
  show (if a ≤ j ∧ j < n then g j else 0) = if j = k then x else if a ≤ j ∧ j < n then f j else 0
  by_cases c : a ≤ j ∧ j < n
  · rw [if_pos c, if_pos c, h j c.1 c.2]
  · rw [if_neg c, if_neg c, if_neg (fun q => c (by omega))]
/-- the points behind move up, one less -/
theorem vT_off {R R' : Pf} {s i n : Nat} (hn : (R (s + 14)).toNat = n) (hi : i < n) (hn61 : n ≤ 61) (h : ∀ j, R' j = if j = s + 14 then R (s + 14) - 1 else if s + 262 + 47 * i ≤ j ∧ j < s + 262 + 47 * i + 47 * (n - 1 - i) then R (j + 47) else R j) : vT R' s = (fup (vT R s).1 14 ((vT R s).1 14 - 1), (vT R s).2.1, (vT R s).2.2.1.eraseIdx i, (vT R s).2.2.2) := by
  have lo (j : Nat) (hj : j < s + 262 + 47 * i) (h14 : j ≠ s + 14) : R' j = R j := by rw [h, if_neg h14, if_neg (by omega)]
  have e0 : tq 0 17 (fun j => R' (s + j)) = fup (tq 0 17 (fun j => R (s + j))) 14 (R (s + 14) - 1) := tq_fup' (by omega) (by omega) fun j _ hj => by
    by_cases q : j = 14
    · subst q; rw [if_pos rfl, h, if_pos rfl]
    · rw [if_neg q, lo _ (by omega) (by omega)]
  have e14 : (vT R s).1 14 = R (s + 14) := tq_at (a := 0) (n := 17) (k := 14) (f := fun j => R (s + j)) (by omega) (by omega)
  show (_, _, _, _) = (_, _, _, _)
  rw [e0, e14, ways_congr fun v hv => vW_congr fun j hj => lo _ (by omega) (by omega)]
  rw [tq_congr (f := fun j => R' (s + 3129 + j)) fun j _ hj => by show R' (s + 3129 + j) = R (s + 3129 + j); rw [h, if_neg (by omega), if_neg (by omega)]]
  congr 3
  show (List.range (R' (s + 14)).toNat).map (vP R' s) = ((List.range (R (s + 14)).toNat).map (vP R s)).eraseIdx i
  rw [show R' (s + 14) = R (s + 14) - 1 by rw [h, if_pos rfl], hn, show (R (s + 14) - 1).toNat = n - 1 by omega]
  apply List.ext_getElem?
  intro j
  rw [List.getElem?_eraseIdx, List.getElem?_map, List.getElem?_map, List.getElem?_map]
  by_cases hj : j < n - 1
  · rw [List.getElem?_range hj, List.getElem?_range (show j < n by omega), List.getElem?_range (show j + 1 < n by omega)]
    by_cases c : j < i
    · rw [if_pos c]
      show some _ = some _
      rw [vP_congr fun k hk => lo _ (by omega) (by omega)]
    · rw [if_neg c]
      show some _ = some _
      congr 1
      exact tq_congr fun k _ hk => by
        show R' (s + 262 + 47 * j + k) = R (s + 262 + 47 * (j + 1) + k)
        rw [h, if_neg (by omega), if_pos (by omega), show s + 262 + 47 * j + k + 47 = s + 262 + 47 * (j + 1) + k by omega]
  · rw [List.getElem?_eq_none (l := List.range (n - 1)) (by rw [List.length_range]; omega)]
    by_cases c : j < i
    · omega
    · rw [if_neg c, List.getElem?_eq_none (l := List.range n) (by rw [List.length_range]; omega)]; rfl
theorem r_takesOff {i : Nat} {p : Pf} {Q : ZMem → Prop} (hd : 2 ≤ d) (h : RM K M0 M s lv b U) (hM : ModelAt K 2230) (h13 : U.1 13 = lv) (hp : U.2.2.1[i]? = some p) (q : ∀ M', RM K M0 M' s lv b (oOff U i p) → Q M') : Cv d q10_takesOff [zr 2230, zi i] M Q := by
  obtain ⟨d, rfl⟩ : ∃ e, d = e + 1 := ⟨d - 1, by omega⟩
  have hs := h.2.2.2.2.2.2.1
  have hn := h.n61
  have hil : i < U.2.2.1.length := (List.getElem?_eq_some_iff.mp hp).1
  have e44 := h.p (i := (s : Int) + 262 + 47 * i + 44) (k := 44) rfl hp (by omega)
  have e34 := h.p (i := (s : Int) + 262 + 47 * i + 34) (k := 34) rfl hp (by omega)
  refine B10_takesOff i h.1 hM ((r_pointAt h hM (by omega)).pure ⟨h.1, ?_⟩)
  repeat (first | refine pe1 (by omega) ?_ | refine pe2 (by omega) ?_ | refine pe3 (by omega) ?_)
  rw [e44, e34]
  refine r_comesBy (by omega) h hM h13 fun M1 a1 => ⟨a1.1, ?_⟩
  have hn1 := a1.n61
  have hl1 : (oCb U (p 44) (p 34)).2.2.1.length = U.2.2.1.length := List.length_map ..
  have et := a1.sc (i := (s : Int) + 14) (k := 14) rfl (by omega)
  simp only [r_ca]
  rw [a1.2.1]
  simp only [mI_sA, if_pos]
  rw [et]
  have e14 : (oCb U (p 44) (p 34)).1 14 = U.2.2.1.length := by omega
  rw [e14]
  have hk : ((s : Int) + 14).toNat = s + 14 := by omega
  have hz : ∀ j, zCpy (mI M1 2239) (mI M1 2239) ((s : Int) + 262 + 47 * i + 47).toNat ((s : Int) + 262 + 47 * i).toNat (((U.2.2.1.length : Int) - 1 - i) * 47).toNat j = if s + 262 + 47 * i ≤ j ∧ j < s + 262 + 47 * i + 47 * (U.2.2.1.length - 1 - i) then mI M1 2239 (j + 47) else mI M1 2239 j := fun j => by
    unfold zCpy
    by_cases c : s + 262 + 47 * i ≤ j ∧ j < s + 262 + 47 * i + 47 * (U.2.2.1.length - 1 - i)
    · rw [if_pos (by omega), if_pos c, show ((s : Int) + 262 + 47 * i + 47).toNat + (j - ((s : Int) + 262 + 47 * i).toNat) = j + 47 by omega]
    · rw [if_neg (by omega), if_neg c]
  have hz14 := hz (s + 14)
  rw [if_neg (by omega)] at hz14
  rw [hk, hz14, (a1.n).2, e14]
  repeat (first | refine pe1 (by omega) ?_ | refine pe2 (by omega) ?_ | refine pe3 (by omega) ?_)
  refine q _ ?_
  generalize hZ : zCpy (mI M1 2239) (mI M1 2239) ((s : Int) + 262 + 47 * i + 47).toNat ((s : Int) + 262 + 47 * i).toNat (((U.2.2.1.length : Int) - 1 - i) * 47).toNat = Z at *
  have er : ∀ j, mI (sI (sA M1 2239 Z) 2239 (s + 14) ((U.2.2.1.length : Int) - 1)) 2239 j = if j = s + 14 then mI M1 2239 (s + 14) - 1 else if s + 262 + 47 * i ≤ j ∧ j < s + 262 + 47 * i + 47 * (U.2.2.1.length - 1 - i) then mI M1 2239 (j + 47) else mI M1 2239 j := fun j => by
    rw [mI_sI]
    by_cases c : j = s + 14
    · rw [if_pos ⟨rfl, c⟩, if_pos c, (a1.n).2, e14]
    · rw [if_neg (by omega), if_neg c, mI_sA, if_pos rfl, hz]
  refine ⟨(a1.1.sA _ _).sI _ _ _, ?_, ?_, ?_, ?_, ?_, a1.2.2.2.2.2.2.1, a1.2.2.2.2.2.2.2.1, ?_⟩
  · rw [r_sc, r_ca]; exact a1.2.1
  · rw [r_sc, r_ca]; exact a1.2.2.1
  · rw [r_sc, r_ca]; exact a1.2.2.2.1
  · rw [vT_off (i := i) (n := U.2.2.1.length) (by rw [(a1.n).1, hl1]) hil (by omega) er, a1.2.2.2.2.1]
    rfl
  · show 0 ≤ U.1 14 - 1 ∧ U.1 14 - 1 ≤ 61
    omega
  · have f := a1.2.2.2.2.2.2.2.2
    refine ⟨(f.1.sA (Or.inr (Or.inl rfl))).sI (Or.inr (Or.inl rfl)), fun k hk => ?_, fun k hk => ?_⟩
    · rw [er, if_neg (by omega), if_neg (by omega)]; exact f.2.1 k hk
    · rw [r_sc, r_ca]; exact f.2.2 k hk
end ROPS2
