/-! the reference's small methods, by what they do to what is seen of the row -/
theorem pe1 {x : Int} {p : Prop} (h : -2147483648 ≤ x ∧ x ≤ 2147483647) (k : p) : inR x ∧ p := ⟨h, k⟩
theorem pe2 {x y : Int} {p : Prop} (h : x ≤ y) (k : p) : x ≤ y ∧ p := ⟨h, k⟩
theorem pe3 {x y : Int} {p : Prop} (h : x < y) (k : p) : x < y ∧ p := ⟨h, k⟩
def cntO : List Pf → Int
  | [] => 0
  | p :: l => (if p 45 = 0 then 1 else 0) + cntO l
theorem cntO_le : ∀ l, 0 ≤ cntO l ∧ cntO l ≤ l.length
  | [] => ⟨Int.le_refl 0, Int.le_refl 0⟩
  | p :: l => by
    have := cntO_le l
    have e : ((p :: l).length : Int) = l.length + 1 := by simp
    show 0 ≤ (if p 45 = 0 then 1 else 0) + cntO l ∧ (if p 45 = 0 then 1 else 0) + cntO l ≤ _
    split <;> omega
def pOf (id : Int) : List Pf → Int → Int
  | [], _ => -1
  | p :: l, i => if p 44 = id then i else pOf id l (i + 1)
def cb (id ins : Int) (p : Pf) : Pf := if p 34 = id then fup p 34 ins else p
theorem cb_eq {id ins : Int} {p : Pf} : fup p 34 (if p 34 = id then ins else p 34) = cb id ins p := by
  unfold cb
  by_cases h : p 34 = id
  · rw [if_pos h, if_pos h]
  · rw [if_neg h, if_neg h]
    funext j
    show (if j = 34 then p 34 else p j) = p j
    by_cases q : j = 34
    · rw [if_pos q, q]
    · rw [if_neg q]
def oCb (U : Tr) (id ins : Int) : Tr := (U.1, (fun v => if (v : Int) ≤ U.1 13 then cb id ins (U.2.1 v) else U.2.1 v), U.2.2.1.map (cb id ins), U.2.2.2)
def oOff (U : Tr) (i : Nat) (p : Pf) : Tr := (fup U.1 14 (U.1 14 - 1), (oCb U (p 44) (p 34)).2.1, (oCb U (p 44) (p 34)).2.2.1.eraseIdx i, U.2.2.2)
section ROPS
variable {d : Nat} {K M0 M M' : ZMem} {s lv : Nat} {b : Int} {U : Tr}
theorem r_pointAt {i : Int} (h : RM K M0 M s lv b U) (hM : ModelAt K 2230) (hi : -10 ≤ i ∧ i ≤ 1000) : Ci d q10_pointAt [zr 2230, zi i] M (fun x M' => x = s + 262 + 47 * i ∧ M' = M) := by
  have hs := h.2.2.2.2.2.2.1
  refine B10_pointAt i h.1 hM ?_
  rw [h.2.1]
  repeat (first | refine pe1 (by omega) ?_ | refine pe2 (by omega) ?_ | refine pe3 (by omega) ?_)
  trivial
theorem r_level (h : RM K M0 M s lv b U) (hM : ModelAt K 2230) : Ci d q10_level [zr 2230] M (fun x M' => x = U.1 13 ∧ M' = M) := by
  have hs := h.2.2.2.2.2.2.1
  refine B10_level h.1 hM ?_
  rw [h.2.1]
  repeat (first | refine pe1 (by omega) ?_ | refine pe2 (by omega) ?_ | refine pe3 (by omega) ?_)
  exact ⟨h.sc rfl (by omega), rfl⟩
theorem RM.kw (h : RM K M0 M s lv b U) {x : Int} {v : Nat} (hx : x = s + 17 + 35 * v) (hv : v < 7) : RM K M0 (sI M 2230 17 x) s v b U := by
  have er : mI (sI M 2230 17 x) 2239 = mI M 2239 := funext fun j => r_rw _ _ _ _
  exact ⟨h.1.sI _ _ _, by rw [mI_sI_ne (by omega)]; exact h.2.1, by rw [mI_sI_eq]; exact hx, by rw [mI_sI_ne (by omega)]; exact h.2.2.2.1, by rw [er]; exact h.2.2.2.2.1, h.2.2.2.2.2.1, h.2.2.2.2.2.2.1, hv, h.2.2.2.2.2.2.2.2.1.sI (Or.inl rfl), fun k hk => by rw [er]; exact h.2.2.2.2.2.2.2.2.2.1 k hk, fun k hk => by rw [mI_sI_ne (by omega)]; exact h.2.2.2.2.2.2.2.2.2.2 k hk⟩
theorem r_atLevel {l : Int} {v : Nat} {Q : ZMem → Prop} (h : RM K M0 M s lv b U) (hM : ModelAt K 2230) (hl : l = v) (hv : v < 7) (q : ∀ M', RM K M0 M' s v b (oS U 13 l) → Q M') : Cv d q10_atLevel [zr 2230, zi l] M Q := by
  have hs := h.2.2.2.2.2.2.1
  refine B10_atLevel l h.1 hM ?_
  simp only [r_sc]
  rw [h.2.1]
  repeat (first | refine pe1 (by omega) ?_ | refine pe2 (by omega) ?_ | refine pe3 (by omega) ?_)
  exact q _ ((h.kS (k := 13) rfl (by omega) (by omega)).kw (by omega) hv)
theorem r_openMany_loop {Q : Int → ZMem → Prop} (h : RM K M0 M s lv b U) (hM : ModelAt K 2230) : ∀ (j n : Nat) (acc : Int), n + j = U.2.2.1.length → 0 ≤ acc → acc ≤ n → Q (acc + cntO (U.2.2.1.drop n)) M → Xi (d + 1) q10_openMany 4 [some (zr 2230), some (zi acc), some (zi n)] [] M Q
  | 0, n, acc, e, h0, h1, q => by
    have hs := h.2.2.2.2.2.2.1
    have hn := h.n61
    have et := h.sc (i := (s : Int) + 14) (k := 14) rfl (by omega)
    rw [List.drop_eq_nil_of_le (by omega), cntO, Int.add_zero] at q
    refine B10_openMany_4 acc n h.1 hM ?_
    rw [h.2.1]
    repeat (first | refine pe1 (by omega) ?_ | refine pe2 (by omega) ?_ | refine pe3 (by omega) ?_)
    rw [et]
    exact ⟨fun _ => q, fun c => absurd c (by omega)⟩
  | j + 1, n, acc, e, h0, h1, q => by
    have hs := h.2.2.2.2.2.2.1
    have hn := h.n61
    have et := h.sc (i := (s : Int) + 14) (k := 14) rfl (by omega)
    have hln : n < U.2.2.1.length := by omega
    have ih := r_openMany_loop (Q := Q) h hM j (n + 1)
    have hp : U.2.2.1[n]? = some U.2.2.1[n] := List.getElem?_eq_getElem hln
    have ep := h.p (i := (s : Int) + 262 + 47 * n + 45) (k := 45) rfl hp (by omega)
    rw [List.drop_eq_getElem_cons hln, cntO] at q
    refine B10_openMany_4 acc n h.1 hM ?_
    rw [h.2.1]
    repeat (first | refine pe1 (by omega) ?_ | refine pe2 (by omega) ?_ | refine pe3 (by omega) ?_)
    rw [et]
    refine ⟨fun c => absurd c (by omega), fun _ => (r_pointAt h hM (by omega)).pure ⟨h.1, ?_⟩⟩
    repeat (first | refine pe1 (by omega) ?_ | refine pe2 (by omega) ?_ | refine pe3 (by omega) ?_)
    rw [ep]
    refine ⟨fun c => ?_, fun c => ?_⟩
    · rw [if_neg c] at q
      repeat (first | refine pe1 (by omega) ?_ | refine pe2 (by omega) ?_ | refine pe3 (by omega) ?_)
      exact ih _ (by omega) (by omega) (by omega) (by rw [show acc + 0 + cntO (U.2.2.1.drop (n + 1)) = acc + (0 + cntO (U.2.2.1.drop (n + 1))) by omega]; exact q)
    · rw [if_pos (Decidable.not_not.mp c)] at q
      repeat (first | refine pe1 (by omega) ?_ | refine pe2 (by omega) ?_ | refine pe3 (by omega) ?_)
      exact ih _ (by omega) (by omega) (by omega) (by rw [Int.add_assoc]; exact q)
theorem r_openMany (hd : 1 ≤ d) (h : RM K M0 M s lv b U) (hM : ModelAt K 2230) : Ci d q10_openMany [zr 2230] M (fun x M' => x = cntO U.2.2.1 ∧ M' = M) := by
  obtain ⟨d, rfl⟩ : ∃ e, d = e + 1 := ⟨d - 1, by omega⟩
  exact B10_openMany h.1 hM (r_openMany_loop h hM U.2.2.1.length 0 0 (by omega) (by omega) (by omega) ⟨by rw [List.drop_zero, Int.zero_add], rfl⟩)
theorem r_pointOf_loop {id : Int} {Q : Int → ZMem → Prop} (h : RM K M0 M s lv b U) (hM : ModelAt K 2230) : ∀ (j n : Nat), n + j = U.2.2.1.length → Q (pOf id (U.2.2.1.drop n) n) M → Xi (d + 1) q10_pointOf 2 [some (zr 2230), some (zi id), some (zi n)] [] M Q
  | 0, n, e, q => by
    have hs := h.2.2.2.2.2.2.1
    have hn := h.n61
    have et := h.sc (i := (s : Int) + 14) (k := 14) rfl (by omega)
    rw [List.drop_eq_nil_of_le (by omega), pOf] at q
    refine B10_pointOf_2 id n h.1 hM ?_
    rw [h.2.1]
    repeat (first | refine pe1 (by omega) ?_ | refine pe2 (by omega) ?_ | refine pe3 (by omega) ?_)
    rw [et]
    exact ⟨fun _ => q, fun c => absurd c (by omega)⟩
  | j + 1, n, e, q => by
    have hs := h.2.2.2.2.2.2.1
    have hn := h.n61
    have et := h.sc (i := (s : Int) + 14) (k := 14) rfl (by omega)
    have hln : n < U.2.2.1.length := by omega
    have ih := r_pointOf_loop (id := id) (Q := Q) h hM j (n + 1)
    have hp : U.2.2.1[n]? = some U.2.2.1[n] := List.getElem?_eq_getElem hln
    have ep := h.p (i := (s : Int) + 262 + 47 * n + 44) (k := 44) rfl hp (by omega)
    rw [List.drop_eq_getElem_cons hln, pOf] at q
    refine B10_pointOf_2 id n h.1 hM ?_
    rw [h.2.1]
    repeat (first | refine pe1 (by omega) ?_ | refine pe2 (by omega) ?_ | refine pe3 (by omega) ?_)
    rw [et]
    refine ⟨fun c => absurd c (by omega), fun _ => (r_pointAt h hM (by omega)).pure ⟨h.1, ?_⟩⟩
    repeat (first | refine pe1 (by omega) ?_ | refine pe2 (by omega) ?_ | refine pe3 (by omega) ?_)
    rw [ep]
    refine ⟨fun c => ?_, fun c => ?_⟩
    · rw [if_neg c] at q
      repeat (first | refine pe1 (by omega) ?_ | refine pe2 (by omega) ?_ | refine pe3 (by omega) ?_)
      exact ih (by omega) q
    · rw [if_pos (Decidable.not_not.mp c)] at q
      exact q
theorem r_pointOf {id : Int} (hd : 1 ≤ d) (h : RM K M0 M s lv b U) (hM : ModelAt K 2230) : Ci d q10_pointOf [zr 2230, zi id] M (fun x M' => x = pOf id U.2.2.1 0 ∧ M' = M) := by
  obtain ⟨d, rfl⟩ : ∃ e, d = e + 1 := ⟨d - 1, by omega⟩
  exact B10_pointOf id h.1 hM (r_pointOf_loop h hM U.2.2.1.length 0 (by omega) ⟨by rw [List.drop_zero]; rfl, rfl⟩)
theorem r_cb2 {id ins : Int} {U0 : Tr} {Q : ZMem → Prop} (hM : ModelAt K 2230) (h13 : U0.1 13 = lv) (q : ∀ M', RM K M0 M' s lv b (U0.1, (fun v => if (v : Int) ≤ U0.1 13 then cb id ins (U0.2.1 v) else U0.2.1 v), U0.2.2) → Q M') : ∀ (j n : Nat) (M : ZMem), n + j = lv + 1 → RM K M0 M s lv b (U0.1, (fun v => if v < n then cb id ins (U0.2.1 v) else U0.2.1 v), U0.2.2) → Xv (d + 1) q10_comesBy 71 [some (zr 2230), some (zi id), some (zi ins), some (zi n), none] [] M Q
  | 0, n, M, e, h => by
    refine B10_comesBy_71 id ins n h.1 hM ((r_level h hM).pure ⟨h.1, fun _ => ?_, fun c => absurd (show U0.1 13 < n by omega) c⟩)
    refine q M ?_
    have e2 : (fun v => if v < n then cb id ins (U0.2.1 v) else U0.2.1 v) = fun v : Nat => if (v : Int) ≤ U0.1 13 then cb id ins (U0.2.1 v) else U0.2.1 v := funext fun v => by
      by_cases c : v < n
      · rw [if_pos c, if_pos (by omega)]
      · rw [if_neg c, if_neg (by omega)]
    rw [← e2]
    exact h
  | j + 1, n, M, e, h => by
    have hs := h.2.2.2.2.2.2.1
    have hl7 := h.2.2.2.2.2.2.2.1
    have ew : mI M 2239 ((s : Int) + 17 + 35 * n + 34).toNat = U0.2.1 n 34 := (h.w (v := n) (k := 34) rfl (by omega) (by omega)).trans (by show (if n < n then cb id ins (U0.2.1 n) else U0.2.1 n) 34 = _; rw [if_neg (by omega)])
    have st : ∀ x, x = (if U0.2.1 n 34 = id then ins else U0.2.1 n 34) → inR ((n : Int) + 1) ∧ Xv (d + 1) q10_comesBy 71 [some (zr 2230), some (zi id), some (zi ins), some (zi ((n : Int) + 1)), none] [] (sI M 2239 ((s : Int) + 17 + 35 * n + 34).toNat x) Q := fun x hx => by
      refine ⟨⟨by omega, by omega⟩, r_cb2 hM h13 q j (n + 1) _ (by omega) ?_⟩
      have a := h.kW (i := (s : Int) + 17 + 35 * n + 34) (x := x) (v := n) (k := 34) rfl (by omega) (by omega)
      have e3 : oW (U0.1, (fun v => if v < n then cb id ins (U0.2.1 v) else U0.2.1 v), U0.2.2) n (fup (if n < n then cb id ins (U0.2.1 n) else U0.2.1 n) 34 x) = (U0.1, (fun v => if v < n + 1 then cb id ins (U0.2.1 v) else U0.2.1 v), U0.2.2) := by
        show (_, _, _) = (_, _, _)
        rw [if_neg (by omega), hx, cb_eq]
        congr 2
        funext v
        show (if v = n then cb id ins (U0.2.1 n) else if v < n then cb id ins (U0.2.1 v) else U0.2.1 v) = if v < n + 1 then cb id ins (U0.2.1 v) else U0.2.1 v
        by_cases c : v = n
        · subst c; rw [if_pos rfl, if_pos (by omega)]
        · rw [if_neg c]
          by_cases c2 : v < n
          · rw [if_pos c2, if_pos (by omega)]
          · rw [if_neg c2, if_neg (by omega)]
      exact e3 ▸ a
    refine B10_comesBy_71 id ins n h.1 hM ((r_level h hM).pure ⟨h.1, fun c => absurd (show U0.1 13 < n from c) (by omega), fun _ => ?_⟩)
    rw [h.2.1]
    repeat (first | refine pe1 (by omega) ?_ | refine pe2 (by omega) ?_ | refine pe3 (by omega) ?_)
    rw [ew]
    refine ⟨fun c => ?_, fun c => ?_⟩
    · repeat (first | refine pe1 (by omega) ?_ | refine pe2 (by omega) ?_ | refine pe3 (by omega) ?_)
      exact (st _ (by rw [if_neg c])).2
    · repeat (first | refine pe1 (by omega) ?_ | refine pe2 (by omega) ?_ | refine pe3 (by omega) ?_)
      exact (st _ (by rw [if_pos (Decidable.not_not.mp c)])).2
end ROPS
