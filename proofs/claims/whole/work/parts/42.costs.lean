/-! the reference: a cost, a test, how many choices -/
theorem fup_id {f : Pf} {k : Nat} : fup f k (f k) = f := funext fun j => by
  show (if j = k then f k else f j) = f j
  by_cases q : j = k
  · rw [if_pos q, q]
  · rw [if_neg q]
theorem oW_id {U : Tr} {i : Nat} : oW U i (U.2.1 i) = U := by
  show (_, fup U.2.1 i (U.2.1 i), _) = U
  rw [show fup U.2.1 i (U.2.1 i) = U.2.1 from funext fun j => by
    show (if j = i then U.2.1 i else U.2.1 j) = U.2.1 j
    by_cases q : j = i
    · rw [if_pos q, q]
    · rw [if_neg q]]
/-- the k-th of the parts behind one another -/
def pk (M : ZMem) (k : Int) : Nat → Int
  | 0 => k
  | j + 1 => mI M 2236 (pk M k j).toNat
def oCost (M : ZMem) (vals : Nat → Int) (n : Nat) (price : Int) : Int := if price = -1 then 0 else (evN M vals n price).getD 999999
def oIs (M : ZMem) (vals : Nat → Int) (n : Nat) (x : Int) : Bool :=
  match evN M vals n (mI M 2233 x.toNat), evN M vals n (mI M 2234 x.toNat) with
  | some u, some v => gIsSo u (mI M 2235 x.toNat) v
  | _, _ => false
section COSTS
variable {d : Nat} {K M0 M M' : ZMem} {s lv : Nat} {b : Int} {U : Tr}
theorem RM.nd (h : RM K M0 M s lv b U) : ndEq M0 M := fun a h1 h2 j => h.2.2.2.2.2.2.2.2.1.i (fun q => by omega) j
theorem r_wworks {n : Nat} {x f : Int} {Q : Int → ZMem → Prop} (hd : n ≤ d) (h : RM K M0 M s lv b U) (hM : ModelAt K 2230) (he : exN M0 n x) (hf : f = 0 ∨ f = 1) (hfl : mI M 2230 19 = f) (q : Q (wvl f (evN M0 (U.2.1 lv) n x)) (sI M 2230 19 (wfl f (evN M0 (U.2.1 lv) n x)))) : Ci d q10_works [zr 2230, zi ((s : Int) + 17 + 35 * lv), zi x] M Q := by
  have hs := h.2.2.2.2.2.2.1
  have hl := h.2.2.2.2.2.2.2.1
  refine r_works (vals := U.2.1 lv) hM n d x f M Q h.1 hd ((exN_nd h.nd n x).mpr he) hf hfl (fun k hk => ⟨by omega, by omega, h.w rfl hl (by omega)⟩) ?_
  rw [evN_nd h.nd]
  exact q
theorem r_costOf {n : Nat} {base : Int} {vals : Nat → Int} {Q : Int → ZMem → Prop} (hd : n + 1 ≤ d) (h : RM K M0 M s lv b U) (hM : ModelAt K 2230) (he : U.1 3 ≠ -1 → exN M0 n (U.1 3)) (hv : ∀ k : Nat, k < 8 → 0 ≤ base + k ∧ base + k < 19245 ∧ mI M 2239 (base + k).toNat = vals k) (q : ∀ M', RM K M0 M' s lv b U → mI M' 2239 = mI M 2239 → mI M' 2240 = mI M 2240 → Q (oCost M0 vals n (U.1 3)) M') : Ci d q10_costOf [zr 2230, zi base] M Q := by
  obtain ⟨d, rfl⟩ : ∃ e, d = e + 1 := ⟨d - 1, by omega⟩
  have hs := h.2.2.2.2.2.2.1
  have e3 := h.sc (i := (s : Int) + 3) (k := 3) rfl (by omega)
  have a1 := h.kv (x := 1)
  have e3' := a1.sc (i := (s : Int) + 3) (k := 3) rfl (by omega)
  refine B10_costOf base h.1 hM ?_
  rw [h.2.1, a1.2.1, e3, e3']
  repeat (first | refine pe1 (by omega) ?_ | refine pe2 (by omega) ?_ | refine pe3 (by omega) ?_)
  refine ⟨fun c => ?_, fun c => ?_⟩
  · repeat (first | refine pe1 (by omega) ?_ | refine pe2 (by omega) ?_ | refine pe3 (by omega) ?_)
    refine r_works (vals := vals) hM n d (U.1 3) 1 _ _ a1.1 (by omega) ((exN_nd a1.nd n _).mpr (he c)) (Or.inr rfl) mI_sI_eq (fun k hk => by rw [r_rw]; exact hv k hk) ?_
    rw [evN_nd a1.nd, sI_sI]
    have fin : ∀ x, RM K M0 (sI M 2230 19 x) s lv b U ∧ mI (sI M 2230 19 x) 2239 = mI M 2239 ∧ mI (sI M 2230 19 x) 2240 = mI M 2240 := fun x => ⟨h.kv, funext fun j => r_rw _ _ _ _, funext fun j => r_sl _ _ _ _⟩
    have q1 := fun x => q _ (fin x).1 (fin x).2.1 (fin x).2.2
    refine ⟨h.1.sI _ _ _, ?_⟩
    rw [mI_sI_eq]
    unfold oCost at q1
    rw [if_neg c] at q1
    cases e : evN M0 vals n (U.1 3) with
    | none =>
      rw [e] at q1
      rw [wfl_n]
      exact ⟨fun _ => q1 0, fun c2 => absurd rfl c2⟩
    | some u =>
      rw [e] at q1
      exact ⟨fun c2 => absurd c2 (by rw [wfl_s]; decide), fun _ => q1 1⟩
  · have q1 := q M h rfl rfl
    rw [oCost, if_pos (Decidable.not_not.mp c)] at q1
    exact q1
theorem r_goesBehind {x : Int} {is : Bool} {Q : Int → ZMem → Prop} (h : RM K M0 M s lv b U) (hM : ModelAt K 2230) (hx : 0 ≤ x ∧ x < 70200) (q1 : is = true → ∀ M', RM K M0 M' s lv b (oW U lv (fup (U.2.1 lv) 8 (mI M0 2236 x.toNat))) → Q 0 M') (q0 : is = false → ∀ M', RM K M0 M' s lv b U → Q 6 M') : Ci d q10_goesBehind [zr 2230, zi x, zi (if is = true then 1 else 0)] M Q := by
  have hs := h.2.2.2.2.2.2.1
  have hl := h.2.2.2.2.2.2.2.1
  have e8 := h.w (i := (s : Int) + 17 + 35 * lv + 8) (v := lv) (k := 8) rfl hl (by omega)
  have en : mI M 2236 x.toNat = mI M0 2236 x.toNat := h.nd 2236 (by omega) (by omega) _
  refine B10_goesBehind x _ h.1 hM ?_
  rw [h.2.2.1, e8, en]
  repeat (first | refine pe1 (by omega) ?_ | refine pe2 (by omega) ?_ | refine pe3 (by omega) ?_)
  cases is with
  | true =>
    refine ⟨fun c => absurd c (by decide), fun c => ?_⟩
    repeat (first | refine pe1 (by omega) ?_ | refine pe2 (by omega) ?_ | refine pe3 (by omega) ?_)
    exact ⟨fun c => absurd c (by decide), fun _ => q1 rfl _ (h.kW rfl hl (by omega))⟩
  | false =>
    refine ⟨fun c => ?_, fun c => absurd rfl c⟩
    repeat (first | refine pe1 (by omega) ?_ | refine pe2 (by omega) ?_ | refine pe3 (by omega) ?_)
    refine ⟨fun _ => q0 rfl _ ?_, fun c => absurd rfl c⟩
    have a := h.kW (i := (s : Int) + 17 + 35 * lv + 8) (x := U.2.1 lv 8) (v := lv) (k := 8) rfl hl (by omega)
    rwa [fup_id, oW_id] at a
theorem r_isSo {n : Nat} {x : Int} {Q : Int → ZMem → Prop} (hd : n + 1 ≤ d) (h : RM K M0 M s lv b U) (hM : ModelAt K 2230) (hx : 0 ≤ x ∧ x < 70200) (ha : exN M0 n (mI M0 2233 x.toNat)) (hb : exN M0 n (mI M0 2234 x.toNat)) (q : ∀ M', RM K M0 M' s lv b U → Q (if oIs M0 (U.2.1 lv) n x = true then 1 else 0) M') : Ci d q10_isSo [zr 2230, zi x] M Q := by
  obtain ⟨d, rfl⟩ : ∃ e, d = e + 1 := ⟨d - 1, by omega⟩
  have a1 := h.kv (x := 1)
  have ea : mI (sI M 2230 19 1) 2233 x.toNat = mI M0 2233 x.toNat := a1.nd 2233 (by omega) (by omega) _
  refine B10_isSo x h.1 hM ?_
  rw [a1.2.2.1, ea]
  repeat (first | refine pe1 (by omega) ?_ | refine pe2 (by omega) ?_ | refine pe3 (by omega) ?_)
  refine r_wworks (by omega) a1 hM ha (Or.inr rfl) mI_sI_eq ⟨a1.1.sI _ _ _, ?_⟩
  have a2 := a1.kv (x := wfl 1 (evN M0 (U.2.1 lv) n (mI M0 2233 x.toNat)))
  have f2 : mI (sI (sI M 2230 19 1) 2230 19 (wfl 1 (evN M0 (U.2.1 lv) n (mI M0 2233 x.toNat)))) 2230 19 = wfl 1 (evN M0 (U.2.1 lv) n (mI M0 2233 x.toNat)) := mI_sI_eq
  generalize sI (sI M 2230 19 1) 2230 19 (wfl 1 (evN M0 (U.2.1 lv) n (mI M0 2233 x.toNat))) = M2 at *
  have eb : mI M2 2234 x.toNat = mI M0 2234 x.toNat := a2.nd 2234 (by omega) (by omega) _
  rw [a2.2.2.1, eb]
  repeat (first | refine pe1 (by omega) ?_ | refine pe2 (by omega) ?_ | refine pe3 (by omega) ?_)
  refine r_wworks (by omega) a2 hM hb wfl_01 f2 ⟨a2.1.sI _ _ _, ?_⟩
  have a3 := a2.kv (x := wfl (wfl 1 (evN M0 (U.2.1 lv) n (mI M0 2233 x.toNat))) (evN M0 (U.2.1 lv) n (mI M0 2234 x.toNat)))
  rw [mI_sI_eq]
  have q3 := q _ a3
  generalize hM3 : sI M2 2230 19 (wfl (wfl 1 (evN M0 (U.2.1 lv) n (mI M0 2233 x.toNat))) (evN M0 (U.2.1 lv) n (mI M0 2234 x.toNat))) = M3 at *
  have ec : mI M3 2235 x.toNat = mI M0 2235 x.toNat := a3.nd 2235 (by omega) (by omega) _
  unfold oIs at q3
  cases e1 : evN M0 (U.2.1 lv) n (mI M0 2233 x.toNat) with
  | none =>
    rw [e1] at q3
    have q3 : Q 0 M3 := q3
    rw [wfl_n, wfl_0]
    exact ⟨fun _ => q3, fun c => absurd rfl c⟩
  | some u =>
    rw [e1] at q3
    cases e2 : evN M0 (U.2.1 lv) n (mI M0 2234 x.toNat) with
    | none =>
      rw [e2] at q3
      have q3 : Q 0 M3 := q3
      rw [wfl_n]
      exact ⟨fun _ => q3, fun c => absurd rfl c⟩
    | some v =>
      rw [e2] at q3
      have q3 : Q (if gIsSo u (mI M0 2235 x.toNat) v = true then 1 else 0) M3 := q3
      rw [wfl_s, wfl_s, wvl_s, wvl_s]
      refine ⟨fun c => absurd c (by decide), fun _ => ?_⟩
      rw [ec]
      repeat (first | refine pe1 (by omega) ?_ | refine pe2 (by omega) ?_ | refine pe3 (by omega) ?_)
      unfold gIsSo at q3
      refine ⟨fun c1 => ?_, fun c1 => ?_⟩
      · rw [if_neg c1] at q3
        repeat (first | refine pe1 (by omega) ?_ | refine pe2 (by omega) ?_ | refine pe3 (by omega) ?_)
        refine ⟨fun c2 => ?_, fun c2 => ?_⟩
        · rw [if_neg c2] at q3
          repeat (first | refine pe1 (by omega) ?_ | refine pe2 (by omega) ?_ | refine pe3 (by omega) ?_)
          refine ⟨fun c3 => ?_, fun c3 => ?_⟩
          · rw [if_neg c3] at q3
            exact ⟨fun c => by rw [if_neg (by simp [c])] at q3; exact q3, fun c => by rw [if_pos (by simp [c])] at q3; exact q3⟩
          · rw [if_pos (Decidable.not_not.mp c3)] at q3
            exact ⟨fun c => by rw [if_neg (by simp; omega)] at q3; exact q3, fun c => by rw [if_pos (by simp; omega)] at q3; exact q3⟩
        · rw [if_pos (Decidable.not_not.mp c2)] at q3
          exact ⟨fun c => by rw [if_neg (by simp [c])] at q3; exact q3, fun c => by rw [if_pos (by simp; omega)] at q3; exact q3⟩
      · rw [if_pos (Decidable.not_not.mp c1)] at q3
        exact ⟨fun c => by rw [if_neg (by simp; omega)] at q3; exact q3, fun c => by rw [if_pos (by simp; omega)] at q3; exact q3⟩
end COSTS
