/-! the reference: what there is to choose; which point -/
/-- what the count and the list must be -/
def chR (M : ZMem) (vals : Nat → Int) (n : Nat) (x : Int) (y : Int) (L : Nat → Int) : Prop :=
  if mI M 2232 x.toNat = 11 then y = mI M 2234 x.toNat
  else if mI M 2232 x.toNat = 8 then
    (∀ lo hi, evN M vals n (mI M 2234 x.toNat) = some lo → evN M vals n (mI M 2235 x.toNat) = some hi → y = hi - lo + 1 ∧ L 0 = lo) ∧ (evN M vals n (mI M 2234 x.toNat) = none ∨ evN M vals n (mI M 2235 x.toNat) = none → y = -1)
  else ((∀ j : Nat, (j : Int) < mI M 2235 x.toNat → evN M vals n (mI M 2233 (pk M (mI M 2234 x.toNat) j).toNat) ≠ none) → y = mI M 2235 x.toNat ∧ ∀ j : Nat, (j : Int) < mI M 2235 x.toNat → evN M vals n (mI M 2233 (pk M (mI M 2234 x.toNat) j).toNat) = some (L j)) ∧ ((∃ j : Nat, (j : Int) < mI M 2235 x.toNat ∧ evN M vals n (mI M 2233 (pk M (mI M 2234 x.toNat) j).toNat) = none) → y = -1)
/-- a choose's node -/
def chN (M : ZMem) (n : Nat) (x : Int) : Prop := (0 ≤ x ∧ x < 70200) ∧
  (mI M 2232 x.toNat = 8 → exN M n (mI M 2234 x.toNat) ∧ exN M n (mI M 2235 x.toNat)) ∧
  (mI M 2232 x.toNat ≠ 11 → mI M 2232 x.toNat ≠ 8 → (1 ≤ mI M 2235 x.toNat ∧ mI M 2235 x.toNat ≤ 6) ∧ (∀ j : Nat, (j : Int) < mI M 2235 x.toNat → (0 ≤ pk M (mI M 2234 x.toNat) j ∧ pk M (mI M 2234 x.toNat) j < 70200) ∧ exN M n (mI M 2233 (pk M (mI M 2234 x.toNat) j).toNat)) ∧ pk M (mI M 2234 x.toNat) (mI M 2235 x.toNat).toNat = -1)
def oRank (st : Int) (p : Pf) : Int := if st = 2 ∨ st = 3 then p 46 else if st = 4 then p 33 + (if 0 < p 36 then 1 else 0) else 0
def chO (st lvl : Int) : List Pf → Int → Int → Int → Int
  | [], _, best, _ => best
  | p :: l, i, best, hr =>
    if p 45 = lvl then
      (if best = -1 ∨ (if 0 < lvl then 0 else oRank st p) < hr ∨ ((if 0 < lvl then 0 else oRank st p) = hr ∧ ¬ (lvl = 0 ∧ (st = 1 ∨ st = 2))) then chO st lvl l (i + 1) i (if 0 < lvl then 0 else oRank st p) else chO st lvl l (i + 1) best hr)
    else chO st lvl l (i + 1) best hr
section CHOICES
variable {d : Nat} {K M0 M M' : ZMem} {s lv : Nat} {b : Int} {U : Tr}
theorem r_choices_loop {n t : Nat} {x : Int} {Q : Int → ZMem → Prop} (hd : n ≤ d) (hM : ModelAt K 2230) (hx : 0 ≤ x ∧ x < 70200) (ht : mI M0 2235 x.toNat = t) (ht1 : 1 ≤ t ∧ t ≤ 6) (hp : ∀ j : Nat, j < t → (0 ≤ pk M0 (mI M0 2234 x.toNat) j ∧ pk M0 (mI M0 2234 x.toNat) j < 70200) ∧ exN M0 n (mI M0 2233 (pk M0 (mI M0 2234 x.toNat) j).toNat)) (he : pk M0 (mI M0 2234 x.toNat) t = -1)
    (q : ∀ (y : Int) (M' : ZMem), RM K M0 M' s lv b U → mI M' 2239 = mI M 2239 → ((∀ j : Nat, j < t → evN M0 (U.2.1 lv) n (mI M0 2233 (pk M0 (mI M0 2234 x.toNat) j).toNat) ≠ none) → y = t ∧ ∀ j : Nat, j < t → evN M0 (U.2.1 lv) n (mI M0 2233 (pk M0 (mI M0 2234 x.toNat) j).toNat) = some (mI M' 2240 j)) → ((∃ j : Nat, j < t ∧ evN M0 (U.2.1 lv) n (mI M0 2233 (pk M0 (mI M0 2234 x.toNat) j).toNat) = none) → y = -1) → Q y M') :
    ∀ (m i : Nat) (M1 : ZMem), i + m = t → RM K M0 M1 s lv b U → mI M1 2239 = mI M 2239 → (mI M1 2230 19 = 1 ∧ (∀ j : Nat, j < i → evN M0 (U.2.1 lv) n (mI M0 2233 (pk M0 (mI M0 2234 x.toNat) j).toNat) = some (mI M1 2240 j)) ∨ mI M1 2230 19 = 0 ∧ ∃ j : Nat, j < i ∧ evN M0 (U.2.1 lv) n (mI M0 2233 (pk M0 (mI M0 2234 x.toNat) j).toNat) = none) → Xi (d + 1) q10_choices 90 [some (zr 2230), some (zi x), some (zi i), some (zi (pk M0 (mI M0 2234 x.toNat) i))] [] M1 Q
  | 0, i, M1, e, h, h39, hi => by
    have ei : i = t := by omega
    have ec : mI M1 2235 x.toNat = t := (h.nd 2235 (by omega) (by omega) _).trans ht
    rw [ei, he]
    refine B10_choices_90 x t (-1) h.1 hM (pe2 hx.1 (pe3 hx.2 ?_))
    rw [ec]
    refine ⟨fun c => absurd c (by omega), fun _ => ⟨fun _ => ?_, fun c => absurd rfl c⟩⟩
    rcases hi with ⟨f1, g⟩ | ⟨f0, j, hj, g⟩
    · rw [f1]
      refine ⟨fun c => absurd c (by decide), fun _ => q t M1 h h39 (fun _ => ⟨rfl, fun j hj => g j (by omega)⟩) fun ⟨j, hj, e⟩ => ?_⟩
      rw [g j (by omega)] at e; cases e
    · rw [f0]
      exact ⟨fun _ => q (-1) M1 h h39 (fun a => absurd g (a j (by omega))) fun _ => rfl, fun c => absurd rfl c⟩
  | m + 1, i, M1, e, h, h39, hi => by
    have hit : i < t := by omega
    obtain ⟨hk, hex⟩ := hp i hit
    have ec : mI M1 2235 x.toNat = t := (h.nd 2235 (by omega) (by omega) _).trans ht
    have ek : pk M0 (mI M0 2234 x.toNat) (i + 1) = mI M0 2236 (pk M0 (mI M0 2234 x.toNat) i).toNat := rfl
    have ih := r_choices_loop hd hM hx ht ht1 hp he q m (i + 1)
    rw [ek] at ih
    generalize hkk : pk M0 (mI M0 2234 x.toNat) i = k at *
    have ea : mI M1 2233 k.toNat = mI M0 2233 k.toNat := h.nd 2233 (by omega) (by omega) _
    refine B10_choices_90 x i k h.1 hM (pe2 hx.1 (pe3 hx.2 ?_))
    rw [ec, h.2.2.1, ea]
    refine ⟨fun c => absurd c (by omega), fun _ => ⟨fun c => absurd c (by omega), fun _ => pe2 hk.1 (pe3 hk.2 ?_)⟩⟩
    have hf : mI M1 2230 19 = 0 ∨ mI M1 2230 19 = 1 := hi.elim (fun a => Or.inr a.1) (fun a => Or.inl a.1)
    refine r_wworks (by omega) h hM hex hf rfl ⟨h.1.sI _ _ _, ?_⟩
    have a2 := (h.kv (x := wfl (mI M1 2230 19) (evN M0 (U.2.1 lv) n (mI M0 2233 k.toNat)))).kl (i := i) (x := wvl (mI M1 2230 19) (evN M0 (U.2.1 lv) n (mI M0 2233 k.toNat)))
    have en : mI (sI (sI M1 2230 19 (wfl (mI M1 2230 19) (evN M0 (U.2.1 lv) n (mI M0 2233 k.toNat)))) 2240 i (wvl (mI M1 2230 19) (evN M0 (U.2.1 lv) n (mI M0 2233 k.toNat)))) 2236 k.toNat = mI M0 2236 k.toNat := a2.nd 2236 (by omega) (by omega) _
    rw [Int.toNat_natCast, en]
    repeat (first | refine pe1 (by omega) ?_ | refine pe2 (by omega) ?_ | refine pe3 (by omega) ?_)
    refine ih _ (by omega) a2 ?_ ?_
    · rw [← h39]
      funext j
      rw [r_lr, r_rw]
    · rw [r_lc, mI_sI_eq]
      rcases hi with ⟨f1, g⟩ | ⟨f0, j, hj, g⟩
      · rw [f1]
        cases ev : evN M0 (U.2.1 lv) n (mI M0 2233 k.toNat) with
        | none => exact Or.inr ⟨wfl_n 1, i, by omega, by rw [hkk]; exact ev⟩
        | some u =>
          refine Or.inl ⟨rfl, fun j hj => ?_⟩
          by_cases c : j = i
          · subst c
            rw [hkk, ev, mI_sI_eq]; rfl
          · rw [mI_sI_ne (Or.inr c), r_sl]
            exact g j (by omega)
      · rw [f0, wfl_0]
        exact Or.inr ⟨rfl, j, by omega, g⟩
theorem r_choices {n : Nat} {x : Int} {Q : Int → ZMem → Prop} (hd : n + 1 ≤ d) (h : RM K M0 M s lv b U) (hM : ModelAt K 2230) (hc : chN M0 n x) (q : ∀ (y : Int) (M' : ZMem), RM K M0 M' s lv b U → mI M' 2239 = mI M 2239 → chR M0 (U.2.1 lv) n x y (mI M' 2240) → Q y M') : Ci d q10_choices [zr 2230, zi x] M Q := by
  obtain ⟨d, rfl⟩ : ∃ e, d = e + 1 := ⟨d - 1, by omega⟩
  obtain ⟨hx, h8, h9⟩ := hc
  have eop : mI M 2232 x.toNat = mI M0 2232 x.toNat := h.nd 2232 (by omega) (by omega) _
  have eb : mI M 2234 x.toNat = mI M0 2234 x.toNat := h.nd 2234 (by omega) (by omega) _
  have a1 := h.kv (x := 1)
  have eop1 : mI (sI M 2230 19 1) 2232 x.toNat = mI M0 2232 x.toNat := a1.nd 2232 (by omega) (by omega) _
  have eb1 : mI (sI M 2230 19 1) 2234 x.toNat = mI M0 2234 x.toNat := a1.nd 2234 (by omega) (by omega) _
  have r1 : mI (sI M 2230 19 1) 2239 = mI M 2239 := funext fun j => r_rw _ _ _ _
  refine B10_choices x h.1 hM (pe2 hx.1 (pe3 hx.2 ?_))
  rw [eop, eop1, eb, eb1, a1.2.2.1]
  unfold chR at q
  refine ⟨fun c11 => pe2 hx.1 (pe3 hx.2 ⟨fun c8 => ?_, fun c8 => ?_⟩), fun c11 => ?_⟩
  · obtain ⟨⟨t0, t1⟩, hp, he⟩ := h9 c11 c8
    simp only [if_neg c11, if_neg c8] at q
    repeat (first | refine pe1 (by omega) ?_ | refine pe2 (by omega) ?_ | refine pe3 (by omega) ?_)
    have ht : mI M0 2235 x.toNat = (((mI M0 2235 x.toNat).toNat : Nat) : Int) := by omega
    refine r_choices_loop (M := M) (by omega) hM hx ht ⟨by omega, by omega⟩ (fun j hj => hp j (by omega)) he (fun y M' a1 a2 a3 a4 => q y M' a1 a2 ⟨fun g => ?_, fun ⟨j, hj, g⟩ => a4 ⟨j, by omega, g⟩⟩) (mI M0 2235 x.toNat).toNat 0 _ (by omega) a1 r1 (Or.inl ⟨mI_sI_eq, fun j hj => absurd hj (by omega)⟩)
    obtain ⟨b1, b2⟩ := a3 fun j hj => g j (by omega)
    exact ⟨by omega, fun j hj => b2 j (by omega)⟩
  · have c8 := Decidable.not_not.mp c8
    obtain ⟨hb, hcc⟩ := h8 c8
    simp only [if_neg c11, if_pos c8] at q
    repeat (first | refine pe1 (by omega) ?_ | refine pe2 (by omega) ?_ | refine pe3 (by omega) ?_)
    refine r_wworks (by omega) a1 hM hb (Or.inr rfl) mI_sI_eq ⟨a1.1.sI _ _ _, ?_⟩
    have w1 := wvl_b (M := M0) (vals := U.2.1 lv) (f := 1) (n := n) (x := mI M0 2234 x.toNat)
    rw [sI_sI]
    have a2 := (h.kv (x := wfl 1 (evN M0 (U.2.1 lv) n (mI M0 2234 x.toNat)))).kl (i := 0) (x := wvl 1 (evN M0 (U.2.1 lv) n (mI M0 2234 x.toNat)))
    have r2 : mI (sI (sI M 2230 19 (wfl 1 (evN M0 (U.2.1 lv) n (mI M0 2234 x.toNat)))) 2240 0 (wvl 1 (evN M0 (U.2.1 lv) n (mI M0 2234 x.toNat)))) 2239 = mI M 2239 := funext fun j => by rw [r_lr, r_rw]
    have f2 : mI (sI (sI M 2230 19 (wfl 1 (evN M0 (U.2.1 lv) n (mI M0 2234 x.toNat)))) 2240 0 (wvl 1 (evN M0 (U.2.1 lv) n (mI M0 2234 x.toNat)))) 2230 19 = wfl 1 (evN M0 (U.2.1 lv) n (mI M0 2234 x.toNat)) := by rw [r_lc, mI_sI_eq]
    have l2 : mI (sI (sI M 2230 19 (wfl 1 (evN M0 (U.2.1 lv) n (mI M0 2234 x.toNat)))) 2240 0 (wvl 1 (evN M0 (U.2.1 lv) n (mI M0 2234 x.toNat)))) 2240 0 = wvl 1 (evN M0 (U.2.1 lv) n (mI M0 2234 x.toNat)) := mI_sI_eq
    have w0 : mI (sI M 2230 19 (wfl 1 (evN M0 (U.2.1 lv) n (mI M0 2234 x.toNat)))) 2230 17 = (s : Int) + 17 + 35 * lv := by rw [mI_sI_ne (by omega)]; exact h.2.2.1
    generalize hM2 : sI (sI M 2230 19 (wfl 1 (evN M0 (U.2.1 lv) n (mI M0 2234 x.toNat)))) 2240 0 (wvl 1 (evN M0 (U.2.1 lv) n (mI M0 2234 x.toNat))) = M2 at *
    have ec2 : mI M2 2235 x.toNat = mI M0 2235 x.toNat := a2.nd 2235 (by omega) (by omega) _
    rw [a2.2.2.1, ec2]
    repeat (first | refine pe1 (by omega) ?_ | refine pe2 (by omega) ?_ | refine pe3 (by omega) ?_)
    refine r_wworks (by omega) a2 hM hcc wfl_01 f2 ⟨a2.1.sI _ _ _, ?_⟩
    have w2 := wvl_b (M := M0) (vals := U.2.1 lv) (f := wfl 1 (evN M0 (U.2.1 lv) n (mI M0 2234 x.toNat))) (n := n) (x := mI M0 2235 x.toNat)
    have a3 := a2.kv (x := wfl (wfl 1 (evN M0 (U.2.1 lv) n (mI M0 2234 x.toNat))) (evN M0 (U.2.1 lv) n (mI M0 2235 x.toNat)))
    have r3 : mI (sI M2 2230 19 (wfl (wfl 1 (evN M0 (U.2.1 lv) n (mI M0 2234 x.toNat))) (evN M0 (U.2.1 lv) n (mI M0 2235 x.toNat)))) 2239 = mI M 2239 := by rw [← r2]; exact funext fun j => r_rw _ _ _ _
    rw [mI_sI_eq, r_sl, l2]
    have q3 := fun y => q y _ a3 r3
    rw [show mI (sI M2 2230 19 (wfl (wfl 1 (evN M0 (U.2.1 lv) n (mI M0 2234 x.toNat))) (evN M0 (U.2.1 lv) n (mI M0 2235 x.toNat)))) 2240 = mI M2 2240 from funext fun j => r_sl _ _ _ _, l2] at q3
    repeat (first | refine pe1 (by omega) ?_ | refine pe2 (by omega) ?_ | refine pe3 (by omega) ?_)
    cases e1 : evN M0 (U.2.1 lv) n (mI M0 2234 x.toNat) with
    | none =>
      rw [e1] at q3
      rw [wfl_n, wfl_0] at q3 ⊢
      exact ⟨fun _ => q3 (-1) ⟨(by intro lo hi a; cases a), fun _ => rfl⟩, fun c => absurd rfl c⟩
    | some u =>
      rw [e1] at q3 w1 w2
      cases e2 : evN M0 (U.2.1 lv) n (mI M0 2235 x.toNat) with
      | none =>
        rw [e2] at q3
        rw [wfl_n] at q3 ⊢
        exact ⟨fun _ => q3 (-1) ⟨(by intro lo hi _ a; cases a), fun _ => rfl⟩, fun c => absurd rfl c⟩
      | some v =>
        rw [e2] at q3 w2
        rw [wfl_s, wfl_s] at q3 ⊢
        rw [wfl_s, wvl_s] at w2
        rw [wvl_s] at w1
        refine ⟨fun c => absurd c (by decide), fun _ => ?_⟩
        rw [wvl_s, wvl_s]
        repeat (first | refine pe1 (by omega) ?_ | refine pe2 (by omega) ?_ | refine pe3 (by omega) ?_)
        exact q3 (v - u + 1) ⟨(by intro lo hi a b; cases a; cases b; exact ⟨rfl, rfl⟩), fun a => a.elim (fun z => by cases z) (fun z => by cases z)⟩
  · simp only [if_pos (Decidable.not_not.mp c11)] at q
    exact pe2 hx.1 (pe3 hx.2 (q _ M h rfl rfl))
end CHOICES
