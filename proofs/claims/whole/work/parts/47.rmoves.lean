/-! the reference: a part is left, a point is taken -/
theorem cb_k {id ins : Int} {p : Pf} {k : Nat} (h : k ≠ 34) : cb id ins p k = p k := by
  unfold cb
  split
  · exact fup_ne h
  · rfl
theorem oOff_w {U : Tr} {i : Nat} {p : Pf} {v k : Nat} (h : k ≠ 34) : (oOff U i p).2.1 v k = U.2.1 v k := by
  show (if (v : Int) ≤ U.1 13 then cb (p 44) (p 34) (U.2.1 v) else U.2.1 v) k = U.2.1 v k
  split
  · exact cb_k h
  · rfl
theorem oOff_s {U : Tr} {i : Nat} {p : Pf} {k : Nat} (h : k ≠ 14) : (oOff U i p).1 k = U.1 k := fup_ne h
theorem cutsF_w {lv : Nat} {since : Int} {v k : Nat} (h : k ≠ 34) : ∀ (n : Nat) (U : Tr), (cutsF lv since n U).2.1 v k = U.2.1 v k
  | 0, U => rfl
  | n + 1, U => by
    rw [cutsF]
    split
    · rfl
    · split
      · rfl
      · rw [cutsF_w h n, oOff_w h]; rfl
theorem cutsF_s {lv : Nat} {since : Int} {k : Nat} (h : k ≠ 14) (h7 : k ≠ 7) : ∀ (n : Nat) (U : Tr), (cutsF lv since n U).1 k = U.1 k
  | 0, U => rfl
  | n + 1, U => by
    rw [cutsF]
    split
    · rfl
    · split
      · rfl
      · rw [cutsF_s h h7 n, oOff_s h]; exact fup_ne h7
def fAt (w : Pf) : Nat := 10 + 3 * ((w 9).toNat - 1)
def oLeave (M : ZMem) (U : Tr) (lv f : Nat) (x : Int) : Tr := oW U lv (fup (fup (fup (U.2.1 lv) 31 (U.2.1 lv (f + 1))) 9 (U.2.1 lv 9 - 1)) 8 (mI M 2236 x.toNat))
def oRound (M : ZMem) (U : Tr) (lv f : Nat) (x : Int) : Tr := oW U lv (fup (fup (fup (U.2.1 lv) (f + 2) (U.2.1 lv (f + 2) - 1)) 31 (U.2.1 lv 32)) 8 (mI M 2234 x.toNat))
def wTake (p : Pf) : Pf := fup (fup (fup (tq 0 35 p) 34 (p 44)) 32 (p 32 + 1)) 33 (p 33 + (if 0 < p 36 then 1 else 0))
def wTaken (M : ZMem) (p : Pf) : Pf :=
  if mI M 2232 (p 35).toNat = 11 then wEnters (wTake p) (p 35) (mI M 2233 (pk M (mI M 2233 (p 35).toNat) (p 36).toNat).toNat) 0
  else fup (fup (wTake p) (mI M 2233 (p 35).toNat).toNat (if mI M 2232 (p 35).toNat = 8 then p 38 + p 36 else p (38 + (p 36).toNat))) 8 (mI M 2236 (p 35).toNat)
def oTook (U : Tr) (i : Nat) (p : Pf) : Tr := if p 36 + 1 = p 37 then oOff (oP U (U.2.2.1.set i (fup p 36 (p 36 + 1)))) i (fup p 36 (p 36 + 1)) else oP U (U.2.2.1.set i (fup p 36 (p 36 + 1)))
section RMOVES
variable {d : Nat} {K M0 M M' : ZMem} {s lv : Nat} {b : Int} {U : Tr}
theorem r_leaves155 {f : Nat} {x : Int} {Q : Int → ZMem → Prop} (h : RM K M0 M s lv b U) (hM : ModelAt K 2230) (h9 : 0 ≤ U.2.1 lv 9 ∧ U.2.1 lv 9 ≤ 7) (hf : f + 2 < 31) (hx : 0 ≤ x ∧ x < 70200) (q : ∀ M', RM K M0 M' s lv b (oLeave M0 U lv f x) → Q 0 M') : Xi (d + 1) q10_leaves 155 [some (zr 2230), none, some (zi ((s : Int) + 17 + 35 * lv + f)), some (zi x)] [] M Q := by
  have hs := h.2.2.2.2.2.2.1
  have hl := h.2.2.2.2.2.2.2.1
  have e1 := h.w (i := (s : Int) + 17 + 35 * lv + f + 1) (v := lv) (k := f + 1) (by omega) hl (by omega)
  refine B10_leaves_155 _ x h.1 hM ?_
  rw [h.2.2.1, e1]
  repeat (first | refine pe1 (by omega) ?_ | refine pe2 (by omega) ?_ | refine pe3 (by omega) ?_)
  have a1 := h.oWs.kW2 (i := (s : Int) + 17 + 35 * lv + 31) (x := U.2.1 lv (f + 1)) (k := 31) rfl (by omega)
  generalize sI M 2239 ((s : Int) + 17 + 35 * lv + 31).toNat (U.2.1 lv (f + 1)) = M1 at *
  have e9 := a1.w2 (i := (s : Int) + 17 + 35 * lv + 9) (k := 9) rfl (by omega)
  rw [fup_ne (by decide)] at e9
  refine B10_leaves_175 x a1.1 hM ?_
  simp only [r_sc]
  rw [a1.2.2.1, e9]
  have a2 := a1.kW2 (i := (s : Int) + 17 + 35 * lv + 9) (x := U.2.1 lv 9 - 1) (k := 9) rfl (by omega)
  have en : mI (sI M1 2239 ((s : Int) + 17 + 35 * lv + 9).toNat (U.2.1 lv 9 - 1)) 2236 x.toNat = mI M0 2236 x.toNat := a2.nd 2236 (by omega) (by omega) _
  rw [en]
  repeat (first | refine pe1 (by omega) ?_ | refine pe2 (by omega) ?_ | refine pe3 (by omega) ?_)
  exact q _ (a2.kW2 (k := 8) rfl (by omega))
theorem r_leaves {Q : Int → ZMem → Prop} (hd : 4 ≤ d) (h : RM K M0 M s lv b U) (hM : ModelAt K 2230) (h13 : U.1 13 = lv) (hb : 0 ≤ b ∧ b ≤ 2000) (h4 : 0 ≤ U.1 4 ∧ U.1 4 ≤ 100000000) (h7 : 0 ≤ U.1 7 ∧ U.1 7 ≤ 100000000) (h9 : 0 ≤ U.2.1 lv 9 ∧ U.2.1 lv 9 ≤ 7) (hx : U.2.1 lv 9 ≠ 0 → 0 ≤ U.2.1 lv (fAt (U.2.1 lv)) ∧ U.2.1 lv (fAt (U.2.1 lv)) < 70200) (hr2 : U.2.1 lv (fAt (U.2.1 lv) + 2) ≤ 100000)
    (q0 : U.2.1 lv 9 = 0 → Q 7 M)
    (q1 : U.2.1 lv 9 ≠ 0 → mI M0 2232 (U.2.1 lv (fAt (U.2.1 lv))).toNat = 16 → 0 < U.2.1 lv (fAt (U.2.1 lv) + 2) → b = 0 → Q 2 M)
    (q2 : U.2.1 lv 9 ≠ 0 → mI M0 2232 (U.2.1 lv (fAt (U.2.1 lv))).toNat = 16 → 0 < U.2.1 lv (fAt (U.2.1 lv) + 2) → b ≠ 0 → ∀ M', RM K M0 M' s lv (b - 1) (oRound M0 (oS U 4 (U.1 4 + 1)) lv (fAt (U.2.1 lv)) (U.2.1 lv (fAt (U.2.1 lv)))) → Q 0 M')
    (q3 : U.2.1 lv 9 ≠ 0 → ¬ (mI M0 2232 (U.2.1 lv (fAt (U.2.1 lv))).toNat = 16 ∧ 0 < U.2.1 lv (fAt (U.2.1 lv) + 2)) → ∀ M', RM K M0 M' s lv b (oLeave M0 (if mI M0 2232 (U.2.1 lv (fAt (U.2.1 lv))).toNat = 13 then cutsF lv (U.2.1 lv 31) 62 U else U) lv (fAt (U.2.1 lv)) (U.2.1 lv (fAt (U.2.1 lv)))) → Q 0 M') : Ci d q10_leaves [zr 2230] M Q := by
  obtain ⟨d, rfl⟩ : ∃ e, d = e + 1 := ⟨d - 1, by omega⟩
  have hs := h.2.2.2.2.2.2.1
  have hl := h.2.2.2.2.2.2.2.1
  have e9 := h.w (i := (s : Int) + 17 + 35 * lv + 9) (v := lv) (k := 9) rfl hl (by omega)
  refine B10_leaves h.1 hM ?_
  rw [h.2.2.1, e9]
  repeat (first | refine pe1 (by omega) ?_ | refine pe2 (by omega) ?_ | refine pe3 (by omega) ?_)
  refine ⟨fun c => ?_, fun c => q0 (Decidable.not_not.mp c)⟩
  have q1 := q1 c
  have q2 := q2 c
  have q3 := q3 c
  have hx := hx c
  have hfa : fAt (U.2.1 lv) + 2 < 31 := by unfold fAt; omega
  have efa : (s : Int) + 17 + 35 * lv + 10 + 3 * (U.2.1 lv 9 - 1) = (s : Int) + 17 + 35 * lv + fAt (U.2.1 lv) := by unfold fAt; omega
  rw [efa]
  generalize hff : fAt (U.2.1 lv) = f at *
  have e0 := h.w (i := (s : Int) + 17 + 35 * lv + f) (v := lv) (k := f) rfl hl (by omega)
  have e2 := h.w (i := (s : Int) + 17 + 35 * lv + f + 2) (v := lv) (k := f + 2) (by omega) hl (by omega)
  have e31 := h.w (i := (s : Int) + 17 + 35 * lv + 31) (v := lv) (k := 31) rfl hl (by omega)
  rw [e0, e2]
  have eop : mI M 2232 (U.2.1 lv f).toNat = mI M0 2232 (U.2.1 lv f).toNat := h.nd 2232 (by omega) (by omega) _
  rw [eop]
  have c155 : ¬ (mI M0 2232 (U.2.1 lv f).toNat = 16 ∧ 0 < U.2.1 lv (f + 2)) → mI M0 2232 (U.2.1 lv f).toNat ≠ 13 → Xi (d + 1) q10_leaves 155 [some (zr 2230), none, some (zi ((s : Int) + 17 + 35 * lv + f)), some (zi (U.2.1 lv f))] [] M Q := fun c1 c13 => by
    have q3 := q3 c1
    rw [if_neg c13] at q3
    exact r_leaves155 h hM h9 hfa hx q3
  have c139 : ¬ (mI M0 2232 (U.2.1 lv f).toNat = 16 ∧ 0 < U.2.1 lv (f + 2)) → mI M0 2232 (U.2.1 lv f).toNat = 13 → Xi (d + 1) q10_leaves 139 [some (zr 2230), none, some (zi ((s : Int) + 17 + 35 * lv + f)), some (zi (U.2.1 lv f))] [] M Q := fun c1 c13 => by
    have q3 := q3 c1
    rw [if_pos c13] at q3
    refine B10_leaves_139 _ _ h.1 hM ?_
    rw [h.2.2.1, e31]
    repeat (first | refine pe1 (by omega) ?_ | refine pe2 (by omega) ?_ | refine pe3 (by omega) ?_)
    refine r_cuts (by omega) h hM h13 h7 fun M1 a1 => ⟨a1.1, r_leaves155 a1 hM (by rw [cutsF_w (by decide)]; exact h9) hfa hx q3⟩
  repeat (first | refine pe1 (by omega) ?_ | refine pe2 (by omega) ?_ | refine pe3 (by omega) ?_)
  refine ⟨fun c16 => ?_, fun c16 => ?_⟩
  · repeat (first | refine pe1 (by omega) ?_ | refine pe2 (by omega) ?_ | refine pe3 (by omega) ?_)
    exact ⟨fun c13 => c155 (fun a => c16 a.1) c13, fun c13 => c139 (fun a => c16 a.1) (Decidable.not_not.mp c13)⟩
  have c16 := Decidable.not_not.mp c16
  repeat (first | refine pe1 (by omega) ?_ | refine pe2 (by omega) ?_ | refine pe3 (by omega) ?_)
  refine ⟨fun c2 => ?_, fun c2 => ?_⟩
  · repeat (first | refine pe1 (by omega) ?_ | refine pe2 (by omega) ?_ | refine pe3 (by omega) ?_)
    exact ⟨fun c13 => c155 (fun a => by omega) c13, fun c13 => c139 (fun a => by omega) (Decidable.not_not.mp c13)⟩
  · refine r_mayStep h hM hb h4 (fun cb M1 a1 => ⟨a1.1, fun _ => ?_, fun c => absurd (by decide) c⟩) (fun cb => ⟨h.1, fun c => absurd rfl c, fun _ => q1 c16 (by omega) cb⟩)
    have q2 := q2 c16 (by omega) cb
    have f2 : mI M1 2239 ((s : Int) + 17 + 35 * lv + f + 2).toNat = U.2.1 lv (f + 2) := a1.w (v := lv) (k := f + 2) (by omega) hl (by omega)
    simp only [r_sc]
    rw [f2, a1.2.2.1]
    have a2 := a1.oWs.kW2 (i := (s : Int) + 17 + 35 * lv + f + 2) (x := U.2.1 lv (f + 2) - 1) (k := f + 2) (by omega) (by omega)
    have f32 : mI (sI M1 2239 ((s : Int) + 17 + 35 * lv + f + 2).toNat (U.2.1 lv (f + 2) - 1)) 2239 ((s : Int) + 17 + 35 * lv + 32).toNat = U.2.1 lv 32 := (a2.w2 (k := 32) rfl (by omega)).trans (fup_ne (by omega))
    rw [f32]
    have a3 := a2.kW2 (i := (s : Int) + 17 + 35 * lv + 31) (x := U.2.1 lv 32) (k := 31) rfl (by omega)
    have en : mI (sI (sI M1 2239 ((s : Int) + 17 + 35 * lv + f + 2).toNat (U.2.1 lv (f + 2) - 1)) 2239 ((s : Int) + 17 + 35 * lv + 31).toNat (U.2.1 lv 32)) 2234 (U.2.1 lv f).toNat = mI M0 2234 (U.2.1 lv f).toNat := a3.nd 2234 (by omega) (by omega) _
    rw [en]
    repeat (first | refine pe1 (by omega) ?_ | refine pe2 (by omega) ?_ | refine pe3 (by omega) ?_)
    exact q2 _ (a3.kW2 (k := 8) rfl (by omega))
theorem vT_way {R R' g : Pf} {s lv : Nat} (hl : lv < 7) (h61 : (R (s + 14)).toNat ≤ 61) (h : ∀ j, R' j = if s + 17 + 35 * lv ≤ j ∧ j < s + 17 + 35 * lv + 35 then g (j - (s + 17 + 35 * lv)) else R j) : vT R' s = oW (vT R s) lv (tq 0 35 g) := by
  have lo (j : Nat) (hj : ¬ (s + 17 + 35 * lv ≤ j ∧ j < s + 17 + 35 * lv + 35)) : R' j = R j := by rw [h, if_neg hj]
  show (_, _, _, _) = (_, _, _, _)
  rw [tq_congr (f := fun j => R' (s + j)) fun j _ hj => lo (s + j) (by omega), pts_congr (lo _ (by omega)) fun i hi => vP_congr fun j hj => lo _ (by omega), tq_congr (f := fun j => R' (s + 3129 + j)) fun j _ hj => lo (s + 3129 + j) (by omega)]
  congr 2
  funext v
  show (if v < 7 then vW R' s v else fun _ => 0) = if v = lv then tq 0 35 g else if v < 7 then vW R s v else fun _ => 0
  by_cases q : v = lv
  · subst q
    rw [if_pos hl, if_pos rfl]
    exact tq_congr fun k _ hk => by
      show R' (s + 17 + 35 * v + k) = g k
      rw [h, if_pos (by omega), Nat.add_sub_cancel_left]
  · rw [if_neg q]
    by_cases hv : v < 7
    · rw [if_pos hv, if_pos hv, vW_congr fun j hj => lo _ (by omega)]
    · rw [if_neg hv, if_neg hv]
theorem RM.cpP (h : RM K M0 M s lv b U) {i : Nat} {p : Pf} {x : Int} (hp : U.2.2.1[i]? = some p) (hx : x = s + 262 + 47 * i) : RM K M0 (sA M 2239 (zCpy (mI M 2239) (mI M 2239) x.toNat ((s : Int) + 17 + 35 * lv).toNat 35)) s lv b (oW U lv (tq 0 35 p)) := by
  have hs := h.2.2.2.2.2.2.1
  have hl := h.2.2.2.2.2.2.2.1
  have hn := h.n61
  have hil : i < U.2.2.1.length := (List.getElem?_eq_some_iff.mp hp).1
  have er : ∀ j, mI (sA M 2239 (zCpy (mI M 2239) (mI M 2239) x.toNat ((s : Int) + 17 + 35 * lv).toNat 35)) 2239 j = if s + 17 + 35 * lv ≤ j ∧ j < s + 17 + 35 * lv + 35 then mI M 2239 (s + 262 + 47 * i + (j - (s + 17 + 35 * lv))) else mI M 2239 j := fun j => by
    rw [mI_sA, if_pos rfl]
    unfold zCpy
    by_cases c : s + 17 + 35 * lv ≤ j ∧ j < s + 17 + 35 * lv + 35
    · rw [if_pos c, if_pos (by omega)]
      congr 1
      omega
    · rw [if_neg c, if_neg (by omega)]
  have f := h.2.2.2.2.2.2.2.2
  refine ⟨h.1.sA _ _, by rw [r_ca]; exact h.2.1, by rw [r_ca]; exact h.2.2.1, by rw [r_ca]; exact h.2.2.2.1, ?_, h.2.2.2.2.2.1, hs, hl, f.1.sA (Or.inr (Or.inl rfl)), fun k hk => by rw [er, if_neg (by omega)]; exact f.2.1 k hk, fun k hk => by rw [r_ca]; exact f.2.2 k hk⟩
  rw [vT_way (g := p) hl hn.1 (fun j => ?_), h.2.2.2.2.1]
  rw [er]
  by_cases c : s + 17 + 35 * lv ≤ j ∧ j < s + 17 + 35 * lv + 35
  · rw [if_pos c, if_pos c]
    have := h.p (i := (((s + 262 + 47 * i + (j - (s + 17 + 35 * lv)) : Nat)) : Int)) (v := i) (k := j - (s + 17 + 35 * lv)) (by omega) hp (by omega)
    rwa [Int.toNat_natCast] at this
  · rw [if_neg c, if_neg c]
theorem r_undone {i : Nat} {p : Pf} {x : Int} {Q : ZMem → Prop} (hM : ModelAt K 2230) (hx : x = s + 262 + 47 * i) (h8 : 0 ≤ U.1 8 ∧ U.1 8 ≤ 100000000) (hp : U.2.2.1[i]? = some p) (q : ∀ M', RM K M0 M' s lv b (oS U 8 (U.1 8 + unlN (U.2.1 lv) p 8)) → Xv (d + 1) q10_takesPoint 85 [some (zr 2230), some (zi i), some (zi x), none, none, none, none] [] M' Q) : ∀ (j n : Nat) (M : ZMem), n + j = 8 → RM K M0 M s lv b (oS U 8 (U.1 8 + unlN (U.2.1 lv) p n)) → Xv (d + 1) q10_takesPoint 31 [some (zr 2230), some (zi i), some (zi x), some (zi n), none, none, none] [] M Q
  | 0, n, M, e, h => by
    obtain rfl : n = 8 := by omega
    exact B10_takesPoint_31 i x (8 : Nat) h.1 hM ⟨fun _ => q M h, fun c => absurd (by decide) c⟩
  | j + 1, n, M, e, h => by
    have hs := h.2.2.2.2.2.2.1
    have hl := h.2.2.2.2.2.2.2.1
    have hn := h.n61
    have hil : i < U.2.2.1.length := (List.getElem?_eq_some_iff.mp hp).1
    have hu := unlN_le (U.2.1 lv) p n
    have ih := r_undone hM hx h8 hp q j (n + 1)
    have hil2 : i < (oS U 8 (U.1 8 + unlN (U.2.1 lv) p n)).2.2.1.length := hil
    have ew : mI M 2239 ((s : Int) + 17 + 35 * lv + n).toNat = U.2.1 lv n := h.w (v := lv) (k := n) rfl hl (by omega)
    have ep : mI M 2239 (x + n).toNat = p n := h.p (v := i) (k := n) (by omega) hp (by omega)
    have e8 : mI M 2239 ((s : Int) + 8).toNat = U.1 8 + unlN (U.2.1 lv) p n := (h.sc (k := 8) rfl (by omega)).trans (show fup U.1 8 (U.1 8 + unlN (U.2.1 lv) p n) 8 = _ from fup_self)
    have st : ∀ y, y = U.1 8 + unlN (U.2.1 lv) p (n + 1) → RM K M0 (sI M 2239 ((s : Int) + 8).toNat y) s lv b (oS U 8 (U.1 8 + unlN (U.2.1 lv) p (n + 1))) := fun y hy => by
      have a := h.kS (i := (s : Int) + 8) (x := y) (k := 8) rfl (by omega) (by omega)
      have e : oS (oS U 8 (U.1 8 + unlN (U.2.1 lv) p n)) 8 y = oS U 8 (U.1 8 + unlN (U.2.1 lv) p (n + 1)) := by
        show (fup (fup U.1 8 _) 8 y, _) = _
        rw [fup_fup, hy]; rfl
      rwa [e] at a
    refine B10_takesPoint_31 i x n h.1 hM ⟨fun c => absurd c (by omega), fun _ => ?_⟩
    rw [h.2.1, h.2.2.1, ew, ep, e8]
    repeat (first | refine pe1 (by omega) ?_ | refine pe2 (by omega) ?_ | refine pe3 (by omega) ?_)
    refine ⟨fun c => ?_, fun c => ?_⟩
    · repeat (first | refine pe1 (by omega) ?_ | refine pe2 (by omega) ?_ | refine pe3 (by omega) ?_)
      exact ih _ (by omega) (st _ (by rw [unlN, if_neg c]; omega))
    · repeat (first | refine pe1 (by omega) ?_ | refine pe2 (by omega) ?_ | refine pe3 (by omega) ?_)
      exact ih _ (by omega) (st _ (by rw [unlN, if_pos (Decidable.not_not.mp c)]; omega))
theorem r_take318 {i : Nat} {p : Pf} {x : Int} {Q : ZMem → Prop} (h : RM K M0 M s lv b U) (hM : ModelAt K 2230) (h13 : U.1 13 = lv) (hx : x = s + 262 + 47 * i) (hp : U.2.2.1[i]? = some p) (h36 : 0 ≤ p 36 ∧ p 36 ≤ 10000) (q : ∀ M', RM K M0 M' s lv b (oTook U i p) → Q M') : Xv (d + 3) q10_takesPoint 318 [some (zr 2230), some (zi i), some (zi x), none, none, none, none] [] M Q := by
  have hs := h.2.2.2.2.2.2.1
  have hn := h.n61
  have hil : i < U.2.2.1.length := (List.getElem?_eq_some_iff.mp hp).1
  have e36 : mI M 2239 (x + 36).toNat = p 36 := h.p (v := i) (k := 36) (by omega) hp (by omega)
  have a := h.kP (i := x + 36) (x := p 36 + 1) (v := i) (k := 36) (by omega) hp (by omega)
  have hp2 : (oP U (U.2.2.1.set i (fup p 36 (p 36 + 1)))).2.2.1[i]? = some (fup p 36 (p 36 + 1)) := List.getElem?_set_self hil
  refine B10_takesPoint_318 i x h.1 hM ?_
  rw [e36]
  have e36b : mI (sI M 2239 (x + 36).toNat (p 36 + 1)) 2239 (x + 36).toNat = p 36 + 1 := mI_sI_eq
  have e37b : mI (sI M 2239 (x + 36).toNat (p 36 + 1)) 2239 (x + 37).toNat = p 37 := (a.p (v := i) (k := 37) (by omega) hp2 (by omega)).trans (fup_ne (by decide))
  rw [e36b, e37b]
  repeat (first | refine pe1 (by omega) ?_ | refine pe2 (by omega) ?_ | refine pe3 (by omega) ?_)
  unfold oTook at q
  refine ⟨fun c => ?_, fun c => ?_⟩
  · rw [if_neg c] at q
    exact q _ a
  · rw [if_pos (Decidable.not_not.mp c)] at q
    exact r_takesOff (by omega) a hM h13 hp2 fun M1 a1 => ⟨a1.1, q M1 a1⟩
end RMOVES
