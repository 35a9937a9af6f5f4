/-! the reference: a point is made -/
theorem vT_far {R R' : Pf} {s n : Nat} (hn : (R (s + 14)).toNat = n) (h : ∀ j, (j < s + 262 + 47 * n ∨ s + 3129 ≤ j) → R' j = R j) : vT R' s = vT R s := by
  show (_, _, _, _) = (_, _, _, _)
  rw [tq_congr (f := fun j => R' (s + j)) fun j _ hj => h (s + j) (by omega), ways_congr fun v hv => vW_congr fun j hj => h _ (by omega), pts_congr (h _ (by omega)) fun i hi => vP_congr fun j hj => h _ (by omega), tq_congr (f := fun j => R' (s + 3129 + j)) fun j _ hj => h (s + 3129 + j) (by omega)]
def oNew (w : Pf) (x many : Int) (L : Nat → Int) (id lvl cost : Int) : Pf := fun k => if k < 35 then w k else if k = 35 then x else if k = 36 then 0 else if k = 37 then many else if k < 44 then L (k - 38) else if k = 44 then id else if k = 45 then lvl else if k = 46 then cost else 0
def oPush (U : Tr) (p : Pf) : Tr := (fup (fup U.1 16 (U.1 16 + 1)) 14 (U.1 14 + 1), U.2.1, U.2.2.1 ++ [p], U.2.2.2)
theorem vT_push {R R' : Pf} {s n : Nat} {p : Pf} (hn : (R (s + 14)).toNat = n) (h14 : 0 ≤ R (s + 14)) (hn61 : n < 61) (hp : vP R s n = p) (h : ∀ j, R' j = if j = s + 14 then R (s + 14) + 1 else R j) : vT R' s = (fup (vT R s).1 14 ((vT R s).1 14 + 1), (vT R s).2.1, (vT R s).2.2.1 ++ [p], (vT R s).2.2.2) := by
  have lo (j : Nat) (h14 : j ≠ s + 14) : R' j = R j := by rw [h, if_neg h14]
  have e0 : tq 0 17 (fun j => R' (s + j)) = fup (tq 0 17 (fun j => R (s + j))) 14 (R (s + 14) + 1) := tq_fup' (by omega) (by omega) fun j _ hj => by
    by_cases q : j = 14
    · subst q; rw [if_pos rfl, h, if_pos rfl]
    · rw [if_neg q, lo _ (by omega)]
  have e14 : (vT R s).1 14 = R (s + 14) := tq_at (a := 0) (n := 17) (k := 14) (f := fun j => R (s + j)) (by omega) (by omega)
  show (_, _, _, _) = (_, _, _, _)
  rw [e0, e14, ways_congr fun v hv => vW_congr fun j hj => lo _ (by omega)]
  rw [tq_congr (f := fun j => R' (s + 3129 + j)) fun j _ hj => lo (s + 3129 + j) (by omega)]
  congr 3
  show (List.range (R' (s + 14)).toNat).map (vP R' s) = ((List.range (R (s + 14)).toNat).map (vP R s)) ++ [p]
  rw [show (R' (s + 14)).toNat = n + 1 by rw [h, if_pos rfl]; omega, hn, List.range_succ, List.map_append]
  have ev : ∀ i, i ≤ n → vP R' s i = vP R s i := fun i hi => vP_congr fun k hk => lo _ (by omega)
  rw [List.map_congr_left fun i hi => ev i (by have := List.mem_range.mp hi; omega)]
  show _ ++ [vP R' s n] = _
  rw [ev n (by omega), hp]
section MAKES
variable {d : Nat} {K M0 M M' : ZMem} {s lv : Nat} {b : Int} {U : Tr}
/-- the spare point: so many of its cells are written -/
def SpM (K M0 M : ZMem) (s lv : Nat) (b : Int) (U : Tr) (L c : Pf) (m : Nat) : Prop := RM K M0 M s lv b U ∧ mI M 2240 = L ∧ ∀ j, j < m → mI M 2239 (s + 262 + 47 * U.2.2.1.length + j) = c j
theorem RM.far (h : RM K M0 M s lv b U) (hK : KW K M') (e30 : ∀ k, mI M' 2230 k = mI M 2230 k) (hrow : ∀ j, (j < s + 262 + 47 * U.2.2.1.length ∨ s + 3129 ≤ j) → mI M' 2239 j = mI M 2239 j) (F : Fr (fun q => q = 2239) M M') : RM K M0 M' s lv b U := by
  have hn := h.n61
  have hn2 := h.n
  refine ⟨hK, by rw [e30]; exact h.2.1, by rw [e30]; exact h.2.2.1, by rw [e30]; exact h.2.2.2.1, by rw [vT_far hn2.1 hrow]; exact h.2.2.2.2.1, h.2.2.2.2.2.1, h.2.2.2.2.2.2.1, h.2.2.2.2.2.2.2.1, ?_⟩
  have f := h.2.2.2.2.2.2.2.2
  exact ⟨f.1.trans (F.wide fun q hq => by omega), fun k hk => by rw [hrow k (by omega)]; exact f.2.1 k hk, fun k hk => by rw [e30]; exact f.2.2 k hk⟩
theorem SpM.set {L c : Pf} {m : Nat} {i x : Int} (h : SpM K M0 M s lv b U L c m) (hlen : U.2.2.1.length < 61) (hi : i = s + 262 + 47 * U.2.2.1.length + m) (hm : m < 47) (hx : x = c m) : SpM K M0 (sI M 2239 i.toNat x) s lv b U L c (m + 1) := by
  have ht : i.toNat = s + 262 + 47 * U.2.2.1.length + m := by omega
  rw [ht]
  refine ⟨h.1.far (h.1.1.sI _ _ _) (fun k => r_sc _ _ _ _) (fun j hj => by rw [row_up, if_neg (by omega)]) (Fr.refl.sI rfl), by rw [← h.2.1]; exact funext fun j => r_ls _ _ _ _, fun j hj => ?_⟩
  rw [row_up]
  by_cases q : j = m
  · subst q; rw [if_pos rfl, hx]
  · rw [if_neg (by omega)]; exact h.2.2 j (by omega)
theorem SpM.cpy {L c : Pf} {m n a : Nat} {f : Pf} {g : ZMem → Nat → Int} (h : SpM K M0 M s lv b U L c m) (hlen : U.2.2.1.length < 61) (hm : m + n ≤ 47) (hf : ∀ j, f j = if s + 262 + 47 * U.2.2.1.length + m ≤ j ∧ j < s + 262 + 47 * U.2.2.1.length + m + n then c (j - (s + 262 + 47 * U.2.2.1.length)) else mI M 2239 j) : SpM K M0 (sA M 2239 f) s lv b U L c (m + n) := by
  have er : ∀ j, mI (sA M 2239 f) 2239 j = f j := fun j => by rw [mI_sA, if_pos rfl]
  refine ⟨h.1.far (h.1.1.sA _ _) (fun k => r_ca _ _ _) (fun j hj => by rw [er, hf, if_neg (by omega)]) (Fr.refl.sA rfl), by rw [← h.2.1]; exact funext fun j => r_al _ _ _, fun j hj => ?_⟩
  rw [er, hf]
  by_cases q : m ≤ j
  · rw [if_pos (by omega), Nat.add_sub_cancel_left]
  · rw [if_neg (by omega)]; exact h.2.2 j (by omega)
theorem r_makes116 {n : Nat} {x many : Int} {Q : Int → ZMem → Prop} (hd : n + 2 ≤ d) (h : RM K M0 M s lv b U) (hM : ModelAt K 2230) (hlen : U.2.2.1.length < 61) (he : U.1 3 ≠ -1 → exN M0 n (U.1 3)) (h16 : 0 ≤ U.1 16 ∧ U.1 16 ≤ 100000000) (h5 : 0 ≤ U.1 5 ∧ U.1 5 ≤ 100000000)
    (q : ∀ p, p = oNew (U.2.1 lv) x many (mI M 2240) (U.1 16) (U.1 13) (oCost M0 (U.2.1 lv) n (U.1 3)) → ∀ M', RM K M0 M' s lv b (if U.1 13 ≠ 0 then oPush U p else oS (oS (oPush U p) 5 (U.1 5 + 1)) 11 (if U.1 11 < cntO (U.2.2.1 ++ [p]) then cntO (U.2.2.1 ++ [p]) else U.1 11)) → Q 6 M') : Xi d q10_makes 116 [some (zr 2230), some (zi x), some (zi many), none] [] M Q := by
  obtain ⟨d, rfl⟩ : ∃ e, d = e + 1 := ⟨d - 1, by omega⟩
  have hs := h.2.2.2.2.2.2.1
  have hl := h.2.2.2.2.2.2.2.1
  have hn := h.n61
  have et := h.sc (i := (s : Int) + 14) (k := 14) rfl (by omega)
  have q := q _ rfl
  generalize hc : oNew (U.2.1 lv) x many (mI M 2240) (U.1 16) (U.1 13) (oCost M0 (U.2.1 lv) n (U.1 3)) = c at *
  have cL : ∀ k, k < 35 → c k = U.2.1 lv k := fun k hk => by rw [← hc, oNew, if_pos hk]
  have c35 : c 35 = x := by rw [← hc]; rfl
  have c36 : c 36 = 0 := by rw [← hc]; rfl
  have c37 : c 37 = many := by rw [← hc]; rfl
  have cl : ∀ k, 38 ≤ k → k < 44 → c k = mI M 2240 (k - 38) := fun k h1 h2 => by rw [← hc, oNew, if_neg (by omega), if_neg (by omega), if_neg (by omega), if_neg (by omega), if_pos h2]
  have c44 : c 44 = U.1 16 := by rw [← hc]; rfl
  have c45 : c 45 = U.1 13 := by rw [← hc]; rfl
  have c46 : c 46 = oCost M0 (U.2.1 lv) n (U.1 3) := by rw [← hc]; rfl
  have ctq : tq 0 47 c = c := funext fun k => by
    show (if 0 ≤ k ∧ k < 47 then c k else 0) = c k
    by_cases q : k < 47
    · rw [if_pos (by omega)]
    · rw [if_neg (by omega), ← hc, oNew, if_neg (by omega), if_neg (by omega), if_neg (by omega), if_neg (by omega), if_neg (by omega), if_neg (by omega), if_neg (by omega), if_neg (by omega)]
  refine B10_makes_116 x many h.1 hM ?_
  rw [h.2.1, et, hn.2.2]
  repeat (first | refine pe1 (by omega) ?_ | refine pe2 (by omega) ?_ | refine pe3 (by omega) ?_)
  refine (r_pointAt h hM (by omega)).pure ⟨h.1, ?_⟩
  simp only [r_sc, r_ca]
  rw [h.2.1, h.2.2.1]
  have s0 : SpM K M0 M s lv b U (mI M 2240) c 0 := ⟨h, rfl, fun j hj => absurd hj (by omega)⟩
  have s1 := s0.cpy (g := fun _ _ => 0) (a := 0) (n := 35) (f := zCpy (mI M 2239) (mI M 2239) ((s : Int) + 17 + 35 * lv).toNat ((s : Int) + 262 + 47 * U.2.2.1.length).toNat 35) hlen (by omega) fun j => by
    unfold zCpy
    by_cases q : s + 262 + 47 * U.2.2.1.length + 0 ≤ j ∧ j < s + 262 + 47 * U.2.2.1.length + 0 + 35
    · rw [if_pos (by omega), if_pos q, cL _ (by omega)]
      have := h.w (i := (((s + 17 + 35 * lv + (j - (s + 262 + 47 * U.2.2.1.length)) : Nat)) : Int)) (v := lv) (k := j - (s + 262 + 47 * U.2.2.1.length)) (by omega) hl (by omega)
      rw [← this]
      congr 1
    · rw [if_neg (by omega), if_neg q]
  generalize sA M 2239 (zCpy (mI M 2239) (mI M 2239) ((s : Int) + 17 + 35 * lv).toNat ((s : Int) + 262 + 47 * U.2.2.1.length).toNat 35) = A1 at *
  have s2 := s1.set (i := (s : Int) + 262 + 47 * U.2.2.1.length + 35) (x := x) hlen (by omega) (by omega) c35.symm
  generalize sI A1 2239 ((s : Int) + 262 + 47 * U.2.2.1.length + 35).toNat x = A2 at *
  have s3 := s2.set (i := (s : Int) + 262 + 47 * U.2.2.1.length + 36) (x := 0) hlen (by omega) (by omega) c36.symm
  generalize sI A2 2239 ((s : Int) + 262 + 47 * U.2.2.1.length + 36).toNat 0 = A3 at *
  have s4 := s3.set (i := (s : Int) + 262 + 47 * U.2.2.1.length + 37) (x := many) hlen (by omega) (by omega) c37.symm
  generalize sI A3 2239 ((s : Int) + 262 + 47 * U.2.2.1.length + 37).toNat many = A4 at *
  have s5 := s4.cpy (g := fun _ _ => 0) (a := 0) (n := 6) (f := zCpy (mI A4 2240) (mI A4 2239) 0 ((s : Int) + 262 + 47 * U.2.2.1.length + 38).toNat 6) hlen (by omega) fun j => by
    unfold zCpy
    by_cases q : s + 262 + 47 * U.2.2.1.length + (0 + 35 + 1 + 1 + 1) ≤ j ∧ j < s + 262 + 47 * U.2.2.1.length + (0 + 35 + 1 + 1 + 1) + 6
    · rw [if_pos (by omega), if_pos q, cl _ (by omega) (by omega), s4.2.1]
      congr 1
      omega
    · rw [if_neg (by omega), if_neg q]
  generalize sA A4 2239 (zCpy (mI A4 2240) (mI A4 2239) 0 ((s : Int) + 262 + 47 * U.2.2.1.length + 38).toNat 6) = A5 at *
  have e16 := s5.1.sc (i := (s : Int) + 16) (k := 16) rfl (by omega)
  rw [e16]
  have s6 := s5.set (i := (s : Int) + 262 + 47 * U.2.2.1.length + 44) (x := U.1 16) hlen (by omega) (by omega) c44.symm
  generalize sI A5 2239 ((s : Int) + 262 + 47 * U.2.2.1.length + 44).toNat (U.1 16) = A6 at *
  repeat (first | refine pe1 (by omega) ?_ | refine pe2 (by omega) ?_ | refine pe3 (by omega) ?_)
  refine (r_level s6.1 hM).pure ⟨s6.1.1, ?_⟩
  have s7 := s6.set (i := (s : Int) + 262 + 47 * U.2.2.1.length + 45) (x := U.1 13) hlen (by omega) (by omega) c45.symm
  generalize sI A6 2239 ((s : Int) + 262 + 47 * U.2.2.1.length + 45).toNat (U.1 13) = A7 at *
  repeat (first | refine pe1 (by omega) ?_ | refine pe2 (by omega) ?_ | refine pe3 (by omega) ?_)
  refine r_costOf (vals := U.2.1 lv) (by omega) s7.1 hM he (fun k hk => ⟨by omega, by omega, ?_⟩) fun M8 a8 r8 l8 => ⟨a8.1, ?_⟩
  · have := s7.2.2 k (by omega)
    rw [cL k (by omega)] at this
    rw [← this]
    congr 1
  have s8 : SpM K M0 M8 s lv b U (mI M 2240) c (0 + 35 + 1 + 1 + 1 + 6 + 1 + 1) := ⟨a8, by rw [l8]; exact s7.2.1, fun j hj => by rw [r8]; exact s7.2.2 j hj⟩
  rw [a8.2.1]
  have s9 := s8.set (i := (s : Int) + 262 + 47 * U.2.2.1.length + 46) (x := oCost M0 (U.2.1 lv) n (U.1 3)) hlen (by omega) (by omega) c46.symm
  generalize sI M8 2239 ((s : Int) + 262 + 47 * U.2.2.1.length + 46).toNat (oCost M0 (U.2.1 lv) n (U.1 3)) = A9 at *
  have e16b := s9.1.sc (i := (s : Int) + 16) (k := 16) rfl (by omega)
  rw [e16b]
  have a10 := s9.1.kS (i := (s : Int) + 16) (x := U.1 16 + 1) (k := 16) rfl (by omega) (by omega)
  have c10 : ∀ j, j < 47 → mI (sI A9 2239 ((s : Int) + 16).toNat (U.1 16 + 1)) 2239 (s + 262 + 47 * U.2.2.1.length + j) = c j := fun j hj => by
    rw [row_up, if_neg (by omega)]; exact s9.2.2 j (by omega)
  generalize sI A9 2239 ((s : Int) + 16).toNat (U.1 16 + 1) = A10 at *
  have et10 := a10.sc (i := (s : Int) + 14) (k := 14) rfl (by omega)
  have et10' : (oS U 16 (U.1 16 + 1)).1 14 = U.1 14 := by
    show fup U.1 16 (U.1 16 + 1) 14 = U.1 14
    exact fup_ne (by decide)
  rw [et10, et10']
  have a11 : RM K M0 (sI A10 2239 ((s : Int) + 14).toNat (U.1 14 + 1)) s lv b (oPush U c) := by
    have hk : ((s : Int) + 14).toNat = s + 14 := by omega
    have hn10 := a10.n
    have hn10' : mI A10 2239 (s + 14) = U.1 14 := hn10.2.trans et10'
    have hlen10 : (mI A10 2239 (s + 14)).toNat = U.2.2.1.length := by rw [hn10']; omega
    rw [hk]
    have f := a10.2.2.2.2.2.2.2.2
    refine ⟨a10.1.sI _ _ _, by rw [r_sc]; exact a10.2.1, by rw [r_sc]; exact a10.2.2.1, by rw [r_sc]; exact a10.2.2.2.1, ?_, ?_, hs, hl, f.set (by omega) (by omega)⟩
    · rw [vT_push (p := c) hlen10 (by omega) hlen ?_ (fun j => by rw [row_up, hn10']), a10.2.2.2.2.1]
      · show (fup (fup U.1 16 (U.1 16 + 1)) 14 (fup U.1 16 (U.1 16 + 1) 14 + 1), _, _, _) = _
        rw [fup_ne (by omega)]
        rfl
      · rw [← ctq]
        exact tq_congr fun k _ hk => c10 k hk
    · show 0 ≤ fup (fup U.1 16 (U.1 16 + 1)) 14 (U.1 14 + 1) 14 ∧ fup (fup U.1 16 (U.1 16 + 1)) 14 (U.1 14 + 1) 14 ≤ 61
      rw [fup_self]
      omega
  repeat (first | refine pe1 (by omega) ?_ | refine pe2 (by omega) ?_ | refine pe3 (by omega) ?_)
  have e13 : (oPush U c).1 13 = U.1 13 := by
    show fup (fup U.1 16 (U.1 16 + 1)) 14 (U.1 14 + 1) 13 = U.1 13
    rw [fup_ne (by decide), fup_ne (by decide)]
  have e5 : (oPush U c).1 5 = U.1 5 := by
    show fup (fup U.1 16 (U.1 16 + 1)) 14 (U.1 14 + 1) 5 = U.1 5
    rw [fup_ne (by decide), fup_ne (by decide)]
  have e11 : (oPush U c).1 11 = U.1 11 := by
    show fup (fup U.1 16 (U.1 16 + 1)) 14 (U.1 14 + 1) 11 = U.1 11
    rw [fup_ne (by decide), fup_ne (by decide)]
  refine (r_level a11 hM).pure ⟨a11.1, fun cz => ?_, fun cz => ?_⟩
  · rw [e13] at cz
    rw [if_pos cz] at q
    exact q _ a11
  · rw [e13] at cz
    rw [if_neg cz] at q
    generalize sI A10 2239 ((s : Int) + 14).toNat (U.1 14 + 1) = A11 at *
    have e5r := a11.sc (i := (s : Int) + 5) (k := 5) rfl (by omega)
    rw [a11.2.1, e5r, e5]
    have a12 := a11.kS (i := (s : Int) + 5) (x := U.1 5 + 1) (k := 5) rfl (by omega) (by omega)
    have e11r := a12.sc (i := (s : Int) + 11) (k := 11) rfl (by omega)
    have e11' : (oS (oPush U c) 5 (U.1 5 + 1)).1 11 = U.1 11 := by
      show fup (oPush U c).1 5 (U.1 5 + 1) 11 = U.1 11
      rw [fup_ne (by decide)]; exact e11
    rw [e11r, e11']
    repeat (first | refine pe1 (by omega) ?_ | refine pe2 (by omega) ?_ | refine pe3 (by omega) ?_)
    refine (r_openMany (by omega) a12 hM).pure ⟨a12.1, ?_⟩
    repeat (first | refine pe1 (by omega) ?_ | refine pe2 (by omega) ?_ | refine pe3 (by omega) ?_)
    exact q _ (a12.kS rfl (by omega) (by omega))
end MAKES
