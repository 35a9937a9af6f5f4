/-! the reference's row as it is seen: a search's numbers, ways, points, answers -/
theorem r_sc (M : ZMem) (i : Nat) (x : Int) (j : Nat) : mI (sI M 2239 i x) 2230 j = mI M 2230 j := by rw [mI_sI, if_neg (by omega)]
theorem r_rw (M : ZMem) (i : Nat) (x : Int) (j : Nat) : mI (sI M 2230 i x) 2239 j = mI M 2239 j := by rw [mI_sI, if_neg (by omega)]
theorem r_ls (M : ZMem) (i : Nat) (x : Int) (j : Nat) : mI (sI M 2239 i x) 2240 j = mI M 2240 j := by rw [mI_sI, if_neg (by omega)]
theorem r_sl (M : ZMem) (i : Nat) (x : Int) (j : Nat) : mI (sI M 2230 i x) 2240 j = mI M 2240 j := by rw [mI_sI, if_neg (by omega)]
theorem r_lr (M : ZMem) (i : Nat) (x : Int) (j : Nat) : mI (sI M 2240 i x) 2239 j = mI M 2239 j := by rw [mI_sI, if_neg (by omega)]
theorem r_lc (M : ZMem) (i : Nat) (x : Int) (j : Nat) : mI (sI M 2240 i x) 2230 j = mI M 2230 j := by rw [mI_sI, if_neg (by omega)]
theorem r_ca (M : ZMem) (f : Nat → Int) (j : Nat) : mI (sA M 2239 f) 2230 j = mI M 2230 j := by rw [mI_sA, if_neg (by omega)]
theorem r_al (M : ZMem) (f : Nat → Int) (j : Nat) : mI (sA M 2239 f) 2240 j = mI M 2240 j := by rw [mI_sA, if_neg (by omega)]
theorem r_sn (M : ZMem) (i : Nat) (x : Int) (a j : Nat) (h : a = 2231 ∨ a = 2232 ∨ a = 2233 ∨ a = 2234 ∨ a = 2235 ∨ a = 2236 ∨ a = 2237 ∨ a = 2238) : mI (sI M 2239 i x) a j = mI M a j := by rw [mI_sI, if_neg (by omega)]
theorem r_n (M : ZMem) (o i : Nat) (x : Int) (a j : Nat) (ho : 2239 ≤ o ∨ o = 2230) (h : 2231 ≤ a ∧ a ≤ 2238) : mI (sI M o i x) a j = mI M a j := by rw [mI_sI, if_neg (by omega)]
abbrev Pf : Type := Nat → Int
/-- 0 is, 1 strategy, 2 root, 3 price, 4 steps, 5 made, 6 taken, 7 gone, 8 undone, 9 limit, 10 hit, 11 most open, 12 stands, 13 level, 14 points, 15 answers, 16 named; ways; points; answers -/
abbrev Tr : Type := Pf × (Nat → Pf) × List Pf × Pf
def vW (R : Pf) (s i : Nat) : Pf := tq 0 35 (fun k => R (s + 17 + 35 * i + k))
def vP (R : Pf) (s i : Nat) : Pf := tq 0 47 (fun k => R (s + 262 + 47 * i + k))
def vT (R : Pf) (s : Nat) : Tr := (tq 0 17 (fun k => R (s + k)), (fun i => if i < 7 then vW R s i else fun _ => 0), (List.range (R (s + 14)).toNat).map (vP R s), tq 0 720 (fun k => R (s + 3129 + k)))
def FrM (M0 M : ZMem) (s : Nat) : Prop := Fr (fun q => q = 2230 ∨ q = 2239 ∨ q = 2240) M0 M ∧ (∀ k, k < s ∨ s + 3849 ≤ k → mI M 2239 k = mI M0 2239 k) ∧ ∀ k, k < 16 → mI M 2230 k = mI M0 2230 k
def RM (K M0 M : ZMem) (s lv : Nat) (b : Int) (U : Tr) : Prop := KW K M ∧ mI M 2230 16 = s ∧ mI M 2230 17 = s + 17 + 35 * lv ∧ mI M 2230 18 = b ∧ vT (mI M 2239) s = U ∧ (0 ≤ U.1 14 ∧ U.1 14 ≤ 61) ∧ s + 3849 ≤ 19245 ∧ lv < 7 ∧ FrM M0 M s
def oS (U : Tr) (k : Nat) (x : Int) : Tr := (fup U.1 k x, U.2)
def oW (U : Tr) (i : Nat) (w : Pf) : Tr := (U.1, fup U.2.1 i w, U.2.2)
def oP (U : Tr) (l : List Pf) : Tr := (U.1, U.2.1, l, U.2.2.2)
def oA (U : Tr) (a : Pf) : Tr := (U.1, U.2.1, U.2.2.1, a)
theorem vP_congr {R R' : Pf} {s i : Nat} (h : ∀ k, k < 47 → R' (s + 262 + 47 * i + k) = R (s + 262 + 47 * i + k)) : vP R' s i = vP R s i := tq_congr fun k _ hk => h k hk
theorem vW_congr {R R' : Pf} {s i : Nat} (h : ∀ k, k < 35 → R' (s + 17 + 35 * i + k) = R (s + 17 + 35 * i + k)) : vW R' s i = vW R s i := tq_congr fun k _ hk => h k hk
theorem pts_congr {R R' : Pf} {s : Nat} (hn : R' (s + 14) = R (s + 14)) (h : ∀ i, i < (R (s + 14)).toNat → vP R' s i = vP R s i) : (List.range (R' (s + 14)).toNat).map (vP R' s) = (List.range (R (s + 14)).toNat).map (vP R s) := by
  rw [hn]
  exact List.map_congr_left fun i hi => h i (List.mem_range.mp hi)
theorem ways_congr {R R' : Pf} {s : Nat} (h : ∀ i, i < 7 → vW R' s i = vW R s i) : (fun i => if i < 7 then vW R' s i else fun _ => 0) = (fun i => if i < 7 then vW R s i else fun _ => (0 : Int)) := funext fun i => by
  by_cases hi : i < 7
  · rw [if_pos hi, if_pos hi, h i hi]
  · rw [if_neg hi, if_neg hi]
/-- one cell of the row changed: which part, what becomes of it -/
theorem vT_sc {R R' : Pf} {s k : Nat} {x : Int} (hk : k < 17) (h14 : k ≠ 14) (hn : (R (s + 14)).toNat ≤ 61) (h : ∀ j, R' j = if j = s + k then x else R j) : vT R' s = oS (vT R s) k x := by
  have e0 : tq 0 17 (fun j => R' (s + j)) = fup (tq 0 17 (fun j => R (s + j))) k x := tq_fup (by omega) hk fun j => by
    rw [h]
    by_cases q : j = k
    · subst q; rw [if_pos rfl, if_pos rfl]
    · rw [if_neg (by omega), if_neg q]
  show (_, _, _, _) = (_, _, _, _)
  rw [e0, ways_congr fun i hi => vW_congr fun j hj => by rw [h, if_neg (by omega)], pts_congr (by rw [h, if_neg (by omega)]) fun i hi => vP_congr fun j hj => by rw [h, if_neg (by omega)]]
  rw [tq_congr (f := fun j => R' (s + 3129 + j)) fun j _ hj => by show R' (s + 3129 + j) = R (s + 3129 + j); rw [h, if_neg (by omega)]]
  rfl
theorem vT_w {R R' : Pf} {s i k : Nat} {x : Int} (hi : i < 7) (hk : k < 35) (hn : (R (s + 14)).toNat ≤ 61) (h : ∀ j, R' j = if j = s + 17 + 35 * i + k then x else R j) : vT R' s = oW (vT R s) i (fup (vW R s i) k x) := by
  have e0 : vW R' s i = fup (vW R s i) k x := tq_fup (by omega) hk fun j => by
    rw [h]
    by_cases q : j = k
    · subst q; rw [if_pos rfl, if_pos rfl]
    · rw [if_neg (by omega), if_neg q]
  show (_, _, _, _) = (_, _, _, _)
  rw [pts_congr (by rw [h, if_neg (by omega)]) fun i' hi => vP_congr fun j hj => by rw [h, if_neg (by omega)]]
  rw [tq_congr (f := fun j => R' (s + 3129 + j)) fun j _ hj => by show R' (s + 3129 + j) = R (s + 3129 + j); rw [h, if_neg (by omega)]]
  rw [tq_congr (f := fun j => R' (s + j)) fun j _ hj => by show R' (s + j) = R (s + j); rw [h, if_neg (by omega)]]
  congr 2
  funext i'
  show (if i' < 7 then vW R' s i' else fun _ => 0) = if i' = i then fup (vW R s i) k x else if i' < 7 then vW R s i' else fun _ => 0
  by_cases q : i' = i
  · subst q; rw [if_pos hi, if_pos rfl, e0]
  · rw [if_neg q]
    by_cases hi' : i' < 7
    · rw [if_pos hi', if_pos hi', vW_congr fun j hj => by rw [h, if_neg (by omega)]]
    · rw [if_neg hi', if_neg hi']
theorem vT_p {R R' : Pf} {s i k : Nat} {x : Int} (hi : i < (R (s + 14)).toNat) (hk : k < 47) (hn : (R (s + 14)).toNat ≤ 61) (h : ∀ j, R' j = if j = s + 262 + 47 * i + k then x else R j) : vT R' s = oP (vT R s) ((vT R s).2.2.1.set i (fup (vP R s i) k x)) := by
  have e0 : vP R' s i = fup (vP R s i) k x := tq_fup (by omega) hk fun j => by
    rw [h]
    by_cases q : j = k
    · subst q; rw [if_pos rfl, if_pos rfl]
    · rw [if_neg (by omega), if_neg q]
  show (_, _, _, _) = (_, _, _, _)
  rw [ways_congr fun i' hi => vW_congr fun j hj => by rw [h, if_neg (by omega)]]
  rw [tq_congr (f := fun j => R' (s + 3129 + j)) fun j _ hj => by show R' (s + 3129 + j) = R (s + 3129 + j); rw [h, if_neg (by omega)]]
  rw [tq_congr (f := fun j => R' (s + j)) fun j _ hj => by show R' (s + j) = R (s + j); rw [h, if_neg (by omega)]]
  congr 3
  show (List.range (R' (s + 14)).toNat).map (vP R' s) = ((List.range (R (s + 14)).toNat).map (vP R s)).set i (fup (vP R s i) k x)
  rw [show R' (s + 14) = R (s + 14) by rw [h, if_neg (by omega)]]
  apply List.ext_getElem?
  intro j
  rw [List.getElem?_set, List.getElem?_map, List.getElem?_map, List.length_map, List.length_range]
  by_cases hj : j < (R (s + 14)).toNat
  · rw [List.getElem?_range hj]
    by_cases q : i = j
    · subst q; rw [if_pos rfl, if_pos hi, ← e0]; rfl
    · rw [if_neg q]
      show some (vP R' s j) = some (vP R s j)
      rw [vP_congr fun l hl => by rw [h, if_neg (by omega)]]
  · rw [List.getElem?_eq_none (by rw [List.length_range]; omega), if_neg (by omega)]; rfl
theorem vT_a {R R' : Pf} {s k : Nat} {x : Int} (hk : k < 720) (hn : (R (s + 14)).toNat ≤ 61) (h : ∀ j, R' j = if j = s + 3129 + k then x else R j) : vT R' s = oA (vT R s) (fup (vT R s).2.2.2 k x) := by
  have e0 : tq 0 720 (fun j => R' (s + 3129 + j)) = fup (tq 0 720 (fun j => R (s + 3129 + j))) k x := tq_fup (by omega) hk fun j => by
    rw [h]
    by_cases q : j = k
    · subst q; rw [if_pos rfl, if_pos rfl]
    · rw [if_neg (by omega), if_neg q]
  show (_, _, _, _) = (_, _, _, _)
  rw [e0, ways_congr fun i hi => vW_congr fun j hj => by rw [h, if_neg (by omega)], pts_congr (by rw [h, if_neg (by omega)]) fun i hi => vP_congr fun j hj => by rw [h, if_neg (by omega)]]
  rw [tq_congr (f := fun j => R' (s + j)) fun j _ hj => by show R' (s + j) = R (s + j); rw [h, if_neg (by omega)]]
  rfl
section ROW
variable {d : Nat} {K M0 M M' : ZMem} {s lv : Nat} {b : Int} {U : Tr}
theorem RM.sc (h : RM K M0 M s lv b U) {i : Int} {k : Nat} (e : i = s + k) (hk : k < 17) : mI M 2239 i.toNat = U.1 k := by
  have ht : i.toNat = s + k := by omega
  rw [← h.2.2.2.2.1, ht]
  exact (tq_at (f := fun k => mI M 2239 (s + k)) (by omega) hk).symm
theorem RM.n (h : RM K M0 M s lv b U) : (mI M 2239 (s + 14)).toNat = U.2.2.1.length ∧ mI M 2239 (s + 14) = U.1 14 := by
  rw [← h.2.2.2.2.1]
  refine ⟨?_, (tq_at (a := 0) (n := 17) (k := 14) (f := fun k => mI M 2239 (s + k)) (by omega) (by omega)).symm⟩
  show _ = ((List.range _).map _).length
  rw [List.length_map, List.length_range]
theorem RM.n61 (h : RM K M0 M s lv b U) : (mI M 2239 (s + 14)).toNat ≤ 61 ∧ U.2.2.1.length ≤ 61 ∧ U.1 14 = U.2.2.1.length := by
  have h1 := h.n
  have h2 := h.2.2.2.2.2.1
  omega
theorem RM.w (h : RM K M0 M s lv b U) {i : Int} {v k : Nat} (e : i = s + 17 + 35 * v + k) (hv : v < 7) (hk : k < 35) : mI M 2239 i.toNat = U.2.1 v k := by
  have ht : i.toNat = s + 17 + 35 * v + k := by omega
  rw [← h.2.2.2.2.1, ht]
  show _ = (if v < 7 then vW (mI M 2239) s v else fun _ => 0) k
  rw [if_pos hv]
  exact (tq_at (f := fun k => mI M 2239 (s + 17 + 35 * v + k)) (by omega) hk).symm
theorem RM.pl (h : RM K M0 M s lv b U) {v : Nat} (hv : v < U.2.2.1.length) : U.2.2.1[v]? = some (vP (mI M 2239) s v) := by
  have h1 := h.n
  rw [← h.2.2.2.2.1]
  show ((List.range _).map _)[v]? = _
  rw [List.getElem?_map, List.getElem?_range (by omega)]
  rfl
theorem RM.p (h : RM K M0 M s lv b U) {i : Int} {v k : Nat} {p : Pf} (e : i = s + 262 + 47 * v + k) (hv : U.2.2.1[v]? = some p) (hk : k < 47) : mI M 2239 i.toNat = p k := by
  have ht : i.toNat = s + 262 + 47 * v + k := by omega
  have hl := (List.getElem?_eq_some_iff.mp hv).1
  rw [h.pl hl] at hv
  rw [← Option.some.inj hv, ht]
  exact (tq_at (f := fun k => mI M 2239 (s + 262 + 47 * v + k)) (by omega) hk).symm
theorem RM.a (h : RM K M0 M s lv b U) {i : Int} {k : Nat} (e : i = s + 3129 + k) (hk : k < 720) : mI M 2239 i.toNat = U.2.2.2 k := by
  have ht : i.toNat = s + 3129 + k := by omega
  rw [← h.2.2.2.2.1, ht]
  exact (tq_at (f := fun k => mI M 2239 (s + 3129 + k)) (by omega) hk).symm
theorem FrM.set {i : Nat} {x : Int} (h : FrM M0 M s) (h1 : s ≤ i) (h2 : i < s + 3849) : FrM M0 (sI M 2239 i x) s :=
  ⟨h.1.sI (Or.inr (Or.inl rfl)), fun k hk => by rw [mI_sI, if_neg (by omega)]; exact h.2.1 k hk, fun k hk => by rw [r_sc]; exact h.2.2 k hk⟩
theorem RM.mk {U' : Tr} (h : RM K M0 M s lv b U) {i : Nat} {x : Int} (h1 : s ≤ i) (h2 : i < s + 3849) (e : vT (mI (sI M 2239 i x) 2239) s = U') (e14 : U'.1 14 = U.1 14) : RM K M0 (sI M 2239 i x) s lv b U' :=
  ⟨h.1.sI _ _ _, by rw [r_sc]; exact h.2.1, by rw [r_sc]; exact h.2.2.1, by rw [r_sc]; exact h.2.2.2.1, e, by rw [e14]; exact h.2.2.2.2.2.1, h.2.2.2.2.2.2.1, h.2.2.2.2.2.2.2.1, h.2.2.2.2.2.2.2.2.set h1 h2⟩
theorem row_up {i : Nat} {x : Int} (j : Nat) : mI (sI M 2239 i x) 2239 j = if j = i then x else mI M 2239 j := by
  rw [mI_sI]
  by_cases q : j = i
  · rw [if_pos ⟨rfl, q⟩, if_pos q]
  · rw [if_neg (by omega), if_neg q]
theorem RM.kS (h : RM K M0 M s lv b U) {i x : Int} {k : Nat} (e : i = s + k) (hk : k < 17) (h14 : k ≠ 14) : RM K M0 (sI M 2239 i.toNat x) s lv b (oS U k x) := by
  have ht : i.toNat = s + k := by omega
  rw [ht]
  refine h.mk (by omega) (by omega) ?_ (fup_ne (by omega))
  rw [vT_sc hk h14 h.n61.1 row_up, h.2.2.2.2.1]
theorem RM.kW (h : RM K M0 M s lv b U) {i x : Int} {v k : Nat} (e : i = s + 17 + 35 * v + k) (hv : v < 7) (hk : k < 35) : RM K M0 (sI M 2239 i.toNat x) s lv b (oW U v (fup (U.2.1 v) k x)) := by
  have ht : i.toNat = s + 17 + 35 * v + k := by omega
  rw [ht]
  refine h.mk (by omega) (by omega) ?_ rfl
  have ew : vW (mI M 2239) s v = U.2.1 v := by
    rw [← h.2.2.2.2.1]
    exact (if_pos hv).symm
  rw [vT_w hv hk h.n61.1 row_up, h.2.2.2.2.1, ew]
theorem RM.kP (h : RM K M0 M s lv b U) {i x : Int} {v k : Nat} {p : Pf} (e : i = s + 262 + 47 * v + k) (hv : U.2.2.1[v]? = some p) (hk : k < 47) : RM K M0 (sI M 2239 i.toNat x) s lv b (oP U (U.2.2.1.set v (fup p k x))) := by
  have ht : i.toNat = s + 262 + 47 * v + k := by omega
  have hl := (List.getElem?_eq_some_iff.mp hv).1
  have hn := h.n
  have hn61 := h.n61
  rw [ht]
  refine h.mk (by omega) (by omega) ?_ rfl
  rw [h.pl hl] at hv
  rw [vT_p (by omega) hk h.n61.1 row_up, h.2.2.2.2.1, Option.some.inj hv]
theorem RM.kA (h : RM K M0 M s lv b U) {i x : Int} {k : Nat} (e : i = s + 3129 + k) (hk : k < 720) : RM K M0 (sI M 2239 i.toNat x) s lv b (oA U (fup U.2.2.2 k x)) := by
  have ht : i.toNat = s + 3129 + k := by omega
  rw [ht]
  refine h.mk (by omega) (by omega) ?_ rfl
  rw [vT_a hk h.n61.1 row_up, h.2.2.2.2.1]
theorem RM.kb (h : RM K M0 M s lv b U) {x : Int} : RM K M0 (sI M 2230 18 x) s lv x U := by
  have er : mI (sI M 2230 18 x) 2239 = mI M 2239 := funext fun j => r_rw _ _ _ _
  refine ⟨h.1.sI _ _ _, by rw [mI_sI_ne (by omega)]; exact h.2.1, by rw [mI_sI_ne (by omega)]; exact h.2.2.1, mI_sI_eq, by rw [er]; exact h.2.2.2.2.1, h.2.2.2.2.2.1, h.2.2.2.2.2.2.1, h.2.2.2.2.2.2.2.1, h.2.2.2.2.2.2.2.2.1.sI (Or.inl rfl), fun k hk => by rw [er]; exact h.2.2.2.2.2.2.2.2.2.1 k hk, fun k hk => by rw [mI_sI_ne (by omega)]; exact h.2.2.2.2.2.2.2.2.2.2 k hk⟩
theorem RM.kv (h : RM K M0 M s lv b U) {x : Int} : RM K M0 (sI M 2230 19 x) s lv b U := by
  have er : mI (sI M 2230 19 x) 2239 = mI M 2239 := funext fun j => r_rw _ _ _ _
  refine ⟨h.1.sI _ _ _, by rw [mI_sI_ne (by omega)]; exact h.2.1, by rw [mI_sI_ne (by omega)]; exact h.2.2.1, by rw [mI_sI_ne (by omega)]; exact h.2.2.2.1, by rw [er]; exact h.2.2.2.2.1, h.2.2.2.2.2.1, h.2.2.2.2.2.2.1, h.2.2.2.2.2.2.2.1, h.2.2.2.2.2.2.2.2.1.sI (Or.inl rfl), fun k hk => by rw [er]; exact h.2.2.2.2.2.2.2.2.2.1 k hk, fun k hk => by rw [mI_sI_ne (by omega)]; exact h.2.2.2.2.2.2.2.2.2.2 k hk⟩
theorem RM.kl (h : RM K M0 M s lv b U) {i : Nat} {x : Int} : RM K M0 (sI M 2240 i x) s lv b U := by
  have er : mI (sI M 2240 i x) 2239 = mI M 2239 := funext fun j => r_lr _ _ _ _
  refine ⟨h.1.sI _ _ _, by rw [r_lc]; exact h.2.1, by rw [r_lc]; exact h.2.2.1, by rw [r_lc]; exact h.2.2.2.1, by rw [er]; exact h.2.2.2.2.1, h.2.2.2.2.2.1, h.2.2.2.2.2.2.1, h.2.2.2.2.2.2.2.1, h.2.2.2.2.2.2.2.2.1.sI (Or.inr (Or.inr rfl)), fun k hk => by rw [er]; exact h.2.2.2.2.2.2.2.2.2.1 k hk, fun k hk => by rw [r_lc]; exact h.2.2.2.2.2.2.2.2.2.2 k hk⟩
end ROW
