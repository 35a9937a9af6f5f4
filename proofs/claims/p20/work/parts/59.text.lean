/-! this program's text: numbers, E's -/
def nt (v : Int) : List Int := if v < 0 then [45, 48 - v] else [48 + v]
def cd (v : Int) : Int := if v < 0 then v - 1 else v
/-- from i on stands r, and no more -/
def Sf (tp : Nat → Int) (n i : Nat) (r : List Int) : Prop := i + r.length = n ∧ ∀ k, tp (i + k) = r.getD k 0
def nd (r : List Int) : Prop := ¬ dg (r.getD 0 0)
section SF
variable {tp : Nat → Int} {n i N f : Nat} {x v : Int} {r : List Int}
theorem Sf.hd (h : Sf tp n i (x :: r)) : tp i = x := h.2 0
theorem Sf.tl (h : Sf tp n i (x :: r)) : Sf tp n (i + 1) r := ⟨by have := h.1; rw [List.length_cons] at this; omega, fun k => by
  rw [show i + 1 + k = i + (k + 1) by omega]
  exact h.2 (k + 1)⟩
theorem Sf.nx (h : Sf tp n i r) : tp i = r.getD 0 0 := h.2 0
theorem nu_1 (h : ¬ dg (tp (i + 1))) : nu tp i = (i + 1, tp i - 48) := by unfold nu; rw [if_neg h]
theorem un_nt (h : Sf tp n i (nt v ++ r)) (hv : -9 ≤ v ∧ v ≤ 9) (hr : nd r) : un tp (f + 2) i = (1, i + (nt v).length, cd v) ∧ Sf tp n (i + (nt v).length) r := by
  unfold nt cd at *
  by_cases q : v < 0
  · rw [if_pos q] at *
    have h1 : tp i = 45 := h.hd
    have h2 : Sf tp n (i + 1) ((48 - v) :: r) := h.tl
    have h3 : tp (i + 1) = 48 - v := h2.hd
    have h4 : Sf tp n (i + 1 + 1) r := h2.tl
    have h5 : ¬ dg (tp (i + 1 + 1)) := by rw [h4.nx]; exact hr
    refine ⟨?_, h4⟩
    rw [un, if_pos h1, un, if_neg (by omega), if_neg (by omega), if_pos (by rw [h3]; exact ⟨by omega, by omega⟩), nu_1 h5, h3, if_pos q]
    refine Prod.ext rfl (Prod.ext rfl ?_)
    show -1 - (48 - v - 48) = v - 1
    omega
  · rw [if_neg q] at *
    have h3 : tp i = 48 + v := h.hd
    have h4 : Sf tp n (i + 1) r := h.tl
    have h5 : ¬ dg (tp (i + 1)) := by rw [h4.nx]; exact hr
    refine ⟨?_, h4⟩
    rw [un, if_neg (by omega), if_neg (by omega), if_pos (by rw [h3]; exact ⟨by omega, by omega⟩), nu_1 h5, h3, if_neg q]
    refine Prod.ext rfl (Prod.ext rfl ?_)
    show 48 + v - 48 = v
    omega
theorem un_v (h : tp i = x) (hx : 97 ≤ x ∧ x ≤ 104) : un tp (f + 1) i = (1, i + 1, 1000 + (x - 97)) := by
  rw [un, if_neg (by omega), if_pos (by omega), h]
/-- one factor, and on or to an end -/
theorem er_end {p p' : Nat} {j y : Int} {l : FL} (h : un tp N p = (1, p', y)) (hj : jo (tp p') = 0) : er tp N (f + 1) p j l = (1, p', l ++ [(j, y)]) := by
  rw [er_ok (by rw [h]), h]
  unfold er2
  exact if_pos hj
theorem er_on {p p' : Nat} {j y z : Int} {l : FL} (h : un tp N p = (1, p', y)) (hj : jo (tp p') = z) (hz : z ≠ 0) : er tp N (f + 1) p j l = er tp N f (p' + 1) z (l ++ [(j, y)]) := by
  rw [er_ok (by rw [h]), h]
  unfold er2
  rw [if_neg (by show ¬ jo (tp p') = 0; rw [hj]; exact hz)]
  show er tp N f (p' + 1) (jo (tp p')) (l ++ [(j, y)]) = _
  rw [hj]
theorem ee_nt (hN : 10 ≤ N) (h : Sf tp n i (nt v ++ r)) (hv : -9 ≤ v ∧ v ≤ 9) (hr : nd r) (hj : jo (r.getD 0 0) = 0) : ee tp N i = (1, i + (nt v).length, [(0, cd v)]) ∧ Sf tp n (i + (nt v).length) r := by
  obtain ⟨N, rfl⟩ : ∃ e, N = e + 10 := ⟨N - 10, by omega⟩
  obtain ⟨h1, h2⟩ := un_nt (f := N + 8) h hv hr
  refine ⟨?_, h2⟩
  unfold ee
  exact er_end (f := N + 9) h1 (by rw [h2.nx]; exact hj)
theorem ee_v (hN : 10 ≤ N) (h : Sf tp n i (x :: r)) (hx : 97 ≤ x ∧ x ≤ 104) (hj : jo (r.getD 0 0) = 0) : ee tp N i = (1, i + 1, [(0, 1000 + (x - 97))]) ∧ Sf tp n (i + 1) r := by
  obtain ⟨N, rfl⟩ : ∃ e, N = e + 10 := ⟨N - 10, by omega⟩
  refine ⟨?_, h.tl⟩
  unfold ee
  exact er_end (f := N + 9) (un_v (f := N + 9) h.hd hx) (by rw [h.tl.nx]; exact hj)
theorem ee_abu (hN : 10 ≤ N) (h : Sf tp n i (97 :: 43 :: 98 :: 42 :: (nt v ++ r))) (hv : -9 ≤ v ∧ v ≤ 9) (hr : nd r) (hj : jo (r.getD 0 0) = 0) : ee tp N i = (1, i + 4 + (nt v).length, [(0, 1000), (1, 1001), (3, cd v)]) ∧ Sf tp n (i + 4 + (nt v).length) r := by
  obtain ⟨N, rfl⟩ : ∃ e, N = e + 10 := ⟨N - 10, by omega⟩
  have h1 := h.tl
  have h2 := h1.tl
  have h3 := h2.tl
  have h4 : Sf tp n (i + 4) (nt v ++ r) := h3.tl
  obtain ⟨u1, u2⟩ := un_nt (f := N + 8) h4 hv hr
  refine ⟨?_, u2⟩
  unfold ee
  rw [er_on (f := N + 9) (p' := i + 1) (y := 1000) (z := 1) (un_v (f := N + 9) h.hd (by decide)) (by rw [h1.hd]; decide) (by decide)]
  rw [er_on (f := N + 8) (p' := i + 1 + 1 + 1) (y := 1001) (z := 3) (un_v (f := N + 9) h2.hd (by decide)) (by rw [h3.hd]; decide) (by decide)]
  exact er_end (f := N + 7) u1 (by rw [u2.nx]; exact hj)
theorem ee_cv (hN : 10 ≤ N) (h : Sf tp n i (99 :: 43 :: (nt v ++ r))) (hv : -9 ≤ v ∧ v ≤ 9) (hr : nd r) (hj : jo (r.getD 0 0) = 0) : ee tp N i = (1, i + 2 + (nt v).length, [(0, 1002), (1, cd v)]) ∧ Sf tp n (i + 2 + (nt v).length) r := by
  obtain ⟨N, rfl⟩ : ∃ e, N = e + 10 := ⟨N - 10, by omega⟩
  have h1 := h.tl
  have h4 : Sf tp n (i + 2) (nt v ++ r) := h1.tl
  obtain ⟨u1, u2⟩ := un_nt (f := N + 8) h4 hv hr
  refine ⟨?_, u2⟩
  unfold ee
  rw [er_on (f := N + 9) (p' := i + 1) (y := 1002) (z := 1) (un_v (f := N + 9) h.hd (by decide)) (by rw [h1.hd]; decide) (by decide)]
  exact er_end (f := N + 8) u1 (by rw [u2.nx]; exact hj)
theorem ee_cost (hN : 10 ≤ N) (h : Sf tp n i [97, 42, 98, 45, 99]) : ee tp N i = (1, i + 5, [(0, 1000), (3, 1001), (2, 1002)]) := by
  obtain ⟨N, rfl⟩ : ∃ e, N = e + 10 := ⟨N - 10, by omega⟩
  have h1 := h.tl
  have h2 := h1.tl
  have h3 := h2.tl
  have h4 := h3.tl
  unfold ee
  rw [er_on (f := N + 9) (p' := i + 1) (y := 1000) (z := 3) (un_v (f := N + 9) h.hd (by decide)) (by rw [h1.hd]; decide) (by decide)]
  rw [er_on (f := N + 8) (p' := i + 1 + 1 + 1) (y := 1001) (z := 2) (un_v (f := N + 9) h2.hd (by decide)) (by rw [h3.hd]; decide) (by decide)]
  exact er_end (f := N + 7) (p' := i + 5) (y := 1002) (un_v (f := N + 9) h4.hd (by decide)) (by rw [show i + 5 = i + 1 + 1 + 1 + 1 + 1 from rfl, h4.tl.nx]; decide)
end SF
/-! what the E's are worth -/
section LV
variable {f : Nat → Int} {v : Int}
theorem cw_cd (hv : -9 ≤ v ∧ v ≤ 9) : cw f (cd v) = v := by
  unfold cw cd
  by_cases q : v < 0
  · rw [if_pos q, if_neg (by omega), if_neg (by omega)]; omega
  · rw [if_neg q, if_pos (by omega), if_neg (by omega)]
theorem cw_0 : cw f 1000 = f 0 := rfl
theorem cw_1 : cw f 1001 = f 1 := rfl
theorem cw_2 : cw f 1002 = f 2 := rfl
theorem chk_v {x : Int} (h : -999 ≤ x ∧ x ≤ 999) : chk x = some x := if_pos h
theorem ws_0 {y : Int} : wstp f w00 (0, y) = (some 0, 1, chk (cw f y)) := rfl
theorem ws_3 {a : Option Int} {g p y : Int} : wstp f (a, g, some p) (3, y) = (a, g, chk (p * cw f y)) := rfl
theorem ws_1 {a g p y : Int} : wstp f (some a, g, some p) (1, y) = (chk (a + g * p), 1, chk (cw f y)) := rfl
theorem ws_2 {a g p y : Int} : wstp f (some a, g, some p) (2, y) = (chk (a + g * p), -1, chk (cw f y)) := rfl
theorem lv_of {l : FL} {s : Ws} {a g p : Int} (h : l.foldl (wstp f) w00 = s) (e : s = (some a, g, some p)) (hx : -999 ≤ a + g * p ∧ a + g * p ≤ 999) : lval f l = some (a + g * p) := by
  unfold lval wst
  rw [h, e]
  exact chk_v hx
theorem lval_1 {y : Int} (h : -999 ≤ cw f y ∧ cw f y ≤ 999) : lval f [(0, y)] = some (cw f y) := by
  have := lv_of (f := f) (l := [(0, y)]) (a := 0) (g := 1) (p := cw f y) rfl (by
    show wstp f w00 (0, y) = _
    rw [ws_0, chk_v h]) (by omega)
  rw [this, Int.zero_add, Int.one_mul]
theorem lval_abu (hf : sml f) (hv : 0 ≤ v ∧ v ≤ 4) : lval f [(0, 1000), (1, 1001), (3, cd v)] = some (f 0 + f 1 * v) := by
  obtain ⟨h0, h1, h2⟩ := hf
  have hm : 0 ≤ f 1 * v ∧ f 1 * v ≤ 32 := by
    refine ⟨Int.mul_nonneg h1.1 hv.1, ?_⟩
    have : f 1 * v ≤ 8 * 4 := Int.mul_le_mul h1.2 hv.2 hv.1 (by decide)
    omega
  have := lv_of (f := f) (l := [(0, 1000), (1, 1001), (3, cd v)]) (a := f 0) (g := 1) (p := f 1 * v) rfl (by
    show wstp f (wstp f (wstp f w00 (0, 1000)) (1, 1001)) (3, cd v) = _
    rw [ws_0, cw_0, chk_v (by omega), ws_1, Int.zero_add, Int.one_mul, cw_1, chk_v (by omega), chk_v (by omega), ws_3, cw_cd (by omega), chk_v (by omega)]) (by omega)
  rw [this, Int.one_mul]
theorem lval_cv (hf : sml f) (hv : -4 ≤ v ∧ v ≤ 4) : lval f [(0, 1002), (1, cd v)] = some (f 2 + v) := by
  obtain ⟨h0, h1, h2⟩ := hf
  have := lv_of (f := f) (l := [(0, 1002), (1, cd v)]) (a := f 2) (g := 1) (p := v) rfl (by
    show wstp f (wstp f w00 (0, 1002)) (1, cd v) = _
    rw [ws_0, cw_2, chk_v (by omega), ws_1, Int.zero_add, Int.one_mul, cw_cd (by omega), chk_v (by omega), chk_v (by omega)]) (by omega)
  rw [this, Int.one_mul]
theorem lval_cost (hf : sml f) : lval f [(0, 1000), (3, 1001), (2, 1002)] = some (f 0 * f 1 - f 2) := by
  obtain ⟨h0, h1, h2⟩ := hf
  have hm : -24 ≤ f 0 * f 1 ∧ f 0 * f 1 ≤ 24 := by
    have a1 : f 0 * f 1 ≤ 3 * f 1 := Int.mul_le_mul_of_nonneg_right h0.2 h1.1
    have a2 : -3 * f 1 ≤ f 0 * f 1 := Int.mul_le_mul_of_nonneg_right h0.1 h1.1
    omega
  have := lv_of (f := f) (l := [(0, 1000), (3, 1001), (2, 1002)]) (a := f 0 * f 1) (g := -1) (p := f 2) rfl (by
    show wstp f (wstp f (wstp f w00 (0, 1000)) (3, 1001)) (2, 1002) = _
    rw [ws_0, cw_0, chk_v (by omega), ws_3, cw_1, chk_v (by omega), ws_2, Int.zero_add, Int.one_mul, cw_2, chk_v (by omega), chk_v (by omega)]) (by omega)
  rw [this]
  congr 1
  omega
end LV
