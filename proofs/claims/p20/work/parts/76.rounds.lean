/-! the law's rows; its nested rounds -/
/-- the layout behind n cells -/
def LK (K : ZMem) (n : Nat) : Prop := TopAt K 2 ∧ (∀ k, k < 4 → SrF K (44 + 444 * k)) ∧ mz K = n ∧ mw K + 2229 * 400 ≤ 40000 + 400 * n ∧ (2230 ≤ n → mS K 2230 = (1, 3)) ∧ (2231 ≤ n → mS K 2231 = (1, 400)) ∧ (2232 ≤ n → mS K 2232 = (1, 400)) ∧ (2233 ≤ n → mS K 2233 = (1, 400))
theorem LK.sr {K : ZMem} {n : Nat} (h : LK K n) : ∀ k, k < 4 → SrK K (44 + 444 * k) := fun k hk => ⟨(h.2.1 k hk).1, (h.2.1 k hk).2.1.1, (h.2.1 k hk).2.2.1⟩
theorem LK.new {K : ZMem} {n m : Nat} {sh : Nat × Nat} (h : LK K n) (hn : 2229 ≤ n) (hm : m ≤ 400) (h0 : n + 1 = 2230 → sh = (1, 3)) (h1 : n + 1 = 2231 ∨ n + 1 = 2232 ∨ n + 1 = 2233 → sh = (1, 400)) : LK (zNew K sh m) (n + 1) := by
  obtain ⟨a1, a2, a3, a4, a5, a6, a7, a8⟩ := h
  have G : Gx K (zNew K sh m) 0 1 m := gx_new
  have S : Sm 2 2230 K (zNew K sh m) := G.sm (by omega) (Or.inl (by decide))
  have hs : ∀ o, mS (zNew K sh m) o = if o = n + 1 then sh else mS K o := fun o => by rw [mS_new, a3]
  refine ⟨a1.keep S, fun k hk => (a2 k hk).keep (S.sub (by omega) (by omega)), by rw [mz_new, a3], by rw [mw_new]; omega, fun q => ?_, fun q => ?_, fun q => ?_, fun q => ?_⟩
  · rw [hs]
    by_cases c : 2230 = n + 1
    · rw [if_pos c, h0 c.symm]
    · rw [if_neg c]; exact a5 (by omega)
  · rw [hs]
    by_cases c : 2231 = n + 1
    · rw [if_pos c, h1 (by omega)]
    · rw [if_neg c]; exact a6 (by omega)
  · rw [hs]
    by_cases c : 2232 = n + 1
    · rw [if_pos c, h1 (by omega)]
    · rw [if_neg c]; exact a7 (by omega)
  · rw [hs]
    by_cases c : 2233 = n + 1
    · rw [if_pos c, h1 (by omega)]
    · rw [if_neg c]; exact a8 (by omega)
theorem KW_new {K M : ZMem} {sh : Nat × Nat} {m : Nat} (h : KW K M) : KW (zNew K sh m) (zNew M sh m) := by
  obtain ⟨h1, h2, h3, h4⟩ := h
  refine ⟨funext fun o => ?_, by rw [mz_new, mz_new, h2], by rw [mw_new, mw_new, h3], fun a k ha => ?_⟩
  · rw [mS_new, mS_new, h2, h1]
  · rw [mR_new, mR_new, h2]
    by_cases c : a = mz K + 1
    · rw [if_pos c, if_pos c]
    · rw [if_neg c, if_neg c]
      rw [mS_new, if_neg c] at ha
      exact h4 a k ha
theorem Fr_new {M : ZMem} {sh : Nat × Nat} {m : Nat} : Fr (fun a => a = mz M + 1) M (zNew M sh m) := fun a ha => ⟨if_neg ha, if_neg ha⟩
theorem Rd.keep {K K' M M' : ZMem} {c : Nm} {X : Nat → Prop} (h : Rd K M c) (hK : KW K' M') (F : Fr X M M') (hx : ∀ q, 27 ≤ q → q < 2231 → ¬ X q) : Rd K' M' c :=
  ⟨hK, by rw [gG_fr F fun j hj => hx _ (by omega) (by omega)]; exact h.2.1, by rw [F.i (hx 27 (by decide) (by decide))]; exact h.2.2.1, h.2.2.2.keep hK F fun q q1 q2 => hx q (by omega) q2⟩
/-- the law's three rows -/
def Ar (M : ZMem) (l : List T3) : Prop := ∀ i t, l[i]? = some t → mI M 2231 i = t.1 ∧ mI M 2232 i = t.2.1 ∧ mI M 2233 i = t.2.2
theorem Ar.keep {M M' : ZMem} {l : List T3} {X : Nat → Prop} (h : Ar M l) (F : Fr X M M') (hx : ∀ q, 2231 ≤ q → q < 2234 → ¬ X q) : Ar M' l := fun i t hi => by
  rw [F.i (hx 2231 (by decide) (by decide)), F.i (hx 2232 (by decide) (by decide)), F.i (hx 2233 (by decide) (by decide))]
  exact h i t hi
abbrev LB0 (c : Nm) (sg n w : Int) : List (Option ZV) := [some (zr 1), some (zr 2), none, some (zi (nmP c)), some (zi (nmQ c)), some (zr 2230), some (zi (nmU c)), some (zi (nmV c)), some (zi sg), some (zr 2231), some (zr 2232), some (zr 2233), some (zi n), some (zi w), none, none, none, none, none, none, none, none, none, none]
abbrev LB1 (c : Nm) (sg n w x : Int) : List (Option ZV) := [some (zr 1), some (zr 2), none, some (zi (nmP c)), some (zi (nmQ c)), some (zr 2230), some (zi (nmU c)), some (zi (nmV c)), some (zi sg), some (zr 2231), some (zr 2232), some (zr 2233), some (zi n), some (zi w), some (zi x), none, none, none, none, none, none, none, none, none]
abbrev LB2 (c : Nm) (sg n w x y : Int) : List (Option ZV) := [some (zr 1), some (zr 2), none, some (zi (nmP c)), some (zi (nmQ c)), some (zr 2230), some (zi (nmU c)), some (zi (nmV c)), some (zi sg), some (zr 2231), some (zr 2232), some (zr 2233), some (zi n), some (zi w), some (zi x), some (zi y), none, none, none, none, none, none, none, none]
abbrev LB3 (c : Nm) (sg n w x y z : Int) : List (Option ZV) := [some (zr 1), some (zr 2), none, some (zi (nmP c)), some (zi (nmQ c)), some (zr 2230), some (zi (nmU c)), some (zi (nmV c)), some (zi sg), some (zr 2231), some (zr 2232), some (zr 2233), some (zi n), some (zi w), some (zi x), some (zi y), some (zi z), none, none, none, none, none, none, none]
abbrev LC (c : Nm) (n w st : Int) : List (Option ZV) := [some (zr 1), some (zr 2), none, some (zi (nmP c)), some (zi (nmQ c)), none, none, none, none, some (zr 2231), some (zr 2232), some (zr 2233), some (zi n), some (zi w), some (zi st), none, none, none, none, none, none, none, none, none]
section ROUNDS
variable {q : Nat × (Nat → Int)} {d : Nat} {K : ZMem} {c : Nm} {sg : Int}
theorem qT_eq {g : Nat → Int} (hsg : (0 ≤ sg ∧ sg ≤ 3) ∧ nmS c = sgc sg) : (sg = 0 → (qTest c g = true ↔ g 0 + g 1 * nmU c = g 2 + nmV c)) ∧ (sg = 1 → (qTest c g = true ↔ g 0 + g 1 * nmU c < g 2 + nmV c)) ∧ (sg = 2 → (qTest c g = true ↔ g 2 + nmV c < g 0 + g 1 * nmU c)) ∧ (sg ≠ 0 → sg ≠ 1 → sg ≠ 2 → (qTest c g = true ↔ g 0 + g 1 * nmU c ≠ g 2 + nmV c)) := by
  have e : qTest c g = gIsSo (g 0 + g 1 * nmU c) (sgc sg) (g 2 + nmV c) := by unfold qTest; rw [hsg.2]
  rw [e]
  unfold gIsSo sgc
  refine ⟨fun q => ?_, fun q => ?_, fun q => ?_, fun q1 q2 q3 => ?_⟩
  · rw [if_pos q, if_neg (by decide), if_pos rfl]; exact decide_eq_true_iff
  · rw [if_neg (show ¬ sg = 0 by omega), if_pos q, if_pos rfl]; exact decide_eq_true_iff
  · rw [if_neg (show ¬ sg = 0 by omega), if_neg (show ¬ sg = 1 by omega), if_pos q, if_neg (by decide), if_neg (by decide), if_pos rfl]; exact decide_eq_true_iff
  · rw [if_neg q1, if_neg q2, if_neg q3, if_neg (by decide), if_neg (by decide), if_neg (by decide)]; exact decide_eq_true_iff
theorem Ar_add {M : ZMem} {l : List T3} {x y z : Int} (h : Ar M l) : Ar (sI (sI (sI M 2231 l.length x) 2232 l.length y) 2233 l.length z) (l ++ [(x, y, z)]) := fun i t hi => by
  have e1 : mI (sI (sI (sI M 2231 l.length x) 2232 l.length y) 2233 l.length z) 2231 i = if i = l.length then x else mI M 2231 i := by
    rw [mI_sI, if_neg (by omega), mI_sI, if_neg (by omega), mI_sI]
    by_cases c : i = l.length <;> simp [c]
  have e2 : mI (sI (sI (sI M 2231 l.length x) 2232 l.length y) 2233 l.length z) 2232 i = if i = l.length then y else mI M 2232 i := by
    rw [mI_sI, if_neg (by omega), mI_sI]
    by_cases c : i = l.length
    · rw [if_pos ⟨rfl, c⟩, if_pos c]
    · rw [if_neg (fun q => c q.2), if_neg c, mI_sI, if_neg (by omega)]
  have e3 : mI (sI (sI (sI M 2231 l.length x) 2232 l.length y) 2233 l.length z) 2233 i = if i = l.length then z else mI M 2233 i := by
    rw [mI_sI]
    by_cases c : i = l.length
    · rw [if_pos ⟨rfl, c⟩, if_pos c]
    · rw [if_neg (fun q => c q.2), if_neg c, mI_sI, if_neg (by omega), mI_sI, if_neg (by omega)]
  rw [e1, e2, e3]
  by_cases c : i = l.length
  · rw [if_pos c, if_pos c, if_pos c]
    rw [c, List.getElem?_append_right (Nat.le_refl _), Nat.sub_self] at hi
    have hi : some (x, y, z) = some t := hi
    cases hi
    exact ⟨rfl, rfl, rfl⟩
  · rw [if_neg c, if_neg c, if_neg c]
    by_cases c2 : i < l.length
    · rw [List.getElem?_append_left c2] at hi
      exact h i t hi
    · rw [List.getElem?_eq_none (by rw [List.length_append]; show l.length + 1 ≤ i; omega)] at hi
      cases hi
/-- the innermost -/
theorem rd_z (hL : LK K 2233) (hq : ∀ j, inR (q.2 j)) (hq1 : q.1 ≤ 260) (hB : NmB c) (hsg : (0 ≤ sg ∧ sg ≤ 3) ∧ nmS c = sgc sg) {x : Int} (hx : -3 ≤ x ∧ x ≤ 3) {y : Nat} (hy : y < 3) {g : Nat → Int} (hg : g 0 = x ∧ g 1 = nmL c y) : ∀ (r t : Nat) (M : ZMem) (l : List T3) (w : Int), t + r = (x + 3).toNat → Rd K M c → Ar M l → l.length + r ≤ 300 → (0 ≤ w ∧ w + r ≤ 10000) →
    (∀ M' l', l' = l ++ (rst c 2 g t (x + 3).toNat).flatMap (an c 0) → Rd K M' c → Ar M' l' → XL q (d + 1) 655 (LB2 c sg l'.length (w + r) x y) [] M') → XL q (d + 1) 535 (LB3 c sg l.length w x y (-2 + (t : Int))) [] M
  | 0, t, M, l, w, e, h, hA, hl, hw, k => by
    have hK := h.1
    refine BL_535 _ _ _ _ _ _ _ _ _ _ hq hq1 hK hL.1 (hL.2.2.2.2.1 (by decide)) (hL.2.2.2.2.2.1 (by decide)) (hL.2.2.2.2.2.2.1 (by decide)) (hL.2.2.2.2.2.2.2 (by decide)) ⟨fun _ => ?_, fun c2 => absurd (by omega) c2⟩
    have := k M l (by rw [rst_nil (by omega)]; exact (List.append_nil l).symm) h hA
    rw [show w + ((0 : Nat) : Int) = w by omega] at this
    exact this
  | r + 1, t, M, l, w, e, h, hA, hl, hw, k => by
    have hK := h.1
    obtain ⟨b1, b2, b3, b4, b5⟩ := id hB
    have hy5 := b5 y
    have em : mI M 2230 ((y : Int)).toNat = nmL c y := by rw [Int.toNat_natCast]; exact h.2.2.2.2 y hy
    have hmul : 0 ≤ nmL c y * nmU c ∧ nmL c y * nmU c ≤ 32 := by
      refine ⟨Int.mul_nonneg hy5.1 b3.1, ?_⟩
      have : nmL c y * nmU c ≤ 8 * 4 := Int.mul_le_mul hy5.2 b3.2 b3.1 (by decide)
      omega
    have hcons := rst_cons (c := c) (s := 2) (f := g) (t := t) (n := (x + 3).toNat) (by omega)
    have hz : cval c 2 t = -2 + (t : Int) := rfl
    rw [hz] at hcons
    generalize hz2 : -2 + (t : Int) = z at *
    have g0 : fup g 2 z 0 = x := hg.1
    have g1 : fup g 2 z 1 = nmL c y := hg.2
    have g2 : fup g 2 z 2 = z := fup_self
    have nx : ∀ (M1 : ZMem) (l1 : List T3), l1 = l ++ an c 0 (fup g 2 z) → l1.length ≤ l.length + 1 → Rd K M1 c → Ar M1 l1 → XL q (d + 1) 649 (LB3 c sg l1.length (w + 1) x y z) [] M1 := fun M1 l1 e1 hl1 h1 hA1 => by
      refine BL_649 (d := d) _ _ _ _ _ _ _ _ _ _ hq hq1 h1.1 hL.1 (hL.2.2.2.2.1 (by decide)) (hL.2.2.2.2.2.1 (by decide)) (hL.2.2.2.2.2.2.1 (by decide)) (hL.2.2.2.2.2.2.2 (by decide)) ⟨⟨by omega, by omega⟩, ?_⟩
      have ih := rd_z hL hq hq1 hB hsg hx hy hg r (t + 1) M1 l1 (w + 1) (by omega) h1 hA1 (by omega) (by omega) fun M' l' e' h' hA' => by
        have := k M' l' (by rw [e', e1, hcons, List.flatMap_cons, List.append_assoc]) h' hA'
        rw [show w + 1 + (r : Int) = w + ((r + 1 : Nat) : Int) by omega]
        exact this
      rw [show -2 + ((t + 1 : Nat) : Int) = z + 1 by omega] at ih
      exact ih
    have hno : ¬ qTest c (fup g 2 z) = true → XL q (d + 1) 649 (LB3 c sg l.length (w + 1) x y z) [] M := fun c2 => by
      refine nx M l ?_ (by omega) h hA
      show l = l ++ (if qTest c (fup g 2 z) = true then _ else [])
      rw [if_neg c2, List.append_nil]
    have hyes : qTest c (fup g 2 z) = true → XL q (d + 1) 622 (LB3 c sg l.length (w + 1) x y z) [] M := fun c2 => by
      refine BL_622 _ _ _ _ _ _ _ _ _ _ hq hq1 hK hL.1 (hL.2.2.2.2.1 (by decide)) (hL.2.2.2.2.2.1 (by decide)) (hL.2.2.2.2.2.2.1 (by decide)) (hL.2.2.2.2.2.2.2 (by decide)) ⟨by omega, by omega, by omega, by omega, by omega, by omega, ⟨by omega, by omega⟩, by omega, by omega, ?_⟩
      have e30 : mI (sI M 2231 ((l.length : Int)).toNat x) 2230 ((y : Int)).toNat = nmL c y := by rw [mI_sI, if_neg (by omega)]; exact em
      rw [e30, Int.toNat_natCast]
      have F : Fr (fun a => a = 2231 ∨ a = 2232 ∨ a = 2233) M (sI (sI (sI M 2231 l.length x) 2232 l.length (nmL c y)) 2233 l.length z) := ((Fr.refl.sI (Or.inl rfl)).sI (Or.inr (Or.inl rfl))).sI (Or.inr (Or.inr rfl))
      have kk := nx _ (l ++ [(x, nmL c y, z)]) (by
        show _ = l ++ (if qTest c (fup g 2 z) = true then [(fup g 2 z 0, fup g 2 z 1, fup g 2 z 2)] else [])
        rw [if_pos c2, g0, g1, g2]) (by rw [List.length_append]; exact Nat.le_refl _) (h.keep (hK := ((hK.sI _ _ _).sI _ _ _).sI _ _ _) F fun a a1 a2 => by omega) (Ar_add hA)
      have el : (((l ++ [(x, nmL c y, z)]).length : Nat) : Int) = (l.length : Int) + 1 := by rw [List.length_append]; rfl
      rw [el] at kk
      exact kk
    obtain ⟨s0, s1, s2, s3⟩ := qT_eq (g := fup g 2 z) hsg
    rw [g0, g1, g2] at s0 s1 s2 s3
    refine BL_535 _ _ _ _ _ _ _ _ _ _ hq hq1 hK hL.1 (hL.2.2.2.2.1 (by decide)) (hL.2.2.2.2.2.1 (by decide)) (hL.2.2.2.2.2.2.1 (by decide)) (hL.2.2.2.2.2.2.2 (by decide)) ⟨fun c2 => absurd c2 (by omega), fun _ => ?_⟩
    rw [em]
    refine ⟨by omega, by omega, ⟨by omega, by omega⟩, ⟨by omega, by omega⟩, ⟨by omega, by omega⟩, ⟨by omega, by omega⟩, fun n0 => ⟨fun n1 => ⟨fun n2 => ⟨fun c2 => hyes ((s3 n0 n1 n2).mpr c2), fun c2 => hno (fun c3 => c2 ((s3 n0 n1 n2).mp c3))⟩, fun n2 => ⟨fun c2 => hno (fun c3 => by have := (s2 (by omega)).mp c3; omega), fun c2 => hyes ((s2 (by omega)).mpr (by omega))⟩⟩, fun n1 => ⟨fun c2 => hno (fun c3 => by have := (s1 (by omega)).mp c3; omega), fun c2 => hyes ((s1 (by omega)).mpr (by omega))⟩⟩, fun n0 => ⟨fun c2 => hno (fun c3 => c2 ((s0 (by omega)).mp c3)), fun c2 => hyes ((s0 (by omega)).mpr (by omega))⟩⟩
theorem rd_y (hL : LK K 2233) (hq : ∀ j, inR (q.2 j)) (hq1 : q.1 ≤ 260) (hB : NmB c) (hsg : (0 ≤ sg ∧ sg ≤ 3) ∧ nmS c = sgc sg) {x : Int} (hx : -3 ≤ x ∧ x ≤ 3) {g : Nat → Int} (hg : g 0 = x) : ∀ (r y : Nat) (M : ZMem) (l : List T3) (w : Int), y + r = 3 → Rd K M c → Ar M l → l.length + 6 * r ≤ 200 → (0 ≤ w ∧ w + 6 * r ≤ 5000) →
    (∀ M' l', l' = l ++ (rst c 1 g y 3).flatMap (an c 1) → Rd K M' c → Ar M' l' → XL q (d + 1) 661 (LB1 c sg l'.length (w + (r : Int) * (x + 3).toNat) x) [] M') → XL q (d + 1) 525 (LB2 c sg l.length w x y) [] M
  | 0, y, M, l, w, e, h, hA, hl, hw, k => by
    refine BL_525 _ _ _ _ _ _ _ _ _ hq hq1 h.1 hL.1 (hL.2.2.2.2.1 (by decide)) (hL.2.2.2.2.2.1 (by decide)) (hL.2.2.2.2.2.2.1 (by decide)) (hL.2.2.2.2.2.2.2 (by decide)) ⟨fun _ => ?_, fun c2 => absurd (by omega) c2⟩
    have := k M l (by rw [rst_nil (by omega)]; exact (List.append_nil l).symm) h hA
    rw [show w + ((0 : Nat) : Int) * (x + 3).toNat = w by omega] at this
    exact this
  | r + 1, y, M, l, w, e, h, hA, hl, hw, k => by
    refine BL_525 _ _ _ _ _ _ _ _ _ hq hq1 h.1 hL.1 (hL.2.2.2.2.1 (by decide)) (hL.2.2.2.2.2.1 (by decide)) (hL.2.2.2.2.2.2.1 (by decide)) (hL.2.2.2.2.2.2.2 (by decide)) ⟨fun c2 => absurd c2 (by omega), fun _ => ?_⟩
    have hcons := rst_cons (c := c) (s := 1) (f := g) (t := y) (n := 3) (by omega)
    have hz : cval c 1 y = nmL c y := rfl
    rw [hz] at hcons
    have g0 : fup g 1 (nmL c y) 0 = x := hg
    have e1 : an c 1 (fup g 1 (nmL c y)) = (rst c 2 (fup g 1 (nmL c y)) 0 (x + 3).toNat).flatMap (an c 0) := by
      show (rst c 2 (fup g 1 (nmL c y)) 0 (fup g 1 (nmL c y) 0 + 3).toNat).flatMap (an c 0) = _
      rw [g0]
    have hlen : ∀ l', l' = l ++ an c 1 (fup g 1 (nmL c y)) → l'.length ≤ l.length + 6 := fun l' el => by
      rw [el, List.length_append]
      have h2 := an_len (c := c) 1 (fup g 1 (nmL c y))
      rw [wt_1, g0] at h2
      omega
    have := rd_z (d := d) hL hq hq1 hB hsg hx (y := y) (by omega) (g := fup g 1 (nmL c y)) ⟨g0, fup_self⟩ (x + 3).toNat 0 M l w (by omega) h hA (by omega) (by omega) fun M1 l1 el h1 hA1 => by
      rw [← e1] at el
      have hl1 := hlen l1 el
      refine BL_655 (d := d) _ _ _ _ _ _ _ _ _ hq hq1 h1.1 hL.1 (hL.2.2.2.2.1 (by decide)) (hL.2.2.2.2.2.1 (by decide)) (hL.2.2.2.2.2.2.1 (by decide)) (hL.2.2.2.2.2.2.2 (by decide)) ⟨⟨by omega, by omega⟩, ?_⟩
      have ih := rd_y hL hq hq1 hB hsg hx hg r (y + 1) M1 l1 (w + (x + 3).toNat) (by omega) h1 hA1 (by omega) (by omega) fun M' l' e' h' hA' => by
        have kk := k M' l' (by rw [e', el, hcons, List.flatMap_cons, List.append_assoc]) h' hA'
        rw [show w + ((x + 3).toNat : Int) + (r : Int) * (x + 3).toNat = w + ((r + 1 : Nat) : Int) * (x + 3).toNat by rw [Int.natCast_add, Int.add_mul]; omega]
        exact kk
      exact ih
    exact this
theorem rd_x (hL : LK K 2233) (hq : ∀ j, inR (q.2 j)) (hq1 : q.1 ≤ 260) (hB : NmB c) (hsg : (0 ≤ sg ∧ sg ≤ 3) ∧ nmS c = sgc sg) : ∀ (r j : Nat) (M : ZMem) (l : List T3) (w : Int), j + r = (nmQ c - nmP c + 1).toNat → Rd K M c → Ar M l → l.length + 18 * r ≤ 100 → (0 ≤ w ∧ w + 18 * r ≤ 1000) →
    (∀ M' l', l' = l ++ (rst c 0 f0 j (nmQ c - nmP c + 1).toNat).flatMap (an c 2) → Rd K M' c → Ar M' l' → XL q (d + 1) 667 [some (zr 1), some (zr 2), none, some (zi (nmP c)), some (zi (nmQ c)), none, none, none, none, some (zr 2231), some (zr 2232), some (zr 2233), some (zi l'.length), some (zi (w + ((List.range' j r).map fun k : Nat => 3 * (nmP c + k + 3).toNat).sum)), none, none, none, none, none, none, none, none, none, none] [] M') → XL q (d + 1) 515 (LB1 c sg l.length w (nmP c + j)) [] M
  | 0, j, M, l, w, e, h, hA, hl, hw, k => by
    obtain ⟨b1, b2, -⟩ := id hB
    refine BL_515 _ _ _ _ _ _ _ _ hq hq1 h.1 hL.1 (hL.2.2.2.2.1 (by decide)) (hL.2.2.2.2.2.1 (by decide)) (hL.2.2.2.2.2.2.1 (by decide)) (hL.2.2.2.2.2.2.2 (by decide)) ⟨fun _ => ?_, fun c2 => absurd (by omega) c2⟩
    have := k M l (by rw [rst_nil (by omega)]; exact (List.append_nil l).symm) h hA
    rw [show w + (((List.range' j 0).map fun k : Nat => 3 * (nmP c + k + 3).toNat).sum : Nat) = w by show w + ((0 : Nat) : Int) = w; omega] at this
    exact this
  | r + 1, j, M, l, w, e, h, hA, hl, hw, k => by
    obtain ⟨b1, b2, -⟩ := id hB
    refine BL_515 _ _ _ _ _ _ _ _ hq hq1 h.1 hL.1 (hL.2.2.2.2.1 (by decide)) (hL.2.2.2.2.2.1 (by decide)) (hL.2.2.2.2.2.2.1 (by decide)) (hL.2.2.2.2.2.2.2 (by decide)) ⟨fun c2 => absurd c2 (by omega), fun _ => ?_⟩
    have hcons := rst_cons (c := c) (s := 0) (f := f0) (t := j) (n := (nmQ c - nmP c + 1).toNat) (by omega)
    have hz : cval c 0 j = nmP c + j := rfl
    rw [hz] at hcons
    have g0 : fup f0 0 (nmP c + j) 0 = nmP c + j := fup_self
    have hlen : ∀ l', l' = l ++ an c 2 (fup f0 0 (nmP c + j)) → l'.length ≤ l.length + 18 := fun l' el => by
      rw [el, List.length_append]
      have h2 := an_len (c := c) 2 (fup f0 0 (nmP c + j))
      rw [wt_2, g0] at h2
      omega
    exact rd_y (d := d) hL hq hq1 hB hsg (x := nmP c + j) (by omega) (g := fup f0 0 (nmP c + j)) g0 3 0 M l w (by omega) h hA (by omega) (by omega) fun M1 l1 el h1 hA1 => by
      have hl1 := hlen l1 el
      refine BL_661 (d := d) _ _ _ _ _ _ _ _ hq hq1 h1.1 hL.1 (hL.2.2.2.2.1 (by decide)) (hL.2.2.2.2.2.1 (by decide)) (hL.2.2.2.2.2.2.1 (by decide)) (hL.2.2.2.2.2.2.2 (by decide)) ⟨⟨by omega, by omega⟩, ?_⟩
      have ih := rd_x hL hq hq1 hB hsg r (j + 1) M1 l1 (w + ((3 : Nat) : Int) * (nmP c + j + 3).toNat) (by omega) h1 hA1 (by omega) (by omega) fun M' l' e' h' hA' => by
        have kk := k M' l' (by rw [e', el, hcons, List.flatMap_cons, List.append_assoc]; rfl) h' hA'
        rw [List.range'_succ, List.map_cons, List.sum_cons] at kk
        rw [show w + ((3 : Nat) : Int) * (nmP c + j + 3).toNat + (((List.range' (j + 1) r).map fun k : Nat => 3 * (nmP c + k + 3).toNat).sum : Nat) = w + ((3 * (nmP c + j + 3).toNat + ((List.range' (j + 1) r).map fun k : Nat => 3 * (nmP c + k + 3).toNat).sum : Nat) : Int) by omega]
        exact kk
      rw [show nmP c + ((j + 1 : Nat) : Int) = nmP c + j + 1 by omega] at ih
      exact ih
end ROUNDS
