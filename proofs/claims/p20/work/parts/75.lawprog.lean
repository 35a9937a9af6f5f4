/-! the law's program and cost -/
def aB (l : List Int) : Prop := ∀ x ∈ l, 1 ≤ x ∧ x ≤ 255
theorem aB_nil : aB [] := fun x h => by cases h
theorem aB_cons {y : Int} {l : List Int} (h : 1 ≤ y ∧ y ≤ 255) (g : aB l) : aB (y :: l) := fun x hx => by
  rcases List.mem_cons.mp hx with rfl | q
  · exact h
  · exact g x q
theorem aB_app {l l' : List Int} (h : aB l) (g : aB l') : aB (l ++ l') := fun x hx => by
  rcases List.mem_append.mp hx with q | q
  · exact h x q
  · exact g x q
theorem aB_nt {v : Int} (h : -9 ≤ v ∧ v ≤ 9) : aB (nt v) := by
  unfold nt
  split
  · exact aB_cons (by decide) (aB_cons (by omega) aB_nil)
  · exact aB_cons (by omega) aB_nil
theorem aB_txt {c : Nm} {sg : Int} (hB : NmB c) (hsg : (0 ≤ sg ∧ sg ≤ 3) ∧ nmS c = sgc sg) : aB (txt c) := by
  obtain ⟨b1, b2, b3, b4, b5⟩ := hB
  have n0 := b5 0
  have n1 := b5 1
  have n2 := b5 2
  have hs : 1 ≤ nmS c ∧ nmS c ≤ 255 := by
    rw [hsg.2]
    unfold sgc
    split
    · decide
    · split
      · decide
      · split <;> decide
  unfold txt
  refine aB_cons (by decide) (aB_cons (by decide) (aB_app (aB_nt (by omega)) (aB_cons (by decide) (aB_app (aB_nt (by omega)) (aB_cons (by decide) (aB_cons (by decide) (aB_cons (by decide) (aB_cons (by decide) ?_))))))))
  refine aB_app (aB_nt (by omega)) (aB_cons (by decide) (aB_app (aB_nt (by omega)) (aB_cons (by decide) (aB_app (aB_nt (by omega)) (aB_cons (by decide) (aB_cons (by decide) (aB_cons (by decide) (aB_cons (by decide) ?_))))))))
  refine aB_app (aB_nt (by decide)) (aB_cons (by decide) (aB_cons (by decide) (aB_cons (by decide) (aB_cons (by decide) (aB_cons (by decide) (aB_cons (by decide) (aB_cons (by decide) ?_)))))))
  exact aB_app (aB_nt (by omega)) (aB_cons hs (aB_cons (by decide) (aB_cons (by decide) (aB_app (aB_nt (by omega)) aB_nil))))
theorem Tp_of {l : List Int} (h : aB l) (hl : l.length ≤ 150) : Tp (fun k => l.getD k 0) l.length := by
  refine ⟨hl, fun k hk => ?_, fun k hk => ?_⟩
  · show 1 ≤ l.getD k 0 ∧ l.getD k 0 ≤ 255
    rw [List.getD_eq_getElem?_getD, List.getElem?_eq_getElem hk]
    exact h _ (List.getElem_mem hk)
  · show l.getD k 0 = 0
    rw [List.getD_eq_getElem?_getD, List.getElem?_eq_none hk]; rfl
theorem Sf_of {l : List Int} : Sf (fun k => l.getD k 0) l.length 0 l := ⟨by omega, fun k => by rw [Nat.zero_add]⟩
/-- ready to search -/
def Rd (K M : ZMem) (c : Nm) : Prop := KW K M ∧ PF c (gG M 27) ∧ mI M 27 10 ≠ 0 ∧ Bs K M (nmL c)
theorem zSg_of {sg : Int} : zSg (sgc sg) := by
  unfold sgc
  split
  · exact Or.inr (Or.inl rfl)
  · split
    · exact Or.inl rfl
    · split
      · exact Or.inr (Or.inr (Or.inl rfl))
      · exact Or.inr (Or.inr (Or.inr rfl))
set_option maxHeartbeats 4000000 in
theorem law_prog {q : Nat × (Nat → Int)} {d : Nat} {K M : ZMem} {c : Nm} {sg : Int} (hTop : TopAt K 2) (hd : 7 ≤ d) (hq : ∀ j, inR (q.2 j)) (hq1 : q.1 ≤ 260) (hA5 : mS K 2230 = (1, 3)) (hB : NmB c) (hsg : (0 ≤ sg ∧ sg ≤ 3) ∧ nmS c = sgc sg) (h : Ta K M (txt c) 60) (hD : DI (gG M 8)) (hBs : Bs K M (nmL c)) (k : ∀ M', Rd K M' c → XL q (d + 1) 485 (LA c sg) [] M') : XL q (d + 1) 418 (LA c sg) [] M := by
  obtain ⟨N, hN⟩ : ∃ N, N = 200 := ⟨_, rfl⟩
  have hl := h.2.2.2
  have hs : zSg (nmS c) := by rw [hsg.2]; exact zSg_of
  have hT := Tp_of (aB_txt hB hsg) (by omega)
  have rd : ∀ O B, (zGo (fun k => (txt c).getD k 0) N (txt c).length 151 (zS0 O B (gG M 8))).1 = -1 ∧ PJ (zg (zGo (fun k => (txt c).getD k 0) N (txt c).length 151 (zS0 O B (gG M 8))).2) 4 9 (Tb (nmS c)) (fls c) ∧ (zGo (fun k => (txt c).getD k 0) N (txt c).length 151 (zS0 O B (gG M 8))).2.1 = (txt c).length := fun O B => by
    have hDq : Dq (fun k => (txt c).getD k 0) (txt c).length (zS0 O B (gG M 8)) (txt c) 0 0 (Tb 0) (fls c) 1 := by
      refine ⟨Sf_of, rfl, ?_, rfl, rfl, fun k hk => absurd hk (Nat.not_lt_zero _), ⟨rfl, Int.le_refl 0⟩, fun f hf => absurd hf (Nat.not_lt_zero _), rfl, rfl⟩
      show fup B 0 (-1) 0 = ((0 : Nat) : Int) - 1
      rw [fup_self]; rfl
    exact rd_all (k := 143) hB (by omega) hs hDq
  refine BL_418 _ _ _ _ _ hq hq1 h.1 hTop hA5 (c_program (k := 0) (N := N) hT (by omega) hTop (by omega) (by decide) h.1 ⟨h.2.1, h.2.2.1⟩ hD (fun O B e1 M1 k1 g1 D1 I1 t1 F1 => ?_) (fun O B M1 p hp e1 => ?_))
  · obtain ⟨-, J1, J2⟩ := rd O B
    generalize (zGo (fun k => (txt c).getD k 0) N (txt c).length 151 (zS0 O B (gG M 8))).2 = X at *
    have g1 : gG M1 27 = zg X := g1
    have z4 : zsz X = 4 := J1.1
    refine ⟨k1, fun _ => ?_, fun c2 => absurd z4 c2⟩
    have h0 : Ta K M1 [] 0 := ⟨k1, t1, fun j hj => absurd hj (Nat.not_lt_zero _), Nat.le_refl _⟩
    refine BL_429 _ _ _ _ _ hq hq1 h0.1 hTop hA5 (fdd hTop (by omega) h0 (by decide) (by decide) fun y M2 y0 h2 G2 => ⟨h2.1, fun c2 => absurd c2 (by omega), fun _ => ?_⟩)
    refine BL_438 _ _ _ _ _ hq hq1 h2.1 hTop hA5 (fdd hTop (by omega) h2 (by decide) (by decide) fun y M3 y0 h3 G3 => ⟨h3.1, fun c2 => absurd c2 (by omega), fun _ => ?_⟩)
    refine BL_447 _ _ _ _ _ hq hq1 h3.1 hTop hA5 (fdd hTop (by omega) h3 (by decide) (by decide) fun y M4 y0 h4 G4 => ⟨h4.1, fun c2 => absurd c2 (by omega), fun _ => ?_⟩)
    refine BL_456 _ _ _ _ _ hq hq1 h4.1 hTop hA5 (fdd hTop (by omega) h4 (by decide) (by decide) fun y M5 y0 h5 G5 => ⟨h5.1, fun c2 => absurd c2 (by omega), fun _ => ?_⟩)
    refine BL_465 _ _ _ _ _ hq hq1 h5.1 hTop hA5 (fdd hTop (by omega) h5 (by decide) (by decide) fun y M6 y0 h6 G6 => ⟨h6.1, fun c2 => absurd c2 (by omega), fun _ => ?_⟩)
    have G := (((G2.trans G3).trans G4).trans G5).trans G6
    have h6 : Ta K M6 [97, 42, 98, 45, 99] 5 := h6
    have g6 : gG M6 27 = zg X := by rw [gG_fr G fun j hj q => by omega]; exact g1
    have D6 : DI (gG M6 8) := by rw [gG_fr G fun j hj q => by omega]; exact D1
    have e10 : mI M6 27 10 = 4 := by
      show (gG M6 27).2.2.2 = 4
      rw [g6]; exact z4
    have hT2 : Tp (fun k => [97, 42, 98, 45, 99].getD k 0) 5 := Tp_of (l := [97, 42, 98, 45, 99]) (aB_cons (by decide) (aB_cons (by decide) (aB_cons (by decide) (aB_cons (by decide) (aB_cons (by decide) aB_nil))))) (by decide)
    have ec : ee (fun k => [97, 42, 98, 45, 99].getD k 0) N 0 = (1, 0 + 5, cl3) := ee_cost (n := 5) (by omega) (Sf_of (l := [97, 42, 98, 45, 99]))
    refine BL_474 _ _ _ _ _ hq hq1 h6.1 hTop hA5 (c_cost (k := 0) (N := N) hT2 (by omega) hTop (by omega) (by decide) h6.1 ⟨h6.2.1, h6.2.2.1⟩ D6 (fun e => ?_) (fun e e1 e2 M7 k7 g7 D7 FA7 t7 F7 => ?_) (fun e e1 => ?_))
    · exact absurd (e10.symm.trans e) (by decide)
    · refine ⟨k7, fun _ => ?_, fun c2 => absurd rfl c2⟩
      rw [ec] at g7 FA7
      have g7 : gG M7 27 = ((gG M6 27).1, (gG M6 27).2.1, fApp (fSt (fNo (gG M6 8).2.2.1)) cl3, (gG M6 27).2.2.2) := g7
      rw [g6] at g7
      have FF : Fr (fun q => q < 44) M M7 := ((F1.wide fun q hq => by unfold bk at hq; omega).trans (G.wide fun q hq => by omega)).trans (F7.wide fun q hq => by unfold bk at hq; omega)
      refine k M7 ⟨k7, ?_, ?_, hBs.keep k7 FF fun q q1 q2 => by omega⟩
      · rw [g7]
        exact PF_of hB J1 I1 (by omega) FA7
      · show (gG M7 27).2.2.2 ≠ 0
        rw [g7]
        show zsz X ≠ 0
        rw [z4]; decide
    · exact absurd ⟨by rw [ec], by rw [ec]⟩ e1
  · have := (rd O B).1
    omega
