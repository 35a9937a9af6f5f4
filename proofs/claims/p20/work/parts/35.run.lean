/-! a statement begins; one move; the run -/
def xEnter (P : Pg) (S : Sr) (s : Int) : Sr := uW S (cur S) (wEnter (wSetRounds (S.1 (cur S)) (gLevel P s + 1) (gDetail P s - 1)) s (gPartFirst P s 0) (gLevel P s + 1))
def xBegin (P : Pg) (S : Sr) (s : Int) (j : Pt) : Int × Sr :=
  if gKind P s = 1 then xAssign P S s
  else if gKind P s = 2 then xTest P S s
  else if gKind P s = 3 ∨ gKind P s = 4 ∨ gKind P s = 5 then xChoose P S s j
  else if gKind P s = 7 then xBeginNot P S s
  else if gKind P s = 8 then (0, xOn P (xDrop S (wMarkAt (S.1 (cur S)) (gLevel P s))) s)
  else (0, xEnter P S s)
def mv (P : Pg) (S : Sr) (j : Pt) : Int × Sr :=
  if sC S 12 = 0 then xGoBack P S
  else if (S.1 (cur S)).1 3 = -1 then xEndPart P S
  else if 0 < sC S 13 then xBegin P (xSpend S) ((S.1 (cur S)).1 3) j
  else (2, S)
def runQ (P : Pg) (till : Bool) : Nat → Sr → (Int → Sr → Prop) → Prop
  | 0, S, q => q 2 S
  | n + 1, S, q => ∀ j, if (mv P S j).1 = 0 ∨ ((mv P S j).1 = 1 ∧ till = false) then runQ P till n (mv P S j).2 q else q (mv P S j).1 (mv P S j).2
theorem gKind_has {P : Pg} {s : Int} (h : gKind P s ≠ -1) : 0 ≤ s ∧ s < 40 := by
  unfold gKind at h
  by_cases q : gHas P s
  · exact ⟨q.1, q.2.2⟩
  · rw [if_neg q] at h; exact absurd rfl h
section RUN
variable {d : Nat} {K M0 M M' : ZMem} {o : Nat} {P : Pg} {S : Sr}
theorem s_beginStatement {Q : Int → ZMem → Prop} (hd : 4 ≤ d) (h : Ax K M0 M o P S) (hL : SrK K o) (hP : PB P) (hS : SB P S) (q : ∀ j M', Ax K M0 M' o P (xBegin P S ((S.1 (cur S)).1 3) j).2 → Q (xBegin P S ((S.1 (cur S)).1 3) j).1 M') : Ci d q6_beginStatement [zr o, zr (o + 397 + 4 * cur S)] M Q := by
  obtain ⟨d, rfl⟩ : ∃ e, d = e + 1 := ⟨d - 1, by omega⟩
  have hS7 := hS.2.2.2.2.2.2.1
  have hc : cur S < 7 := by unfold cur; omega
  have hway := (hL.way hc).2
  have e3 : mI M (o + 397 + 4 * cur S) 3 = (S.1 (cur S)).1 3 := h.w3 hc (by omega) (by omega)
  have ew : gW M (o + 397 + 4 * cur S) = S.1 (cur S) := h.1.way hc
  refine B6_beginStatement o _ h.1.1 hL.1 hway ?_
  rw [e3]
  generalize hs : (S.1 (cur S)).1 3 = s at *
  have hlv := hP.level s
  have hdt := hP.detail s
  unfold xBegin at q
  refine (s_kindOf (by omega) h.1.1 hL.prog).pure ⟨h.1.1, ?_⟩
  rw [h.g]
  refine ⟨fun c => ?_, fun c => ?_, fun c => ?_, fun c => ?_, fun c => ?_, fun c => ?_⟩
  · simp only [if_pos c] at q
    exact s_assign (by omega) h hL hP hS fun M1 a1 => ⟨a1.1.1, q p0 M1 a1⟩
  · simp only [if_neg (show ¬ gKind P s = 1 by omega), if_pos c] at q
    exact s_test (by omega) h hL hP hS fun M1 a1 => ⟨a1.1.1, q p0 M1 a1⟩
  · simp only [if_neg (show ¬ gKind P s = 1 by omega), if_neg (show ¬ gKind P s = 2 by omega), if_pos c] at q
    have := gKind_has (P := P) (s := s) (by omega)
    exact s_choose (by omega) h hL hP hS ⟨by omega, by omega⟩ fun j M1 a1 => ⟨a1.1.1, q j M1 a1⟩
  · simp only [if_neg (show ¬ gKind P s = 1 by omega), if_neg (show ¬ gKind P s = 2 by omega), if_neg (show ¬ (gKind P s = 3 ∨ gKind P s = 4 ∨ gKind P s = 5) by omega), if_pos c] at q
    exact s_beginNot (by omega) h hL hP hS fun M1 a1 => ⟨a1.1.1, q p0 M1 a1⟩
  · simp only [if_neg (show ¬ gKind P s = 1 by omega), if_neg (show ¬ gKind P s = 2 by omega), if_neg (show ¬ (gKind P s = 3 ∨ gKind P s = 4 ∨ gKind P s = 5) by omega), if_neg (show ¬ gKind P s = 7 by omega), if_pos c] at q
    refine (s_levelOf (by omega) h.1.1 hL.prog).pure ⟨h.1.1, (s_markAt h.1.1 hway).pure ⟨h.1.1, ?_⟩⟩
    rw [h.g, ew]
    refine s_sdrop (by omega) h hL hS fun M1 a1 => ⟨a1.1.1, (s_behind (by omega) a1.1.1 hL.prog).pure ⟨a1.1.1, q p0 _ ?_⟩⟩
    rw [a1.g]
    have := a1.on (s := s) (by rw [cur_xDrop]; exact hc)
    rw [cur_xDrop] at this
    exact this
  · simp only [if_neg (show ¬ gKind P s = 1 by omega), if_neg (show ¬ gKind P s = 2 by omega), if_neg (show ¬ (gKind P s = 3 ∨ gKind P s = 4 ∨ gKind P s = 5) by omega), if_neg (show ¬ gKind P s = 7 by omega), if_neg (show ¬ gKind P s = 8 by omega)] at q
    refine (s_levelOf (by omega) h.1.1 hL.prog).pure ⟨h.1.1, ?_⟩
    rw [h.g]
    refine ⟨⟨by omega, by omega⟩, (s_detailOf (by omega) h.1.1 hL.prog).pure ⟨h.1.1, ?_⟩⟩
    rw [h.g]
    refine ⟨⟨by omega, by omega⟩, (s_setRounds h.1.1 hway).mono fun M2 ⟨k2, f2, g2⟩ => ⟨k2, ?_⟩⟩
    rw [ew] at g2
    have a2 := h.kW k2 hc f2 g2
    refine (s_partFirst (by omega) k2 hL.prog).pure ⟨k2, (s_levelOf (by omega) k2 hL.prog).pure ⟨k2, ?_⟩⟩
    rw [a2.g]
    refine ⟨⟨by omega, by omega⟩, (s_enter (by omega) k2 hway).mono fun M3 ⟨k3, f3, g3⟩ => ⟨k3, q p0 M3 ?_⟩⟩
    rw [g2] at g3
    exact a2.kW2 k3 hc f3 g3
theorem s_run_loop {till : Bool} {Q : Int → ZMem → Prop} {I : Sr → Prop} (hd : 5 ≤ d) (hL : SrK K o) (hP : PB P) (hI1 : ∀ S, I S → SB P S ∧ (0 < sC S 13 → SB P (xSpend S))) (hI2 : ∀ S j, I S → (mv P S j).1 = 0 ∨ (mv P S j).1 = 1 → I (mv P S j).2) : ∀ (n i : Nat) (M : ZMem) (S : Sr), i + n = 1000000 → Ax K M0 M o P S → I S → runQ P till n S (fun x S' => ∀ M', Ax K M0 M' o P S' → Q x M') → Xi (d + 1) q6_run 7 [some (zr o), none, some (zi (if till = true then 1 else 0)), some (zi i), none, none] [] M Q
  | 0, i, M, S, e, h, hI, q => B6_run_7 o _ i h.1.1 hL.1 ⟨fun _ => q M h, fun c => absurd (by omega) c⟩
  | n + 1, i, M, S, e, h, hI, q => by
    obtain ⟨hS, hS2⟩ := hI1 S hI
    have hS7 := hS.2.2.2.2.2.2.1
    have hc : cur S < 7 := by unfold cur; omega
    have ih := s_run_loop hd hL hP hI1 hI2 (Q := Q) (till := till) n (i + 1)
    rw [runQ] at q
    have e12 : mI M o 12 = sC S 12 := h.1.c (by omega) (by omega)
    have e3 : mI M (o + 397 + 4 * cur S) 3 = (S.1 (cur S)).1 3 := h.w3 hc (by omega) (by omega)
    have hrn : inR ((i : Int) + 1) := ⟨by omega, by omega⟩
    -- what is done with what came
    have nx : ∀ (j : Pt) (M1 : ZMem), Ax K M0 M1 o P (mv P S j).2 → (((mv P S j).1 = 0 → ((inR ((i : Int) + 1)) ∧ Xi (d + 1) q6_run 7 [some (zr o), none, some (zi (if till = true then 1 else 0)), some (zi ((i : Int) + 1)), none, none] [] M1 Q)) ∧ (¬ ((mv P S j).1 = 0) → (((mv P S j).1 ≠ 1 → (Q (mv P S j).1 M1)) ∧ (¬ ((mv P S j).1 ≠ 1) → (((if till = true then (1 : Int) else 0) = 0 → ((inR ((i : Int) + 1)) ∧ Xi (d + 1) q6_run 7 [some (zr o), none, some (zi (if till = true then 1 else 0)), some (zi ((i : Int) + 1)), none, none] [] M1 Q)) ∧ (¬ ((if till = true then (1 : Int) else 0) = 0) → (Q (mv P S j).1 M1))))))) := fun j M1 a1 => by
      have qj := q j
      refine ⟨fun c => ?_, fun c => ⟨fun c2 => ?_, fun c2 => ⟨fun c3 => ?_, fun c3 => ?_⟩⟩⟩
      · rw [if_pos (Or.inl c)] at qj
        exact ⟨hrn, ih M1 _ (by omega) a1 (hI2 S j hI (Or.inl c)) qj⟩
      · rw [if_neg (fun q => q.elim c fun q => c2 q.1)] at qj
        exact qj M1 a1
      · have c2 := Decidable.not_not.mp c2
        have ct : till = false := Bool.not_eq_true _ ▸ fun q => by rw [if_pos q] at c3; exact absurd c3 (by decide)
        rw [if_pos (Or.inr ⟨c2, ct⟩)] at qj
        exact ⟨hrn, ih M1 _ (by omega) a1 (hI2 S j hI (Or.inr c2)) qj⟩
      · have ct : ¬ till = false := fun q => c3 (if_neg (by rw [q]; decide))
        rw [if_neg (fun q => q.elim c fun q => ct q.2)] at qj
        exact qj M1 a1
    refine B6_run_7 o _ i h.1.1 hL.1 ⟨fun c => absurd c (by omega), fun _ => (s_currentWay h hL hS7).pure ⟨h.1.1, ?_⟩⟩
    have hcur : cur S = (sC S 11).toNat := rfl
    rw [← hcur, e12, e3]
    unfold mv at nx
    refine ⟨fun c => ⟨(hL.way hc).2, fun c2 => ?_, fun c2 => ?_⟩, fun c => ?_⟩
    · simp only [if_neg c, if_neg c2] at nx
      refine s_spend (by omega) h hL hS.2.2.2.2.2.2.2.2.1 (hS.2.2.2.2.2.1 2) (fun c3 M1 a1 => ⟨a1.1.1, fun c4 => absurd c4 (by decide), fun _ => ?_⟩) (fun c3 => ⟨h.1.1, fun _ => ?_, fun c4 => absurd rfl c4⟩)
      · simp only [if_pos c3] at nx
        exact s_beginStatement (S := xSpend S) (by omega) a1 hL hP (hS2 c3) fun j M2 a2 => ⟨a2.1.1, nx j M2 a2⟩
      · simp only [if_neg c3] at nx
        exact (nx p0 M h).2 (by decide) |>.1 (by decide)
    · simp only [if_neg c, if_pos (Decidable.not_not.mp c2)] at nx
      exact s_endPart (by omega) h hL hP hS fun M2 a2 => ⟨a2.1.1, nx p0 M2 a2⟩
    · simp only [if_pos (Decidable.not_not.mp c)] at nx
      exact s_goBack (by omega) h hL hP hS fun M2 a2 => ⟨a2.1.1, nx p0 M2 a2⟩
theorem s_run {b : Int} {till : Bool} {Q : Int → ZMem → Prop} {I : Sr → Prop} (hd : 6 ≤ d) (hL : SrK K o) (hP : PB P) (hI1 : ∀ S, I S → SB P S ∧ (0 < sC S 13 → SB P (xSpend S))) (hI2 : ∀ S j, I S → (mv P S j).1 = 0 ∨ (mv P S j).1 = 1 → I (mv P S j).2) (h : Ax K M0 M o P S) (hI : I (uC S 13 b)) (q : runQ P till 1000000 (uC S 13 b) (fun x S' => ∀ M', Ax K M0 M' o P S' → Q x M')) : Ci d q6_run [zr o, zi b, zi (if till = true then 1 else 0)] M Q := by
  obtain ⟨d, rfl⟩ : ∃ e, d = e + 1 := ⟨d - 1, by omega⟩
  exact B6_run o b _ h.1.1 hL.1 (s_run_loop (by omega) hL hP hI1 hI2 1000000 0 _ _ rfl (h.kC (by omega) (by omega)) hI q)
end RUN
