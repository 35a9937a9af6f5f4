/-! brackets on both sides -/
section BRACKETS
variable {M : ZMem} {P : Pg} {σ : Int → Int} {root price : Int} {e : Nat} {D : Int → Int} {S : Sr} {U : Tr} {b t stop Dd : Int} {w : Wy} {r : Pf}
theorem wSetMark_f {l : Int} : (wSetMark w l).1 = w.1 ∧ (wSetMark w l).2.1 = w.2.1 ∧ (wSetMark w l).2.2.2 = w.2.2.2 := by
  unfold wSetMark; split <;> exact ⟨rfl, rfl, rfl⟩
theorem wSetRounds_f {l n : Int} : (wSetRounds w l n).1 = w.1 ∧ (wSetRounds w l n).2.1 = w.2.1 ∧ (wSetRounds w l n).2.2.1 = w.2.2.1 ∧ (wSetRounds w l n).2.2.2.2 = w.2.2.2.2 := by
  unfold wSetRounds; split <;> exact ⟨rfl, rfl, rfl, rfl⟩
theorem wB_rounds {l n : Int} (h : wB w) (hn : -10 ≤ n ∧ n ≤ 1000) : wB (wSetRounds w l n) := by
  unfold wSetRounds
  split
  · obtain ⟨h1, h2, h3, h4⟩ := h
    refine ⟨h1, h2, h3, fun k => ?_⟩
    show -10 ≤ fup w.2.2.2.1 l.toNat n k ∧ fup w.2.2.2.1 l.toNat n k ≤ 1000
    by_cases c : k = l.toNat
    · rw [c, fup_self]; exact hn
    · rw [fup_ne c]; exact h4 k
  · exact h
theorem wB_enter {s f l : Int} (h : wB w) : wB (wEnter w s f l) := by
  unfold wEnter
  obtain ⟨h1, h2, h3, h4⟩ := h
  obtain ⟨e1, e2, e3⟩ := wSetMark_f (w := (fup (fup w.1 4 s) 3 f, w.2)) (l := l)
  refine ⟨fun v => by rw [e2]; exact h1 v, by rw [e1]; exact h2, by rw [e1]; exact h3, fun k => by rw [e3]; exact h4 k⟩
theorem WR_sr {s n : Int} (h : PR M P σ root price e) (hw : WR P σ stop Dd w r) (hs : gHas P s) (ha : gAround P s = w.1 4) : WR P σ stop Dd (wSetRounds w (gLevel P s + 1) n) r := by
  obtain ⟨h1, bb, ⟨m, hm, c, d⟩, e1, f, g⟩ := hw
  obtain ⟨q1, q2, q3, q4⟩ := wSetRounds_f (w := w) (l := gLevel P s + 1) (n := n)
  have hl := h.lvl hs
  refine ⟨fun k hk => by rw [q2]; exact h1 k hk, by rw [q1]; exact bb, ⟨m, hm, c, ?_⟩, by rw [q1, q3]; exact e1, by rw [q1]; exact f, by rw [q1]; exact g⟩
  rw [q1]
  refine FRM_in (w := w) (r := r) h m _ (fun l l0 l1 => ⟨by rw [q3], ?_⟩) (fun _ _ _ => rfl) d
  unfold wSetRounds
  split
  · show fup w.2.2.2.1 _ n _ = _
    rw [ha] at hl
    rw [fup_ne (by omega)]
  · rfl
/-- a once or a row of rounds begins -/
theorem RS_enter (hPR : PR M P σ root price e) (h : RS P σ root price D S U b t) {s x y n rounds : Int} (hs : (S.1 (cur S)).1 3 = s) (hh : gHas P s) (hk : gKind P s = 6 ∨ gKind P s = 9) (hl5 : gLevel P s ≤ 5) (hf : gHas P (gPartFirst P s 0) ∧ gAround P (gPartFirst P s 0) = s) (hx : x = σ s) (hy : y = σ (gPartFirst P s 0)) (hn : -10 ≤ n ∧ n ≤ 1000) (hr : rounds ≤ 100000) (hr9 : gKind P s = 9 → rounds = n) : RS P σ root price D (uW S (cur S) (wEnter (wSetRounds (S.1 (cur S)) (gLevel P s + 1) n) s (gPartFirst P s 0) (gLevel P s + 1))) (oW U (cur S) (wEnters (U.2.1 (cur S)) x y rounds)) b t := by
  have hwr := h.wr
  have hs' : gHas P ((S.1 (cur S)).1 3) := by rw [hs]; exact hh
  have har := (hwr.around hs').1
  rw [hs] at har
  have hlv := hPR.1.level s
  have h1 := WR_sr (n := n) hPR hwr hh har
  obtain ⟨q1, q2, q3, q4⟩ := wSetRounds_f (w := S.1 (cur S)) (l := gLevel P s + 1) (n := n)
  have h2 := WR_enter (rounds := rounds) (x := x) (y := y) hPR h1 hh (by rw [q1]; exact har) (by omega) hl5 hf hx hy hr fun q => by
    rw [hr9 q]
    unfold wSetRounds
    rw [if_pos ⟨by omega, by omega⟩]
    exact fup_self.symm
  obtain ⟨m, hm, hm9, _⟩ := hwr.2.2.1
  obtain ⟨f1, f2, f3⟩ := wSetMark_f (w := (fup (fup (wSetRounds (S.1 (cur S)) (gLevel P s + 1) n).1 4 s) 3 (gPartFirst P s 0), (wSetRounds (S.1 (cur S)) (gLevel P s + 1) n).2)) (l := gLevel P s + 1)
  refine RS_way h h2 (wB_enter (wB_rounds (h.sb.1 _) hn)) ?_ ?_ ?_ ?_ ?_
  · unfold wEnter
    rw [f1, q1]; rfl
  · unfold wEnter
    rw [f1, q1]; rfl
  · unfold wEnter
    rw [f3]
    exact q4
  · unfold wEnters
    rw [fup_ne (by decide), fup_ne (by decide), fup_ne (by decide), fup_ne (by omega), fup_ne (by omega), fup_ne (by omega)]
  · unfold wEnters
    rw [fup_ne (by decide), fup_ne (by decide), fup_ne (by decide), fup_ne (by omega), fup_ne (by omega), fup_ne (by omega)]
/-- a bracket is left -/
theorem RS_leave (hPR : PR M P σ root price e) (h : RS P σ root price D S U b t) {s : Int} (hs : (S.1 (cur S)).1 4 = s) (hh : gHas P s) (h9 : U.2.1 (cur S) 9 ≠ 0) : RS P σ root price D (xLeave P S s) (oLeave M U (cur S) (fAt (U.2.1 (cur S))) (σ s)) b t := by
  have hwr := h.wr
  obtain ⟨m, hm, hm9, _⟩ := hwr.2.2.1
  obtain ⟨m', rfl⟩ : ∃ k, m = k + 1 := ⟨m - 1, by omega⟩
  have hf : fAt (U.2.1 (cur S)) = 10 + 3 * m' := by unfold fAt; omega
  subst hs
  have h2 := WR_leave hPR hwr hm9 hh
  rw [hf]
  exact RS_way h h2 (by
    obtain ⟨h1, h2, h3, h4⟩ := h.sb.1 (cur S)
    exact ⟨h1, h2, h3, h4⟩) rfl rfl rfl rfl rfl
/-- another round -/
theorem RS_round (hPR : PR M P σ root price e) (h : RS P σ root price D S U b t) {s y : Int} (hs : (S.1 (cur S)).1 4 = s) (hh : gHas P s) (hk : gKind P s = 9) (hl5 : gLevel P s ≤ 5) (hf : gHas P (gPartFirst P s 0) ∧ gAround P (gPartFirst P s 0) = s) (hy : mI M 2234 y.toNat = σ (gPartFirst P s 0)) (h9 : U.2.1 (cur S) 9 ≠ 0) (hpos : 0 < wRoundsAt (S.1 (cur S)) (gLevel P s + 1)) : RS P σ root price D (uW S (cur S) (wEnter (wSetRounds (S.1 (cur S)) (gLevel P s + 1) (wRoundsAt (S.1 (cur S)) (gLevel P s + 1) - 1)) s (gPartFirst P s 0) (gLevel P s + 1))) (oRound M U (cur S) (fAt (U.2.1 (cur S))) y) b t := by
  have hwr := h.wr
  have hlv := hPR.1.level s
  have hwB := h.sb.1 (cur S)
  obtain ⟨g1, g2, ⟨m, hm, hm9, hfr⟩, g4, g5, g6⟩ := hwr
  obtain ⟨m', rfl⟩ : ∃ k, m = k + 1 := ⟨m - 1, by omega⟩
  have hfa : fAt (U.2.1 (cur S)) = 10 + 3 * m' := by unfold fAt; omega
  subst hs
  obtain ⟨d1, d2, d3, d4, d5, d6, d7⟩ := hfr
  have hlI := hPR.lvl hh
  have er : wRoundsAt (S.1 (cur S)) (gLevel P ((S.1 (cur S)).1 4) + 1) = (S.1 (cur S)).2.2.2.1 (gLevel P ((S.1 (cur S)).1 4) + 1).toNat := by unfold wRoundsAt; rw [if_pos ⟨by omega, by omega⟩]
  have hrb := hwB.2.2.2 (gLevel P ((S.1 (cur S)).1 4) + 1).toNat
  rw [er] at hpos
  rw [er, hfa]
  generalize hw : S.1 (cur S) = w at *
  have hI : ∀ l : Int, 0 ≤ l → l < lvI P (gAround P (w.1 4)) → fup w.2.2.1 (gLevel P (w.1 4) + 1).toNat (w.1 5) l.toNat = w.2.2.1 l.toNat ∧ fup w.2.2.2.1 (gLevel P (w.1 4) + 1).toNat (w.2.2.2.1 (gLevel P (w.1 4) + 1).toNat - 1) (l + 1).toNat = w.2.2.2.1 (l + 1).toNat := fun l l0 l1 => ⟨fup_ne (by omega), fup_ne (by omega)⟩
  have ew : wEnter (wSetRounds w (gLevel P (w.1 4) + 1) (w.2.2.2.1 (gLevel P (w.1 4) + 1).toNat - 1)) (w.1 4) (gPartFirst P (w.1 4) 0) (gLevel P (w.1 4) + 1) = (fup (fup w.1 4 (w.1 4)) 3 (gPartFirst P (w.1 4) 0), w.2.1, fup w.2.2.1 (gLevel P (w.1 4) + 1).toNat (w.1 5), fup w.2.2.2.1 (gLevel P (w.1 4) + 1).toNat (w.2.2.2.1 (gLevel P (w.1 4) + 1).toNat - 1), w.2.2.2.2) := by
    unfold wEnter wSetRounds wSetMark
    rw [if_pos ⟨by omega, by omega⟩, if_pos ⟨by omega, by omega⟩]
    rfl
  rw [ew]
  have hwB' : wB (fup (fup w.1 4 (w.1 4)) 3 (gPartFirst P (w.1 4) 0), w.2.1, fup w.2.2.1 (gLevel P (w.1 4) + 1).toNat (w.1 5), fup w.2.2.2.1 (gLevel P (w.1 4) + 1).toNat (w.2.2.2.1 (gLevel P (w.1 4) + 1).toNat - 1), w.2.2.2.2) := by
    obtain ⟨h1, h2, h3, h4⟩ := hwB
    refine ⟨h1, h2, h3, fun k => ?_⟩
    show -10 ≤ fup w.2.2.2.1 _ _ k ∧ fup w.2.2.2.1 _ _ k ≤ 1000
    by_cases c : k = (gLevel P (w.1 4) + 1).toNat
    · rw [c, fup_self]; omega
    · rw [fup_ne c]; exact h4 k
  unfold oRound
  refine RS_way h ?_ hwB' (by rw [hw]; rfl) (by rw [hw]; rfl) (by rw [hw]) ?_ ?_
  · refine ⟨fun k hk => ?_, Or.inr ⟨hf.1, ?_, ?_⟩, ⟨m' + 1, hm, ?_, ?_⟩, ?_, ?_, ?_⟩
    · rw [fup_ne (by omega), fup_ne (by omega), fup_ne (by omega)]; exact g1 k hk
    · exact hf.2
    · exact hy
    · rw [fup_ne (by omega), fup_ne (by omega), fup_ne (by omega)]; exact hm9
    · refine ⟨d1, d2, ?_, ?_, fun q => ?_, ?_, ?_⟩
      · rw [fup_ne (by omega), fup_ne (by omega), fup_ne (by omega)]; exact d3
      · rw [fup_ne (by omega), fup_ne (by omega), fup_ne (by omega)]
        show _ = fup w.2.2.1 (gLevel P (w.1 4) + 1).toNat (w.1 5) (gLevel P (w.1 4)).toNat - _
        rw [fup_ne (by omega)]; exact d4
      · rw [fup_ne (by omega), fup_ne (by omega), fup_self, d5 q]
        exact fup_self.symm
      · rw [fup_ne (by omega), fup_ne (by omega), fup_self]; omega
      · exact FRM_in (w := w) (r := U.2.1 (cur S)) hPR m' _ hI (fun k k1 k2 => by rw [fup_ne (by omega), fup_ne (by omega), fup_ne (by omega)]) d7
    · rw [fup_ne (by omega), fup_self]
      show _ = fup w.2.2.1 (gLevel P (w.1 4) + 1).toNat (w.1 5) (lvI P (w.1 4)).toNat - _
      rw [lvI_has hh, fup_self]
      exact g5
    · rw [fup_ne (by omega), fup_ne (by omega), fup_ne (by omega)]; exact g5
    · rw [fup_ne (by omega), fup_ne (by omega), fup_ne (by omega)]; exact g6
  · rw [fup_ne (by omega), fup_ne (by omega), fup_ne (by omega)]
  · rw [fup_ne (by omega), fup_ne (by omega), fup_ne (by omega)]
end BRACKETS
