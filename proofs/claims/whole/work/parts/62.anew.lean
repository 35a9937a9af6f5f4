/-! anew: the relation stays -/
section ANEW
variable {M : ZMem} {P : Pg} {σ : Int → Int} {root price : Int} {e : Nat} {D : Int → Int} {S : Sr} {U U' : Tr} {b t : Int}
theorem RW_start (h0 : gHas P 0 ∧ σ 0 = root ∧ gAround P 0 = -1) (hD : D 0 = 0) (hc : cur S = 0) {w : Wy} {r : Pf} : RW P σ D (uW S 0 (wStart w)) (oW U 0 (wBegins (fun k => if k < 8 then 0 else r k) root)) := by
  have ew : wStart w = (fup (fup (fup (fup w.1 3 0) 4 (-1)) 5 0) 6 0, fun _ => 0, fup w.2.2.1 0 0, w.2.2.2.1, fun _ => false) := rfl
  have e1 : (uW S 0 (wStart w)).1 0 = wStart w := rfl
  have e2 : (oW U 0 (wBegins (fun k => if k < 8 then 0 else r k) root)).2.1 0 = wBegins (fun k => if k < 8 then 0 else r k) root := rfl
  have hc' : cur (uW S 0 (wStart w)) = 0 := hc
  refine ⟨hD, fun i hi => ?_, ?_, fun i i1 hi => by rw [hc'] at hi; omega⟩
  · rw [hc'] at hi
    have : i = 0 := by omega
    subst this
    rw [e1, e2]
    constructor
    · refine ⟨fun k hk => ?_, Or.inr ⟨h0.1, h0.2.2, ?_⟩, ⟨0, by omega, rfl, rfl⟩, ?_, ?_, ?_, ?_⟩
      · unfold wBegins
        rw [fup_ne (by omega), fup_ne (by omega), fup_ne (by omega), fup_ne (by omega), fup_ne (by omega), fup_ne (by omega), if_pos hk]
        rfl
      · exact h0.2.1.symm
      · show (0 : Int) = 0 - D 0
        rw [hD]; rfl
      · show (0 : Int) = 0 - D 0
        rw [hD]; rfl
      · exact Int.le_refl 0
      · exact Int.le_refl 0
    · exact Or.inl ⟨rfl, fun j => by unfold cwW; rw [if_pos rfl, e1]; rfl⟩
  · rw [e1, e2]; rfl
theorem wB_start {w : Wy} (h : wB w) : wB (wStart w) := by
  obtain ⟨h1, h2, h3, h4⟩ := h
  refine ⟨fun _ => ?_, ?_, ?_, h4⟩
  · show (-999 : Int) ≤ 0 ∧ (0 : Int) ≤ 999; omega
  · show (0 : Int) ≤ 0 ∧ (0 : Int) ≤ 100000000; omega
  · show (0 : Int) ≤ 0 ∧ (0 : Int) ≤ 100000000; omega
end ANEW
