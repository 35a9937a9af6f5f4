/-! rows of points: a copy, a row, what goes -/
/-- the layout of a row of points; its state: how many, and which cells its rows are -/
def PsK (K : ZMem) (p : Nat) : Prop := PointsAt K p ∧ ∀ j, j < 31 → PointAt K (p + 2 + 6 * j)
def PsOK (M : ZMem) (p : Nat) : Prop := 0 ≤ mI M p 1 ∧ mI M p 1 ≤ 31 ∧ (∀ i, i < 31 → ∃ j, j < 31 ∧ mR M (p + 1) i = p + 2 + 6 * j) ∧ ∀ i j, i < 31 → j < 31 → mR M (p + 1) i = mR M (p + 1) j → i = j
def gL (M : ZMem) (p : Nat) : List Pt := (List.range (mI M p 1).toNat).map fun i => gP M (mR M (p + 1) i)
theorem gL_len {M : ZMem} {p : Nat} : (gL M p).length = (mI M p 1).toNat := by rw [gL, List.length_map, List.length_range]
theorem gL_get {M : ZMem} {p i : Nat} (h : i < (mI M p 1).toNat) : (gL M p)[i]? = some (gP M (mR M (p + 1) i)) := by rw [gL, List.getElem?_map, List.getElem?_range h]; rfl
theorem gL_ext {M M' : ZMem} {p p' : Nat} (hn : (mI M' p' 1).toNat = (mI M p 1).toNat) (h : ∀ i, i < (mI M p 1).toNat → gP M' (mR M' (p' + 1) i) = gP M (mR M (p + 1) i)) : gL M' p' = gL M p := by
  unfold gL
  rw [hn]
  exact List.map_congr_left fun i hi => h i (List.mem_range.mp hi)
theorem PsOK.row {M : ZMem} {p i : Nat} (h : PsOK M p) (hi : i < 31) : p + 2 ≤ mR M (p + 1) i ∧ mR M (p + 1) i + 6 ≤ p + 188 := by
  obtain ⟨j, hj, e⟩ := h.2.2.1 i hi
  omega
theorem PsOK.at {K M : ZMem} {p i : Nat} (h : PsOK M p) (hp : PsK K p) (hi : i < 31) : PointAt K (mR M (p + 1) i) := by
  obtain ⟨j, hj, e⟩ := h.2.2.1 i hi
  rw [e]
  exact hp.2 j hj
theorem PsOK.sep {M : ZMem} {p i j : Nat} (h : PsOK M p) (hi : i < 31) (hj : j < 31) (hn : i ≠ j) : mR M (p + 1) i + 6 ≤ mR M (p + 1) j ∨ mR M (p + 1) j + 6 ≤ mR M (p + 1) i := by
  obtain ⟨a, ha, e⟩ := h.2.2.1 i hi
  obtain ⟨b, hb, g⟩ := h.2.2.1 j hj
  have : a ≠ b := fun q => hn (h.2.2.2 i j hi hj (by rw [e, g, q]))
  omega
theorem PsOK.fr {X : Nat → Prop} {M M' : ZMem} {p : Nat} (h : PsOK M p) (hF : Fr X M M') (hx : ∀ j, j < 2 → ¬ X (p + j)) : PsOK M' p := by
  have e1 : mI M' p 1 = mI M p 1 := hF.i (a := p) (hx 0 (by omega)) 1
  have e2 : mR M' (p + 1) = mR M (p + 1) := funext fun k => hF.r (hx 1 (by omega)) k
  unfold PsOK
  rw [e1, e2]
  exact h
theorem gL_fr {X : Nat → Prop} {M M' : ZMem} {p : Nat} (h : PsOK M p) (hF : Fr X M M') (hx : ∀ j, j < 188 → ¬ X (p + j)) : gL M' p = gL M p := by
  have e1 : mI M' p 1 = mI M p 1 := hF.i (a := p) (hx 0 (by omega)) 1
  refine gL_ext (by rw [e1]) fun i hi => ?_
  have hb := h.2.1
  have hr := h.row (i := i) (by omega)
  rw [hF.r (hx 1 (by omega))]
  refine gP_fr hF fun j hj => ?_
  have := hx (mR M (p + 1) i - p + j) (by omega)
  rwa [show p + (mR M (p + 1) i - p + j) = mR M (p + 1) i + j by omega] at this
section POINTS
variable {d : Nat} {K M : ZMem}
theorem s_spare {p : Nat} (hK : KW K M) (h0 : PsK K p) (h : PsOK M p) (hn : mI M p 1 < 31) : Cq d q3_spare [zr p] M (fun x M' => x = mR M (p + 1) (mI M p 1).toNat ∧ M' = M) := by
  have h1 := h.1
  exact B3_spare p hK h0.1 ⟨fun c => absurd c (by omega), fun _ => ⟨fun c => absurd c (by omega), fun _ => ⟨by omega, by omega, rfl, rfl⟩⟩⟩
theorem s_openAt {p : Nat} {i : Int} (hK : KW K M) (h0 : PsK K p) (h : PsOK M p) : Cq d q3_openAt [zr p, zi i] M (fun x M' => x = (if 0 ≤ i ∧ i < mI M p 1 then mR M (p + 1) i.toNat else 0) ∧ M' = M) := by
  have h1 := h.1
  have h2 := h.2.1
  refine B3_openAt p i hK h0.1 ⟨fun c => ⟨?_, rfl⟩, fun _ => ⟨fun c => ⟨?_, rfl⟩, fun _ => ⟨fun c => ⟨?_, rfl⟩, fun _ => ⟨by omega, by omega, ?_, rfl⟩⟩⟩⟩
  · rw [if_neg (by omega)]
  · rw [if_neg (by omega)]
  · rw [if_neg (by omega)]
  · rw [if_pos (by omega)]
end POINTS
