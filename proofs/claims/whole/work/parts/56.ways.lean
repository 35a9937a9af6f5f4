/-! ways on both sides: on to the next, a value, into a bracket, out of one, another round -/
section WAYS2
variable {M : ZMem} {P : Pg} {σ : Int → Int} {root price : Int} {e : Nat} {stop D : Int} {w : Wy} {r : Pf}
theorem gHas_range {s : Int} (h : gHas P s) : 0 ≤ s ∧ s < 40 := ⟨h.1, h.2.2⟩
theorem PR.lvl (h : PR M P σ root price e) {s : Int} (hs : gHas P s) : gLevel P s = lvI P (gAround P s) := (h.2.2.1 s hs).2.1
theorem lvI_has {s : Int} (hs : gHas P s) : lvI P s = gLevel P s + 1 := by unfold lvI; rw [if_neg (by have := hs.1; omega)]
theorem lvI_ge (h : PB P) (s : Int) : 0 ≤ lvI P s := by
  unfold lvI
  split
  · omega
  · have := h.level s; omega
/-- frames keep when what is inside changes -/
theorem FRM_in (h : PR M P σ root price e) {w' : Wy} {r' : Pf} : ∀ (m : Nat) (c : Int), (∀ l : Int, 0 ≤ l → l < lvI P c → w'.2.2.1 l.toNat = w.2.2.1 l.toNat ∧ w'.2.2.2.1 (l + 1).toNat = w.2.2.2.1 (l + 1).toNat) → (∀ k, 10 ≤ k → k < 10 + 3 * m → r' k = r k) → FRM P σ w r stop D m c → FRM P σ w' r' stop D m c
  | 0, c, _, _, h0 => h0
  | m + 1, c, hl, hr, h0 => by
    obtain ⟨a, b, e1, f, g, g2, i⟩ := h0
    have hlv := h.1.level c
    have hc := lvI_has a
    obtain ⟨k1, k2⟩ := hl (gLevel P c) hlv.1 (by omega)
    have ha := h.lvl a
    refine ⟨a, b, by rw [hr _ (by omega) (by omega)]; exact e1, by rw [hr _ (by omega) (by omega), k1]; exact f, fun q => by rw [hr _ (by omega) (by omega), k2]; exact g q, by rw [hr _ (by omega) (by omega)]; exact g2, FRM_in h m _ (fun l l0 l1 => hl l l0 (by omega)) (fun k h1 h2 => hr k h1 (by omega)) i⟩
theorem FRM_lv (h : PR M P σ root price e) : ∀ (m : Nat) (c : Int), FRM P σ w r stop D m c → lvI P c = m + lvI P stop
  | 0, c, h0 => by
    have h0 : c = stop := h0
    rw [h0]; omega
  | m + 1, c, h0 => by
    obtain ⟨a, b, e1, f, g, g2, i⟩ := h0
    have := FRM_lv h m _ i
    have ha := h.lvl a
    have hc := lvI_has a
    omega
theorem WR_at {x y : Int} (hw : WR P σ stop D w r) (hxy : (x = -1 ∧ y = -1) ∨ (gHas P x ∧ gAround P x = w.1 4 ∧ y = σ x)) : WR P σ stop D (fup w.1 3 x, w.2) (fup r 8 y) := by
  obtain ⟨a, b, ⟨m, hm, c, d⟩, e1, f, g⟩ := hw
  refine ⟨fun k hk => by rw [fup_ne (by omega)]; exact a k hk, ?_, ⟨m, hm, by rw [fup_ne (by omega)]; exact c, ?_⟩, by rw [fup_ne (by omega)]; exact e1, by rw [fup_ne (by omega)]; exact f, by rw [fup_ne (by omega)]; exact g⟩
  · show (fup w.1 3 x 3 = -1 ∧ fup r 8 y 8 = -1) ∨ (gHas P (fup w.1 3 x 3) ∧ gAround P (fup w.1 3 x 3) = fup w.1 3 x 4 ∧ fup r 8 y 8 = σ (fup w.1 3 x 3))
    rw [fup_self, fup_self, fup_ne (by decide)]
    exact hxy
  · show FRM P σ _ _ stop D m (fup w.1 3 x 4)
    rw [fup_ne (by decide)]
    refine FRM_cell (w := w) (r := r) (by exact rfl) (by exact rfl) m _ (fun k h1 hk => ?_) d
    exact fup_ne (by omega)
theorem WR.around (hw : WR P σ stop D w r) (hs : gHas P (w.1 3)) : gAround P (w.1 3) = w.1 4 ∧ r 8 = σ (w.1 3) := by
  rcases hw.2.1 with ⟨b1, _⟩ | ⟨_, b2, b3⟩
  · rw [b1] at hs; exact absurd hs gHas_n1
  · exact ⟨b2, b3⟩
theorem PR.next (h : PR M P σ root price e) {s : Int} (hs : gHas P s) : (gBehind P s = -1 ∧ mI M 2236 (σ s).toNat = -1) ∨ (gHas P (gBehind P s) ∧ gAround P (gBehind P s) = gAround P s ∧ mI M 2236 (σ s).toNat = σ (gBehind P s)) := (h.2.2.1 s hs).2.2.2.1
theorem WR_on (h : PR M P σ root price e) (hw : WR P σ stop D w r) (hs : gHas P (w.1 3)) : WR P σ stop D (fup w.1 3 (gBehind P (w.1 3)), w.2) (fup r 8 (mI M 2236 (σ (w.1 3)).toNat)) := by
  refine WR_at hw ?_
  rcases h.next hs with q | ⟨h1, h2, h3⟩
  · exact Or.inl q
  · exact Or.inr ⟨h1, by rw [h2]; exact (hw.around hs).1, h3⟩
theorem WR_val {a : Int} {v : Int} (hw : WR P σ stop D w r) (ha : 0 ≤ a ∧ a < 8) : WR P σ stop D (wSetValue w a v) (fup r a.toNat v) := by
  obtain ⟨h1, b, ⟨m, hm, c, d⟩, e1, f, g⟩ := hw
  unfold wSetValue
  rw [if_pos ha]
  refine ⟨fun k hk => ?_, by rw [fup_ne (by omega)]; exact b, ⟨m, hm, by rw [fup_ne (by omega)]; exact c, ?_⟩, by rw [fup_ne (by omega)]; exact e1, by rw [fup_ne (by omega)]; exact f, by rw [fup_ne (by omega)]; exact g⟩
  · show fup r a.toNat v k = fup w.2.1 a.toNat v k
    by_cases q : k = a.toNat
    · rw [q, fup_self, fup_self]
    · rw [fup_ne q, fup_ne q]; exact h1 k hk
  · refine FRM_cell (w := w) (r := r) (by exact rfl) (by exact rfl) m _ (fun k k1 hk => ?_) d
    exact fup_ne (by omega)
/-- into a bracket -/
theorem WR_enter {s first x y rounds : Int} (h : PR M P σ root price e) (hw : WR P σ stop D w r) (hs : gHas P s) (ha : gAround P s = w.1 4) (hk : gKind P s = 5 ∨ gKind P s = 6 ∨ gKind P s = 9) (hl5 : gLevel P s ≤ 5) (hf : gHas P first ∧ gAround P first = s) (hx : x = σ s) (hy : y = σ first) (hr : rounds ≤ 100000) (hr9 : gKind P s = 9 → rounds = w.2.2.2.1 (gLevel P s + 1).toNat) : WR P σ stop D (wEnter w s first (gLevel P s + 1)) (wEnters r x y rounds) := by
  obtain ⟨h1, b, ⟨m, hm, c, d⟩, e1, f, g⟩ := hw
  have hlv := h.1.level s
  have hlI := h.lvl hs
  have hm6 := FRM_lv h m _ d
  have hst := lvI_ge h.1 stop
  have hlevel := h.1.level s
  have e9 : (r 9).toNat = m := by omega
  unfold wEnter wSetMark
  rw [if_pos ⟨by omega, by omega⟩]
  unfold wEnters
  rw [e9, hx, hy, c]
  have n8 : ∀ k, k ≠ 8 → k ≠ 31 → k ≠ 9 → k ≠ 10 + 3 * m + 2 → k ≠ 10 + 3 * m + 1 → k ≠ 10 + 3 * m → fup (fup (fup (fup (fup (fup r (10 + 3 * m) (σ s)) (10 + 3 * m + 1) (r 31)) (10 + 3 * m + 2) rounds) 9 ((m : Int) + 1)) 31 (r 32)) 8 (σ first) k = r k := fun k a1 a2 a3 a4 a5 a6 => by
    rw [fup_ne a1, fup_ne a2, fup_ne a3, fup_ne a4, fup_ne a5, fup_ne a6]
  have hmm : m ≤ 5 := by
    rw [ha] at hlI
    omega
  refine ⟨fun k hk => by rw [n8 k (by omega) (by omega) (by omega) (by omega) (by omega) (by omega)]; exact h1 k hk, ?_, ⟨m + 1, by omega, ?_, ?_⟩, ?_, ?_, ?_⟩
  · refine Or.inr ⟨?_, ?_, ?_⟩
    · show gHas P (fup (fup w.1 4 s) 3 first 3); rw [fup_self]; exact hf.1
    · show gAround P (fup (fup w.1 4 s) 3 first 3) = fup (fup w.1 4 s) 3 first 4
      rw [fup_self, fup_ne (by decide), fup_self]; exact hf.2
    · rw [fup_self]
      show σ first = σ (fup (fup w.1 4 s) 3 first 3)
      rw [fup_self]
  · rw [fup_ne (by omega), fup_ne (by omega), fup_self]; omega
  · show FRM P σ _ _ stop D (m + 1) (fup (fup w.1 4 s) 3 first 4)
    rw [fup_ne (by decide), fup_self]
    refine ⟨hs, hk, ?_, ?_, fun q => ?_, ?_, ?_⟩
    · rw [fup_ne (by omega), fup_ne (by omega), fup_ne (by omega), fup_ne (by omega), fup_ne (by omega), fup_self]
    · rw [fup_ne (by omega), fup_ne (by omega), fup_ne (by omega), fup_ne (by omega), fup_self, e1]
      show _ = fup w.2.2.1 (gLevel P s + 1).toNat _ (gLevel P s).toNat - D
      rw [fup_ne (by omega), hlI, ha]
    · rw [fup_ne (by omega), fup_ne (by omega), fup_ne (by omega), fup_self]
      exact hr9 q
    · rw [fup_ne (by omega), fup_ne (by omega), fup_ne (by omega), fup_self]
      exact hr
    · rw [ha]
      refine FRM_in (w := w) (r := r) h m _ (fun l l0 l1 => ⟨?_, rfl⟩) (fun k k1 k2 => n8 k (by omega) (by omega) (by omega) (by omega) (by omega) (by omega)) d
      show fup w.2.2.1 (gLevel P s + 1).toNat _ l.toNat = _
      rw [ha] at hlI
      rw [fup_ne (by omega)]
  · show _ = fup w.2.2.1 (gLevel P s + 1).toNat (fup (fup w.1 4 s) 3 first 5) (lvI P (fup (fup w.1 4 s) 3 first 4)).toNat - D
    rw [fup_ne (by omega), fup_self, fup_ne (show (4 : Nat) ≠ 3 by decide), fup_self, lvI_has hs, fup_self, fup_ne (show (5 : Nat) ≠ 3 by decide), fup_ne (show (5 : Nat) ≠ 4 by decide)]
    exact f
  · show _ = fup (fup w.1 4 s) 3 first 5 - D
    rw [fup_ne (show (5 : Nat) ≠ 3 by decide), fup_ne (show (5 : Nat) ≠ 4 by decide), n8 32 (by omega) (by omega) (by omega) (by omega) (by omega) (by omega)]
    exact f
  · show 0 ≤ fup _ 8 (σ first) 33 ∧ fup _ 8 (σ first) 33 ≤ fup (fup w.1 4 s) 3 first 6
    rw [fup_ne (show (6 : Nat) ≠ 3 by decide), fup_ne (show (6 : Nat) ≠ 4 by decide), n8 33 (by omega) (by omega) (by omega) (by omega) (by omega) (by omega)]
    exact g
/-- out of a bracket -/
theorem WR_leave (h : PR M P σ root price e) {m : Nat} (hw : WR P σ stop D w r) (h9 : r 9 = (m + 1 : Nat)) (hs : gHas P (w.1 4)) : WR P σ stop D (fup (fup w.1 4 (gAround P (w.1 4))) 3 (gBehind P (w.1 4)), w.2) (fup (fup (fup r 31 (r (10 + 3 * m + 1))) 9 (r 9 - 1)) 8 (mI M 2236 (σ (w.1 4)).toNat)) := by
  obtain ⟨h1, b, ⟨m', hm, c, d⟩, e1, f, g⟩ := hw
  have em : m' = m + 1 := by omega
  subst em
  obtain ⟨d1, d2, d3, d4, d5, d6, d7⟩ := d
  have hlI := h.lvl hs
  refine ⟨fun k hk => by rw [fup_ne (by omega), fup_ne (by omega), fup_ne (by omega)]; exact h1 k hk, ?_, ⟨m, by omega, ?_, ?_⟩, ?_, ?_, ?_⟩
  · show (fup (fup w.1 4 (gAround P (w.1 4))) 3 (gBehind P (w.1 4)) 3 = -1 ∧ _) ∨ (gHas P (fup (fup w.1 4 (gAround P (w.1 4))) 3 (gBehind P (w.1 4)) 3) ∧ gAround P (fup (fup w.1 4 (gAround P (w.1 4))) 3 (gBehind P (w.1 4)) 3) = fup (fup w.1 4 (gAround P (w.1 4))) 3 (gBehind P (w.1 4)) 4 ∧ _ = σ (fup (fup w.1 4 (gAround P (w.1 4))) 3 (gBehind P (w.1 4)) 3))
    rw [fup_self, fup_self, fup_ne (show (4 : Nat) ≠ 3 by decide), fup_self]
    exact h.next hs
  · rw [fup_ne (by omega), fup_self, h9]; omega
  · show FRM P σ _ _ stop D m (fup (fup w.1 4 (gAround P (w.1 4))) 3 (gBehind P (w.1 4)) 4)
    rw [fup_ne (show (4 : Nat) ≠ 3 by decide), fup_self]
    refine FRM_cell (w := w) (r := r) (by exact rfl) (by exact rfl) m _ (fun k k1 k2 => ?_) d7
    rw [fup_ne (by omega), fup_ne (by omega), fup_ne (by omega)]
  · show _ = w.2.2.1 (lvI P (fup (fup w.1 4 (gAround P (w.1 4))) 3 (gBehind P (w.1 4)) 4)).toNat - D
    rw [fup_ne (by omega), fup_ne (by omega), fup_self, fup_ne (show (4 : Nat) ≠ 3 by decide), fup_self, ← hlI]
    exact d4
  · show _ = fup (fup w.1 4 (gAround P (w.1 4))) 3 (gBehind P (w.1 4)) 5 - D
    rw [fup_ne (by omega), fup_ne (by omega), fup_ne (by omega), fup_ne (show (5 : Nat) ≠ 3 by decide), fup_ne (show (5 : Nat) ≠ 4 by decide)]
    exact f
  · show 0 ≤ fup _ 8 _ 33 ∧ fup _ 8 _ 33 ≤ fup (fup w.1 4 (gAround P (w.1 4))) 3 (gBehind P (w.1 4)) 6
    rw [fup_ne (by omega), fup_ne (by omega), fup_ne (by omega), fup_ne (show (6 : Nat) ≠ 3 by decide), fup_ne (show (6 : Nat) ≠ 4 by decide)]
    exact g
end WAYS2
