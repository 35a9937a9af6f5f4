/-! what there is to choose, on both sides -/
theorem amN_ok {F : Fm} {vals : Nat → Int} {first ch : Int} : ∀ (m i : Nat) (a : Nat → Int), ch ≤ i + m → (∀ k : Nat, i ≤ k → (k : Int) < ch → fWorth F (first + k) vals ≠ 999999) → (amN F vals first ch m i a).1 = ch ∧ ∀ k : Nat, (amN F vals first ch m i a).2 k = if i ≤ k ∧ (k : Int) < ch then fWorth F (first + k) vals else a k
  | 0, i, a, h1, h2 => ⟨rfl, fun k => by rw [if_neg (by omega)]; rfl⟩
  | m + 1, i, a, h1, h2 => by
    rw [amN]
    by_cases c : ch ≤ i
    · rw [if_pos c]
      exact ⟨rfl, fun k => by rw [if_neg (by omega)]⟩
    · rw [if_neg c, if_neg (h2 i (Nat.le_refl _) (by omega))]
      obtain ⟨g1, g2⟩ := amN_ok m (i + 1) (fup a i (fWorth F (first + i) vals)) (by omega) fun k k1 k2 => h2 k (by omega) k2
      refine ⟨g1, fun k => ?_⟩
      rw [g2]
      by_cases ck : k = i
      · subst ck
        rw [if_neg (by omega), if_pos (by omega), fup_self]
      · rw [fup_ne ck]
        by_cases c3 : i + 1 ≤ k ∧ (k : Int) < ch
        · rw [if_pos c3, if_pos (by omega)]
        · rw [if_neg c3, if_neg (by omega)]
theorem amN_bad {F : Fm} {vals : Nat → Int} {first ch : Int} : ∀ (m i : Nat) (a : Nat → Int) (k : Nat), i ≤ k → k < i + m → (k : Int) < ch → fWorth F (first + k) vals = 999999 → (amN F vals first ch m i a).1 = 0
  | 0, i, a, k, h1, h2, h3, h4 => by omega
  | m + 1, i, a, k, h1, h2, h3, h4 => by
    rw [amN, if_neg (by omega)]
    by_cases c : fWorth F (first + i) vals = 999999
    · rw [if_pos c]
    · rw [if_neg c]
      have : k ≠ i := fun q => by subst q; exact c h4
      exact amN_bad m (i + 1) _ k (by omega) (by omega) h3 h4
section CHOSEN
variable {M : ZMem} {P : Pg} {σ : Int → Int} {root price : Int} {e : Nat} {D : Int → Int} {S S' : Sr} {U U' : Tr} {b t : Int}
theorem EqE.val {F : Fm} {f x : Int} (h : EqE M F e f x) {v v' : Nat → Int} (hv : (∀ k, isV (v k)) ∧ ∀ k, k < 8 → v k = v' k) : (fWorth F f v = 999999 ∧ evN M v' e x = none) ∨ ∃ u, fWorth F f v = u ∧ evN M v' e x = some u ∧ -999 ≤ u ∧ u ≤ 999 := by
  have := h.2 v v' hv.1 hv.2
  cases ev : evN M v' e x with
  | none => rw [ev] at this; exact Or.inl ⟨this, rfl⟩
  | some u => rw [ev] at this; exact Or.inr ⟨u, this, rfl, evN_b ev⟩
theorem PR.k1 (h : PR M P σ root price e) {s : Int} (hs : gHas P s) (hk : gKind P s = 1) : mI M 2232 (σ s).toNat = 7 ∧ mI M 2233 (σ s).toNat = gDetail P s ∧ (0 ≤ gDetail P s ∧ gDetail P s < 8) ∧ EqE M P.2.1 e (gForm P s) (mI M 2234 (σ s).toNat) := by
  rcases (h.2.2.1 s hs).2.2.2.2 with q | q | q | q | q | q | q | q
  · exact q.2
  all_goals (exact absurd q.1 (by omega))
theorem PR.k2 (h : PR M P σ root price e) {s : Int} (hs : gHas P s) (hk : gKind P s = 2) : mI M 2232 (σ s).toNat = 10 ∧ mI M 2235 (σ s).toNat = gDetail P s ∧ EqE M P.2.1 e (gForm P s) (mI M 2233 (σ s).toNat) ∧ EqE M P.2.1 e (gForm P s + 1) (mI M 2234 (σ s).toNat) := by
  rcases (h.2.2.1 s hs).2.2.2.2 with q | q | q | q | q | q | q | q
  · exact absurd q.1 (by omega)
  · exact q.2
  all_goals (exact absurd q.1 (by omega))
theorem PR.k3 (h : PR M P σ root price e) {s : Int} (hs : gHas P s) (hk : gKind P s = 3) : mI M 2232 (σ s).toNat = 8 ∧ mI M 2233 (σ s).toNat = gDetail P s ∧ (0 ≤ gDetail P s ∧ gDetail P s < 8) ∧ EqE M P.2.1 e (gForm P s) (mI M 2234 (σ s).toNat) ∧ EqE M P.2.1 e (gForm P s + 1) (mI M 2235 (σ s).toNat) := by
  rcases (h.2.2.1 s hs).2.2.2.2 with q | q | q | q | q | q | q | q
  · exact absurd q.1 (by omega)
  · exact absurd q.1 (by omega)
  · exact q.2
  all_goals (exact absurd q.1 (by omega))
theorem PR.k4 (h : PR M P σ root price e) {s : Int} (hs : gHas P s) (hk : gKind P s = 4) : mI M 2232 (σ s).toNat = 9 ∧ mI M 2233 (σ s).toNat = gDetail P s ∧ (0 ≤ gDetail P s ∧ gDetail P s < 8) ∧ mI M 2235 (σ s).toNat = gForm P (s + 1) - gForm P s ∧ (1 ≤ mI M 2235 (σ s).toNat ∧ mI M 2235 (σ s).toNat ≤ 6) ∧ (∀ j : Nat, (j : Int) < mI M 2235 (σ s).toNat → (0 ≤ pk M (mI M 2234 (σ s).toNat) j ∧ pk M (mI M 2234 (σ s).toNat) j < 70200) ∧ EqE M P.2.1 e (gForm P s + j) (mI M 2233 (pk M (mI M 2234 (σ s).toNat) j).toNat)) ∧ pk M (mI M 2234 (σ s).toNat) (mI M 2235 (σ s).toNat).toNat = -1 := by
  rcases (h.2.2.1 s hs).2.2.2.2 with q | q | q | q | q | q | q | q
  · exact absurd q.1 (by omega)
  · exact absurd q.1 (by omega)
  · exact absurd q.1 (by omega)
  · exact q.2
  all_goals (exact absurd q.1 (by omega))
theorem PR.k5 (h : PR M P σ root price e) {s : Int} (hs : gHas P s) (hk : gKind P s = 5) : mI M 2232 (σ s).toNat = 11 ∧ mI M 2234 (σ s).toNat = gParts P s ∧ (1 ≤ gParts P s ∧ gParts P s ≤ 6) ∧ gLevel P s ≤ 5 ∧ ∀ k : Nat, (k : Int) < gParts P s → (0 ≤ pk M (mI M 2233 (σ s).toNat) k ∧ pk M (mI M 2233 (σ s).toNat) k < 70200) ∧ gHas P (gPartFirst P s k) ∧ gAround P (gPartFirst P s k) = s ∧ mI M 2233 (pk M (mI M 2233 (σ s).toNat) k).toNat = σ (gPartFirst P s k) := by
  rcases (h.2.2.1 s hs).2.2.2.2 with q | q | q | q | q | q | q | q
  · exact absurd q.1 (by omega)
  · exact absurd q.1 (by omega)
  · exact absurd q.1 (by omega)
  · exact absurd q.1 (by omega)
  · exact q.2
  all_goals (exact absurd q.1 (by omega))
theorem PR.k67 (h : PR M P σ root price e) {s : Int} (hs : gHas P s) (hk : gKind P s = 6 ∨ gKind P s = 7) : (gKind P s = 6 ∧ mI M 2232 (σ s).toNat = 13 ∨ gKind P s = 7 ∧ mI M 2232 (σ s).toNat = 14) ∧ (0 ≤ gDetail P s ∧ gDetail P s ≤ 9) ∧ gLevel P s ≤ 5 ∧ gHas P (gPartFirst P s 0) ∧ gAround P (gPartFirst P s 0) = s ∧ mI M 2233 (σ s).toNat = σ (gPartFirst P s 0) := by
  rcases (h.2.2.1 s hs).2.2.2.2 with q | q | q | q | q | q | q | q
  · exact absurd q.1 (by omega)
  · exact absurd q.1 (by omega)
  · exact absurd q.1 (by omega)
  · exact absurd q.1 (by omega)
  · exact absurd q.1 (by omega)
  · exact q
  all_goals (exact absurd q.1 (by omega))
theorem PR.k8 (h : PR M P σ root price e) {s : Int} (hs : gHas P s) (hk : gKind P s = 8) : mI M 2232 (σ s).toNat = 15 := by
  rcases (h.2.2.1 s hs).2.2.2.2 with q | q | q | q | q | q | q | q
  · exact absurd q.1 (by omega)
  · exact absurd q.1 (by omega)
  · exact absurd q.1 (by omega)
  · exact absurd q.1 (by omega)
  · exact absurd q.1 (by omega)
  · exact absurd q.1 (by omega)
  · exact q.2
  · exact absurd q.1 (by omega)
theorem PR.k9 (h : PR M P σ root price e) {s : Int} (hs : gHas P s) (hk : gKind P s = 9) : mI M 2232 (σ s).toNat = 16 ∧ mI M 2233 (σ s).toNat = gDetail P s ∧ (1 ≤ gDetail P s ∧ gDetail P s ≤ 9) ∧ gLevel P s ≤ 5 ∧ gHas P (gPartFirst P s 0) ∧ gAround P (gPartFirst P s 0) = s ∧ mI M 2234 (σ s).toNat = σ (gPartFirst P s 0) := by
  rcases (h.2.2.1 s hs).2.2.2.2 with q | q | q | q | q | q | q | q
  · exact absurd q.1 (by omega)
  · exact absurd q.1 (by omega)
  · exact absurd q.1 (by omega)
  · exact absurd q.1 (by omega)
  · exact absurd q.1 (by omega)
  · exact absurd q.1 (by omega)
  · exact absurd q.1 (by omega)
  · exact q.2
theorem PR.chN (h : PR M P σ root price e) {s : Int} (hs : gHas P s) (hk : gKind P s = 3 ∨ gKind P s = 4 ∨ gKind P s = 5) : chN M e (σ s) ∧ (mI M 2232 (σ s).toNat = 8 ∨ mI M 2232 (σ s).toNat = 9 ∨ mI M 2232 (σ s).toNat = 11) := by
  have hσ := (h.2.2.1 s hs).1
  rcases hk with k | k | k
  · obtain ⟨g1, g2, g3, g4, g5⟩ := h.k3 hs k
    exact ⟨⟨hσ, fun _ => ⟨g4.1, g5.1⟩, fun _ q => absurd g1 q⟩, Or.inl g1⟩
  · obtain ⟨g1, g2, g3, g4, g5, g6, g7⟩ := h.k4 hs k
    exact ⟨⟨hσ, fun q => by omega, fun _ _ => ⟨g5, fun j hj => ⟨(g6 j hj).1, (g6 j hj).2.1⟩, g7⟩⟩, Or.inr (Or.inl g1)⟩
  · obtain ⟨g1, _⟩ := h.k5 hs k
    exact ⟨⟨hσ, fun q => by omega, fun q => absurd g1 q⟩, Or.inr (Or.inr g1)⟩
/-- as many there, the same -/
theorem choices_eq (h : PR M P σ root price e) {s y : Int} {v v' L : Nat → Int} {j : Pt} (hs : gHas P s) (hk : gKind P s = 3 ∨ gKind P s = 4 ∨ gKind P s = 5) (hv : (∀ k, isV (v k)) ∧ ∀ k, k < 8 → v k = v' k) (hr : chR M v' e (σ s) y L) :
    ((cPrep P v s j).1 ≤ 0 ∧ y ≤ 0) ∨ ((cPrep P v s j).1 = y ∧ 0 < y ∧ y ≤ 3000 ∧ (gKind P s = 3 → L 0 = (cPrep P v s j).2.2.2 2 ∧ isV (L 0) ∧ L 0 + y ≤ 1000) ∧ (gKind P s = 4 → y ≤ 6 ∧ ∀ k : Nat, (k : Int) < y → L k = (cPrep P v s j).2.2.1 k ∧ isV (L k)) ∧ (gKind P s = 5 → y = gParts P s)) := by
  unfold chR at hr
  rcases hk with k | k | k
  · obtain ⟨g1, g2, g3, g4, g5⟩ := h.k3 hs k
    rw [if_neg (by omega), if_pos g1] at hr
    have ec : cPrep P v s j = if fWorth P.2.1 (gForm P s) v = 999999 ∨ fWorth P.2.1 (gForm P s + 1) v = 999999 then (0, j) else (fWorth P.2.1 (gForm P s + 1) v - fWorth P.2.1 (gForm P s) v + 1, (j.1, j.2.1, fup j.2.2 2 (fWorth P.2.1 (gForm P s) v))) := by
      unfold cPrep
      rw [if_neg (by omega), if_pos k]
    rw [ec]
    rcases g4.val hv with ⟨q1, q2⟩ | ⟨lo, q1, q2, q3⟩
    · rw [if_pos (Or.inl q1), hr.2 (Or.inl q2)]
      exact Or.inl ⟨Int.le_refl 0, by decide⟩
    · rcases g5.val hv with ⟨r1, r2⟩ | ⟨hi, r1, r2, r3⟩
      · rw [if_pos (Or.inr r1), hr.2 (Or.inr r2)]
        exact Or.inl ⟨Int.le_refl 0, by decide⟩
      · obtain ⟨y1, y2⟩ := hr.1 lo hi q2 r2
        rw [if_neg (by omega)]
        show (fWorth P.2.1 (gForm P s + 1) v - fWorth P.2.1 (gForm P s) v + 1 ≤ 0 ∧ _) ∨ (fWorth P.2.1 (gForm P s + 1) v - fWorth P.2.1 (gForm P s) v + 1 = y ∧ _)
        rw [q1, r1]
        by_cases c : y ≤ 0
        · exact Or.inl ⟨by omega, c⟩
        · refine Or.inr ⟨by omega, by omega, by omega, fun _ => ⟨?_, ?_, by omega⟩, fun q => by omega, fun q => by omega⟩
          · exact y2.trans (show fup j.2.2 2 lo 2 = lo from fup_self).symm
          · rw [y2]; exact q3
  · obtain ⟨g1, g2, g3, g4, g5, g6, g7⟩ := h.k4 hs k
    rw [if_neg (by omega), if_neg (by omega), g4] at hr
    rw [g4] at g5 g6
    have ec : cPrep P v s j = ((amN P.2.1 v (gForm P s) (gForm P (s + 1) - gForm P s) 6 0 j.2.1).1, (j.1, (amN P.2.1 v (gForm P s) (gForm P (s + 1) - gForm P s) 6 0 j.2.1).2, j.2.2)) := by
      unfold cPrep
      rw [if_neg (by omega), if_neg (by omega)]
    rw [ec]
    generalize gForm P (s + 1) - gForm P s = ch at *
    by_cases c : ∃ i : Nat, (i : Int) < ch ∧ evN M v' e (mI M 2233 (pk M (mI M 2234 (σ s).toNat) i).toNat) = none
    · obtain ⟨i, c1, c2⟩ := c
      refine Or.inl ⟨?_, by rw [hr.2 ⟨i, c1, c2⟩]; decide⟩
      have hw : fWorth P.2.1 (gForm P s + i) v = 999999 := by
        rcases (g6 i c1).2.val hv with ⟨q1, q2⟩ | ⟨u, q1, q2, q3⟩
        · exact q1
        · rw [c2] at q2; cases q2
      have := amN_bad (F := P.2.1) (vals := v) (first := gForm P s) (ch := ch) 6 0 j.2.1 i (Nat.zero_le _) (by omega) c1 hw
      show (amN P.2.1 v (gForm P s) ch 6 0 j.2.1).1 ≤ 0
      omega
    · have hall : ∀ i : Nat, (i : Int) < ch → evN M v' e (mI M 2233 (pk M (mI M 2234 (σ s).toNat) i).toNat) ≠ none := fun i hi q => c ⟨i, hi, q⟩
      obtain ⟨y1, y2⟩ := hr.1 hall
      have hw : ∀ i : Nat, (i : Int) < ch → fWorth P.2.1 (gForm P s + i) v = L i ∧ isV (L i) := fun i hi => by
        have := y2 i hi
        rcases (g6 i hi).2.val hv with ⟨q1, q2⟩ | ⟨u, q1, q2, q3⟩
        · rw [q2] at this; cases this
        · rw [q2] at this
          have : u = L i := Option.some.inj this
          rw [← this]
          exact ⟨q1, q3⟩
      obtain ⟨a1, a2⟩ := amN_ok (F := P.2.1) (vals := v) (first := gForm P s) (ch := ch) 6 0 j.2.1 (by omega) (fun i _ hi => by
        obtain ⟨w1, w2⟩ := hw i hi
        rw [w1]
        have w2 : -999 ≤ L i ∧ L i ≤ 999 := w2
        omega)
      refine Or.inr ⟨by rw [y1]; exact a1, by omega, by omega, fun q => by omega, fun _ => ⟨by omega, fun i hi => ?_⟩, fun q => by omega⟩
      obtain ⟨w1, w2⟩ := hw i (by omega)
      refine ⟨?_, w2⟩
      show L i = (amN P.2.1 v (gForm P s) ch 6 0 j.2.1).2 i
      rw [a2, if_pos ⟨Nat.zero_le _, by omega⟩, w1]
  · obtain ⟨g1, g2, g3, g4, g5⟩ := h.k5 hs k
    rw [if_pos g1] at hr
    have ec : cPrep P v s j = (gParts P s, j) := by
      unfold cPrep
      rw [if_pos k]
    rw [ec]
    exact Or.inr ⟨by rw [hr]; exact g2.symm, by omega, by omega, fun q => by omega, fun q => by omega, fun _ => by rw [hr, g2]⟩
end CHOSEN
