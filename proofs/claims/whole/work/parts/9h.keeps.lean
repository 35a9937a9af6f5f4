/-! what a move keeps: steps and budget together, the stage -/
def VK (S : Sr) (r : Int × Sr) : Prop := sT r.2 2 + sC r.2 13 = sT S 2 + sC S 13 ∧ (r.1 ≤ 2 → sC r.2 7 = sC S 7) ∧ (2 < r.1 → sC r.2 7 = 2)
theorem vk_id {S S' : Sr} {x : Int} (hx : x ≤ 2) (h2 : sT S' 2 = sT S 2) (h13 : sC S' 13 = sC S 13) (h7 : sC S' 7 = sC S 7) : VK S (x, S') := ⟨by show sT S' 2 + sC S' 13 = _; omega, fun _ => h7, fun c => absurd c (by show ¬ 2 < x; omega)⟩
theorem vk_spend {S S' : Sr} {x : Int} (hx : x ≤ 2) (h2 : sT S' 2 = sT S 2 + 1) (h13 : sC S' 13 = sC S 13 - 1) (h7 : sC S' 7 = sC S 7) : VK S (x, S') := ⟨by show sT S' 2 + sC S' 13 = _; omega, fun _ => h7, fun c => absurd c (by show ¬ 2 < x; omega)⟩
theorem vk_over {S S' : Sr} {x : Int} (hx : 2 < x) (h2 : sT S' 2 = sT S 2) (h13 : sC S' 13 = sC S 13) (h7 : sC S' 7 = 2) : VK S (x, S') := ⟨by show sT S' 2 + sC S' 13 = _; omega, fun c => absurd hx (by have c : x ≤ 2 := c; omega), fun _ => h7⟩
theorem vk_drop {S : Sr} {since : Int} : sT (xDrop S since) 2 = sT S 2 ∧ sC (xDrop S since) 13 = sC S 13 ∧ sC (xDrop S since) 7 = sC S 7 := by
  unfold xDrop
  split
  · exact ⟨rfl, rfl, rfl⟩
  · exact ⟨rfl, rfl, rfl⟩
theorem vk_uL {S : Sr} {b : Bool} {l : List Pt} : sT (uL b S l) 2 = sT S 2 ∧ sC (uL b S l) 13 = sC S 13 ∧ sC (uL b S l) 7 = sC S 7 := by
  cases b
  · exact ⟨rfl, rfl, rfl⟩
  · exact ⟨rfl, rfl, rfl⟩
theorem vk_take {P : Pg} {S : Sr} {b : Bool} {i : Nat} {p : Pt} : sT (xTake P S b i p) 2 = sT S 2 ∧ sC (xTake P S b i p) 13 = sC S 13 ∧ sC (xTake P S b i p) 7 = sC S 7 := by
  unfold xTake
  cases b
  · exact ⟨rfl, rfl, rfl⟩
  · exact ⟨rfl, rfl, rfl⟩
theorem vk_back {P : Pg} {S : Sr} : VK S (xGoBack P S) := by
  unfold xGoBack
  split
  · unfold xGoBackInNot
    split
    · split
      · obtain ⟨t1, t2, t3⟩ := vk_take (P := P) (S := xSpend S) (b := true) (i := S.2.2.1.length - 1) (p := (S.2.2.1[S.2.2.1.length - 1]?).getD p0)
        exact vk_spend (by decide) t1 t2 t3
      · exact vk_id (by decide) rfl rfl rfl
    · exact vk_id (by decide) rfl rfl rfl
  split
  · unfold xGoDeeper
    split
    · exact vk_id (by decide) rfl rfl rfl
    · exact vk_over (by decide) rfl rfl rfl
  split
  · obtain ⟨t1, t2, t3⟩ := vk_take (P := P) (S := xTally2 (xSpend S) (unlN (S.1 (cur S)).2.1 ((S.2.1[(xChosen S).toNat]?).getD p0).1.2.1 8)) (b := false) (i := (xChosen S).toNat) (p := (S.2.1[(xChosen S).toNat]?).getD p0)
    exact vk_spend (by decide) t1 t2 t3
  · exact vk_id (by decide) rfl rfl rfl
theorem vk_through {P : Pg} {S : Sr} : VK S (xThrough P S) := by
  unfold xThrough
  split
  · exact vk_id (by decide) rfl rfl rfl
  split
  · exact vk_id (by decide) rfl rfl rfl
  split
  · exact vk_id (by decide) rfl rfl rfl
  · exact vk_over (by decide) rfl rfl rfl
theorem vk_endPart {P : Pg} {S : Sr} : VK S (xEndPart P S) := by
  unfold xEndPart
  split
  · exact vk_through
  split
  · split
    · exact vk_spend (by decide) rfl rfl rfl
    · exact vk_id (by decide) rfl rfl rfl
  split
  · obtain ⟨t1, t2, t3⟩ := vk_drop (S := S) (since := wMarkAt (S.1 (cur S)) (gLevel P ((S.1 (cur S)).1 4) + 1))
    exact vk_id (by decide) t1 t2 t3
  · exact vk_id (by decide) rfl rfl rfl
theorem vk_begin {P : Pg} {S : Sr} {s : Int} {j : Pt} : VK S (xBegin P S s j) := by
  unfold xBegin
  split
  · unfold xAssign
    split
    · exact vk_id (by decide) rfl rfl rfl
    · exact vk_id (by decide) rfl rfl rfl
  split
  · unfold xTest
    split
    · exact vk_id (by decide) rfl rfl rfl
    · exact vk_id (by decide) rfl rfl rfl
  split
  · unfold xChoose xChoose2
    split
    · exact vk_id (by decide) rfl rfl rfl
    split
    · exact vk_id (by decide) rfl rfl rfl
    unfold xKeep
    split
    · refine vk_id (by decide) ?_ ?_ ?_
      · split
        · exact vk_uL.1
        · exact vk_uL.1
      · split
        · exact vk_uL.2.1
        · exact vk_uL.2.1
      · split
        · exact vk_uL.2.2
        · exact vk_uL.2.2
    · exact vk_over (by decide) rfl rfl rfl
  split
  · unfold xBeginNot
    split
    · exact vk_id (by decide) rfl rfl rfl
    · exact vk_id (by decide) rfl rfl rfl
  split
  · obtain ⟨t1, t2, t3⟩ := vk_drop (S := S) (since := wMarkAt (S.1 (cur S)) (gLevel P s))
    exact vk_id (by decide) t1 t2 t3
  · exact vk_id (by decide) rfl rfl rfl
theorem vk_mv {P : Pg} {S : Sr} {j : Pt} : VK S (mv P S j) := by
  unfold mv
  split
  · exact vk_back
  split
  · exact vk_endPart
  split
  · obtain ⟨h1, h2, h3⟩ := vk_begin (P := P) (S := xSpend S) (s := (S.1 (cur S)).1 3) (j := j)
    refine ⟨?_, h2, h3⟩
    rw [h1]
    show sT S 2 + 1 + (sC S 13 - 1) = _
    omega
  · exact vk_id (by decide) rfl rfl rfl
/-- whether a way stands stays a bit -/
def V12 (S : Sr) : Prop := sC S 12 = 0 ∨ sC S 12 = 1
theorem v12_drop {S : Sr} {since : Int} : sC (xDrop S since) 12 = sC S 12 := by
  unfold xDrop
  split
  · rfl
  · rfl
theorem v12_mv {P : Pg} {S : Sr} {j : Pt} (h : V12 S) : V12 (mv P S j).2 := by
  unfold mv
  split
  · unfold xGoBack
    split
    · unfold xGoBackInNot
      split
      · split
        · exact Or.inr rfl
        · exact h
      · exact Or.inr rfl
    split
    · unfold xGoDeeper
      split
      · exact Or.inr rfl
      · exact h
    split
    · exact Or.inr rfl
    · exact h
  split
  · unfold xEndPart
    split
    · unfold xThrough
      split
      · exact Or.inl rfl
      split
      · exact Or.inl rfl
      split
      · exact Or.inl rfl
      · exact Or.inl rfl
    split
    · split
      · exact h
      · exact h
    split
    · have e : sC (xDrop S (wMarkAt (S.1 (cur S)) (gLevel P ((S.1 (cur S)).1 4) + 1))) 12 = sC S 12 := v12_drop
      have h : sC S 12 = 0 ∨ sC S 12 = 1 := h
      rw [← e] at h
      exact h
    · exact h
  split
  · unfold xBegin
    split
    · unfold xAssign
      split
      · exact Or.inl rfl
      · exact h
    split
    · unfold xTest
      split
      · exact Or.inl rfl
      · exact h
    split
    · unfold xChoose xChoose2
      split
      · exact Or.inl rfl
      split
      · exact Or.inl rfl
      unfold xKeep
      split
      · exact Or.inl rfl
      · exact h
    split
    · unfold xBeginNot
      split
      · exact h
      · exact Or.inl rfl
    split
    · have e : sC (xDrop (xSpend S) (wMarkAt ((xSpend S).1 (cur (xSpend S))) (gLevel P ((S.1 (cur S)).1 3)))) 12 = sC (xSpend S) 12 := v12_drop
      have h : sC (xSpend S) 12 = 0 ∨ sC (xSpend S) 12 = 1 := h
      rw [← e] at h
      exact h
    · exact h
  · exact h
/-- and so a run -/
theorem runQ_vk {P : Pg} {till : Bool} {q : Int → Sr → Prop} : ∀ (n : Nat) (S S0 : Sr), sT S 2 + sC S 13 = sT S0 2 + sC S0 13 → sC S 7 = 1 → V12 S → runQ P till n S q → runQ P till n S (fun x S' => q x S' ∧ V12 S' ∧ sT S' 2 + sC S' 13 = sT S0 2 + sC S0 13 ∧ (x ≤ 2 → sC S' 7 = 1) ∧ (2 < x → sC S' 7 = 2))
  | 0, S, S0, h1, h7, h12, h => ⟨h, h12, h1, fun _ => h7, fun c => absurd c (by decide)⟩
  | n + 1, S, S0, h1, h7, h12, h => fun j => by
    have h := h j
    obtain ⟨v1, v2, v3⟩ := vk_mv (P := P) (S := S) (j := j)
    split
    · rename_i c
      rw [if_pos c] at h
      have c2 : (mv P S j).1 ≤ 2 := by rcases c with c | c <;> omega
      exact runQ_vk n _ S0 (v1.trans h1) ((v2 c2).trans h7) (v12_mv h12) h
    · rename_i c
      rw [if_neg c] at h
      exact ⟨h, v12_mv h12, v1.trans h1, fun c2 => (v2 c2).trans h7, v3⟩
