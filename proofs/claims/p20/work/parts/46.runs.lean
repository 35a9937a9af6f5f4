/-! runs: to the next answer, to the end -/
def GoR (c : Nm) (st : Int) (S : Sr) (x : Int) (S' : Sr) : Prop :=
  (sT S' 2 + sC S' 13 = sT S 2 + sC S 13 ∧ sT S 2 ≤ sT S' 2) ∧ ((x = 1 ∧ Iv c st S' ∧ (sQ S').2 = (sQ S).2 + 1) ∨ (x = 2 ∧ Iv c st S' ∧ (sQ S').2 = (sQ S).2 ∧ sC S' 13 = 0) ∨ (x = 3 ∧ ∃ S1, S' = uC S1 7 2 ∧ Iv c st S1 ∧ Fin3 c st S1 ∧ (sQ S1).2 = (sQ S).2))
def AllR (c : Nm) (st : Int) (S : Sr) (x : Int) (S' : Sr) : Prop := x = 3 ∧ sT S 2 ≤ sT S' 2 ∧ ∃ S1, S' = uC S1 7 2 ∧ Iv c st S1 ∧ Fin3 c st S1
section RUNS
variable {c : Nm} {st : Int} {P : Pg} {S : Sr}
theorem runQ_mono {P : Pg} {till : Bool} {q r : Int → Sr → Prop} (h : ∀ x S', q x S' → r x S') : ∀ (n : Nat) (S : Sr), runQ P till n S q → runQ P till n S r
  | 0, S, k => h _ _ k
  | n + 1, S, k => fun j => by
    have kj := k j
    by_cases g : (mv P S j).1 = 0 ∨ ((mv P S j).1 = 1 ∧ till = false)
    · rw [if_pos g] at kj ⊢
      exact runQ_mono h n _ kj
    · rw [if_neg g] at kj ⊢
      exact h _ _ kj
theorem rW_pos {p : Pt} {r : List Pt} (hp : okP c p) (hm : p ∈ r) : 0 < rW c 1 1 1 r := by
  obtain ⟨i, hi⟩ := List.getElem?_of_mem hm
  have h1 := sum_erase (pWt c 1 1 1) r i p hi
  have h2 := (pT_A hp).2 1 1 1
  unfold rW
  omega
theorem cst_pos (h : Iv c st S) (hb : sC S 12 = 1 ∨ S.2.1.length ≠ 0) : 0 < cst c st S := by
  obtain ⟨⟨i1, ⟨i2, i3, i4, i5⟩, i6, i7, i8, i9⟩, -, -⟩ := h
  have key : 0 < zW c 1 1 1 S := by
    rcases i7 with q | ⟨q, ok, -⟩
    · have hne := hb.resolve_left fun k => by omega
      obtain ⟨p, hp⟩ := List.exists_mem_of_length_pos (Nat.pos_of_ne_zero hne)
      rw [zW_off q]
      exact rW_pos (i8 p hp).1 hp
    · rw [zW_on q]
      rcases ok with ⟨s, hs, hw⟩ | ⟨hw, -⟩
      · by_cases s3 : s = 3
        · subst s3
          rw [wWt_3 hw]; omega
        · rw [wWt_sh hw (by omega)]; omega
      · rw [wWt_e hw]; omega
  unfold cst
  omega
/-- one move -/
theorem mv_iv (hP : PF c P) (hB : NmB c) (h : Iv c st S) (j : Pt) : ((mv P S j).1 = 0 ∧ Gd c st S (mv P S j).2 0) ∨ ((mv P S j).1 = 1 ∧ Gd c st S (mv P S j).2 1) ∨ ((mv P S j).1 = 2 ∧ (mv P S j).2 = S ∧ sC S 13 ≤ 0 ∧ 0 < cst c st S) ∨ ((mv P S j).1 = 3 ∧ (mv P S j).2 = uC S 7 2 ∧ Fin3 c st S) := by
  obtain ⟨⟨i1, ⟨i2, i3, i4, i5⟩, i6, i7, i8, i9⟩, h2, h3⟩ := id h
  have hcur : cur S = 0 := by show (sC S 11).toNat = 0; rw [i2]; rfl
  unfold mv
  rcases i7 with q | ⟨q, ok, hd⟩
  · rw [if_pos q]
    by_cases hne : S.2.1.length = 0
    · have e : xGoBack P S = xGoDeeper S := by
        unfold xGoBack
        rw [if_neg (by omega), if_pos hne]
      rw [e]
      rcases mv_deep hB h q hne with k | k
      · exact Or.inl k
      · exact Or.inr (Or.inr (Or.inr k))
    · by_cases hb : 0 < sC S 13
      · exact Or.inl (mv_take hP hB h q hne hb)
      · have e : xGoBack P S = (2, S) := by
          unfold xGoBack
          rw [if_neg (by omega), if_neg hne, if_neg hb]
        rw [e]
        exact Or.inr (Or.inr (Or.inl ⟨rfl, rfl, by omega, cst_pos h (Or.inr hne)⟩))
  · rw [if_neg (by rw [q]; decide), hcur]
    rcases ok with ⟨s, hs, hw⟩ | ⟨hw, hq⟩
    · rw [if_neg (by rw [hw.1.1]; omega)]
      by_cases hb : 0 < sC S 13
      · rw [if_pos hb, hw.1.1]
        by_cases s3 : s = 3
        · subst s3
          have k3 : gKind P ((3 : Nat) : Int) = 2 := hP.kind (s := 3) (by decide)
          have e : xBegin P (xSpend S) ((3 : Nat) : Int) j = xTest P (xSpend S) 3 := by
            unfold xBegin
            rw [if_neg (by rw [k3]; decide), if_pos k3]
            rfl
          rw [e]
          exact Or.inl (mv_test hP hB h q hw hb)
        · have k3 := hP.kind (s := s) (by omega)
          have e : xBegin P (xSpend S) (s : Int) j = xChoose P (xSpend S) s j := by
            unfold xBegin
            rw [k3]
            by_cases s1 : s = 1
            · rw [if_pos s1, if_neg (by decide), if_neg (by decide), if_pos (Or.inr (Or.inl rfl))]
            · rw [if_neg s1, if_neg s3, if_neg (by decide), if_neg (by decide), if_pos (Or.inl rfl)]
          rw [e]
          exact Or.inl (mv_choose hP hB h q hw (by omega) hb j)
      · rw [if_neg hb]
        exact Or.inr (Or.inr (Or.inl ⟨rfl, rfl, by omega, cst_pos h (Or.inl q)⟩))
    · rw [if_pos hw.1.1]
      exact Or.inr (Or.inl (mv_end hP hB h q hw hq))
theorem iv_keep (hP : PF c P) (hB : NmB c) (S : Sr) (j : Pt) (h : Iv c st S) (hx : (mv P S j).1 = 0 ∨ (mv P S j).1 = 1) : Iv c st (mv P S j).2 := by
  rcases mv_iv hP hB h j with ⟨-, g⟩ | ⟨-, g⟩ | ⟨k, -⟩ | ⟨k, -⟩
  · exact g.1
  · exact g.1
  · omega
  · omega
theorem go_run (hP : PF c P) (hB : NmB c) : ∀ (n : Nat) (S : Sr), Iv c st S → cst c st S < n → runQ P true n S (GoR c st S)
  | 0, S, h, hn => absurd hn (Nat.not_lt_zero _)
  | n + 1, S, h, hn => fun j => by
    rcases mv_iv hP hB h j with ⟨k, g⟩ | ⟨k, g⟩ | ⟨k, k2, k3, -⟩ | ⟨k, k2, k3⟩
    · rw [if_pos (Or.inl k)]
      obtain ⟨g1, g2, g3, g4, g5, g6⟩ := g
      refine runQ_mono (fun x S' hq => ?_) n _ (go_run hP hB n _ g1 (by omega))
      obtain ⟨⟨q1, q2⟩, q3⟩ := hq
      refine ⟨⟨by omega, by omega⟩, ?_⟩
      rcases q3 with ⟨x1, x2, x3⟩ | ⟨x1, x2, x3, x4⟩ | ⟨x1, S1, x2, x3, x4, x5⟩
      · exact Or.inl ⟨x1, x2, by omega⟩
      · exact Or.inr (Or.inl ⟨x1, x2, by omega, x4⟩)
      · exact Or.inr (Or.inr ⟨x1, S1, x2, x3, x4, by omega⟩)
    · rw [if_neg (by rw [k]; rintro (q | q); exact absurd q (by decide); exact absurd q.2 (by decide)), k]
      obtain ⟨g1, g2, g3, g4, g5, g6⟩ := g
      exact ⟨⟨g4, g6⟩, Or.inl ⟨rfl, g1, g3⟩⟩
    · rw [if_neg (by rw [k]; rintro (q | q); exact absurd q (by decide); exact absurd q.1 (by decide)), k, k2]
      exact ⟨⟨rfl, Int.le_refl _⟩, Or.inr (Or.inl ⟨rfl, h, rfl, by have := h.1.2.2.1.1; omega⟩)⟩
    · rw [if_neg (by rw [k]; rintro (q | q); exact absurd q (by decide); exact absurd q.1 (by decide)), k, k2]
      exact ⟨⟨rfl, Int.le_refl _⟩, Or.inr (Or.inr ⟨rfl, S, rfl, h, k3, rfl⟩)⟩
theorem all_run (hP : PF c P) (hB : NmB c) : ∀ (n : Nat) (S : Sr), Iv c st S → cst c st S < n → (cst c st S : Int) ≤ sC S 13 → runQ P false n S (AllR c st S)
  | 0, S, h, hn, hb => absurd hn (Nat.not_lt_zero _)
  | n + 1, S, h, hn, hb => fun j => by
    have nx : ∀ e, Gd c st S (mv P S j).2 e → runQ P false n (mv P S j).2 (AllR c st S) := fun e g => by
      obtain ⟨g1, g2, g3, g4, g5, g6⟩ := g
      refine runQ_mono (fun x S' hq => ?_) n _ (all_run hP hB n _ g1 (by omega) (by omega))
      obtain ⟨q1, q2, q3⟩ := hq
      exact ⟨q1, by omega, q3⟩
    rcases mv_iv hP hB h j with ⟨k, g⟩ | ⟨k, g⟩ | ⟨k, k2, k3, k4⟩ | ⟨k, k2, k3⟩
    · rw [if_pos (Or.inl k)]
      exact nx _ g
    · rw [if_pos (Or.inr ⟨k, rfl⟩)]
      exact nx _ g
    · omega
    · rw [if_neg (by rw [k]; rintro (q | q); exact absurd q (by decide); exact absurd q.1 (by decide)), k, k2]
      exact ⟨rfl, Int.le_refl _, S, rfl, h, k3⟩
theorem Iv.c1000 (h : Iv c st S) : cst c st S ≤ 1000 := by
  have := h.2.2.2.2.1.1
  have := h.2.2.2.1.1
  omega
/-- another budget -/
theorem Iv.bud (h : Iv c st S) {b : Int} (hb : 0 ≤ b ∧ b ≤ 2000) : Iv c st (uC S 13 b) ∧ cst c st (uC S 13 b) = cst c st S := by
  obtain ⟨⟨i1, ⟨i2, i3, i4, i5⟩, i6, i7, i8, i9⟩, h2, h3⟩ := h
  exact ⟨⟨⟨i1, ⟨i2, i3, i4, i5⟩, hb, i7, i8, i9⟩, h2, h3⟩, rfl⟩
end RUNS
