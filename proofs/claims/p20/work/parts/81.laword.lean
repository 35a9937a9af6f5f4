/-! the law: answers in order, and the numbers of the search -/
section LAWORD
variable {q : Nat × (Nat → Int)} {d : Nat} {K M : ZMem} {c : Nm} {P : Pg} {S : Sr} {n0 k : Nat} {st N w stp : Int}
theorem Dn.ok (h : Dn c st S) : aOK (sQ S) := by
  obtain ⟨S1, e1, e2, -⟩ := h
  have : sQ S = sQ S1 := by rw [e1]; rfl
  rw [this]
  exact e2.2.1.1
theorem law_ord (hL : LK K n0) (hn0 : 2233 ≤ n0) (hq : ∀ j, inR (q.2 j)) (hq1 : q.1 ≤ 260) (hB : NmB c) (hd : 7 ≤ d) (hk : k < 4) (hN : N = ((AL c).length : Int)) (hS : Dn c st S) (h : SrA K M k P S) (kont : XL q (d + 1) 1248 (LD c N w st k [none, none, none, none, none, none, none, none]) [] M) : ∀ (r i : Nat), i + r = (AL c).length + 1 → 1 ≤ i → XL q (d + 1) 1166 (LD c N w st k [some (zi N), none, none, some (zi i), none, none, none, none]) [] M := by
  have hT := hL.1
  have hSr := hL.sr
  have h9 := hL.2.2.2.2.2.1 (by omega)
  have h10 := hL.2.2.2.2.2.2.1 (by omega)
  have h11 := hL.2.2.2.2.2.2.2 (by omega)
  have hK := h.1
  have c7 := hS.c7
  have hn := hS.n
  have h54 := AL_len hB
  have hn60 : 0 ≤ (sQ S).2 ∧ (sQ S).2 ≤ 60 := ⟨by omega, by omega⟩
  intro r
  induction r with
  | zero =>
    intro i e hi
    exact BL_1166 _ _ _ _ _ _ _ _ hq hq1 hK hT h9 h10 h11 ⟨fun _ => kont, fun c => absurd (by omega) c⟩
  | succ r ih =>
    intro i e hi
    refine BL_1166 _ _ _ _ _ _ _ _ hq hq1 hK hT h9 h10 h11 ⟨fun _ => kont, fun c1 => ⟨⟨by omega, by omega⟩, ?_⟩⟩
    obtain ⟨x, x1, x2, x3⟩ := ranked_get (A := sQ S) (p := (i : Int) - 1) (by omega) (by omega)
    obtain ⟨y, y1, y2, y3⟩ := ranked_get (A := sQ S) (p := (i : Int)) (by omega) (by omega)
    have hxy := ranked_lt x1 y1 (by rw [x3, y3]; omega)
    refine c_ordered hT hSr (by omega) hk h (by omega) hn60 (by omega) ⟨hK, ?_⟩
    rw [x2]
    refine BL_1185 _ _ _ _ _ _ _ _ _ hq hq1 hK hT h9 h10 h11 (c_ordered hT hSr (by omega) hk h (by omega) hn60 (by omega) ⟨hK, ?_⟩)
    rw [y2]
    refine BL_1195 _ _ _ _ _ _ _ _ _ _ hq hq1 hK hT h9 h10 h11 (c_answer hT hSr (by omega) hk h (by omega) (by omega) (by decide) (fun _ => ⟨hK, ?_⟩) (fun c => absurd x1 c))
    refine BL_1207 _ _ _ _ _ _ _ _ _ _ _ hq hq1 hK hT h9 h10 h11 (c_answer hT hSr (by omega) hk h (by omega) (by omega) (by decide) (fun _ => ⟨hK, ?_⟩) (fun c => absurd y1 c))
    have nx : XL q (d + 1) 1242 (LD c N w st k [some (zi N), none, none, some (zi i), none, none, none, none]) [] M := by
      refine BL_1242 _ _ _ _ _ _ _ _ hq hq1 hK hT h9 h10 h11 ⟨⟨by omega, by omega⟩, ?_⟩
      exact ih (i + 1) (by omega) (by omega)
    exact BL_1219 _ _ _ _ _ _ _ _ _ _ _ _ hq hq1 hK hT h9 h10 h11 ⟨fun c => absurd c (by omega), fun _ => ⟨fun _ => nx, fun c1 => ⟨fun _ => nx, fun c2 => by omega⟩⟩⟩
theorem sum_w (p : Int) : ∀ (r j : Nat), 4 * r + ((List.range' j r).map fun k : Nat => 3 * (p + k + 3).toNat).sum = ((List.range' j r).map fun k : Nat => 1 + (0 + 3 * (1 + (0 + (p + k + 3).toNat * (1 + 2 * 0))))).sum
  | 0, j => rfl
  | r + 1, j => by
    have ih := sum_w p r (j + 1)
    rw [List.range'_succ, List.map_cons, List.sum_cons, List.map_cons, List.sum_cons]
    omega
/-- behind the answers, to the next strategy -/
theorem law_nums (hL : LK K n0) (hn0 : 2233 ≤ n0) (hq : ∀ j, inR (q.2 j)) (hq1 : q.1 ≤ 260) (hB : NmB c) (hd : 7 ≤ d) (hk : k < 4) (hN : N = ((AL c).length : Int)) (hst : 0 ≤ st ∧ st ≤ 5) (hw : w = ((((List.range' 0 (nmQ c - nmP c + 1).toNat).map fun k : Nat => 3 * (nmP c + k + 3).toNat).sum : Nat) : Int)) (hS : Dn c st S) (h : SrA K M k P S) (kont : XL q (d + 1) 1370 (LC c N w st) [] M) : XL q (d + 1) 1248 (LD c N w st k [none, none, none, none, none, none, none, none]) [] M := by
  have hT := hL.1
  have hSr := hL.sr
  have h9 := hL.2.2.2.2.2.1 (by omega)
  have h10 := hL.2.2.2.2.2.2.1 (by omega)
  have h11 := hL.2.2.2.2.2.2.2 (by omega)
  have hK := h.1
  have c7 := hS.c7
  have hn := hS.n
  have h54 := AL_len hB
  obtain ⟨S1, e1, ⟨⟨i1, ⟨i2, i3, i4, i5⟩, i6, i7, i8, i9⟩, v2, ⟨t1, t2, t3, t4, t5, t6⟩⟩, f1, f2, f3, f4⟩ := hS
  have r8 : sC S 8 = st := by rw [e1]; exact i5
  have r9 : sC S 9 = sC S1 9 := by rw [e1]; rfl
  have rl : S.2.1 = [] := by rw [e1]; exact f1
  have rT : ∀ j, sT S j = sT S1 j := fun j => by rw [e1]; rfl
  have of : ∀ (a : Int) (Q : Int → ZMem → Prop), 1 ≤ a ∧ a ≤ 9 → Q (xTell S a) M → Ci d q9_of [zr 2, zi k, zi a] M Q := fun a Q ha hQ => c_of hT hSr (by omega) hk h (by omega) ha hQ
  have x9 : xTell S 9 = if st = 5 then sC S1 9 else -2002 := by
    show (if sC S 8 = 5 then sC S 9 else -2002) = _
    rw [r8, r9]
  have x3 : xTell S 3 = 0 := by
    show (S.2.1.length : Int) = 0
    rw [rl]; rfl
  have x7 : xTell S 7 = 0 := (rT 7).trans (t1 7 (by decide) (by decide) (by decide) (by decide) (by decide))
  have x4 : xTell S 4 = sT S1 4 := rT 4
  have x5 : xTell S 5 = sT S1 5 := rT 5
  have x6 : xTell S 6 = sT S1 6 := rT 6
  have nx : XL q (d + 1) 1297 (LD c N w st k [none, none, none, none, none, none, none, none]) [] M := by
    refine BL_1297 _ _ _ _ _ _ hq hq1 hK hT h9 h10 h11 ⟨fun _ => kont, fun c5 => ?_⟩
    have n5 : st ≠ 5 := by omega
    have hz : zW c 0 1 0 S1 = 0 := by rw [zW_off f4, f1]; rfl
    have h6 := t6 n5
    rw [hz] at h6
    have hwt : wt c 0 1 0 3 f0 = 4 * (nmQ c - nmP c + 1).toNat + ((List.range' 0 (nmQ c - nmP c + 1).toNat).map fun k : Nat => 3 * (nmP c + k + 3).toNat).sum := by
      rw [wt_3, sum_w]; exact Nat.zero_add _
    have b2 := hB.2.1
    have b1 := hB.1
    refine of 3 _ (by decide) ⟨hK, fun c => absurd x3 c, fun _ => of 7 _ (by decide) ⟨hK, fun c => absurd x7 c, fun _ => of 4 _ (by decide) ⟨hK, of 5 _ (by decide) ⟨hK, fun c => ?_, fun _ => ⟨fun _ => kont, fun c => of 6 _ (by decide) ⟨hK, ⟨by omega, by omega⟩, ⟨by omega, by omega⟩, ⟨by omega, by omega⟩, ⟨by omega, by omega⟩, fun _ => kont, fun c => ?_⟩⟩⟩⟩⟩⟩
    · rw [x4, x5] at c; omega
    · rw [x6] at c
      exact c (by omega)
  refine BL_1248 _ _ _ _ _ _ hq hq1 hK hT h9 h10 h11 ⟨fun c5 => ⟨fun _ => nx, fun _ => of 9 _ (by decide) ⟨hK, fun _ => nx, fun c => absurd (by rw [x9, if_neg c5]) c⟩⟩, fun c5 => of 9 _ (by decide) ⟨hK, fun c0 => ⟨fun c => ?_, fun _ => ⟨fun _ => nx, fun c => absurd (by omega) c⟩⟩, fun c0 => ⟨fun c => ?_, fun _ => ⟨fun _ => nx, fun c => absurd (by omega) c⟩⟩⟩⟩
  · rw [x9, if_pos (Decidable.not_not.mp c5)] at c
    omega
  · have s5 := Decidable.not_not.mp c5
    rw [x9, if_pos s5] at c
    have : sC S1 9 = 3 := f3 s5 fun q => by rw [q] at hN; rw [hN] at c0; exact c0 (by decide)
    omega
end LAWORD
