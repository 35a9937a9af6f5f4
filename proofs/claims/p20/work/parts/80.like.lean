/-! answers of two searches of one kind; how many unlike ones; in order by cost -/
section LIKES
variable {A B : An}
theorem aLike_iff {i j : Int} : ∀ n : Nat, aLike A i B j n = true ↔ ∀ v : Nat, v < n → aField A i v = aField B j v
  | 0 => ⟨fun _ v hv => absurd hv (Nat.not_lt_zero _), fun _ => rfl⟩
  | n + 1 => by
    rw [aLike, Bool.and_eq_true, aLike_iff n, decide_eq_true_iff]
    refine ⟨fun h v hv => ?_, fun h => ⟨fun v hv => h v (by omega), h n (by omega)⟩⟩
    by_cases c : v = n
    · rw [c]; exact h.2
    · exact h.1 v (by omega)
theorem aHas_iff {i : Int} : ∀ n : Nat, aHas A B i n = true ↔ ∃ k : Nat, k < n ∧ aLike A k B i 8 = true
  | 0 => ⟨fun h => (by cases h), fun ⟨k, h, _⟩ => absurd h (Nat.not_lt_zero _)⟩
  | n + 1 => by
    rw [aHas, Bool.or_eq_true, aHas_iff n]
    refine ⟨fun h => ?_, fun ⟨k, h1, h2⟩ => ?_⟩
    · rcases h with ⟨k, h1, h2⟩ | h
      · exact ⟨k, by omega, h2⟩
      · exact ⟨n, by omega, h⟩
    · by_cases c : k = n
      · subst c; exact Or.inr h2
      · exact Or.inl ⟨k, by omega, h2⟩
/-- like, if the first three are -/
theorem like_T (hA : aOK A) (hB : aOK B) {i j : Nat} (hi : (i : Int) < A.2) (hj : (j : Int) < B.2) : aLike A i B j 8 = true ↔ aT A i = aT B j := by
  rw [aLike_iff]
  have a3 := (hA.2 i hi).2.2
  have b3 := (hB.2 j hj).2.2
  refine ⟨fun h => ?_, fun h v hv => ?_⟩
  · have h0 := h 0 (by decide)
    have h1 := h 1 (by decide)
    have h2 := h 2 (by decide)
    refine Prod.ext ?_ (Prod.ext ?_ ?_)
    · rw [aT0, aT0]; exact h0
    · rw [aT1, aT1]; exact h1
    · rw [aT2, aT2]; exact h2
  · have e0 : aField A i 0 = aField B j 0 := by rw [← aT0, ← aT0, h]
    have e1 : aField A i 1 = aField B j 1 := by rw [← aT1, ← aT1, h]
    have e2 : aField A i 2 = aField B j 2 := by rw [← aT2, ← aT2, h]
    by_cases c : 3 ≤ v
    · rw [a3 v c hv, b3 v c hv]
    · obtain rfl | rfl | rfl : v = 0 ∨ v = 1 ∨ v = 2 := by omega
      · exact e0
      · exact e1
      · exact e2
theorem shared_all (hA : aOK A) (hB : aOK B) (hp : (aL A).Perm (aL B)) : aShared A B A.2.toNat = A.2 := by
  have key : ∀ n : Nat, (n : Int) ≤ A.2 → aShared A B n = n := fun n => by
    induction n with
    | zero => intro _; rfl
    | succ n ih =>
      intro hn
      rw [aShared, ih (by omega), if_pos]
      · omega
      · have hm : aT A n ∈ aL B := hp.subset (List.mem_of_getElem? (aL_get (A := A) (i := n) (by omega)))
        obtain ⟨k, hk, e⟩ := List.mem_map.mp hm
        have hk := List.mem_range.mp hk
        rw [aHas_iff]
        exact ⟨k, hk, (like_T hB hA (by omega) (by omega)).mpr e⟩
  have := key A.2.toNat (by have := hA.1; omega)
  rw [this]
  have := hA.1
  omega
/-- how many different ones -/
def dn : List T3 → Nat
  | [] => 0
  | x :: l => dn l + if x ∈ l then 0 else 1
theorem dn_perm {l l' : List T3} (h : l.Perm l') : dn l = dn l' := by
  induction h with
  | nil => rfl
  | @cons x l1 l2 h ih =>
    rw [dn, dn, ih]
    by_cases c : x ∈ l1
    · rw [if_pos c, if_pos (h.subset c)]
    · rw [if_neg c, if_neg (fun q => c (h.symm.subset q))]
  | swap x y l =>
    show dn l + (if x ∈ l then 0 else 1) + (if y ∈ x :: l then 0 else 1) = dn l + (if y ∈ l then 0 else 1) + (if x ∈ y :: l then 0 else 1)
    by_cases e : x = y
    · subst e; rfl
    · have e1 : (y ∈ x :: l) ↔ y ∈ l := ⟨fun h => (List.mem_cons.mp h).resolve_left fun q => e q.symm, fun h => List.mem_cons_of_mem _ h⟩
      have e2 : (x ∈ y :: l) ↔ x ∈ l := ⟨fun h => (List.mem_cons.mp h).resolve_left fun q => e q, fun h => List.mem_cons_of_mem _ h⟩
      by_cases c1 : x ∈ l
      · rw [if_pos c1, if_pos (e2.mpr c1)]
        by_cases c2 : y ∈ l
        · rw [if_pos c2, if_pos (e1.mpr c2)]
        · rw [if_neg c2, if_neg (fun q => c2 (e1.mp q))]
      · rw [if_neg c1, if_neg (fun q => c1 (e2.mp q))]
        by_cases c2 : y ∈ l
        · rw [if_pos c2, if_pos (e1.mpr c2)]
        · rw [if_neg c2, if_neg (fun q => c2 (e1.mp q))]
  | trans _ _ i1 i2 => exact i1.trans i2
theorem diff_dn (hA : aOK A) : aDiff A A.2.toNat = (dn (aL A) : Int) := by
  have key : ∀ n : Nat, (n : Int) ≤ A.2 → aDiff A n = (dn (((List.range n).map (aT A)).reverse) : Int) := fun n => by
    induction n with
    | zero => intro _; rfl
    | succ n ih =>
      intro hn
      rw [aDiff, ih (by omega), List.range_succ, List.map_append, List.reverse_append]
      show _ = ((dn (aT A n :: ((List.range n).map (aT A)).reverse) : Nat) : Int)
      rw [dn]
      have e : aHas A A n n = true ↔ aT A n ∈ ((List.range n).map (aT A)).reverse := by
        rw [aHas_iff, List.mem_reverse]
        refine ⟨fun ⟨k, h1, h2⟩ => ?_, fun h => ?_⟩
        · exact List.mem_map.mpr ⟨k, List.mem_range.mpr h1, (like_T hA hA (by omega) (by omega)).mp h2⟩
        · obtain ⟨k, h1, h2⟩ := List.mem_map.mp h
          have h1 := List.mem_range.mp h1
          exact ⟨k, h1, (like_T hA hA (by omega) (by omega)).mpr h2⟩
      by_cases c : aHas A A n n = true
      · rw [if_pos c, if_pos (e.mp c)]; rfl
      · rw [if_neg c, if_neg (fun q => c (e.mpr q))]; rfl
  rw [key A.2.toNat (by have := hA.1; omega)]
  congr 1
  exact dn_perm (List.reverse_perm _)
theorem ranked_val {p : Int} : ∀ (j n : Nat), aRanked A p j n ≠ -1 → ∃ x : Nat, n ≤ x ∧ x < n + j ∧ aRanked A p j n = x ∧ aRank A x A.2.toNat = p
  | 0, n, h => absurd rfl h
  | j + 1, n, h => by
    rw [aRanked] at h ⊢
    by_cases c : aRank A n A.2.toNat = p
    · rw [if_pos c]
      exact ⟨n, Nat.le_refl _, by omega, rfl, c⟩
    · rw [if_neg c] at h ⊢
      obtain ⟨x, h1, h2, h3, h4⟩ := ranked_val j (n + 1) h
      exact ⟨x, by omega, by omega, h3, h4⟩
theorem ranked_get {p : Int} (h0 : 0 ≤ p) (h1 : p < A.2) : ∃ x : Nat, (x : Int) < A.2 ∧ aRanked A p A.2.toNat 0 = x ∧ aRank A x A.2.toNat = p := by
  obtain ⟨x, -, x2, x3, x4⟩ := ranked_val A.2.toNat 0 (aRanked_in h0 h1)
  exact ⟨x, by omega, x3, x4⟩
/-- what stands at a lower place goes ahead -/
theorem ranked_lt {i j : Nat} (hi : (i : Int) < A.2) (hj : (j : Int) < A.2) (h : aRank A i A.2.toNat < aRank A j A.2.toNat) : aField A i 10 < aField A j 10 ∨ (aField A i 10 = aField A j 10 ∧ (i : Int) < j) := by
  by_cases c : aBef A i j
  · exact c
  · exfalso
    have ne : i ≠ j := fun e => by rw [e] at h; omega
    have c2 : aBef A j i := by
      unfold aBef at c ⊢
      omega
    have := (aRank_lt A c2 A.2.toNat).1
    omega
end LIKES
