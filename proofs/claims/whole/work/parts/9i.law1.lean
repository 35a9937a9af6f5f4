/-! the law: what holds between the two sides before each call -/
/-- a program on both sides -/
def LaP (M : ZMem) (k T : Nat) : Prop := (mI M 2237 k = -1 ∧ mI M (27 + 444 * k) 10 = 0) ∨ (mI M 2237 k ≠ -1 ∧ mI M (27 + 444 * k) 10 ≠ 0 ∧ ∃ σ, PX M (gG M (27 + 444 * k)) σ (mI M 2237 k) (mI M 2238 k) (T * 260))
/-- a search that was begun, on both sides -/
def LaB (M : ZMem) (P : Pg) (S : Sr) (U : Tr) (T : Nat) (c : Int) : Prop :=
  ∃ σ root price D, PX M P σ root price (T * 260) ∧ DB D ∧ sT S 2 ≤ c ∧ ((sC S 7 = 1 ∧ RS P σ root price D S U (sC S 13) (sT S 2)) ∨ (sC S 7 = 2 ∧ RS P σ root price D (uC S 12 0) U (sC S 13) (sT S 2)))
/-- a search on both sides -/
def LaS (M : ZMem) (P : Pg) (S : Sr) (U : Tr) (T : Nat) (c : Int) : Prop :=
  (((∀ i, wB (S.1 i)) ∧ (sC S 10 = 0 ∨ sC S 10 = 1) ∧ V12 S) ∧ (0 ≤ sC S 13 ∧ sC S 13 ≤ 2000) ∧ 0 ≤ U.1 14 ∧ U.1 14 ≤ 61) ∧ ((U.1 0 = 0 ∧ sC S 7 = 0 ∧ (sQ S).2 = 0) ∨ LaB M P S U T c)
def LaK (K M : ZMem) (k T : Nat) (c : Int) : Prop := ∃ P S, At K M (44 + 444 * k) P S ∧ LaS M P S (vT (mI M 2239) (3849 * k)) T c
def LaR (K M : ZMem) (i : Nat) : Prop :=
  KW K M ∧ ∃ (tp : Nat → Int) (n T : Nat), Tp tp n ∧ (mI M 3 1 = n ∧ ∀ j, j < n → mI M 4 j = tp j) ∧ (mI M 2230 1 = n ∧ ∀ j, j < n → mI M 2231 j = tp j) ∧ DI (gG M 8) ∧ (mI M 2230 6 = T ∧ 2 * T + n ≤ i) ∧ (∀ k, k < 4 → LaP M k T) ∧ (∀ k, k < 4 → LaK K M k T (2000 * i)) ∧ ∃ P S, At K M 1803 P S ∧ (0 ≤ sC S 13 ∧ sC S 13 ≤ 2000)
section LAW1
variable {K M M' : ZMem}
theorem LaP.keep {X : Nat → Prop} {k T T' : Nat} (h : LaP M k T) (F : Fr X M M') (hX : ∀ j, j < 17 → ¬ X (27 + 444 * k + j)) (h7 : mI M' 2237 k = mI M 2237 k) (h8 : mI M' 2238 k = mI M 2238 k) (hnd : ndB (T * 260) M M') (hT : T ≤ T') : LaP M' k T' := by
  have e10 : mI M' (27 + 444 * k) 10 = mI M (27 + 444 * k) 10 := F.i (hX 0 (by decide)) 10
  unfold LaP
  rw [h7, h8, e10, gG_fr F hX]
  rcases h with q | ⟨q1, q2, σ, q3⟩
  · exact Or.inl q
  · exact Or.inr ⟨q1, q2, σ, (q3.keep hnd).le (by omega)⟩
theorem LaB.keep {P : Pg} {S : Sr} {U : Tr} {T T' : Nat} {c c' : Int} (h : LaB M P S U T c) (hnd : ndB (T * 260) M M') (hT : T ≤ T') (hc : c ≤ c') : LaB M' P S U T' c' := by
  obtain ⟨σ, root, price, D, h1, h2, h3, h4⟩ := h
  exact ⟨σ, root, price, D, (h1.keep hnd).le (by omega), h2, by omega, h4⟩
theorem LaS.keep {P : Pg} {S : Sr} {U : Tr} {T T' : Nat} {c c' : Int} (h : LaS M P S U T c) (hnd : ndB (T * 260) M M') (hT : T ≤ T') (hc : c ≤ c') : LaS M' P S U T' c' :=
  ⟨h.1, h.2.elim Or.inl fun q => Or.inr (q.keep hnd hT hc)⟩
theorem vT_row {s : Nat} (h : ∀ j, s ≤ j → j < s + 3849 → mI M' 2239 j = mI M 2239 j) (h61 : (mI M 2239 (s + 14)).toNat ≤ 61) : vT (mI M' 2239) s = vT (mI M 2239) s := by
  show (_, _, _, _) = (_, _, _, _)
  rw [tq_congr (f := fun j => mI M' 2239 (s + j)) fun j _ hj => h (s + j) (by omega) (by omega), ways_congr fun v hv => vW_congr fun j hj => h _ (by omega) (by omega), pts_congr (h _ (by omega) (by omega)) fun i hi => vP_congr fun j hj => h _ (by omega) (by omega), tq_congr (f := fun j => mI M' 2239 (s + 3129 + j)) fun j _ hj => h (s + 3129 + j) (by omega) (by omega)]
theorem LaS.h61 {P : Pg} {S : Sr} {R : Pf} {s T : Nat} {c : Int} (h : LaS M P S (vT R s) T c) : (R (s + 14)).toNat ≤ 61 := by
  have e : (vT R s).1 14 = R (s + 14) := by
    show tq 0 17 (fun k => R (s + k)) 14 = R (s + 14)
    exact tq_at (a := 0) (n := 17) (k := 14) (f := fun k => R (s + k)) (by omega) (by omega)
  have := h.1.2.2.2
  omega
theorem LaK.keep {X : Nat → Prop} {k T T' : Nat} {c c' : Int} (h : LaK K M k T c) (hK : KW K M') (F : Fr X M M') (hX : ∀ j, j < 427 → ¬ X (44 + 444 * k + j)) (hr : ∀ j, 3849 * k ≤ j → j < 3849 * k + 3849 → mI M' 2239 j = mI M 2239 j) (hnd : ndB (T * 260) M M') (hT : T ≤ T') (hc : c ≤ c') : LaK K M' k T' c' := by
  obtain ⟨P, S, h1, h2⟩ := h
  refine ⟨P, S, h1.frame hK F hX, ?_⟩
  rw [vT_row hr h2.h61]
  exact h2.keep hnd hT hc
/-- what no call of the tape or the programs touches -/
theorem LaR_mk {X : Nat → Prop} {i T T' : Nat} (hK' : KW K M') (F : Fr X M M') (h27 : ∀ q, 44 ≤ q → q < 2230 → (∀ k, k < 4 → ¬ (27 + 444 * k ≤ q ∧ q < 27 + 444 * k + 17)) → ¬ X q) (h39 : ¬ X 2239) (hnd : ndB (T * 260) M M') (hT : T ≤ T') (hS : ∀ k, k < 4 → LaK K M k T (2000 * i)) (hTh : ∃ P S, At K M 1803 P S ∧ (0 ≤ sC S 13 ∧ sC S 13 ≤ 2000)) : (∀ k, k < 4 → LaK K M' k T' (2000 * (i + 1 : Nat))) ∧ ∃ P S, At K M' 1803 P S ∧ (0 ≤ sC S 13 ∧ sC S 13 ≤ 2000) := by
  refine ⟨fun k hk => (hS k hk).keep hK' F (fun j hj => h27 _ (by omega) (by omega) fun k' hk' => by omega) (fun j _ _ => F.i h39 j) hnd hT (by omega), ?_⟩
  obtain ⟨P, S, h1, h2⟩ := hTh
  exact ⟨P, S, h1.frame hK' F fun j hj => h27 _ (by omega) (by omega) fun k' hk' => by omega, h2⟩
end LAW1
