/-! one search on both sides: what the calls share -/
section SRCH
variable {K M : ZMem}
theorem RS_bud {P : Pg} {σ D : Int → Int} {root price : Int} {S : Sr} {U : Tr} {b t x : Int} (h : RS P σ root price D S U b t) (hx : 0 ≤ x ∧ x ≤ 2000) (h2 : sT S 2 + x ≤ 1100000) : RS P σ root price D (uC S 13 x) U x t := by
  obtain ⟨⟨b1, b2, b3, b4, b5, b6, b7, b8, b9, b10, b11, b12, b13, b14, b15⟩, ⟨n0, n1, n4, n5, n6, n7, n8, n9, n10, n11, n12, n13, n15, nb, na⟩, hRP, hP, hW⟩ := h
  obtain ⟨s1, s2, s3, s4, s5, s6, s7, s8, s9, s10, s11⟩ := b1
  exact ⟨⟨⟨s1, s2, s3, s4, s5, s6, s7, s8, hx, s10, s11⟩, b2, b3, b4, b5, b6, b7, b8, b9, h2, b11, b12, b13, b14, b15⟩, ⟨n0, n1, n4, n5, n6, n7, n8, n9, n10, n11, n12, n13, n15, rfl, na⟩, hRP, hP, hW⟩
theorem runQ_all {P : Pg} {till : Bool} {A : Type} {p : A → Prop} {q : A → Int → Sr → Prop} : ∀ (n : Nat) (S : Sr), (∀ a, p a → runQ P till n S (q a)) → runQ P till n S (fun x S' => ∀ a, p a → q a x S')
  | 0, S, h => fun a ha => h a ha
  | n + 1, S, h => fun j => by
    split
    · rename_i c
      refine runQ_all n _ fun a ha => ?_
      have := h a ha j
      rw [if_pos c] at this
      exact this
    · rename_i c
      intro a ha
      have := h a ha j
      rw [if_neg c] at this
      exact this
theorem runQ_and {P : Pg} {till : Bool} {q r : Int → Sr → Prop} : ∀ (n : Nat) (S : Sr), runQ P till n S q → runQ P till n S r → runQ P till n S (fun x S' => q x S' ∧ r x S')
  | 0, S, h, g => ⟨h, g⟩
  | n + 1, S, h, g => fun j => by
    have h := h j
    have g := g j
    split
    · rename_i c
      rw [if_pos c] at h g
      exact runQ_and n _ h g
    · rename_i c
      rw [if_neg c] at h g
      exact ⟨h, g⟩
theorem LaB.u0 {P : Pg} {S : Sr} {U : Tr} {T : Nat} {c : Int} (h : LaB M P S U T c) : U.1 0 = sC S 7 ∧ (sC S 7 = 1 ∨ sC S 7 = 2) ∧ U.1 1 = sC S 8 ∧ U.1 13 = sC S 11 ∧ (0 ≤ sC S 11 ∧ sC S 11 ≤ 6) ∧ U.1 15 = (sQ S).2 ∧ (0 ≤ (sQ S).2 ∧ (sQ S).2 ≤ 60) := by
  obtain ⟨σ, root, price, D, h1, h2, h3, h4⟩ := h
  rcases h4 with ⟨q, r⟩ | ⟨q, r⟩
  · exact ⟨r.2.1.1, Or.inl q, r.2.1.2.1, r.2.1.2.2.2.2.2.2.2.2.2.2.2.1, r.sb.2.2.2.2.2.2.1, r.2.1.2.2.2.2.2.2.2.2.2.2.2.2.1, r.sb.2.2.2.2.2.2.2.2.2.1⟩
  · exact ⟨r.2.1.1, Or.inr q, r.2.1.2.1, r.2.1.2.2.2.2.2.2.2.2.2.2.2.1, r.sb.2.2.2.2.2.2.1, r.2.1.2.2.2.2.2.2.2.2.2.2.2.2.1, r.sb.2.2.2.2.2.2.2.2.2.1⟩
theorem LaS.u0 {P : Pg} {S : Sr} {U : Tr} {T : Nat} {c : Int} (h : LaS M P S U T c) : U.1 0 = sC S 7 := by
  rcases h.2 with q | q
  · omega
  · exact q.u0.1
theorem vT_at {R : Pf} {s k : Nat} (hk : k < 17) : (vT R s).1 k = R (s + k) := by
  show tq 0 17 (fun k => R (s + k)) k = R (s + k)
  exact tq_at (a := 0) (n := 17) (f := fun k => R (s + k)) (by omega) hk
/-- one search has gone on, and maybe the one that is only thought -/
theorem LaR.srch {i : Nat} (h : LaR K M i) (hi : i < 512) {k : Nat} (hk : k < 4) : ∃ T : Nat, (T < 257 ∧ mI M 2230 6 = (T : Int)) ∧ LaK K M k T (2000 * i) ∧ (∀ M', KW K M' → Fr (fun q => bk (44 + 444 * k) 427 q ∨ bk 1803 427 q ∨ q = 2230 ∨ q = 2239 ∨ q = 2240) M M' → (∀ j, j < 16 → mI M' 2230 j = mI M 2230 j) → (∀ j, (j < 3849 * k ∨ 3849 * k + 3849 ≤ j) → j < 15396 → mI M' 2239 j = mI M 2239 j) → LaK K M' k T (2000 * (i + 1 : Nat)) → (∃ P S, At K M' 1803 P S ∧ (0 ≤ sC S 13 ∧ sC S 13 ≤ 2000)) → LaR K M' (i + 1)) ∧ (∃ P S, At K M 1803 P S ∧ (0 ≤ sC S 13 ∧ sC S 13 ≤ 2000)) ∧ ∀ k', k' < 4 → LaP M k' T := by
  obtain ⟨hK, tp, n, T, h1, ⟨h2, h2'⟩, ⟨h3, h3'⟩, h4, ⟨h5, h6⟩, h7, h8, h9⟩ := h
  refine ⟨T, ⟨by omega, h5⟩, h8 k hk, fun M' hK' F f30 f39 hkk hth => ?_, h9, h7⟩
  have hnd : ndB (T * 260) M M' := fun f j f1 f2 _ => F.i (by unfold bk; omega) j
  refine ⟨hK', tp, n, T, h1, ⟨?_, fun j hj => ?_⟩, ⟨?_, fun j hj => ?_⟩, ?_, ⟨?_, by omega⟩, fun k' hk' => ?_, fun k' hk' => ?_, hth⟩
  · rw [F.i (by unfold bk; omega)]; exact h2
  · rw [F.i (by unfold bk; omega)]; exact h2' j hj
  · rw [f30 1 (by omega)]; exact h3
  · rw [F.i (by unfold bk; omega)]; exact h3' j hj
  · rw [gG_fr F fun j hj q => by unfold bk at q; omega]; exact h4
  · rw [f30 6 (by omega)]; exact h5
  · exact (h7 k' hk').keep F (fun j hj q => by unfold bk at q; omega) (F.i (by unfold bk; omega) k') (F.i (by unfold bk; omega) k') hnd (Nat.le_refl _)
  · by_cases c : k' = k
    · rw [c]; exact hkk
    · exact (h8 k' hk').keep hK' F (fun j hj q => by unfold bk at q; omega) (fun j j1 j2 => f39 j (by omega) (by omega)) hnd (Nat.le_refl _) (by omega)
theorem n_isSearch {d k : Nat} (hd : 1 ≤ d) (hK : KW K M) (hk : k < 4) {Q : Int → ZMem → Prop} (q : Q 1 M) : Ci d q10_isSearch [zi k] M Q := by
  obtain ⟨d, rfl⟩ : ∃ e, d = e + 1 := ⟨d - 1, by omega⟩
  exact B10_isSearch k hK ⟨fun _ => q, fun c => absurd ⟨by omega, by omega⟩ c⟩
theorem n_isSearch_no {d : Nat} {a : Int} (hd : 1 ≤ d) (hK : KW K M) (hk : ¬ (0 ≤ a ∧ a ≤ 3)) {Q : Int → ZMem → Prop} (q : Q 0 M) : Ci d q10_isSearch [zi a] M Q := by
  obtain ⟨d, rfl⟩ : ∃ e, d = e + 1 := ⟨d - 1, by omega⟩
  exact B10_isSearch a hK ⟨fun c => absurd c hk, fun _ => q⟩
theorem n_isNone {d k : Nat} (hM : ModelAt K 2230) (hK : KW K M) (hk : k < 4) {Q : Int → ZMem → Prop} (q : Q (if mI M 2239 (3849 * k) = 0 then 1 else 0) M) : Ci d q10_isNone [zr 2230, zi k] M Q := by
  have e : ((3849 * (k : Int)) + 0).toNat = 3849 * k := by omega
  refine B10_isNone k hK hM ⟨⟨by omega, by omega⟩, ⟨by omega, by omega⟩, by omega, by omega, fun c => ?_, fun c => ?_⟩
  · rw [e] at c
    rw [if_neg c] at q; exact q
  · rw [e] at c
    rw [if_pos (Decidable.not_not.mp c)] at q; exact q
/-- a search is chosen -/
theorem n_choosesSearch {d k : Nat} (hM : ModelAt K 2230) (hK : KW K M) (hk : k < 5) (hd : 2 ≤ d) {U : Tr} (hU : vT (mI M 2239) (3849 * k) = U) (h14 : 0 ≤ U.1 14 ∧ U.1 14 ≤ 61) (h13 : 0 ≤ U.1 13 ∧ U.1 13 ≤ 6) {Q : ZMem → Prop} (q : ∀ M', RM K M M' (3849 * k) (U.1 13).toNat (mI M 2230 18) U → mI M' 2239 = mI M 2239 → Q M') : Cv d q10_choosesSearch [zr 2230, zi k] M Q := by
  obtain ⟨d, rfl⟩ : ∃ e, d = e + 1 := ⟨d - 1, by omega⟩
  obtain ⟨d, rfl⟩ : ∃ e, d = e + 1 := ⟨d - 1, by omega⟩
  have e16 : mI (sI M 2230 16 (3849 * (k : Int))) 2230 16 = 3849 * (k : Int) := mI_sI_eq
  have e13 : mI M 2239 (3849 * k + 13) = U.1 13 := by rw [← hU]; exact (vT_at (by decide)).symm
  refine B10_choosesSearch k hK hM ⟨⟨by omega, by omega⟩, by rw [e16]; exact ⟨by omega, by omega⟩, ?_⟩
  refine B10_level (hK.sI _ _ _) hM ?_
  rw [e16]
  have e13' : mI (sI M 2230 16 (3849 * (k : Int))) 2239 ((3849 * (k : Int)) + 13).toNat = U.1 13 := by
    rw [mI_sI, if_neg (by omega), show ((3849 * (k : Int)) + 13).toNat = 3849 * k + 13 by omega]; exact e13
  rw [e13']
  refine ⟨⟨by omega, by omega⟩, by omega, by omega, hK.sI _ _ _, ⟨by omega, by omega⟩, ⟨by omega, by omega⟩, ?_⟩
  have r39 : ∀ x, mI (sI (sI M 2230 16 (3849 * (k : Int))) 2230 17 x) 2239 = mI M 2239 := fun x => funext fun j => by rw [mI_sI, if_neg (by omega), mI_sI, if_neg (by omega)]
  refine q _ ⟨(hK.sI _ _ _).sI _ _ _, ?_, ?_, ?_, by rw [r39]; exact hU, h14, by omega, by omega, ((Fr.refl.sI (Or.inl rfl)).sI (Or.inl rfl)), fun j _ => by rw [r39], fun j hj => ?_⟩ (r39 _)
  · rw [mI_sI, if_neg (by omega), mI_sI_eq]; omega
  · rw [mI_sI_eq]; omega
  · rw [mI_sI, if_neg (by omega), mI_sI, if_neg (by omega)]
  · rw [mI_sI, if_neg (by omega), mI_sI, if_neg (by omega)]
end SRCH
