/-! cost, the reference's side; both calls where no text is read -/
section RCOST
variable {K M : ZMem} {tp : Nat → Int} {n N T : Nat}
theorem r_cost {d k : Nat} (hT : Tp tp n) (hM : ModelAt K 2230) (hTb : T < 270) (hN : n < N) (hd : N + 33 ≤ d) (hk : k < 4) (hK : KW K M) (htape : mI M 2230 1 = n ∧ ∀ j, j < n → mI M 2231 j = tp j) (hTx : mI M 2230 6 = T) {Q : Int → ZMem → Prop}
    (q3 : mI M 2237 k = -1 → Q (-2003) M)
    (q1 : mI M 2237 k ≠ -1 → (ee tp N 0).1 = 1 → (ee tp N 0).2.1 = n → ∀ M' x kk, RE K M M' T (T + 1) → 0 ≤ x → exB M' ((T + 1) * 260) kk x → kk ≤ 150 → (∀ vals, (∀ k, isV (vals k)) → evN M' vals kk x = lval vals (ee tp N 0).2.2) → (∀ j, mI M' 2237 j = mI M 2237 j) → (∀ j, mI M' 2238 j = if j = k then x else mI M 2238 j) → Q 1 M')
    (q0 : mI M 2237 k ≠ -1 → ¬ ((ee tp N 0).1 = 1 ∧ (ee tp N 0).2.1 = n) → ∀ M', RE K M M' T T → (∀ j, mI M' 2237 j = mI M 2237 j) → (∀ j, mI M' 2238 j = mI M 2238 j) → Q (-100 - (ee tp N 0).2.1) M') : Ci d q10_cost [zr 2230, zi k] M Q := by
  obtain ⟨d, rfl⟩ : ∃ e, d = e + 1 := ⟨d - 1, by omega⟩
  have hn150 := hT.1
  have hkk : ((k : Int)).toNat = k := Int.toNat_natCast k
  refine B10_cost k hK hM ⟨fun _ => ⟨by omega, by omega, fun c => ?_, fun c => ?_⟩, fun c => absurd ⟨by omega, by omega⟩ c⟩
  · rw [hkk] at c
    refine B10_starts hK hM ?_
    have a1 := NM_starts hK htape hTx
    have hnd1 : ndB (T * 260) M (sI (sI (sI (sI (sI M 2230 2 0) 2230 3 (-1)) 2230 4 0) 2230 5 0) 2230 7 0) := ndB.refl.sc.sc.sc.sc.sc
    refine ⟨a1.1, ?_⟩
    generalize sI (sI (sI (sI (sI M 2230 2 0) 2230 3 (-1)) 2230 4 0) 2230 5 0) 2230 7 0 = M1 at *
    obtain ⟨b1, b2, b3, b4, b5⟩ := ee_b hT hN (Nat.zero_le n)
    have f37 : ∀ {p m : Nat} {f op td : Int} {M3 : ZMem}, NM K M M3 tp n T p f op td m → ∀ a j, a = 2237 ∨ a = 2238 → mI M3 a j = mI M a j := fun h a j ha => h.2.2.2.1.i (by omega) j
    refine n_sum hT hM hTb hN (by omega) (Nat.zero_le n) (Nat.le_refl 0) a1 (fun k1 M2 m2 x a2 g2 l1 l2 k2 k3 => ⟨a2.1, ?_⟩) (fun k1 M2 p2 m2 x a2 g2 => ⟨a2.1, ?_⟩)
    · rw [Nat.add_zero] at g2
      have hnd3 : ndB (T * 260) M M2 := hnd1.trans g2 (Nat.le_refl _)
      refine n_ends hM (by omega) hn150 (by omega) a2 hnd3 (fun _ hp r => ⟨r.1, fun _ => ?_, fun c => absurd (by decide) c⟩) (fun M4 g eg hp hn4 r hi => ⟨r.1, fun c => ?_, fun c2 => ?_⟩) (fun c => absurd c (by decide))
      · obtain ⟨z1, z2, z3, z4, z5, z6⟩ := r
        have x1 : mI (sI (sI M2 2230 1 0) 2238 k x) 2230 6 = T := by rw [mI_sI, if_neg (by omega)]; exact z5
        rw [hkk, x1]
        refine ⟨by omega, by omega, ⟨by omega, by omega⟩, ?_⟩
        have hx0 : 0 ≤ x := by
          rw [show (ee tp N 0).2.1 - 0 = (ee tp N 0).2.1 - 1 + 1 by have := b5 k1; omega] at k2
          exact k2.1.1
        have hndx : ndB (T * 260 + m2) M2 (sI (sI (sI M2 2230 1 0) 2238 k x) 2230 6 ((T : Int) + 1)) := fun a j h1 h2 h3 => by
          rw [mI_sI, if_neg (by omega), mI_sI, if_neg (by omega), mI_sI, if_neg (by omega)]
        obtain ⟨k4, k5⟩ := exB_nd hndx (Nat.le_refl _) _ _ k2
        refine q1 c k1 hp _ x _ ⟨(z1.sI _ _ _).sI _ _ _, (z2.sI (Or.inr (by omega))).sI (Or.inl rfl), fun a j h1 h2 h3 => ?_, ?_, ?_, fun j hj => ?_⟩ hx0 (exB_mono (by omega) 0 _ k4).1 (by omega) (fun vals hv => (k5 vals).trans (k3 vals hv)) (fun j => ?_) (fun j => ?_)
        · rw [mI_sI, if_neg (by omega), mI_sI, if_neg (by omega)]; exact z3 a j h1 h2 h3
        · rw [mI_sI, if_neg (by omega), mI_sI, if_neg (by omega)]; exact z4
        · rw [mI_sI_eq]; omega
        · rw [mI_sI, if_neg (by omega), mI_sI, if_neg (by omega)]; exact z6 j hj
        · rw [mI_sI, if_neg (by omega), mI_sI, if_neg (by omega), mI_sI, if_neg (by omega)]
          exact f37 a2 _ _ (Or.inl rfl)
        · rw [mI_sI, if_neg (by omega), mI_sI]
          by_cases c : j = k
          · rw [if_pos ⟨rfl, c⟩, if_pos c]
          · rw [if_neg (fun q => c q.2), if_neg c, mI_sI, if_neg (by omega)]; exact f37 a2 _ _ (Or.inr rfl)
      · rw [if_neg (by decide)] at eg
        omega
      · rw [if_neg (by decide)] at eg
        rw [eg]
        exact q0 c (fun w => hp rfl w.2) M4 r (fun j => (hi 2237 j (by decide)).trans (f37 a2 _ _ (Or.inl rfl))) fun j => (hi 2238 j (by decide)).trans (f37 a2 _ _ (Or.inr rfl))
    · rw [Nat.add_zero] at g2
      have hnd3 : ndB (T * 260) M M2 := hnd1.trans g2 (Nat.le_refl _)
      refine n_ends hM (by omega) hn150 (by omega) a2 hnd3 (fun c => absurd c (by omega)) (fun M4 g' eg hp hn4 r hi => ⟨r.1, fun c => ?_, fun c2 => ?_⟩) (fun _ hp r => ⟨r.1, fun c => absurd c (by omega), fun _ => q0 c (fun w => k1 w.1) _ r (fun j => ?_) fun j => ?_⟩)
      · rw [if_pos (by omega)] at eg
        omega
      · rw [if_pos (by omega)] at eg
        rw [eg]
        exact q0 c (fun w => k1 w.1) M4 r (fun j => (hi 2237 j (by decide)).trans (f37 a2 _ _ (Or.inl rfl))) fun j => (hi 2238 j (by decide)).trans (f37 a2 _ _ (Or.inr rfl))
      · rw [mI_sI, if_neg (by omega)]; exact f37 a2 _ _ (Or.inl rfl)
      · rw [mI_sI, if_neg (by omega)]; exact f37 a2 _ _ (Or.inr rfl)
  · rw [hkk] at c
    exact q3 (Decidable.not_not.mp c)
theorem r_program_no {d : Nat} {k : Int} (hM : ModelAt K 2230) (hd : 1 ≤ d) (hK : KW K M) (hk : ¬ (0 ≤ k ∧ k ≤ 3)) {Q : Int → ZMem → Prop} (q : Q (-2001) M) : Ci d q10_program [zr 2230, zi k] M Q := by
  obtain ⟨d, rfl⟩ : ∃ e, d = e + 1 := ⟨d - 1, by omega⟩
  exact B10_program k hK hM ⟨fun c => absurd c hk, fun _ => q⟩
theorem r_cost_no {d : Nat} {k : Int} (hM : ModelAt K 2230) (hd : 1 ≤ d) (hK : KW K M) (hk : ¬ (0 ≤ k ∧ k ≤ 3)) {Q : Int → ZMem → Prop} (q : Q (-2001) M) : Ci d q10_cost [zr 2230, zi k] M Q := by
  obtain ⟨d, rfl⟩ : ∃ e, d = e + 1 := ⟨d - 1, by omega⟩
  exact B10_cost k hK hM ⟨fun c => absurd c hk, fun _ => q⟩
end RCOST
