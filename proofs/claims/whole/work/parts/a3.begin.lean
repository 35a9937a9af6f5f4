/-! begin on both sides -/
section BEGINS
variable {K M : ZMem}
/-- a search's numbers are cleared -/
theorem r_clear {d k : Nat} {a2 a3 : Int} (hM : ModelAt K 2230) (hk : k < 4) {Q : Int → ZMem → Prop} (fin : ∀ M1, KW K M1 → Fr (fun q => q = 2239) M M1 → (∀ j, mI M1 2239 j = if 3849 * k ≤ j ∧ j < 3849 * k + 17 then 0 else mI M 2239 j) → Xi (d + 1) q10_begin 56 [some (zr 2230), some (zi (k : Int)), some (zi a2), some (zi a3), some (zi (3849 * (k : Int) + 17))] [] M1 Q) : ∀ (r n : Nat) (M1 : ZMem) (l : Int), n + r = 17 → l = 3849 * (k : Int) + n → KW K M1 → Fr (fun q => q = 2239) M M1 → (∀ j, mI M1 2239 j = if 3849 * k ≤ j ∧ j < 3849 * k + n then 0 else mI M 2239 j) → Xi (d + 1) q10_begin 56 [some (zr 2230), some (zi (k : Int)), some (zi a2), some (zi a3), some (zi l)] [] M1 Q
  | 0, n, M1, l, e, hl, hK, F, hr => by
    obtain rfl : n = 17 := by omega
    rw [show l = 3849 * (k : Int) + 17 by omega]
    exact fin M1 hK F hr
  | r + 1, n, M1, l, e, hl, hK, F, hr => by
    refine B10_begin_56 k a2 a3 l hK hM ⟨⟨by omega, by omega⟩, ⟨by omega, by omega⟩, fun c => absurd c (by omega), fun _ => ⟨by omega, by omega, ⟨by omega, by omega⟩, ?_⟩⟩
    refine r_clear hM hk fin r (n + 1) _ (l + 1) (by omega) (by omega) (hK.sI _ _ _) (F.sI rfl) fun j => ?_
    rw [show l.toNat = 3849 * k + n by omega, row_up, hr]
    by_cases c : j = 3849 * k + n
    · rw [if_pos c, if_pos (by omega)]
    · rw [if_neg c]
      by_cases c2 : 3849 * k ≤ j ∧ j < 3849 * k + n
      · rw [if_pos c2, if_pos (by omega)]
      · rw [if_neg c2, if_neg (by omega)]
/-- the reference begins a search -/
theorem r_begin {d k p : Nat} {a3 : Int} (hM : ModelAt K 2230) (hk : k < 4) (hp : p < 4) (hd : 2 ≤ d) (hK : KW K M) {Q : Int → ZMem → Prop} (fin : ∀ M' U, RM K M M' (3849 * k) 0 (mI M 2230 18) (oAnew (oS (oS (oS (oS U 0 1) 1 a3) 2 (mI M 2237 p)) 3 (mI M 2238 p)) 0) → (∀ j, j < 17 → U.1 j = 0) → U.2.2.1 = [] → Q 1 M') : Xi (d + 1) q10_begin 56 [some (zr 2230), some (zi (k : Int)), some (zi (p : Int)), some (zi a3), some (zi (3849 * (k : Int)))] [] M Q := by
  refine r_clear hM hk (fun M1 k1 F1 g1 => ?_) 17 0 M _ rfl (by omega) hK Fr.refl fun j => by rw [if_neg (by omega)]
  have hU0 : ∀ j, j < 17 → (vT (mI M1 2239) (3849 * k)).1 j = 0 := fun j hj => by
    rw [vT_at hj, g1, if_pos (by omega)]
  have hU1 : (vT (mI M1 2239) (3849 * k)).2.2.1 = [] := by
    show (List.range (mI M1 2239 (3849 * k + 14)).toNat).map (vP (mI M1 2239) (3849 * k)) = []
    rw [g1, if_pos (by omega)]
    rfl
  generalize hU : vT (mI M1 2239) (3849 * k) = U at *
  have u13 := hU0 13 (by decide)
  have u14 := hU0 14 (by decide)
  refine B10_begin_56 k p a3 _ k1 hM ⟨⟨by omega, by omega⟩, ⟨by omega, by omega⟩, fun _ => ?_, fun c => absurd (Int.le_refl _) c⟩
  refine n_choosesSearch (k := k) hM k1 (by omega) hd hU (by omega) (by omega) fun M3 rm _ => ⟨rm.1, ?_⟩
  rw [u13, show (0 : Int).toNat = 0 from rfl] at rm
  have e0 := rm.2.1
  have m1 := rm.kS (i := mI M3 2230 16 + 0) (x := 1) (k := 0) (by rw [e0]; rfl) (by decide) (by decide)
  generalize sI M3 2239 (mI M3 2230 16 + 0).toNat 1 = N1 at *
  have e1 := m1.2.1
  have m2 := m1.kS (i := mI N1 2230 16 + 1) (x := a3) (k := 1) (by rw [e1]; rfl) (by decide) (by decide)
  generalize sI N1 2239 (mI N1 2230 16 + 1).toNat a3 = N2 at *
  have e2 := m2.2.1
  have f2 := m2.2.2.2.2.2.2.2.2.1
  have m3 := m2.kS (i := mI N2 2230 16 + 2) (x := mI N2 2237 p) (k := 2) (by rw [e2]; rfl) (by decide) (by decide)
  rw [Int.toNat_natCast]
  generalize sI N2 2239 (mI N2 2230 16 + 2).toNat (mI N2 2237 p) = N3 at *
  have e3 := m3.2.1
  have f3 := m3.2.2.2.2.2.2.2.2.1
  have m4 := m3.kS (i := mI N3 2230 16 + 3) (x := mI N3 2238 p) (k := 3) (by rw [e3]; rfl) (by decide) (by decide)
  generalize sI N3 2239 (mI N3 2230 16 + 3).toNat (mI N3 2238 p) = N4 at *
  rw [f2.i (by decide) p, F1.i (by decide) p, f3.i (by decide) p, F1.i (by decide) p] at m4
  refine ⟨⟨by omega, by omega⟩, by omega, by omega, ⟨by omega, by omega⟩, by omega, by omega, ⟨by omega, by omega⟩, by omega, by omega, by omega, by omega, ⟨by omega, by omega⟩, by omega, by omega, by omega, by omega, r_startsAnew (by omega) m4 hM fun M' m5 => ⟨m5.1, fin M' U ?_ hU0 hU1⟩⟩
  obtain ⟨z1, z2, z3, z4, z5, z6, z7, z8, z9⟩ := m5
  refine ⟨z1, z2, z3, z4.trans (F1.i (by decide) 18), z5, z6, z7, z8, (F1.wide fun q hq => Or.inr (Or.inl hq)).trans z9.1, fun j hj => ?_, fun j hj => (z9.2.2 j hj).trans (F1.i (by decide) j)⟩
  rw [z9.2.1 j hj, g1, if_neg (by omega)]
end BEGINS
