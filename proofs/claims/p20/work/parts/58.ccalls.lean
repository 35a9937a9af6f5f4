/-! program and cost, the class's side -/
section CCALLS
variable {K M : ZMem} {tp : Nat → Int} {n N : Nat}
theorem c_programAt {d k : Nat} (hTop : TopAt K 2) (hK : KW K M) (hk : k < 4) {Q : Nat → ZMem → Prop} (q : Q (27 + 444 * k) M) : Cq d q9_programAt [zr 2, zi k] M Q := by
  have e25 : mS K 25 = (2, 4) := hTop.2.2.2.2.2.2.2.2.1
  have er := (hTop.2.2.2.2.2.2.2.2.2.2.2 k hk).1
  refine B9_programAt k hK hTop ⟨fun c => absurd c (by omega), fun _ => ⟨fun c => absurd c (by omega), fun _ => ⟨by omega, by omega, ?_⟩⟩⟩
  rw [Int.toNat_natCast, hK.2.2.2 25 k (by rw [e25]; decide), er]
  exact q
theorem c_programAt_no {d : Nat} {k : Int} (hTop : TopAt K 2) (hK : KW K M) (hk : ¬ (0 ≤ k ∧ k ≤ 3)) {Q : Nat → ZMem → Prop} (q : Q 0 M) : Cq d q9_programAt [zr 2, zi k] M Q :=
  B9_programAt k hK hTop ⟨fun _ => q, fun c => ⟨fun _ => q, fun c2 => absurd ⟨by omega, by omega⟩ hk⟩⟩
theorem c_searchAt {d k : Nat} (hTop : TopAt K 2) (hK : KW K M) (hk : k < 4) {Q : Nat → ZMem → Prop} (q : Q (44 + 444 * k) M) : Cq d q9_searchAt [zr 2, zi k] M Q := by
  have e26 : mS K 26 = (3, 4) := hTop.2.2.2.2.2.2.2.2.2.1
  have er := (hTop.2.2.2.2.2.2.2.2.2.2.2 k hk).2.2.1
  refine B9_searchAt k hK hTop ⟨fun c => absurd c (by omega), fun _ => ⟨fun c => absurd c (by omega), fun _ => ⟨by omega, by omega, ?_⟩⟩⟩
  rw [Int.toNat_natCast, hK.2.2.2 26 k (by rw [e26]; decide), er]
  exact q
theorem c_searchAt_no {d : Nat} {k : Int} (hTop : TopAt K 2) (hK : KW K M) (hk : ¬ (0 ≤ k ∧ k ≤ 3)) {Q : Nat → ZMem → Prop} (q : Q 0 M) : Cq d q9_searchAt [zr 2, zi k] M Q :=
  B9_searchAt k hK hTop ⟨fun _ => q, fun c => ⟨fun _ => q, fun c2 => absurd ⟨by omega, by omega⟩ hk⟩⟩
theorem c_program {d k : Nat} (hT : Tp tp n) (hN : n < N) (hTop : TopAt K 2) (hd : 7 ≤ d) (hk : k < 4) (hK : KW K M) (ht : mI M 3 1 = n ∧ ∀ j, j < n → mI M 4 j = tp j) (hD : DI (gG M 8)) {Q : Int → ZMem → Prop}
    (q1 : ∀ O B, (zGo tp N n 151 (zS0 O B (gG M 8))).1 = -1 → ∀ M', KW K M' → gG M' (27 + 444 * k) = zg (zGo tp N n 151 (zS0 O B (gG M 8))).2 → DI (gG M' 8) → PI (zGo tp N n 151 (zS0 O B (gG M 8))).2 → mI M' 3 1 = 0 → Fr (fun q => q = 3 ∨ (5 ≤ q ∧ q < 25) ∨ bk (27 + 444 * k) 17 q) M M' → Q (zsz (zGo tp N n 151 (zS0 O B (gG M 8))).2) M')
    (q0 : ∀ O B, ∀ M' (p : Nat), p ≤ 150 → (zGo tp N n 151 (zS0 O B (gG M 8))).1 = p → KW K M' → DI (gG M' 8) → mI M' 3 1 = 0 → Fr (fun q => q = 3 ∨ (5 ≤ q ∧ q < 25)) M M' → Q (-100 - p) M') : Ci d q9_program [zr 2, zi k] M Q := by
  obtain ⟨d, rfl⟩ : ∃ e, d = e + 1 := ⟨d - 1, by omega⟩
  have hR : ReaderAt K 5 := hTop.2.2.2.2.2.2.2.1
  have hTA : TapeAt K 3 := hTop.2.2.2.2.2.2.1
  have hA8 : ProgramAt K 8 := hR.2.2.2.2.2.2.2.2
  have hAk := (hTop.2.2.2.2.2.2.2.2.2.2.2 k hk).2.1
  have hn150 := hT.1
  refine B9_program k hK hTop (c_programAt hTop hK hk ⟨hK, fun _ => ?_, fun c => absurd (show 27 + 444 * k ≠ 0 by omega) c⟩)
  refine s_readProgram hT hN hR (by omega) hK ht hD (fun O B e1 M1 k1 g1 f1 p1 => ⟨k1, B7_clear 3 k1 hTA ⟨k1, fun _ => ⟨hAk, ?_⟩, fun c => absurd rfl c⟩⟩) (fun O B e1 M1 p cf ep => ⟨cf.1.1, B7_clear 3 cf.1.1 hTA ⟨cf.1.1, fun c => absurd c (by omega), fun _ => ⟨?_, ?_⟩⟩⟩)
  · have g8 : gG (sI M1 3 1 0) 8 = zg (zGo tp N n 151 (zS0 O B (gG M 8))).2 := by
      rw [gG_fr (X := fun q => q = 3) (Fr.refl.sI rfl) fun j hj q => by omega]; exact g1
    refine (s_gbecome (by omega) (Or.inr (by omega)) (k1.sI _ _ _) hAk hA8).mono fun M2 ⟨k2, f2, g2⟩ => ⟨k2, ?_⟩
    have e10 : mI M2 (27 + 444 * k) 10 = zsz (zGo tp N n 151 (zS0 O B (gG M 8))).2 := by
      show (gG M2 (27 + 444 * k)).2.2.2 = _
      rw [g2, g8]; rfl
    rw [e10]
    refine q1 O B e1 M2 k2 (g2.trans g8) ?_ p1 ?_ ?_
    · rw [gG_fr f2 fun j hj q => by unfold bk at q; omega, g8]
      exact p1.2.1
    · rw [f2.i (by unfold bk; omega)]; exact mI_sI_eq
    · have F1 : Fr (fun q => q = 3 ∨ (5 ≤ q ∧ q < 25) ∨ bk (27 + 444 * k) 17 q) M (sI M1 3 1 0) := (f1.wide fun q hq => Or.inr (Or.inl hq)).sI (Or.inl rfl)
      exact F1.trans (f2.wide fun q hq => Or.inr (Or.inr hq))
  · have := cf.1.2.2.2
    exact ⟨by omega, by omega⟩
  · have hp := cf.1.2.2.2
    refine q0 O B _ p (by omega) ep (cf.1.1.sI _ _ _) ?_ mI_sI_eq ((cf.2.1.wide fun q hq => Or.inr hq).sI (Or.inl rfl))
    rw [gG_fr (X := fun q => q = 3) (Fr.refl.sI rfl) fun j hj q => by omega]
    exact cf.2.2
theorem c_cost {d k : Nat} (hT : Tp tp n) (hN : n < N) (hTop : TopAt K 2) (hd : 7 ≤ d) (hk : k < 4) (hK : KW K M) (ht : mI M 3 1 = n ∧ ∀ j, j < n → mI M 4 j = tp j) (hD : DI (gG M 8)) {Q : Int → ZMem → Prop}
    (q3 : mI M (27 + 444 * k) 10 = 0 → Q (-2003) M)
    (q1 : mI M (27 + 444 * k) 10 ≠ 0 → (ee tp N 0).1 = 1 → (ee tp N 0).2.1 = n → ∀ M', KW K M' → gG M' (27 + 444 * k) = ((gG M (27 + 444 * k)).1, (gG M (27 + 444 * k)).2.1, fApp (fSt (fNo (gG M 8).2.2.1)) (ee tp N 0).2.2, (gG M (27 + 444 * k)).2.2.2) → DI (gG M' 8) → FA (fApp (fSt (fNo (gG M 8).2.2.1)) (ee tp N 0).2.2) → mI M' 3 1 = 0 → Fr (fun q => q = 3 ∨ (5 ≤ q ∧ q < 25) ∨ bk (27 + 444 * k + 13) 4 q) M M' → Q 1 M')
    (q0 : mI M (27 + 444 * k) 10 ≠ 0 → ¬ ((ee tp N 0).1 = 1 ∧ (ee tp N 0).2.1 = n) → ∀ M', KW K M' → DI (gG M' 8) → mI M' 3 1 = 0 → Fr (fun q => q = 3 ∨ (5 ≤ q ∧ q < 25)) M M' → Q (-100 - (ee tp N 0).2.1) M') : Ci d q9_cost [zr 2, zi k] M Q := by
  obtain ⟨d, rfl⟩ : ∃ e, d = e + 1 := ⟨d - 1, by omega⟩
  have hR : ReaderAt K 5 := hTop.2.2.2.2.2.2.2.1
  have hTA : TapeAt K 3 := hTop.2.2.2.2.2.2.1
  have hA8 : ProgramAt K 8 := hR.2.2.2.2.2.2.2.2
  have hAk := (hTop.2.2.2.2.2.2.2.2.2.2.2 k hk).2.1
  have hF21 : FormulasAt K 21 := hA8.2.2.2.2.2.2.2.2.2.2.2.2.2.2.2.2.2.2.2.2
  have hFk : FormulasAt K (27 + 444 * k + 13) := hAk.2.2.2.2.2.2.2.2.2.2.2.2.2.2.2.2.2.2.2.2
  have hn150 := hT.1
  refine B9_cost k hK hTop (c_programAt hTop hK hk ⟨hK, fun _ => ⟨hAk, fun c => ?_, fun c => q3 (Decidable.not_not.mp c)⟩, fun c => absurd (show 27 + 444 * k ≠ 0 by omega) c⟩)
  refine s_readCost hT hN hR (by omega) hK ht hD (fun e1 e2 M1 k1 g1 d1 f1 => ⟨k1, B7_clear 3 k1 hTA ⟨k1, fun _ => ?_, fun c => absurd rfl c⟩⟩) (fun e1 M1 cf => ⟨cf.1.1, B7_clear 3 cf.1.1 hTA ⟨cf.1.1, fun c => absurd c (by omega), fun _ => ⟨?_, ?_⟩⟩⟩)
  · have hFA : FA (gF M1 21) := d1.2.2.2.2.2
    rw [g1] at hFA
    have g21 : gF (sI M1 3 1 0) 21 = fApp (fSt (fNo (gG M 8).2.2.1)) (ee tp N 0).2.2 := by
      rw [gF_fr (X := fun q => q = 3) (Fr.refl.sI rfl) fun j hj q => by omega]; exact g1
    refine (s_fbecome (Or.inr (by omega)) (k1.sI _ _ _) hFk hF21).mono fun M2 ⟨k2, f2, g2⟩ => ⟨k2, ?_⟩
    have F1 : Fr (fun q => q = 3 ∨ (5 ≤ q ∧ q < 25) ∨ bk (27 + 444 * k + 13) 4 q) M (sI M1 3 1 0) := (f1.wide fun q hq => Or.inr (Or.inl hq)).sI (Or.inl rfl)
    have F : Fr (fun q => q = 3 ∨ (5 ≤ q ∧ q < 25) ∨ bk (27 + 444 * k + 13) 4 q) M M2 := F1.trans (f2.wide fun q hq => Or.inr (Or.inr hq))
    refine q1 c e1 e2 M2 k2 ?_ ?_ hFA ?_ F
    · show (_, _, _, _) = (_, _, _, _)
      have e9 : gF M2 (27 + 444 * k + 9) = gF M (27 + 444 * k + 9) := gF_fr F fun j hj q => by unfold bk at q; omega
      have e10 : mI M2 (27 + 444 * k) 10 = mI M (27 + 444 * k) 10 := F.i (by unfold bk; omega) 10
      rw [e9, e10, g2, g21]
      refine Prod.ext (funext fun j => ?_) rfl
      show (if j < 7 then tq 0 40 (mI M2 (27 + 444 * k + 1 + j)) else if j = 7 then tq 0 240 (mI M2 (27 + 444 * k + 8)) else fun _ => 0) = (if j < 7 then tq 0 40 (mI M (27 + 444 * k + 1 + j)) else if j = 7 then tq 0 240 (mI M (27 + 444 * k + 8)) else fun _ => 0)
      by_cases c7 : j < 7
      · rw [if_pos c7, if_pos c7]
        exact tq_congr fun u _ _ => F.i (by unfold bk; omega) u
      · rw [if_neg c7, if_neg c7]
        by_cases c8 : j = 7
        · rw [if_pos c8, if_pos c8]
          exact tq_congr fun u _ _ => F.i (by unfold bk; omega) u
        · rw [if_neg c8, if_neg c8]
    · rw [gG_fr f2 fun j hj q => by unfold bk at q; omega, gG_fr (X := fun q => q = 3) (Fr.refl.sI rfl) fun j hj q => by omega]
      exact d1
    · rw [f2.i (by unfold bk; omega)]; exact mI_sI_eq
  · have := cf.1.2.2.2
    exact ⟨by omega, by omega⟩
  · refine q0 c e1 _ (cf.1.1.sI _ _ _) ?_ mI_sI_eq ((cf.2.1.wide fun q hq => Or.inr hq).sI (Or.inl rfl))
    rw [gG_fr (X := fun q => q = 3) (Fr.refl.sI rfl) fun j hj q => by omega]
    exact cf.2.2
end CCALLS
