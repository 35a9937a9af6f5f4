/-! next on both sides: the call -/
section NEXTS2
variable {K M : ZMem}
theorem LaR.sc3 {i : Nat} (h : LaR K M i) (hi : i < 512) {M' : ZMem} (k2 : KW K M') (F : Fr (fun q => q = 2230 ∨ q = 2239 ∨ q = 2240) M M') (h30 : ∀ j, j < 16 → mI M' 2230 j = mI M 2230 j) (r39 : mI M' 2239 = mI M 2239) : LaR K M' (i + 1) := by
  obtain ⟨T, hT, ⟨P, S, hAt, hLS⟩, mk, ⟨P', S0, t1, t2⟩, _⟩ := h.srch hi (show 0 < 4 by decide)
  refine mk _ k2 (F.wide fun q hq => by unfold bk; omega) h30 (fun j hj _ => by rw [r39]) ⟨P, S, hAt.frame k2 F fun j hj q => by omega, ?_⟩ ⟨P', S0, t1.frame k2 F fun j hj q => by omega, t2⟩
  rw [r39]
  exact hLS.keep (fun f j f1 f2 _ => F.i (by omega) j) (Nat.le_refl _) (by omega)
theorem both_next {d i : Nat} {a : Int} (hTop : TopAt K 2) (hM : ModelAt K 2230) (hSr : ∀ k, k < 4 → SrK K (44 + 444 * k)) (hd : 10 ≤ d) (hi : i < 512) (h : LaR K M i) : Both K d q9_next q10_next [zi a] i M := by
  obtain ⟨d, rfl⟩ : ∃ e, d = e + 1 := ⟨d - 1, by omega⟩
  have hK := h.1
  by_cases ha : 0 ≤ a ∧ a ≤ 3
  · obtain ⟨k, rfl⟩ : ∃ k : Nat, a = k := ⟨a.toNat, by omega⟩
    have hk : k < 4 := by omega
    obtain ⟨T, hT, ⟨P, S, hAt, hLS⟩, mk, hth, _⟩ := h.srch hi hk
    have hSA : SearchAt K (44 + 444 * k) := (hTop.2.2.2.2.2.2.2.2.2.2.2 k hk).2.2.2
    have e7 : mI M (44 + 444 * k) 7 = sC S 7 := hAt.c (by decide) (by decide)
    obtain ⟨hnone, hLB⟩ := hLS.none
    refine B9_next k hK hTop (c_searchAt hTop hK hk ⟨hK, fun _ => ⟨hSA, fun q4 => ?_, fun q4 => ?_⟩, fun c => absurd (show 44 + 444 * k ≠ 0 by omega) c⟩)
    · rw [e7] at q4
      have hn0 : mI M 2239 (3849 * k) ≠ 0 := fun q => q4 (hnone.mp q)
      have hB := hLB q4
      have hB0 := hB.u0
      have b14 := hLS.1.2.2
      generalize hU : vT (mI M 2239) (3849 * k) = U at *
      -- the reference, once its search is chosen
      have ref : ∀ (x : Int), (∀ M2, RM K M M2 (3849 * k) (U.1 13).toNat (mI M 2230 18) U → LaR K M2 (i + 1) → (U.1 12 = 1 → x = -2002) ∧ (U.1 12 ≠ 1 → (0 < U.1 13 → x = -2002) ∧ (¬ 0 < U.1 13 → (U.1 0 = 2 → x = -2002) ∧ (U.1 0 ≠ 2 → Ci d q10_chosen [zr 2230] M2 (fun y M3 => KW K M3 ∧ ((y ≠ -1 → KW K M3 ∧ x = y ∧ LaR K M3 (i + 1)) ∧ (¬ (y ≠ -1) → KW K M3 ∧ x = -2002 ∧ LaR K M3 (i + 1)))))))) → Ci (d + 1) q10_next [zr 2230, zi k] M (fun y M2 => KW K M2 ∧ x = y ∧ LaR K M2 (i + 1)) := fun x hx => by
        refine B10_next k hK hM (n_isSearch (by omega) hK hk ⟨hK, fun _ => n_isNone hM hK hk ⟨hK, fun _ => n_choosesSearch (k := k) hM hK (by omega) (by omega) hU b14 (by omega) fun M2 rm r39 => ⟨rm.1, ?_⟩, fun q => absurd (if_neg hn0) q⟩, fun q => absurd (show (1 : Int) ≠ 0 by decide) q⟩)
        have hL2 : LaR K M2 (i + 1) := h.sc3 hi rm.1 rm.2.2.2.2.2.2.2.2.1 rm.2.2.2.2.2.2.2.2.2.2 r39
        obtain ⟨z1, z2⟩ := hx M2 rm hL2
        have r16 := rm.2.1
        have r12 : mI M2 2239 ((mI M2 2230 16) + 12).toNat = U.1 12 := rm.sc (k := 12) (by rw [r16]; rfl) (by decide)
        have r0 : mI M2 2239 ((mI M2 2230 16) + 0).toNat = U.1 0 := rm.sc (k := 0) (by rw [r16]; rfl) (by decide)
        have r13 : mI M2 2239 ((mI M2 2230 16) + 13).toNat = U.1 13 := rm.sc (k := 13) (by rw [r16]; rfl) (by decide)
        rw [r12, r16]
        refine ⟨⟨by omega, by omega⟩, by omega, by omega, fun c => ⟨rm.1, z1 c, hL2⟩, fun c => B10_level rm.1 hM ?_⟩
        obtain ⟨z3, z4⟩ := z2 c
        rw [r13, r16]
        refine ⟨⟨by omega, by omega⟩, by omega, by omega, rm.1, fun c2 => ⟨rm.1, z3 c2, hL2⟩, fun c2 => ?_⟩
        obtain ⟨z5, z6⟩ := z4 c2
        rw [r16] at r0
        rw [r0]
        refine ⟨⟨by omega, by omega⟩, by omega, by omega, fun c3 => z6 c3, fun c3 => ⟨rm.1, z5 (Decidable.not_not.mp c3), hL2⟩⟩
      obtain ⟨σ, root, price, D, hX, hDB, hst, hor⟩ := hB
      refine (s_mayTake hAt (hSr k hk)).mono fun x M1 ⟨ex, eM⟩ => ?_
      subst eM
      refine ⟨hK, fun c => ⟨hK, ref _ fun M2 rm hL2 => ?_⟩, fun c => ?_⟩
      · rcases hor with ⟨w1, w2⟩ | ⟨w1, w2⟩
        · have u12 : U.1 12 = sC S 12 := w2.2.1.2.2.2.2.2.2.2.2.2.2.1
          refine ⟨fun _ => rfl, fun c1 => ⟨fun _ => rfl, fun c2 => ⟨fun _ => rfl, fun _ => ?_⟩⟩⟩
          have b12 := w2.1.2.2.2.2.2.2.2.2.2.2.2.2.1
          have hnil : S.2.1 = [] := by
            by_cases q : S.2.1 = []
            · exact q
            · rw [ex, if_pos ⟨w1, by omega, by omega, q⟩] at c
              exact absurd c (by decide)
          have hch := RS_chosen w2 (by omega)
          have hx1 : xChosen S = -1 := by unfold xChosen; rw [hnil]; rfl
          refine r_chosen (by omega) rm hM w2.h33 (by omega) ?_
          rw [hch, hx1]
          exact ⟨rm.1, fun q => absurd rfl q, fun _ => ⟨rm.1, rfl, hL2⟩⟩
        · refine ⟨fun _ => rfl, fun c1 => ⟨fun _ => rfl, fun c2 => ⟨fun _ => rfl, fun c3 => absurd (hB0.1.trans w1) c3⟩⟩⟩
      · have hc : sC S 7 = 1 ∧ sC S 11 = 0 ∧ sC S 12 = 0 ∧ S.2.1 ≠ [] := by
          by_cases q : sC S 7 = 1 ∧ sC S 11 = 0 ∧ sC S 12 = 0 ∧ S.2.1 ≠ []
          · exact q
          · exact absurd (ex.trans (if_neg q)) c
        have w2 := (hor.resolve_right fun q => by omega).2
        have sb := w2.sb
        refine (s_chosen (by omega) ⟨hAt, Fr.refl⟩ (hSr k hk) sb.2.1 sb.2.2.2.1).mono fun y M3 ⟨ey, eM3⟩ => ?_
        subst eM3
        refine ⟨hK, hK, ref _ fun M2 rm hL2 => ?_⟩
        have u12 : U.1 12 = sC S 12 := w2.2.1.2.2.2.2.2.2.2.2.2.2.1
        refine ⟨fun c1 => by omega, fun c1 => ⟨fun c2 => by omega, fun c2 => ⟨fun c3 => by omega, fun _ => ?_⟩⟩⟩
        have hch := RS_chosen w2 (by omega)
        have hrg := choN_range (sC S 8) S.2.1 0 (-1) 0 (Int.le_refl _) (Or.inl ⟨rfl, fun q => hc.2.2.2 q⟩)
        have hrg : 0 ≤ xChosen S ∧ xChosen S < 0 + S.2.1.length := hrg
        refine r_chosen (by omega) rm hM w2.h33 (by omega) ?_
        rw [hch]
        exact ⟨rm.1, fun _ => ⟨rm.1, ey, hL2⟩, fun q => absurd (show xChosen S ≠ -1 by omega) q⟩
    · rw [e7] at q4
      have hn0 : mI M 2239 (3849 * k) = 0 := hnone.mpr (Decidable.not_not.mp q4)
      exact ⟨hK, B10_next k hK hM (n_isSearch (by omega) hK hk ⟨hK, fun _ => n_isNone hM hK hk ⟨hK, fun q => absurd q (by rw [if_pos hn0]; decide), fun _ => ⟨hK, rfl, h.up⟩⟩, fun q => absurd (show (1 : Int) ≠ 0 by decide) q⟩)⟩
  · exact B9_next a hK hTop (c_searchAt_no hTop hK ha ⟨hK, fun c => absurd rfl c, fun _ => ⟨hK, B10_next a hK hM (n_isSearch_no (by omega) hK ha ⟨hK, fun c => absurd rfl c, fun _ => ⟨hK, rfl, h.up⟩⟩)⟩⟩)
end NEXTS2
