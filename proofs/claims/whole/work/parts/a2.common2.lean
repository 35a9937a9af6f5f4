/-! common on both sides: the call -/
section COMMONS2
variable {K M : ZMem}
theorem both_common {d i : Nat} {a b : Int} (hTop : TopAt K 2) (hM : ModelAt K 2230) (hd : 10 ≤ d) (hi : i < 512) (h : LaR K M i) : Both K d q9_common q10_common [zi a, zi b] i M := by
  obtain ⟨d, rfl⟩ : ∃ e, d = e + 1 := ⟨d - 1, by omega⟩
  have hK := h.1
  by_cases ha : 0 ≤ a ∧ a ≤ 3
  · obtain ⟨k, rfl⟩ : ∃ k : Nat, a = k := ⟨a.toNat, by omega⟩
    have hk : k < 4 := by omega
    by_cases hb : 0 ≤ b ∧ b ≤ 3
    · obtain ⟨l, rfl⟩ : ∃ l : Nat, b = l := ⟨b.toNat, by omega⟩
      have hl : l < 4 := by omega
      obtain ⟨T, hT, ⟨P, S, hAt, hLS⟩, _⟩ := h.srch hi hk
      obtain ⟨T2, hT2, ⟨P2, S2, hAt2, hLS2⟩, _⟩ := h.srch hi hl
      obtain ⟨hnone, hLB⟩ := hLS.none
      obtain ⟨hnone2, hLB2⟩ := hLS2.none
      have hSk : SearchAt K (44 + 444 * k) := (hTop.2.2.2.2.2.2.2.2.2.2.2 k hk).2.2.2
      have hSl : SearchAt K (44 + 444 * l) := (hTop.2.2.2.2.2.2.2.2.2.2.2 l hl).2.2.2
      have hAk : AnswersAt K (44 + 444 * k + 18) := hSk.2.2.2.2.2.2.2.2.2.2.2.2.1
      have hAl : AnswersAt K (44 + 444 * l + 18) := hSl.2.2.2.2.2.2.2.2.2.2.2.2.1
      have e7 : mI M (44 + 444 * k) 7 = sC S 7 := hAt.c (by decide) (by decide)
      have f7 : mI M (44 + 444 * l) 7 = sC S2 7 := hAt2.c (by decide) (by decide)
      have yes : (1 : Int) ≠ 0 := by decide
      refine B9_common k l hK hTop (c_searchAt hTop hK hk ⟨hK, c_searchAt hTop hK hl ⟨hK, fun c => absurd c (by omega), fun _ => ⟨fun _ => ⟨hSk, fun q4 => ?_, fun q4 => ⟨hSl, fun q5 => ?_, fun q5 => ?_⟩⟩, fun q => absurd (show 44 + 444 * l ≠ 0 by omega) q⟩⟩⟩)
      · rw [e7] at q4
        have hn0 : mI M 2239 (3849 * k) = 0 := hnone.mpr q4
        exact ⟨hK, B10_common k l hK hM (n_isSearch (by omega) hK hk ⟨hK, fun q => absurd q yes, fun _ => n_isSearch (by omega) hK hl ⟨hK, fun _ => n_isNone hM hK hk ⟨hK, fun _ => ⟨hK, rfl, h.up⟩, fun q => absurd (by rw [if_pos hn0]; decide) q⟩, fun q => absurd yes q⟩⟩)⟩
      · rw [e7] at q4
        rw [f7] at q5
        have hB := hLB q4
        have hB2 := hLB2 q5
        have hq := hB.u0.2.2.2.2.2
        have hq2 := hB2.u0.2.2.2.2.2
        have hn0 : mI M 2239 (3849 * k) ≠ 0 := fun q => q4 (hnone.mp q)
        have hn2 : mI M 2239 (3849 * l) ≠ 0 := fun q => q5 (hnone2.mp q)
        have h15 : mI M 2239 (3849 * k + 15) = (sQ S).2 := by rw [← hq.1, vT_at (by decide)]
        have g15 : mI M 2239 (3849 * l + 15) = (sQ S2).2 := by rw [← hq2.1, vT_at (by decide)]
        refine (s_shared (by omega) hK hAk hAl (by rw [hAt.ans]; exact hq.2) (by rw [hAt2.ans]; exact hq2.2)).mono fun x M1 ⟨ex, eM⟩ => ?_
        subst eM
        rw [hAt.ans, hAt2.ans] at ex
        exact ⟨hK, hK, B10_common k l hK hM (n_isSearch (by omega) hK hk ⟨hK, fun q => absurd q yes, fun _ => n_isSearch (by omega) hK hl ⟨hK, fun _ => n_isNone hM hK hk ⟨hK, fun q => absurd (if_neg hn0) q, fun _ => n_isNone hM hK hl ⟨hK, fun _ => r_common_loop (by omega) hM hK (by omega) (by omega) hB.row hB2.row hq.2 hq2.2 h15 g15 ⟨hK, ex, h.up⟩ (sQ S).2.toNat 0 (by omega) (Int.le_refl _) (Int.le_refl _), fun q => absurd (if_neg hn2) q⟩⟩, fun q => absurd yes q⟩⟩)⟩
      · rw [e7] at q4
        rw [f7] at q5
        have hn0 : mI M 2239 (3849 * k) ≠ 0 := fun q => q4 (hnone.mp q)
        have hn2 : mI M 2239 (3849 * l) = 0 := hnone2.mpr (Decidable.not_not.mp q5)
        exact ⟨hK, B10_common k l hK hM (n_isSearch (by omega) hK hk ⟨hK, fun q => absurd q yes, fun _ => n_isSearch (by omega) hK hl ⟨hK, fun _ => n_isNone hM hK hk ⟨hK, fun q => absurd (if_neg hn0) q, fun _ => n_isNone hM hK hl ⟨hK, fun q => absurd q (by rw [if_pos hn2]; decide), fun _ => ⟨hK, rfl, h.up⟩⟩⟩, fun q => absurd yes q⟩⟩)⟩
    · exact B9_common k b hK hTop (c_searchAt hTop hK hk ⟨hK, c_searchAt_no hTop hK hb ⟨hK, fun c => absurd c (by omega), fun _ => ⟨fun q => absurd rfl q, fun _ => ⟨hK, B10_common k b hK hM (n_isSearch (by omega) hK hk ⟨hK, fun q => absurd q (by decide), fun _ => n_isSearch_no (by omega) hK hb ⟨hK, fun q => absurd rfl q, fun _ => ⟨hK, rfl, h.up⟩⟩⟩)⟩⟩⟩⟩)
  · have fin : Ci (d + 1) q10_common [zr 2230, zi a, zi b] M (fun y M2 => KW K M2 ∧ -2001 = y ∧ LaR K M2 (i + 1)) := B10_common a b hK hM (n_isSearch_no (by omega) hK ha ⟨hK, fun _ => ⟨hK, rfl, h.up⟩, fun c => absurd rfl c⟩)
    by_cases hb : 0 ≤ b ∧ b ≤ 3
    · obtain ⟨l, rfl⟩ : ∃ l : Nat, b = l := ⟨b.toNat, by omega⟩
      exact B9_common a l hK hTop (c_searchAt_no hTop hK ha ⟨hK, c_searchAt hTop hK (show l < 4 by omega) ⟨hK, fun _ => ⟨hK, fin⟩, fun c => absurd rfl c⟩⟩)
    · exact B9_common a b hK hTop (c_searchAt_no hTop hK ha ⟨hK, c_searchAt_no hTop hK hb ⟨hK, fun _ => ⟨hK, fin⟩, fun c => absurd rfl c⟩⟩)
end COMMONS2
