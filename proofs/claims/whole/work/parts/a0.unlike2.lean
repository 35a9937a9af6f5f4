/-! unlike on both sides: the call -/
section UNLIKES2
variable {K M : ZMem}
theorem both_unlike {d i : Nat} {a : Int} (hTop : TopAt K 2) (hM : ModelAt K 2230) (hd : 10 ≤ d) (hi : i < 512) (h : LaR K M i) : Both K d q9_unlike q10_unlike [zi a] i M := by
  obtain ⟨d, rfl⟩ : ∃ e, d = e + 1 := ⟨d - 1, by omega⟩
  have hK := h.1
  by_cases ha : 0 ≤ a ∧ a ≤ 3
  · obtain ⟨k, rfl⟩ : ∃ k : Nat, a = k := ⟨a.toNat, by omega⟩
    have hk : k < 4 := by omega
    obtain ⟨T, hT, ⟨P, S, hAt, hLS⟩, mk, hth, _⟩ := h.srch hi hk
    have hSA : SearchAt K (44 + 444 * k) := (hTop.2.2.2.2.2.2.2.2.2.2.2 k hk).2.2.2
    have hAn : AnswersAt K (44 + 444 * k + 18) := hSA.2.2.2.2.2.2.2.2.2.2.2.2.1
    have e7 : mI M (44 + 444 * k) 7 = sC S 7 := hAt.c (by decide) (by decide)
    obtain ⟨hnone, hLB⟩ := hLS.none
    refine B9_unlike k hK hTop (c_searchAt hTop hK hk ⟨hK, fun _ => ⟨hSA, fun q4 => ?_, fun q4 => ?_⟩, fun c => absurd (show 44 + 444 * k ≠ 0 by omega) c⟩)
    · rw [e7] at q4
      have hB := hLB q4
      have hq := hB.u0.2.2.2.2.2
      have hn0 : mI M 2239 (3849 * k) ≠ 0 := fun q => q4 (hnone.mp q)
      have h15 : mI M 2239 (3849 * k + 15) = (sQ S).2 := by rw [← hq.1, vT_at (by decide)]
      refine (s_diff (by omega) hK hAn (by rw [hAt.ans]; exact hq.2)).mono fun x M1 ⟨ex, eM⟩ => ?_
      subst eM
      rw [hAt.ans] at ex
      refine ⟨hK, hK, B10_unlike k hK hM (n_isSearch (by omega) hK hk ⟨hK, fun _ => n_isNone hM hK hk ⟨hK, fun _ => r_unlike_loop (by omega) hM hK (by omega) hB.row hq.2 h15 ⟨hK, ex, h.up⟩ (sQ S).2.toNat 0 (by omega) (Int.le_refl _) (Int.le_refl _), fun q => absurd (if_neg hn0) q⟩, fun q => absurd (show (1 : Int) ≠ 0 by decide) q⟩)⟩
    · rw [e7] at q4
      have hn0 : mI M 2239 (3849 * k) = 0 := hnone.mpr (Decidable.not_not.mp q4)
      exact ⟨hK, B10_unlike k hK hM (n_isSearch (by omega) hK hk ⟨hK, fun _ => n_isNone hM hK hk ⟨hK, fun q => absurd q (by rw [if_pos hn0]; decide), fun _ => ⟨hK, rfl, h.up⟩⟩, fun q => absurd (show (1 : Int) ≠ 0 by decide) q⟩)⟩
  · exact B9_unlike a hK hTop (c_searchAt_no hTop hK ha ⟨hK, fun c => absurd rfl c, fun _ => ⟨hK, B10_unlike a hK hM (n_isSearch_no (by omega) hK ha ⟨hK, fun c => absurd rfl c, fun _ => ⟨hK, rfl, h.up⟩⟩)⟩⟩)
end UNLIKES2
