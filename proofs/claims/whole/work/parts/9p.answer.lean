/-! answer on both sides -/
section ANSW2
variable {K M : ZMem}
theorem both_answer {d i : Nat} {a b c : Int} (hTop : TopAt K 2) (hM : ModelAt K 2230) (hd : 10 ≤ d) (hi : i < 512) (h : LaR K M i) : Both K d q9_answer q10_answer [zi a, zi b, zi c] i M := by
  obtain ⟨d, rfl⟩ : ∃ e, d = e + 1 := ⟨d - 1, by omega⟩
  have hK := h.1
  by_cases ha : 0 ≤ a ∧ a ≤ 3
  · obtain ⟨k, rfl⟩ : ∃ k : Nat, a = k := ⟨a.toNat, by omega⟩
    have hk : k < 4 := by omega
    obtain ⟨T, hT, ⟨P, S, hAt, hLS⟩, mk, hth, _⟩ := h.srch hi hk
    have hSA : SearchAt K (44 + 444 * k) := (hTop.2.2.2.2.2.2.2.2.2.2.2 k hk).2.2.2
    have hAn : AnswersAt K (44 + 444 * k + 18) := hSA.2.2.2.2.2.2.2.2.2.2.2.2.1
    have e7 : mI M (44 + 444 * k) 7 = sC S 7 := hAt.c (by decide) (by decide)
    have ea := hAt.an2
    obtain ⟨hnone, hLB⟩ := hLS.none
    -- the reference, where it says bad
    have bad : ¬ (0 ≤ b ∧ 0 ≤ c ∧ c ≤ 11) → Ci (d + 1) q10_answer [zr 2230, zi k, zi b, zi c] M (fun y M2 => KW K M2 ∧ -2001 = y ∧ LaR K M2 (i + 1)) := fun q => B10_answer k b c hK hM (n_isSearch (by omega) hK hk ⟨hK, fun q => absurd q (by decide), fun _ => ⟨fun _ => ⟨hK, rfl, h.up⟩, fun q1 => ⟨fun q2 => absurd ⟨by omega, q2⟩ q, fun _ => ⟨hK, rfl, h.up⟩⟩⟩⟩)
    refine B9_answer k b c hK hTop (c_searchAt hTop hK hk ⟨hK, fun c => absurd c (by omega), fun _ => ⟨fun q => ⟨hK, bad (by omega)⟩, fun q1 => ⟨fun q => ⟨hK, bad (by omega)⟩, fun q2 => ⟨fun q3 => ⟨hSA, fun q4 => ?_, fun q4 => ?_⟩, fun q => ⟨hK, bad (by omega)⟩⟩⟩⟩⟩)
    · rw [e7] at q4
      have hLB := hLB q4
      have u15 := hLB.u0.2.2.2.2.2
      have hn0 : mI M 2239 (3849 * k) ≠ 0 := fun q => q4 (hnone.mp q)
      have e15 : mI M 2239 ((3849 * (k : Int)) + 15).toNat = (sQ S).2 := by
        rw [← u15.1, vT_at (by decide), show ((3849 * (k : Int)) + 15).toNat = 3849 * k + 15 by omega]
      rw [ea]
      refine ⟨fun q5 => ⟨hK, ?_⟩, fun q5 => (s_field hK hAn (by omega) (by omega)).mono fun x M1 ⟨ex, eM⟩ => ?_⟩
      · refine B10_answer k b c hK hM (n_isSearch (by omega) hK hk ⟨hK, fun q => absurd q (by decide), fun _ => ⟨fun q => absurd q q1, fun _ => ⟨fun _ => n_isNone hM hK hk ⟨hK, fun _ => ⟨⟨by omega, by omega⟩, ⟨by omega, by omega⟩, by omega, by omega, fun _ => ⟨hK, rfl, h.up⟩, fun q => absurd (by omega) q⟩, fun q => absurd (if_neg hn0) q⟩, fun q => absurd ⟨by omega, by omega⟩ q⟩⟩⟩)
      · subst eM
        refine ⟨hK, hK, ?_⟩
        obtain ⟨j, hj⟩ : ∃ j : Nat, 12 * b + c = j := ⟨(12 * b + c).toNat, by omega⟩
        have hv : mI M1 2239 ((((3849 * (k : Int)) + 3129) + (12 * b)) + c).toNat = x := by
          rw [ex, hAt.ans]
          unfold aField
          rw [if_pos (by omega), show (b * 12 + c).toNat = j by omega, ← hLB.nums.2.1 j (by omega), vT_ansAt (by omega), show ((((3849 * (k : Int)) + 3129) + (12 * b)) + c).toNat = 3849 * k + 3129 + j by omega]
        refine B10_answer k b c hK hM (n_isSearch (by omega) hK hk ⟨hK, fun q => absurd q (by decide), fun _ => ⟨fun q => absurd q q1, fun _ => ⟨fun _ => n_isNone hM hK hk ⟨hK, fun _ => ⟨⟨by omega, by omega⟩, ⟨by omega, by omega⟩, by omega, by omega, fun q => absurd q (by omega), fun _ => ⟨⟨by omega, by omega⟩, ⟨by omega, by omega⟩, ⟨by omega, by omega⟩, ⟨by omega, by omega⟩, ⟨by omega, by omega⟩, by omega, by omega, hK, hv.symm, h.up⟩⟩, fun q => absurd (if_neg hn0) q⟩, fun q => absurd ⟨by omega, by omega⟩ q⟩⟩⟩)
    · rw [e7] at q4
      have hn0 : mI M 2239 (3849 * k) = 0 := hnone.mpr (Decidable.not_not.mp q4)
      exact ⟨hK, B10_answer k b c hK hM (n_isSearch (by omega) hK hk ⟨hK, fun q => absurd q (by decide), fun _ => ⟨fun q => absurd q q1, fun _ => ⟨fun _ => n_isNone hM hK hk ⟨hK, fun q => absurd q (by rw [if_pos hn0]; decide), fun _ => ⟨hK, rfl, h.up⟩⟩, fun q => absurd ⟨by omega, by omega⟩ q⟩⟩⟩)⟩
  · exact B9_answer a b c hK hTop (c_searchAt_no hTop hK ha ⟨hK, fun _ => ⟨hK, B10_answer a b c hK hM (n_isSearch_no (by omega) hK ha ⟨hK, fun _ => ⟨hK, rfl, h.up⟩, fun c => absurd rfl c⟩)⟩, fun c => absurd rfl c⟩)
end ANSW2
