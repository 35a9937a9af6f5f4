/-! begin on both sides: the call -/
section BEGINS2
variable {K M : ZMem}
theorem both_begin {d i : Nat} {a b c : Int} (hTop : TopAt K 2) (hM : ModelAt K 2230) (hSr : ∀ k, k < 4 → SrK K (44 + 444 * k)) (hd : 10 ≤ d) (hi : i < 512) (h : LaR K M i) : Both K d q9_begin q10_begin [zi a, zi b, zi c] i M := by
  obtain ⟨d, rfl⟩ : ∃ e, d = e + 1 := ⟨d - 1, by omega⟩
  have hK := h.1
  have yes : (1 : Int) ≠ 0 := by decide
  by_cases ha : 0 ≤ a ∧ a ≤ 3
  · obtain ⟨k, rfl⟩ : ∃ k : Nat, a = k := ⟨a.toNat, by omega⟩
    have hk : k < 4 := by omega
    obtain ⟨T, hT, ⟨P, S, hAt, hLS⟩, mk, hth, hLP⟩ := h.srch hi hk
    have hSk : SearchAt K (44 + 444 * k) := (hTop.2.2.2.2.2.2.2.2.2.2.2 k hk).2.2.2
    -- the reference, where the strategy is none
    have bad : ¬ (0 ≤ c ∧ c ≤ 5) → Ci (d + 1) q10_begin [zr 2230, zi k, zi b, zi c] M (fun y M2 => KW K M2 ∧ -2001 = y ∧ LaR K M2 (i + 1)) := fun q => B10_begin k b c hK hM (n_isSearch (by omega) hK hk ⟨hK, fun q => absurd q (by decide), fun _ => ⟨fun q1 => absurd q1 q, fun _ => ⟨hK, rfl, h.up⟩⟩⟩)
    refine B9_begin k b c hK hTop (c_searchAt hTop hK hk ⟨hK, fun q => absurd q (by omega), fun _ => ⟨fun q => ⟨hK, bad (by omega)⟩, fun q1 => ⟨fun q2 => ?_, fun q => ⟨hK, bad (by omega)⟩⟩⟩⟩)
    by_cases hb : 0 ≤ b ∧ b ≤ 3
    · obtain ⟨p, rfl⟩ : ∃ p : Nat, b = p := ⟨b.toNat, by omega⟩
      have hp : p < 4 := by omega
      have hPp : ProgramAt K (27 + 444 * p) := (hTop.2.2.2.2.2.2.2.2.2.2.2 p hp).2.1
      have e37 : ((p : Int)).toNat = p := Int.toNat_natCast p
      refine c_programAt hTop hK hp ⟨hK, fun q => absurd q (by omega), fun _ => ⟨hPp, fun q3 => ⟨hSk, ?_⟩, fun q3 => ⟨hK, ?_⟩⟩⟩
      · obtain ⟨w1, w2, σ, hX⟩ := (hLP p hp).resolve_left fun q => q3 q.2
        refine s_sstart (by omega) (by omega) (hSr k hk) hPp hAt fun M1 a1 => ⟨a1.1.1, a1.1.1, ?_⟩
        have f37 : mI M1 2237 p = mI M 2237 p := a1.2.i (by unfold bk; omega) p
        have f38 : mI M1 2238 p = mI M 2238 p := a1.2.i (by unfold bk; omega) p
        refine B10_begin k p c a1.1.1 hM (n_isSearch (by omega) a1.1.1 hk ⟨a1.1.1, fun q => absurd q (by decide), fun _ => ⟨fun _ => ⟨fun _ => ⟨by omega, by omega, fun _ => ⟨⟨by omega, by omega⟩, ?_⟩, fun q => absurd (by rw [e37, f37]; exact w1) q⟩, fun q => absurd ⟨by omega, by omega⟩ q⟩, fun q => absurd ⟨by omega, q2⟩ q⟩⟩)
        refine r_begin hM hk hp (by omega) a1.1.1 fun M2 U rm u0 u1 => ⟨rm.1, rfl, ?_⟩
        rw [f37, f38] at rm
        obtain ⟨m1, m2, m3, m4, m5, m6, m7, m8, m9⟩ := rm
        have F : Fr (fun q => bk (44 + 444 * k) 427 q ∨ bk 1803 427 q ∨ q = 2230 ∨ q = 2239 ∨ q = 2240) M M2 := (a1.2.wide fun q hq => Or.inl hq).trans (m9.1.wide fun q hq => Or.inr (Or.inr hq))
        have Fs : Fr (fun q => bk (44 + 444 * k) 427 q ∨ (q = 2230 ∨ q = 2239 ∨ q = 2240)) M M2 := (a1.2.wide fun q hq => Or.inl hq).trans (m9.1.wide fun q hq => Or.inr hq)
        obtain ⟨P', S0, t1, t2⟩ := hth
        refine mk M2 m1 F (fun j hj => (m9.2.2 j hj).trans (a1.2.i (by unfold bk; omega) j)) (fun j hj _ => (m9.2.1 j hj).trans (a1.2.i (by unfold bk; omega) j)) ⟨_, xStart S c, a1.1.frame m1 m9.1 fun j hj q => by omega, ?_⟩ ⟨P', S0, t1.frame m1 Fs fun j hj q => by unfold bk at q; omega, t2⟩
        rw [m5]
        have hX2 : PX M2 (gG M (27 + 444 * p)) σ (mI M 2237 p) (mI M 2238 p) (T * 260) := hX.keep fun f j f1 f2 _ => F.i (by unfold bk; omega) j
        have hb13 : 0 ≤ sC S 13 ∧ sC S 13 ≤ 2000 := hLS.1.2.1
        have hwB : ∀ j, wB ((xStart S c).1 j) := fun j => by
          show wB (if j = 0 then wStart (S.1 0) else S.1 j)
          split
          · exact wB_start (hLS.1.1.1 0)
          · exact hLS.1.1.1 j
        refine ⟨⟨⟨hwB, Or.inl rfl, Or.inr rfl⟩, hb13, m6⟩, Or.inr ⟨σ, mI M 2237 p, mI M 2238 p, fun _ => 0, hX2, fun _ => ⟨Int.le_refl 0, by show (0 : Int) ≤ 100000000; decide⟩, ?_, Or.inl ⟨rfl, ?_⟩⟩⟩
        · show (0 : Int) ≤ 2000 * (i + 1 : Nat)
          omega
        · refine RS_fresh (w := S.1 0) (r := U.2.1 0) hX2.2.1 rfl rfl rfl rfl rfl rfl rfl hwB (fun _ => ⟨Int.le_refl 0, by show (0 : Int) ≤ 100000000; decide⟩) ⟨Int.le_refl 0, Int.le_refl 0⟩ hb13 ⟨Int.le_refl 0, by show (0 : Int) ≤ 60; decide⟩ (Int.le_refl 0) (Int.le_refl 0) (Int.le_refl 0) (Int.le_refl 0) (Int.le_refl 0) (by show (0 : Int) + sC S 13 ≤ 1100000; omega) (by show (0 : Int) ≤ 31; decide) ⟨?_, ?_⟩ (Int.le_refl 0) ⟨rfl, rfl, u0 4 (by decide), u0 5 (by decide), u0 6 (by decide), u0 7 (by decide), u0 8 (by decide), u0 9 (by decide), u0 10 (by decide), u0 11 (by decide), rfl, u0 13 (by decide), u0 15 (by decide), rfl, fun j hj => ?_⟩ ⟨rfl, rfl⟩ u1 rfl
          · show 0 ≤ U.1 16
            rw [u0 16 (by decide)]; exact Int.le_refl 0
          · show U.1 16 ≤ 0
            rw [u0 16 (by decide)]; exact Int.le_refl 0
          · have hj : (j : Int) < 12 * 0 := hj
            omega
      · have q3 : mI M (27 + 444 * p) 10 = 0 := Decidable.not_not.mp q3
        have w1 : mI M 2237 p = -1 := by
          rcases hLP p hp with w | w
          · exact w.1
          · exact absurd q3 w.2.1
        exact B10_begin k p c hK hM (n_isSearch (by omega) hK hk ⟨hK, fun q => absurd q (by decide), fun _ => ⟨fun _ => ⟨fun _ => ⟨by omega, by omega, fun q => absurd (by rw [e37]; exact w1) q, fun _ => ⟨hK, rfl, h.up⟩⟩, fun q => absurd ⟨by omega, by omega⟩ q⟩, fun q => absurd ⟨by omega, q2⟩ q⟩⟩)
    · exact c_programAt_no hTop hK hb ⟨hK, fun _ => ⟨hK, B10_begin k b c hK hM (n_isSearch (by omega) hK hk ⟨hK, fun q => absurd q (by decide), fun _ => ⟨fun _ => ⟨fun q => absurd q hb, fun _ => ⟨hK, rfl, h.up⟩⟩, fun q => absurd ⟨by omega, q2⟩ q⟩⟩)⟩, fun q => absurd rfl q⟩
  · exact B9_begin a b c hK hTop (c_searchAt_no hTop hK ha ⟨hK, fun _ => ⟨hK, B10_begin a b c hK hM (n_isSearch_no (by omega) hK ha ⟨hK, fun _ => ⟨hK, rfl, h.up⟩, fun c => absurd rfl c⟩)⟩, fun c => absurd rfl c⟩)
end BEGINS2
