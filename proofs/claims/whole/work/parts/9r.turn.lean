/-! turn on both sides -/
section TURN2
variable {K M : ZMem}
theorem both_turn {d i : Nat} {a b : Int} (hTop : TopAt K 2) (hM : ModelAt K 2230) (hd : 10 ≤ d) (hi : i < 512) (h : LaR K M i) : Both K d q9_turn q10_turn [zi a, zi b] i M := by
  obtain ⟨d, rfl⟩ : ∃ e, d = e + 1 := ⟨d - 1, by omega⟩
  have hK := h.1
  by_cases ha : 0 ≤ a ∧ a ≤ 3
  · obtain ⟨k, rfl⟩ : ∃ k : Nat, a = k := ⟨a.toNat, by omega⟩
    have hk : k < 4 := by omega
    obtain ⟨T, hT, ⟨P, S, hAt, hLS⟩, mk, hth, _⟩ := h.srch hi hk
    have hSA : SearchAt K (44 + 444 * k) := (hTop.2.2.2.2.2.2.2.2.2.2.2 k hk).2.2.2
    have e7 : mI M (44 + 444 * k) 7 = sC S 7 := hAt.c (by decide) (by decide)
    have e8 : mI M (44 + 444 * k) 8 = sC S 8 := hAt.c (by decide) (by decide)
    obtain ⟨hnone, hLB⟩ := hLS.none
    have inb : inR (3849 * (k : Int)) ∧ inR ((3849 * (k : Int)) + 1) ∧ (0 ≤ ((3849 * (k : Int)) + 1)) ∧ (((3849 * (k : Int)) + 1) < 19245) := ⟨⟨by omega, by omega⟩, ⟨by omega, by omega⟩, by omega, by omega⟩
    have bad : ¬ (0 ≤ b ∧ b ≤ 4) → Ci (d + 1) q10_turn [zr 2230, zi k, zi b] M (fun y M2 => KW K M2 ∧ -2001 = y ∧ LaR K M2 (i + 1)) := fun q => B10_turn k b hK hM (n_isSearch (by omega) hK hk ⟨hK, fun q => absurd q (by decide), fun _ => ⟨fun q1 => absurd q1 q, fun _ => ⟨hK, rfl, h.up⟩⟩⟩)
    refine B9_turn k b hK hTop (c_searchAt hTop hK hk ⟨hK, fun c => absurd c (by omega), fun _ => ⟨fun q => ⟨hK, bad (by omega)⟩, fun q1 => ⟨fun q2 => ⟨hSA, fun q4 => ?_, fun q4 => ?_⟩, fun q => ⟨hK, bad (by omega)⟩⟩⟩⟩)
    · rw [e7] at q4
      have hn0 : mI M 2239 (3849 * k) = 0 := hnone.mpr q4
      exact ⟨hK, B10_turn k b hK hM (n_isSearch (by omega) hK hk ⟨hK, fun q => absurd q (by decide), fun _ => ⟨fun _ => ⟨inb.1, inb.2.1, n_isNone hM hK hk ⟨hK, fun _ => ⟨hK, rfl, h.up⟩, fun q => absurd (by rw [if_pos hn0]; decide) q⟩⟩, fun q => absurd ⟨by omega, q2⟩ q⟩⟩)⟩
    · rw [e7] at q4
      have hLB := hLB q4
      have hn0 : mI M 2239 (3849 * k) ≠ 0 := fun q => q4 (hnone.mp q)
      have u1 : ∀ M1, mI M1 2239 = mI M 2239 → mI M1 2239 ((3849 * (k : Int)) + 1).toNat = sC S 8 := fun M1 e => by
        rw [e, ← hLB.u0.2.2.1, vT_at (by decide), show ((3849 * (k : Int)) + 1).toNat = 3849 * k + 1 by omega]
      rw [e8]
      refine ⟨fun q5 => ?_, fun q5 => ⟨hK, ?_⟩⟩
      · have k1 : KW K (sI M (44 + 444 * k) 8 b) := hK.sI _ _ _
        refine ⟨k1, ?_⟩
        have F1 : Fr (fun q => q = 44 + 444 * k) M (sI M (44 + 444 * k) 8 b) := Fr.refl.sI rfl
        have a1 := hAt.kC (k := 8) (x := b) (by decide) (by decide)
        have r39 : mI (sI M (44 + 444 * k) 8 b) 2239 = mI M 2239 := funext fun j => F1.i (by omega) j
        generalize sI M (44 + 444 * k) 8 b = M1 at *
        have hn1 : mI M1 2239 (3849 * k) ≠ 0 := by rw [r39]; exact hn0
        refine B10_turn k b k1 hM (n_isSearch (by omega) k1 hk ⟨k1, fun q => absurd q (by decide), fun _ => ⟨fun _ => ⟨inb.1, inb.2.1, n_isNone hM k1 hk ⟨k1, fun q => absurd (if_neg hn1) q, fun _ => ⟨inb.2.2.1, inb.2.2.2, fun _ => ⟨inb.2.2.1, inb.2.2.2, inb.2.2.1, inb.2.2.2, k1.sI _ _ _, (u1 M1 r39).symm, ?_⟩, fun q => absurd (by rw [u1 M1 r39]; exact q5) q⟩⟩⟩, fun q => absurd ⟨by omega, q2⟩ q⟩⟩)
        have et : ((3849 * (k : Int)) + 1).toNat = 3849 * k + 1 := by omega
        rw [et]
        have F2 : Fr (fun q => q = 2239) M1 (sI M1 2239 (3849 * k + 1) b) := Fr.refl.sI rfl
        have g2 : ∀ j, mI (sI M1 2239 (3849 * k + 1) b) 2239 j = if j = 3849 * k + 1 then b else mI M 2239 j := fun j => by
          rw [mI_sI]
          by_cases c : j = 3849 * k + 1
          · rw [if_pos ⟨rfl, c⟩, if_pos c]
          · rw [if_neg (fun q => c q.2), if_neg c, r39]
        have k2 : KW K (sI M1 2239 (3849 * k + 1) b) := k1.sI _ _ _
        generalize sI M1 2239 (3849 * k + 1) b = M2 at *
        have hU : vT (mI M2 2239) (3849 * k) = oS (vT (mI M 2239) (3849 * k)) 1 b := vT_sc (by decide) (by decide) hLS.h61 g2
        have F : Fr (fun q => bk (44 + 444 * k) 427 q ∨ bk 1803 427 q ∨ q = 2230 ∨ q = 2239 ∨ q = 2240) M M2 := (F1.wide fun q hq => by unfold bk; omega).trans (F2.wide fun q hq => by unfold bk; omega)
        obtain ⟨P', S0, t1, t2⟩ := hth
        have Fs : Fr (fun q => q = 44 + 444 * k ∨ q = 2239) M M2 := (F1.wide fun q hq => Or.inl hq).trans (F2.wide fun q hq => Or.inr hq)
        refine mk M2 k2 F (fun j hj => Fs.i (by omega) j) (fun j hj _ => by rw [g2, if_neg (by omega)]) ⟨P, uC S 8 b, a1.frame k2 F2 fun j hj q => by omega, ?_⟩ ⟨P', S0, t1.frame k2 Fs fun j hj q => by omega, t2⟩
        rw [hU]
        have hnd : ndB (T * 260) M M2 := fun f j f1 f2 _ => F.i (by unfold bk; omega) j
        obtain ⟨σ, root, price, D, h1, h2, h3, h4⟩ := hLB.keep hnd (Nat.le_refl _) (show 2000 * (i : Int) ≤ 2000 * (i + 1 : Nat) by omega)
        refine ⟨hLS.1, Or.inr ⟨σ, root, price, D, h1, h2, h3, ?_⟩⟩
        rcases h4 with ⟨w1, w2⟩ | ⟨w1, w2⟩
        · exact Or.inl ⟨w1, RS_turn w2⟩
        · refine Or.inr ⟨w1, ?_⟩
          have e : uC (uC S 8 b) 12 0 = uC (uC S 12 0) 8 b := by
            show (_, _, _, _, _, _, _) = (_, _, _, _, _, _, _)
            refine Prod.ext rfl (Prod.ext rfl (Prod.ext rfl (Prod.ext rfl (Prod.ext rfl (Prod.ext rfl (funext fun j => ?_))))))
            show (if j = 12 then (0 : Int) else if j = 8 then b else sC S j) = (if j = 8 then b else if j = 12 then (0 : Int) else sC S j)
            by_cases c : j = 12
            · rw [if_pos c, if_neg (by omega), if_pos c]
            · rw [if_neg c, if_neg c]
          rw [e]
          exact RS_turn w2
      · exact B10_turn k b hK hM (n_isSearch (by omega) hK hk ⟨hK, fun q => absurd q (by decide), fun _ => ⟨fun _ => ⟨inb.1, inb.2.1, n_isNone hM hK hk ⟨hK, fun q => absurd (if_neg hn0) q, fun _ => ⟨inb.2.2.1, inb.2.2.2, fun q => absurd (u1 M rfl) (fun w => q5 (fun w2 => q (w.trans w2))), fun _ => ⟨hK, rfl, h.up⟩⟩⟩⟩, fun q => absurd ⟨by omega, q2⟩ q⟩⟩)
  · exact B9_turn a b hK hTop (c_searchAt_no hTop hK ha ⟨hK, fun _ => ⟨hK, B10_turn a b hK hM (n_isSearch_no (by omega) hK ha ⟨hK, fun _ => ⟨hK, rfl, h.up⟩, fun c => absurd rfl c⟩)⟩, fun c => absurd rfl c⟩)
end TURN2
