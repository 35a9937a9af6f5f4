/-! of on both sides: the call -/
section OFS2
variable {K M : ZMem}
/-- the reference has only chosen a search -/
theorem LaR.sc16 {i : Nat} (h : LaR K M i) (hi : i < 512) {x : Int} : LaR K (sI M 2230 16 x) (i + 1) := by
  obtain ⟨T, hT, ⟨P, S, hAt, hLS⟩, mk, ⟨P', S0, t1, t2⟩, _⟩ := h.srch hi (show 0 < 4 by decide)
  have F : Fr (fun q => q = 2230) M (sI M 2230 16 x) := Fr.refl.sI rfl
  have k2 : KW K (sI M 2230 16 x) := h.1.sI _ _ _
  have r39 : mI (sI M 2230 16 x) 2239 = mI M 2239 := funext fun j => F.i (by decide) j
  refine mk _ k2 (F.wide fun q hq => by unfold bk; omega) (fun j hj => by rw [mI_sI, if_neg (by omega)]) (fun j hj _ => by rw [r39]) ⟨P, S, hAt.frame k2 F fun j hj q => by omega, ?_⟩ ⟨P', S0, t1.frame k2 F fun j hj q => by omega, t2⟩
  rw [r39]
  exact hLS.keep (fun f j f1 f2 _ => F.i (by omega) j) (Nat.le_refl _) (by omega)
theorem both_of {d i : Nat} {a b : Int} (hTop : TopAt K 2) (hM : ModelAt K 2230) (hSr : ∀ k, k < 4 → SrK K (44 + 444 * k)) (hd : 10 ≤ d) (hi : i < 512) (h : LaR K M i) : Both K d q9_of q10_of [zi a, zi b] i M := by
  obtain ⟨d, rfl⟩ : ∃ e, d = e + 1 := ⟨d - 1, by omega⟩
  have hK := h.1
  by_cases ha : 0 ≤ a ∧ a ≤ 3
  · obtain ⟨k, rfl⟩ : ∃ k : Nat, a = k := ⟨a.toNat, by omega⟩
    have hk : k < 4 := by omega
    obtain ⟨T, hT, ⟨P, S, hAt, hLS⟩, mk, hth, _⟩ := h.srch hi hk
    have hSA : SearchAt K (44 + 444 * k) := (hTop.2.2.2.2.2.2.2.2.2.2.2 k hk).2.2.2
    have e7 : mI M (44 + 444 * k) 7 = sC S 7 := hAt.c (by decide) (by decide)
    obtain ⟨hnone, hLB⟩ := hLS.none
    have u0 : mI M 2239 ((3849 * (k : Int)) + 0).toNat = sC S 7 := by
      rw [← hLS.u0, vT_at (by decide), show ((3849 * (k : Int)) + 0).toNat = 3849 * k + 0 by omega]
    have bad : ¬ (0 ≤ b ∧ b ≤ 9) → Ci (d + 1) q10_of [zr 2230, zi k, zi b] M (fun y M2 => KW K M2 ∧ -2001 = y ∧ LaR K M2 (i + 1)) := fun q => B10_of k b hK hM (n_isSearch (by omega) hK hk ⟨hK, fun q => absurd q (by decide), fun _ => ⟨fun q1 => absurd q1 q, fun _ => ⟨hK, rfl, h.up⟩⟩⟩)
    refine B9_of k b hK hTop (c_searchAt hTop hK hk ⟨hK, fun c => absurd c (by omega), fun _ => ⟨fun q => ⟨hK, bad (by omega)⟩, fun q1 => ⟨fun q2 => ⟨fun q3 => ⟨hSA, fun q4 => ?_, fun q4 => ?_⟩, fun q3 => ⟨hSA, ?_⟩⟩, fun q => ⟨hK, bad (by omega)⟩⟩⟩⟩)
    · rw [e7] at q4
      have hn0 : mI M 2239 (3849 * k) ≠ 0 := fun q => q4 (hnone.mp q)
      have hB := hLB q4
      obtain ⟨n4, n5, n6, n7, n8, n9, n11⟩ := hB.nums.1
      have ncnt := hB.nums.2.2
      have n1 := hB.u0.2.2.1
      have n15 := hB.u0.2.2.2.2.2.1
      refine (s_tell ⟨hAt, Fr.refl⟩ (hSr k hk)).mono fun x M1 ⟨ex, eM⟩ => ?_
      subst eM
      refine ⟨hK, hK, ?_⟩
      have k2 : KW K (sI M1 2230 16 (3849 * (k : Int))) := hK.sI _ _ _
      have hL := h.sc16 hi (x := 3849 * (k : Int))
      have e16 : mI (sI M1 2230 16 (3849 * (k : Int))) 2230 16 = 3849 * (k : Int) := mI_sI_eq
      have hUU : vT (mI (sI M1 2230 16 (3849 * (k : Int))) 2239) (3849 * k) = vT (mI M1 2239) (3849 * k) := by
        rw [show mI (sI M1 2230 16 (3849 * (k : Int))) 2239 = mI M1 2239 from funext fun j => by rw [mI_sI, if_neg (by omega)]]
      have uv : ∀ j : Nat, j < 17 → mI (sI M1 2230 16 (3849 * (k : Int))) 2239 ((3849 * (k : Int)) + (j : Int)).toNat = (vT (mI M1 2239) (3849 * k)).1 j := fun j hj => by
        rw [mI_sI, if_neg (by omega), vT_at hj, show ((3849 * (k : Int)) + (j : Int)).toNat = 3849 * k + j by omega]
      have u15 := uv 15 (by decide)
      have u4 := uv 4 (by decide)
      have u11 := uv 11 (by decide)
      have u5 := uv 5 (by decide)
      have u6 := uv 6 (by decide)
      have u7 := uv 7 (by decide)
      have u8 := uv 8 (by decide)
      have u1 := uv 1 (by decide)
      have u9 := uv 9 (by decide)
      have bd : ∀ j : Int, 0 ≤ j → j < 17 → inR ((3849 * (k : Int)) + j) ∧ (0 ≤ ((3849 * (k : Int)) + j)) ∧ (((3849 * (k : Int)) + j) < 19245) := fun j j1 j2 => ⟨⟨by omega, by omega⟩, by omega, by omega⟩
      refine B10_of k b hK hM (n_isSearch (by omega) hK hk ⟨hK, fun q => absurd q (by decide), fun _ => ⟨fun _ => ⟨fun _ => n_isNone hM hK hk ⟨hK, fun _ => ⟨⟨by omega, by omega⟩, ?_⟩, fun q => absurd (if_neg hn0) q⟩, fun q => absurd q3 q⟩, fun q => absurd ⟨by omega, q2⟩ q⟩⟩)
      rw [e16]
      have xt : ∀ y, xTell S b = y → x = y := fun y hy => ex.trans hy
      refine ⟨fun c => ?_, fun c => ?_, fun c => ?_, fun c => ?_, fun c => ?_, fun c => ?_, fun c => ?_, fun c => ?_, fun c => ?_⟩
      · refine ⟨(bd 15 (by decide) (by decide)).1, (bd 15 (by decide) (by decide)).2.1, (bd 15 (by decide) (by decide)).2.2, k2, xt _ ?_, hL⟩
        rw [c]
        exact (u15.trans n15).symm
      · refine ⟨(bd 4 (by decide) (by decide)).1, (bd 4 (by decide) (by decide)).2.1, (bd 4 (by decide) (by decide)).2.2, k2, xt _ ?_, hL⟩
        rw [c]
        exact (u4.trans n4).symm
      · refine n_openMany (s := 3849 * k) (by omega) hM k2 (by rw [e16]; omega) hUU hLS.1.2.2 (by omega) ⟨k2, k2, xt _ ?_, hL⟩
        rw [c]
        exact ncnt.symm
      · refine ⟨(bd 11 (by decide) (by decide)).1, (bd 11 (by decide) (by decide)).2.1, (bd 11 (by decide) (by decide)).2.2, k2, xt _ ?_, hL⟩
        rw [c]
        exact (u11.trans n11).symm
      · refine ⟨(bd 5 (by decide) (by decide)).1, (bd 5 (by decide) (by decide)).2.1, (bd 5 (by decide) (by decide)).2.2, k2, xt _ ?_, hL⟩
        rw [c]
        exact (u5.trans n5).symm
      · refine ⟨(bd 6 (by decide) (by decide)).1, (bd 6 (by decide) (by decide)).2.1, (bd 6 (by decide) (by decide)).2.2, k2, xt _ ?_, hL⟩
        rw [c]
        exact (u6.trans n6).symm
      · refine ⟨(bd 7 (by decide) (by decide)).1, (bd 7 (by decide) (by decide)).2.1, (bd 7 (by decide) (by decide)).2.2, k2, xt _ ?_, hL⟩
        rw [c]
        exact (u7.trans n7).symm
      · refine ⟨(bd 8 (by decide) (by decide)).1, (bd 8 (by decide) (by decide)).2.1, (bd 8 (by decide) (by decide)).2.2, k2, xt _ ?_, hL⟩
        rw [c]
        exact (u8.trans n8).symm
      · have c9 : b = 9 := by omega
        have e1 : mI (sI M1 2230 16 (3849 * (k : Int))) 2239 ((3849 * (k : Int)) + 1).toNat = sC S 8 := u1.trans n1
        have e9 : mI (sI M1 2230 16 (3849 * (k : Int))) 2239 ((3849 * (k : Int)) + 9).toNat = sC S 9 := u9.trans n9
        rw [e1, e9]
        refine ⟨(bd 1 (by decide) (by decide)).1, (bd 1 (by decide) (by decide)).2.1, (bd 1 (by decide) (by decide)).2.2, fun c5 => ⟨k2, xt _ ?_, hL⟩, fun c5 => ⟨(bd 9 (by decide) (by decide)).1, (bd 9 (by decide) (by decide)).2.1, (bd 9 (by decide) (by decide)).2.2, k2, xt _ ?_, hL⟩⟩
        · rw [c9]
          unfold xTell
          rw [if_neg (by decide), if_neg (by decide), if_pos rfl, if_neg c5]
        · rw [c9]
          unfold xTell
          rw [if_neg (by decide), if_neg (by decide), if_pos rfl, if_pos (Decidable.not_not.mp c5)]
    · rw [e7] at q4
      have hn0 : mI M 2239 (3849 * k) = 0 := hnone.mpr (Decidable.not_not.mp q4)
      exact ⟨hK, B10_of k b hK hM (n_isSearch (by omega) hK hk ⟨hK, fun q => absurd q (by decide), fun _ => ⟨fun _ => ⟨fun _ => n_isNone hM hK hk ⟨hK, fun q => absurd q (by rw [if_pos hn0]; decide), fun _ => ⟨hK, rfl, h.up⟩⟩, fun q => absurd q3 q⟩, fun q => absurd ⟨by omega, q2⟩ q⟩⟩)⟩
    · have b0 : b = 0 := by omega
      exact ⟨hK, B10_of k b hK hM (n_isSearch (by omega) hK hk ⟨hK, fun q => absurd q (by decide), fun _ => ⟨fun _ => ⟨fun q => absurd b0 q, fun _ => ⟨⟨by omega, by omega⟩, ⟨by omega, by omega⟩, by omega, by omega, hK, by rw [e7, u0], h.up⟩⟩, fun q => absurd ⟨by omega, q2⟩ q⟩⟩)⟩
  · exact B9_of a b hK hTop (c_searchAt_no hTop hK ha ⟨hK, fun _ => ⟨hK, B10_of a b hK hM (n_isSearch_no (by omega) hK ha ⟨hK, fun _ => ⟨hK, rfl, h.up⟩, fun c => absurd rfl c⟩)⟩, fun c => absurd rfl c⟩)
end OFS2
