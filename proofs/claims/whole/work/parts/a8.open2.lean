/-! open on both sides: the call -/
section OPENS2
variable {K M : ZMem}
theorem both_open {d i : Nat} {a b c : Int} (hTop : TopAt K 2) (hM : ModelAt K 2230) (hSr : ∀ k, k < 4 → SrK K (44 + 444 * k)) (hd : 10 ≤ d) (hi : i < 512) (hb : inR b) (h : LaR K M i) : Both K d q9_open q10_open [zi a, zi b, zi c] i M := by
  obtain ⟨d, rfl⟩ : ∃ e, d = e + 1 := ⟨d - 1, by omega⟩
  have hK := h.1
  have yes : (1 : Int) ≠ 0 := by decide
  have hb2 := hb.2
  by_cases ha : 0 ≤ a ∧ a ≤ 3
  · obtain ⟨k, rfl⟩ : ∃ k : Nat, a = k := ⟨a.toNat, by omega⟩
    have hk : k < 4 := by omega
    obtain ⟨T, hT, ⟨P, S, hAt, hLS⟩, mk, hth, _⟩ := h.srch hi hk
    have hSA : SearchAt K (44 + 444 * k) := (hTop.2.2.2.2.2.2.2.2.2.2.2 k hk).2.2.2
    have e7 : mI M (44 + 444 * k) 7 = sC S 7 := hAt.c (by decide) (by decide)
    obtain ⟨hnone, hLB⟩ := hLS.none
    have bad : ¬ (0 ≤ b ∧ 0 ≤ c ∧ c ≤ 11) → Ci (d + 1) q10_open [zr 2230, zi k, zi b, zi c] M (fun y M2 => KW K M2 ∧ -2001 = y ∧ LaR K M2 (i + 1)) := fun q => B10_open k b c hK hM (n_isSearch (by omega) hK hk ⟨hK, fun q => absurd q yes, fun _ => ⟨fun _ => ⟨hK, rfl, h.up⟩, fun q1 => ⟨fun q2 => absurd ⟨by omega, q2⟩ q, fun _ => ⟨hK, rfl, h.up⟩⟩⟩⟩)
    refine B9_open k b c hK hTop (c_searchAt hTop hK hk ⟨hK, fun c => absurd c (by omega), fun _ => ⟨fun q => ⟨hK, bad (by omega)⟩, fun q1 => ⟨fun q => ⟨hK, bad (by omega)⟩, fun q2 => ⟨fun q3 => ⟨hSA, fun q4 => ?_, fun q4 => ?_⟩, fun q => ⟨hK, bad (by omega)⟩⟩⟩⟩⟩)
    · rw [e7] at q4
      have hn0 : mI M 2239 (3849 * k) ≠ 0 := fun q => q4 (hnone.mp q)
      have ho := (hLB q4).open0
      have b14 := hLS.1.2.2
      obtain ⟨M2, e2⟩ : ∃ M2, M2 = sI M 2230 16 (3849 * (k : Int)) := ⟨_, rfl⟩
      have k2 : KW K M2 := by rw [e2]; exact hK.sI _ _ _
      have hL : LaR K M2 (i + 1) := by rw [e2]; exact h.sc16 hi
      have e16 : mI M2 2230 16 = 3849 * (k : Int) := by rw [e2]; exact mI_sI_eq
      have r39 : mI M2 2239 = mI M 2239 := by rw [e2]; exact funext fun j => by rw [mI_sI, if_neg (by omega)]
      have hU : vT (mI M2 2239) (3849 * k) = vT (mI M 2239) (3849 * k) := by rw [r39]
      generalize vT (mI M 2239) (3849 * k) = U at *
      have hlen := ho.1
      have hl30 := ho.2.1
      have ref : ∀ x : Int, ((S.2.1.length : Int) ≤ b → x = -2002) → (∀ n : Nat, b = n → n < S.2.1.length → x = pTell (gq S.2.1 n) c) → Ci (d + 1) q10_open [zr 2230, zi k, zi b, zi c] M (fun y M2 => KW K M2 ∧ x = y ∧ LaR K M2 (i + 1)) := fun x x1 x2 => by
        refine B10_open k b c hK hM (n_isSearch (by omega) hK hk ⟨hK, fun q => absurd q yes, fun _ => ⟨fun q => absurd q q1, fun _ => ⟨fun _ => n_isNone hM hK hk ⟨hK, fun _ => ⟨⟨by omega, by omega⟩, ?_⟩, fun q => absurd (if_neg hn0) q⟩, fun q => absurd ⟨by omega, by omega⟩ q⟩⟩⟩)
        rw [← e2]
        refine n_openOne (l := S.2.1) (s := 3849 * k) (by omega) hM k2 (by rw [e16]; omega) hU b14 (by omega) ho ⟨by omega, hb2⟩ ⟨k2, fun c1 => ?_, fun c1 => ⟨k2, x1 ?_, hL⟩⟩
        · by_cases cb : b < S.2.1.length
          · obtain ⟨n, rfl⟩ : ∃ n : Nat, b = n := ⟨b.toNat, by omega⟩
            have hx := x2 n rfl (by omega)
            obtain ⟨⟨p32, p33, p46, p37, p36⟩, pv, z1, z2, z3, z4⟩ := ho.2.2.2.2 n (by omega)
            have hrm := rv_rm k2 (s := 3849 * k) (by rw [e16]; omega) hU b14 (by omega)
            have ep : ∀ j : Nat, j < 47 → mI M2 2239 (((3849 * (k : Int)) + 262) + (47 * n) + j).toNat = gp U.2.2.1 n j := fun j hj => by
              have := hrm.p (i := ((3849 * (k : Int)) + 262) + (47 * n) + j) (k := j) (v := n) (by omega) (gp_some (by omega)) hj
              rw [mI_sI, if_neg (by omega)] at this
              exact this
            have e32 := ep 32 (by decide)
            have e33 := ep 33 (by decide)
            have e46 := ep 46 (by decide)
            have e37 := ep 37 (by decide)
            have e36 := ep 36 (by decide)
            have t32 : mI M2 2239 (((3849 * (k : Int)) + 262) + (47 * n) + 32).toNat = (gq S.2.1 n).1.1 5 := e32.trans p32
            have t33 : mI M2 2239 (((3849 * (k : Int)) + 262) + (47 * n) + 33).toNat = (gq S.2.1 n).1.1 6 := e33.trans p33
            have t46 : mI M2 2239 (((3849 * (k : Int)) + 262) + (47 * n) + 46).toNat = (gq S.2.1 n).2.2 5 := e46.trans p46
            have t37 : mI M2 2239 (((3849 * (k : Int)) + 262) + (47 * n) + 37).toNat = (gq S.2.1 n).2.2 3 := e37.trans p37
            have t36 : mI M2 2239 (((3849 * (k : Int)) + 262) + (47 * n) + 36).toNat = (gq S.2.1 n).2.2 4 := e36.trans p36
            rw [if_pos cb]
            refine B10_pointAt n k2 hM ?_
            rw [e16]
            refine ⟨⟨by omega, by omega⟩, ⟨by omega, by omega⟩, ⟨by omega, by omega⟩, k2, fun w => ?_, fun w => ?_, fun w => ?_, fun w => ?_, fun w => ?_⟩
            · refine ⟨⟨by omega, by omega⟩, by omega, by omega, k2, ?_, hL⟩
              rw [t32, hx, pTell, if_pos w]
            · refine ⟨⟨by omega, by omega⟩, by omega, by omega, k2, ?_, hL⟩
              rw [t33, hx, pTell, if_neg (by omega), if_pos w]
            · refine ⟨⟨by omega, by omega⟩, by omega, by omega, k2, ?_, hL⟩
              rw [t46, hx, pTell, if_neg (by omega), if_neg (by omega), if_pos w]
            · rw [t37, t36]
              refine ⟨⟨by omega, by omega⟩, by omega, by omega, ⟨by omega, by omega⟩, by omega, by omega, ⟨by omega, by omega⟩, k2, ?_, hL⟩
              rw [hx, pTell, if_neg (by omega), if_neg (by omega), if_neg (by omega), if_pos w]
            · refine ⟨⟨by omega, by omega⟩, ⟨by omega, by omega⟩, by omega, by omega, k2, ?_, hL⟩
              have ev := ep (c - 4).toNat (by omega)
              rw [pv _ (by omega)] at ev
              rw [show (((3849 * (k : Int)) + 262) + (47 * n) + c - 4).toNat = (((3849 * (k : Int)) + 262) + (47 * n) + ((c - 4).toNat : Nat)).toNat by omega, ev, hx, pTell, if_neg (by omega), if_neg (by omega), if_neg (by omega), if_neg (by omega), wValueOf, if_pos (by omega)]
          · exact absurd (if_neg cb) c1
        · by_cases cb : b < S.2.1.length
          · rw [if_pos cb] at c1
            omega
          · omega
      have epl := hAt.plen
      by_cases cb : b < S.2.1.length
      · obtain ⟨n, rfl⟩ : ∃ n : Nat, b = n := ⟨b.toNat, by omega⟩
        have hr := hAt.2.1.row (i := n) (by omega)
        have hPA := hAt.2.1.at (hSr k hk).2.1 (i := n) (by omega)
        have hg : gP M (mR M (44 + 444 * k + 20 + 1) n) = gq S.2.1 n := by
          unfold gq
          rw [← hAt.pts, gL_get (by omega)]
          rfl
        obtain ⟨_, _, z1, z2, z3, z4⟩ := ho.2.2.2.2 n (by omega)
        refine (s_openAt hK (hSr k hk).2.1 hAt.2.1).pure ?_
        rw [if_pos ⟨by omega, by omega⟩, Int.toNat_natCast]
        refine ⟨hK, fun _ => ⟨hPA, (s_ptell (by omega) hK hPA (by rw [hg]; exact ⟨by omega, by omega⟩) ⟨by omega, ⟨by omega, by omega⟩⟩).pure ⟨hK, hK, ref _ (fun c1 => absurd c1 (by omega)) fun m e1 e3 => ?_⟩⟩, fun q5 => absurd (by omega) q5⟩
        obtain rfl : n = m := by omega
        rw [hg]
      · refine (s_openAt hK (hSr k hk).2.1 hAt.2.1).pure ?_
        rw [if_neg (fun w => cb (by omega))]
        exact ⟨hK, fun q5 => absurd rfl q5, fun _ => ⟨hK, ref _ (fun _ => rfl) fun m e1 e3 => absurd e3 (by omega)⟩⟩
    · rw [e7] at q4
      have hn0 : mI M 2239 (3849 * k) = 0 := hnone.mpr (Decidable.not_not.mp q4)
      exact ⟨hK, B10_open k b c hK hM (n_isSearch (by omega) hK hk ⟨hK, fun q => absurd q yes, fun _ => ⟨fun q => absurd q q1, fun _ => ⟨fun _ => n_isNone hM hK hk ⟨hK, fun q => absurd q (by rw [if_pos hn0]; decide), fun _ => ⟨hK, rfl, h.up⟩⟩, fun q => absurd ⟨by omega, by omega⟩ q⟩⟩⟩)⟩
  · exact B9_open a b c hK hTop (c_searchAt_no hTop hK ha ⟨hK, fun _ => ⟨hK, B10_open a b c hK hM (n_isSearch_no (by omega) hK ha ⟨hK, fun _ => ⟨hK, rfl, h.up⟩, fun c => absurd rfl c⟩)⟩, fun c => absurd rfl c⟩)
end OPENS2
