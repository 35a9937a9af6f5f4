/-! program and cost on both sides -/
section PROGS
variable {K M : ZMem}
theorem go_pos {tp : Nat → Int} {n N : Nat} {O B : Nat → Int} {P : Pg} (hT : Tp tp n) (hP : P.2.2.2 = 0 ∨ True) (h : (zGo tp N n 151 (zS0 O B P)).1 = -1) : 1 ≤ n := by
  by_cases c : n = 0
  · have t0 : tp 0 = 0 := hT.2.2 0 (by omega)
    have t1 : tp (zS0 O B P).1 = 0 := t0
    have hz : zStep tp N n (zS0 O B P) = (0, zS0 O B P) := by
      rw [step_due rfl]
      unfold zStmt
      rw [if_neg (show ¬ ¬ zsz (zS0 O B P) < 40 from fun q => q (show (0 : Int) < 40 by decide)), t1, if_neg (by decide), if_neg (by decide), if_neg (by decide), if_neg (by decide), if_neg (by omega), if_neg (by omega), if_neg (by omega)]
      unfold zTest
      rw [t1, if_neg (by unfold dg; omega)]
    rw [zGo_s, hz, if_neg (show (0 : Int) ≠ 1 by decide), if_neg (show (0 : Int) ≠ 2 by decide)] at h
    exact absurd h (show ¬ (((zS0 O B P).1 : Nat) : Int) = -1 by omega)
  · omega
theorem both_program {d i : Nat} {a : Int} (hTop : TopAt K 2) (hM : ModelAt K 2230) (hd : 190 ≤ d) (hi : i < 512) (h : LaR K M i) : Both K d q9_program q10_program [zi a] i M := by
  have h0 := h
  obtain ⟨hK, tp, n, T, h1, ⟨h2, h2'⟩, ⟨h3, h3'⟩, h4, ⟨h5, h6⟩, h7, h8, h9⟩ := h
  have hn150 := h1.1
  by_cases ha : 0 ≤ a ∧ a ≤ 3
  · obtain ⟨k, rfl⟩ : ∃ k : Nat, a = k := ⟨a.toNat, by omega⟩
    have hk : k < 4 := by omega
    refine c_program (N := 151) h1 (by omega) hTop (by omega) hk hK ⟨h2, h2'⟩ h4 (fun O B e1 M1 k1 g1 d1 t1 f1 => ⟨k1, ?_⟩) (fun O B M1 p hp e1 k1 d1 t1 f1 => ⟨k1, ?_⟩)
    · have hn1 := go_pos h1 (Or.inr trivial) e1
      have r31 : mI M1 2230 1 = n ∧ ∀ j, j < n → mI M1 2231 j = tp j := ⟨(f1.i (by unfold bk; omega) 1).trans h3, fun j hj => (f1.i (by unfold bk; omega) j).trans (h3' j hj)⟩
      refine r_program (N := 151) (T := T) (O := O) (B := B) (P := gG M 8) h1 hM (by omega) (by omega) (by omega) hk k1 r31 ((f1.i (by unfold bk; omega) 6).trans h5) h4 (fun g hg => by omega) (fun _ M2 σ root re hroot hPX z7 z8 => ⟨re.1, rfl, ?_⟩) (fun g hg => by omega)
      obtain ⟨k2, f2, nd2, l2, t2, z2⟩ := re
      have F : Fr (fun q => q = 3 ∨ (5 ≤ q ∧ q < 25) ∨ bk (27 + 444 * k) 17 q ∨ q = 2230 ∨ (2232 ≤ q ∧ q ≤ 2238)) M M2 := (f1.wide fun q hq => by unfold bk at *; omega).trans (f2.wide fun q hq => by unfold bk at *; omega)
      have hnd : ndB (T * 260) M M2 := fun f j f1' f2' f3 => (nd2 f j f1' f2' f3).trans (f1.i (by unfold bk; omega) j)
      have gk : gG M2 (27 + 444 * k) = zg (zGo tp 151 n 151 (zS0 O B (gG M 8))).2 := by
        rw [gG_fr f2 fun j hj q => by omega]; exact g1
      obtain ⟨l1, l3⟩ := LaR_mk (T := T) (T' := T + 1) k2 F (fun q q1 q2 q3 q4 => by have := q3 k hk; unfold bk at q4; omega) (by unfold bk; omega) hnd (by omega) h8 h9
      refine ⟨k2, fun _ => 0, 0, T + 1, ⟨by omega, fun j hj => absurd hj (by omega), fun _ _ => rfl⟩, ⟨?_, fun j hj => absurd hj (by omega)⟩, ⟨l2, fun j hj => absurd hj (by omega)⟩, ?_, ⟨t2, by omega⟩, fun k' hk' => ?_, l1, l3⟩
      · rw [f2.i (by omega)]; exact t1
      · rw [gG_fr f2 fun j hj q => by omega]; exact d1
      · by_cases c : k' = k
        · subst c
          have e10 : mI M2 (27 + 444 * k') 10 = (gG M2 (27 + 444 * k')).2.2.2 := rfl
          refine Or.inr ⟨by rw [z7, if_pos rfl]; exact hroot, ?_, σ, ?_⟩
          · rw [e10, gk]
            have := hPX.2.1.1.2.1
            omega
          · rw [gk, z7, z8, if_pos rfl, if_pos rfl]; exact hPX
        · exact (h7 k' hk').keep F (fun j hj q => by unfold bk at q; omega) (by rw [z7, if_neg c]; exact f1.i (by unfold bk; omega) k') (by rw [z8, if_neg c]; exact f1.i (by unfold bk; omega) k') hnd (by omega)
    · have r31 : mI M1 2230 1 = n ∧ ∀ j, j < n → mI M1 2231 j = tp j := ⟨(f1.i (by omega) 1).trans h3, fun j hj => (f1.i (by omega) j).trans (h3' j hj)⟩
      refine r_program (N := 151) (T := T) (O := O) (B := B) (P := gG M 8) h1 hM (by omega) (by omega) (by omega) hk k1 r31 ((f1.i (by omega) 6).trans h5) h4 (fun g hg => by omega) (fun e2 => by omega) (fun g hg M2 re z7 z8 => ⟨re.1, by omega, ?_⟩)
      obtain ⟨k2, f2, nd2, l2, t2, z2⟩ := re
      have F : Fr (fun q => q = 3 ∨ (5 ≤ q ∧ q < 25) ∨ q = 2230 ∨ (2232 ≤ q ∧ q ≤ 2238)) M M2 := (f1.wide fun q hq => by omega).trans (f2.wide fun q hq => by omega)
      have hnd : ndB (T * 260) M M2 := fun f j f1' f2' f3 => (nd2 f j f1' f2' f3).trans (f1.i (by omega) j)
      obtain ⟨l1, l3⟩ := LaR_mk (T := T) (T' := T) k2 F (fun q q1 q2 q3 q4 => by omega) (by omega) hnd (Nat.le_refl _) h8 h9
      refine ⟨k2, fun _ => 0, 0, T, ⟨by omega, fun j hj => absurd hj (by omega), fun _ _ => rfl⟩, ⟨?_, fun j hj => absurd hj (by omega)⟩, ⟨l2, fun j hj => absurd hj (by omega)⟩, ?_, ⟨t2, by omega⟩, fun k' hk' => ?_, l1, l3⟩
      · rw [f2.i (by omega)]; exact t1
      · rw [gG_fr f2 fun j hj q => by omega]; exact d1
      · exact (h7 k' hk').keep F (fun j hj q => by omega) (by rw [z7]; exact f1.i (by omega) k') (by rw [z8]; exact f1.i (by omega) k') hnd (Nat.le_refl _)
  · obtain ⟨d, rfl⟩ : ∃ e, d = e + 1 := ⟨d - 1, by omega⟩
    exact B9_program a hK hTop (c_programAt_no hTop hK ha ⟨hK, fun c => absurd rfl c, fun _ => ⟨hK, r_program_no hM (by omega) hK ha ⟨hK, rfl, h0.up⟩⟩⟩)
theorem both_cost {d i : Nat} {a : Int} (hTop : TopAt K 2) (hM : ModelAt K 2230) (hd : 190 ≤ d) (hi : i < 512) (h : LaR K M i) : Both K d q9_cost q10_cost [zi a] i M := by
  have h0 := h
  obtain ⟨hK, tp, n, T, h1, ⟨h2, h2'⟩, ⟨h3, h3'⟩, h4, ⟨h5, h6⟩, h7, h8, h9⟩ := h
  have hn150 := h1.1
  by_cases ha : 0 ≤ a ∧ a ≤ 3
  · obtain ⟨k, rfl⟩ : ∃ k : Nat, a = k := ⟨a.toNat, by omega⟩
    have hk : k < 4 := by omega
    have hLP := h7 k hk
    have hnone : mI M (27 + 444 * k) 10 = 0 ↔ mI M 2237 k = -1 := by
      rcases hLP with q | q
      · exact ⟨fun _ => q.1, fun _ => q.2⟩
      · exact ⟨fun c => absurd c q.2.1, fun c => absurd c q.1⟩
    obtain ⟨b1, b2, b3, b4, b5⟩ := ee_b (N := 151) h1 (by omega) (Nat.zero_le n)
    refine c_cost (N := 151) h1 (by omega) hTop (by omega) hk hK ⟨h2, h2'⟩ h4 (fun c => ⟨hK, ?_⟩) (fun c e1 e2 M1 k1 g1 d1 fa t1 f1 => ⟨k1, ?_⟩) (fun c e1 M1 k1 d1 t1 f1 => ⟨k1, ?_⟩)
    · refine r_cost (N := 151) (T := T) h1 hM (by omega) (by omega) (by omega) hk hK ⟨h3, h3'⟩ h5 (fun _ => ⟨hK, rfl, h0.up⟩) (fun c2 => absurd (hnone.mp c) c2) (fun c2 => absurd (hnone.mp c) c2)
    · have hn1 := b5 e1
      have r31 : mI M1 2230 1 = n ∧ ∀ j, j < n → mI M1 2231 j = tp j := ⟨(f1.i (by unfold bk; omega) 1).trans h3, fun j hj => (f1.i (by unfold bk; omega) j).trans (h3' j hj)⟩
      have r7 : mI M1 2237 k = mI M 2237 k := f1.i (by unfold bk; omega) k
      refine r_cost (N := 151) (T := T) h1 hM (by omega) (by omega) (by omega) hk k1 r31 ((f1.i (by unfold bk; omega) 6).trans h5) (fun c2 => absurd (hnone.mpr (r7.symm.trans c2)) c) (fun _ _ _ M2 x kk re hx0 hE hkk hv z7 z8 => ⟨re.1, rfl, ?_⟩) (fun _ q => absurd ⟨e1, e2⟩ q)
      obtain ⟨k2, f2, nd2, l2, t2, z2⟩ := re
      have F : Fr (fun q => q = 3 ∨ (5 ≤ q ∧ q < 25) ∨ bk (27 + 444 * k + 13) 4 q ∨ q = 2230 ∨ (2232 ≤ q ∧ q ≤ 2238)) M M2 := (f1.wide fun q hq => by unfold bk at *; omega).trans (f2.wide fun q hq => by unfold bk at *; omega)
      have hnd : ndB (T * 260) M M2 := fun f j f1' f2' f3 => (nd2 f j f1' f2' f3).trans (f1.i (by unfold bk; omega) j)
      have gk : gG M2 (27 + 444 * k) = ((gG M (27 + 444 * k)).1, (gG M (27 + 444 * k)).2.1, fApp (fSt (fNo (gG M 8).2.2.1)) (ee tp 151 0).2.2, (gG M (27 + 444 * k)).2.2.2) := by
        rw [gG_fr f2 fun j hj q => by omega]; exact g1
      obtain ⟨l1, l3⟩ := LaR_mk (T := T) (T' := T + 1) k2 F (fun q q1 q2 q3 q4 => by have := q3 k hk; unfold bk at q4; omega) (by unfold bk; omega) hnd (by omega) h8 h9
      refine ⟨k2, fun _ => 0, 0, T + 1, ⟨by omega, fun j hj => absurd hj (by omega), fun _ _ => rfl⟩, ⟨?_, fun j hj => absurd hj (by omega)⟩, ⟨l2, fun j hj => absurd hj (by omega)⟩, ?_, ⟨t2, by omega⟩, fun k' hk' => ?_, l1, l3⟩
      · rw [f2.i (by omega)]; exact t1
      · rw [gG_fr f2 fun j hj q => by omega]; exact d1
      · by_cases ck : k' = k
        · subst ck
          obtain ⟨p1, p2, σ, p3⟩ := hLP.resolve_left fun q => c q.2
          have e10 : mI M2 (27 + 444 * k') 10 = mI M (27 + 444 * k') 10 := by
            show (gG M2 (27 + 444 * k')).2.2.2 = _
            rw [gk]; rfl
          have e7 : mI M2 2237 k' = mI M 2237 k' := (z7 k').trans r7
          refine Or.inr ⟨by rw [e7]; exact p1, by rw [e10]; exact p2, σ, ?_⟩
          rw [gk, e7, z8, if_pos rfl]
          obtain ⟨⟨⟨u1, u2, u3, u4, u5, u6⟩, u7, u8, u9, u10, u11⟩, v2, v3, v4⟩ := (p3.keep hnd).le (show T * 260 ≤ (T + 1) * 260 by omega)
          obtain ⟨i1, i2, _⟩ := fApp_f (fSt (fNo (gG M 8).2.2.1)) (Int.le_refl 0) (ee tp 151 0).2.2
          have i1 : (fApp (fSt (fNo (gG M 8).2.2.1)) (ee tp 151 0).2.2).2.2.2.1 = ((ee tp 151 0).2.2.length : Int) := by rw [i1]; exact Int.zero_add _
          have i2 : (fApp (fSt (fNo (gG M 8).2.2.1)) (ee tp 151 0).2.2).2.2.2.2 = 1 := by rw [i2]; rfl
          have hFE : FE (fApp (fSt (fNo (gG M 8).2.2.1)) (ee tp 151 0).2.2) 0 (ee tp 151 0).2.2 := FE_new (Int.le_refl 0) rfl (by decide)
          have hG : Gr (gG M (27 + 444 * k')) ((gG M (27 + 444 * k')).1, (gG M (27 + 444 * k')).2.1, fApp (fSt (fNo (gG M 8).2.2.1)) (ee tp 151 0).2.2, (gG M (27 + 444 * k')).2.2.2) := by
            refine ⟨⟨u7.1, Int.le_refl _, u7.2⟩, fun _ _ _ _ => rfl, fun _ _ q => q, ?_⟩
            unfold gForm
            rw [if_neg (fun q => absurd q.2.1 (Int.lt_irrefl _))]
          refine ⟨⟨⟨u1, u2, u3, u4, u5, fa⟩, u7, u8, u9, by rw [i1]; omega, by rw [i2]; omega⟩, v2, fun s hs => ?_, Or.inr ⟨by omega, by rw [i2]; decide, 0, _, kk, rfl, hFE, hE, hkk, hv⟩⟩
          obtain ⟨⟨a, b, hb, hB⟩, hL⟩ := v3 s hs
          exact ⟨⟨a, b, hb, hB.keep ⟨fun _ _ _ _ _ => rfl, fun _ _ _ _ => rfl⟩ hG ⟨rfl, fun _ _ => rfl⟩ fun _ _ => rfl⟩, hL.keep hB.1 rfl hG Cl.refl fun _ _ => rfl⟩
        · exact (h7 k' hk').keep F (fun j hj q => by unfold bk at q; omega) (by rw [z7]; exact f1.i (by unfold bk; omega) k') (by rw [z8, if_neg ck]; exact f1.i (by unfold bk; omega) k') hnd (by omega)
    · have r31 : mI M1 2230 1 = n ∧ ∀ j, j < n → mI M1 2231 j = tp j := ⟨(f1.i (by omega) 1).trans h3, fun j hj => (f1.i (by omega) j).trans (h3' j hj)⟩
      have r7 : mI M1 2237 k = mI M 2237 k := f1.i (by omega) k
      refine r_cost (N := 151) (T := T) h1 hM (by omega) (by omega) (by omega) hk k1 r31 ((f1.i (by omega) 6).trans h5) (fun c2 => absurd (hnone.mpr (r7.symm.trans c2)) c) (fun _ c1 c2 => absurd ⟨c1, c2⟩ e1) (fun _ _ M2 re z7 z8 => ⟨re.1, rfl, ?_⟩)
      obtain ⟨k2, f2, nd2, l2, t2, z2⟩ := re
      have F : Fr (fun q => q = 3 ∨ (5 ≤ q ∧ q < 25) ∨ q = 2230 ∨ (2232 ≤ q ∧ q ≤ 2238)) M M2 := (f1.wide fun q hq => by omega).trans (f2.wide fun q hq => by omega)
      have hnd : ndB (T * 260) M M2 := fun f j f1' f2' f3 => (nd2 f j f1' f2' f3).trans (f1.i (by omega) j)
      obtain ⟨l1, l3⟩ := LaR_mk (T := T) (T' := T) k2 F (fun q q1 q2 q3 q4 => by omega) (by omega) hnd (Nat.le_refl _) h8 h9
      refine ⟨k2, fun _ => 0, 0, T, ⟨by omega, fun j hj => absurd hj (by omega), fun _ _ => rfl⟩, ⟨?_, fun j hj => absurd hj (by omega)⟩, ⟨l2, fun j hj => absurd hj (by omega)⟩, ?_, ⟨t2, by omega⟩, fun k' hk' => ?_, l1, l3⟩
      · rw [f2.i (by omega)]; exact t1
      · rw [gG_fr f2 fun j hj q => by omega]; exact d1
      · exact (h7 k' hk').keep F (fun j hj q => by omega) (by rw [z7]; exact f1.i (by omega) k') (by rw [z8]; exact f1.i (by omega) k') hnd (Nat.le_refl _)
  · obtain ⟨d, rfl⟩ : ∃ e, d = e + 1 := ⟨d - 1, by omega⟩
    exact B9_cost a hK hTop (c_programAt_no hTop hK ha ⟨hK, fun c => absurd rfl c, fun _ => ⟨hK, r_cost_no hM (by omega) hK ha ⟨hK, rfl, h0.up⟩⟩⟩)
end PROGS
