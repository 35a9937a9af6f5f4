/-! copy on both sides -/
section COPYS
variable {K M : ZMem}
theorem LaB.b12 {P : Pg} {S : Sr} {U : Tr} {T : Nat} {c x : Int} (h : LaB M P S U T c) (hx : 0 ≤ x ∧ x ≤ 2000) (hc : c + x ≤ 1100000) : LaB M P (uC S 13 x) U T c := by
  obtain ⟨σ, root, price, D, h1, h2, h3, h4⟩ := h
  refine ⟨σ, root, price, D, h1, h2, h3, ?_⟩
  rcases h4 with ⟨w1, w2⟩ | ⟨w1, w2⟩
  · exact Or.inl ⟨w1, RS_bud w2 hx (by omega)⟩
  · refine Or.inr ⟨w1, ?_⟩
    have e : uC (uC S 13 x) 12 0 = uC (uC S 12 0) 13 x := by
      show (_, _, _, _, _, _, _) = (_, _, _, _, _, _, _)
      refine Prod.ext rfl (Prod.ext rfl (Prod.ext rfl (Prod.ext rfl (Prod.ext rfl (Prod.ext rfl (funext fun j => ?_))))))
      show (if j = 12 then (0 : Int) else if j = 13 then x else sC S j) = (if j = 13 then x else if j = 12 then (0 : Int) else sC S j)
      by_cases c : j = 12
      · rw [if_pos c, if_neg (by omega), if_pos c]
      · rw [if_neg c, if_neg c]
    have w3 : RS P σ root price D (uC (uC S 12 0) 13 x) U x (sT S 2) := RS_bud w2 hx (by show sT S 2 + x ≤ 1100000; omega)
    rw [e]
    exact w3
theorem vT_shift {R R' : Pf} {s s' : Nat} (h : ∀ j, j < 3849 → R' (s' + j) = R (s + j)) (h61 : (R (s + 14)).toNat ≤ 61) : vT R' s' = vT R s := by
  have hw : ∀ i, i < 7 → vW R' s' i = vW R s i := fun i hi => tq_congr fun k _ hk => by
    have := h (17 + 35 * i + k) (by omega)
    show R' (s' + 17 + 35 * i + k) = R (s + 17 + 35 * i + k)
    rw [show s' + 17 + 35 * i + k = s' + (17 + 35 * i + k) by omega, show s + 17 + 35 * i + k = s + (17 + 35 * i + k) by omega]
    exact this
  have hp : ∀ i, i < 61 → vP R' s' i = vP R s i := fun i hi => tq_congr fun k _ hk => by
    have := h (262 + 47 * i + k) (by omega)
    show R' (s' + 262 + 47 * i + k) = R (s + 262 + 47 * i + k)
    rw [show s' + 262 + 47 * i + k = s' + (262 + 47 * i + k) by omega, show s + 262 + 47 * i + k = s + (262 + 47 * i + k) by omega]
    exact this
  have e1 : tq 0 17 (fun k => R' (s' + k)) = tq 0 17 (fun k => R (s + k)) := tq_congr fun k _ hk => h k (by omega)
  have e2 : (fun i => if i < 7 then vW R' s' i else fun _ => 0) = (fun i => if i < 7 then vW R s i else fun _ => (0 : Int)) := funext fun i => by
    by_cases c : i < 7
    · rw [if_pos c, if_pos c, hw i c]
    · rw [if_neg c, if_neg c]
  have e3 : (List.range (R' (s' + 14)).toNat).map (vP R' s') = (List.range (R (s + 14)).toNat).map (vP R s) := by
    rw [h 14 (by omega)]
    exact List.map_congr_left fun i hi => hp i (by have := List.mem_range.mp hi; omega)
  have e4 : tq 0 720 (fun k => R' (s' + 3129 + k)) = tq 0 720 (fun k => R (s + 3129 + k)) := tq_congr fun k _ hk => by
    have := h (3129 + k) (by omega)
    show R' (s' + 3129 + k) = R (s + 3129 + k)
    rw [Nat.add_assoc, Nat.add_assoc]
    exact this
  show (_, _, _, _) = (_, _, _, _)
  rw [e1, e2, e3, e4]
theorem both_copy {d i : Nat} {a b : Int} (hTop : TopAt K 2) (hM : ModelAt K 2230) (hSr : ∀ k, k < 4 → SrK K (44 + 444 * k)) (hd : 10 ≤ d) (hi : i < 512) (h : LaR K M i) : Both K d q9_copy q10_copy [zi a, zi b] i M := by
  obtain ⟨d, rfl⟩ : ∃ e, d = e + 1 := ⟨d - 1, by omega⟩
  have hK := h.1
  by_cases ha : 0 ≤ a ∧ a ≤ 3
  · obtain ⟨k, rfl⟩ : ∃ k : Nat, a = k := ⟨a.toNat, by omega⟩
    have hk : k < 4 := by omega
    by_cases hb : 0 ≤ b ∧ b ≤ 3
    · obtain ⟨l, rfl⟩ : ∃ l : Nat, b = l := ⟨b.toNat, by omega⟩
      have hl : l < 4 := by omega
      obtain ⟨T, hT, ⟨P, S, hAt, hLS⟩, mk, hth, _⟩ := h.srch hi hk
      obtain ⟨hnone, hLB⟩ := hLS.none
      have hSk : SearchAt K (44 + 444 * k) := (hTop.2.2.2.2.2.2.2.2.2.2.2 k hk).2.2.2
      have hSl : SearchAt K (44 + 444 * l) := (hTop.2.2.2.2.2.2.2.2.2.2.2 l hl).2.2.2
      have e7 : mI M (44 + 444 * k) 7 = sC S 7 := hAt.c (by decide) (by decide)
      refine B9_copy k l hK hTop (c_searchAt hTop hK hk ⟨hK, c_searchAt hTop hK hl ⟨hK, fun c => absurd c (by omega), fun _ => ⟨fun _ => ⟨hSk, fun q4 => ⟨hSl, fun q5 => ?_, fun q5 => ?_⟩, fun q4 => ?_⟩, fun q => absurd (show 44 + 444 * l ≠ 0 by omega) q⟩⟩⟩)
      · -- onto itself
        rw [e7] at q4
        have hkl : k = l := by omega
        subst hkl
        have hn0 : mI M 2239 (3849 * k) ≠ 0 := fun q => q4 (hnone.mp q)
        have u15 := (hLB q4).u0.2.2.2.2.2.1
        have e15 : mI M 2239 (3849 * k + 15) = (sQ S).2 := by rw [← u15, vT_at (by decide)]
        have z : mI (sA M 2239 (zCpy (mI M 2239) (mI M 2239) (3849 * (k : Int)).toNat (3849 * (k : Int)).toNat 0)) 2239 = mI M 2239 := by
          show (if 2239 = 2239 then zCpy (mI M 2239) (mI M 2239) (3849 * (k : Int)).toNat (3849 * (k : Int)).toNat 0 else mI M 2239) = mI M 2239
          rw [if_pos rfl]
          funext j
          exact if_neg (by omega)
        have F : Fr (fun q => q = 2239) M (sA M 2239 (zCpy (mI M 2239) (mI M 2239) (3849 * (k : Int)).toNat (3849 * (k : Int)).toNat 0)) := Fr.refl.sA rfl
        have k2 : KW K (sA M 2239 (zCpy (mI M 2239) (mI M 2239) (3849 * (k : Int)).toNat (3849 * (k : Int)).toNat 0)) := hK.sA _ _
        refine ⟨hK, B10_copy k k hK hM (n_isSearch (by omega) hK hk ⟨hK, fun q => absurd q (by decide), fun _ => n_isSearch (by omega) hK hk ⟨hK, fun _ => n_isNone hM hK hk ⟨hK, fun _ => ⟨⟨by omega, by omega⟩, ⟨by omega, by omega⟩, fun q => absurd rfl q, fun _ => ⟨by omega, by omega, by omega, by omega, ⟨by omega, by omega⟩, ⟨by omega, by omega⟩, by omega, by omega, k2, ?_, ?_⟩⟩, fun q => absurd (if_neg hn0) q⟩, fun q => absurd (show (1 : Int) ≠ 0 by decide) q⟩⟩)⟩
        · rw [z, show ((3849 * (k : Int)) + 15).toNat = 3849 * k + 15 by omega, e15]
          exact hAt.an2
        · obtain ⟨P', S0, t1, t2⟩ := hth
          refine mk _ k2 (F.wide fun q hq => by unfold bk; omega) (fun j hj => F.i (by decide) j) (fun j hj _ => by rw [z]) ⟨P, S, hAt.frame k2 F fun j hj q => by omega, ?_⟩ ⟨P', S0, t1.frame k2 F fun j hj q => by omega, t2⟩
          rw [z]
          exact hLS.keep (fun f j f1 f2 _ => F.i (by omega) j) (Nat.le_refl _) (by omega)
      · -- onto another
        rw [e7] at q4
        have hkl : k ≠ l := fun q => q5 (by rw [q])
        obtain ⟨T2, hT2, ⟨P2, S2, hAt2, hLS2⟩, mk2, _, _⟩ := h.srch hi hl
        have hLBk := hLB q4
        have hn0 : mI M 2239 (3849 * k) ≠ 0 := fun q => q4 (hnone.mp q)
        have u15 := hLBk.u0.2.2.2.2.2.1
        refine s_sbecome (by omega) (by omega) (hSr l hl) (hSr k hk) hAt2 hAt hLS.1.1.2.1 hLS.1.1.2.2 fun M1 a1 => ⟨a1.1.1, a1.1.1, ?_⟩
        have r39 : mI M1 2239 = mI M 2239 := funext fun j => a1.2.i (by unfold bk; omega) j
        have hn1 : mI M1 2239 (3849 * k) ≠ 0 := by rw [r39]; exact hn0
        have ea : mI M1 (44 + 444 * l + 18) 1 = (sQ S).2 := a1.1.an2
        rw [ea]
        have k2 : KW K (sA M1 2239 (zCpy (mI M1 2239) (mI M1 2239) (3849 * (k : Int)).toNat (3849 * (l : Int)).toNat 3849)) := a1.1.1.sA _ _
        have F2 : Fr (fun q => q = 2239) M1 (sA M1 2239 (zCpy (mI M1 2239) (mI M1 2239) (3849 * (k : Int)).toNat (3849 * (l : Int)).toNat 3849)) := Fr.refl.sA rfl
        have g2 : ∀ j, mI (sA M1 2239 (zCpy (mI M1 2239) (mI M1 2239) (3849 * (k : Int)).toNat (3849 * (l : Int)).toNat 3849)) 2239 j = if 3849 * l ≤ j ∧ j < 3849 * l + 3849 then mI M 2239 (3849 * k + (j - 3849 * l)) else mI M 2239 j := fun j => by
          show (if 2239 = 2239 then zCpy (mI M1 2239) (mI M1 2239) (3849 * (k : Int)).toNat (3849 * (l : Int)).toNat 3849 else mI M1 2239) j = _
          rw [if_pos rfl, r39, show (3849 * (k : Int)).toNat = 3849 * k by omega, show (3849 * (l : Int)).toNat = 3849 * l by omega]
          rfl
        refine B10_copy k l a1.1.1 hM (n_isSearch (by omega) a1.1.1 hk ⟨a1.1.1, fun q => absurd q (by decide), fun _ => n_isSearch (by omega) a1.1.1 hl ⟨a1.1.1, fun _ => n_isNone hM a1.1.1 hk ⟨a1.1.1, fun _ => ⟨⟨by omega, by omega⟩, ⟨by omega, by omega⟩, fun _ => ⟨by omega, by omega, by omega, by omega, ⟨by omega, by omega⟩, ⟨by omega, by omega⟩, by omega, by omega, k2, ?_, ?_⟩, fun q => absurd (show (k : Int) ≠ l by omega) q⟩, fun q => absurd (if_neg hn1) q⟩, fun q => absurd (show (1 : Int) ≠ 0 by decide) q⟩⟩)
        · rw [g2, if_pos (by omega), ← u15, vT_at (by decide), show 3849 * k + (((3849 * (l : Int)) + 15).toNat - 3849 * l) = 3849 * k + 15 by omega]
        · generalize sA M1 2239 (zCpy (mI M1 2239) (mI M1 2239) (3849 * (k : Int)).toNat (3849 * (l : Int)).toNat 3849) = M2 at *
          have Fs : Fr (fun q => bk (44 + 444 * l) 427 q ∨ q = 2239) M M2 := (a1.2.wide fun q hq => Or.inl hq).trans (F2.wide fun q hq => Or.inr hq)
          have F : Fr (fun q => bk (44 + 444 * l) 427 q ∨ bk 1803 427 q ∨ q = 2230 ∨ q = 2239 ∨ q = 2240) M M2 := Fs.wide fun q hq => by rcases hq with q1 | q1; exact Or.inl q1; exact Or.inr (Or.inr (Or.inr (Or.inl q1)))
          obtain ⟨P', S0, t1, t2⟩ := hth
          have hU : vT (mI M2 2239) (3849 * l) = vT (mI M 2239) (3849 * k) := vT_shift (fun j hj => by rw [g2, if_pos (by omega), show 3849 * l + j - 3849 * l = j by omega]) hLS.h61
          refine mk2 M2 k2 F (fun j hj => Fs.i (by unfold bk; omega) j) (fun j hj _ => by rw [g2, if_neg (by omega)]) ⟨P, xBecome S2 S, a1.1.frame k2 F2 fun j hj q => by omega, ?_⟩ ⟨P', S0, t1.frame k2 Fs fun j hj q => by unfold bk at q; omega, t2⟩
          have eT : T2 = T := by omega
          rw [hU, eT]
          have hq := hLS2.1.2.1
          have hnd : ndB (T * 260) M M2 := fun f j f1 f2 _ => Fs.i (by unfold bk; omega) j
          exact ⟨⟨hLS.1.1, hq, hLS.1.2.2⟩, Or.inr ((hLBk.keep hnd (Nat.le_refl _) (by omega)).b12 hq (by omega))⟩
      · rw [e7] at q4
        have hn0 : mI M 2239 (3849 * k) = 0 := hnone.mpr (Decidable.not_not.mp q4)
        exact ⟨hK, B10_copy k l hK hM (n_isSearch (by omega) hK hk ⟨hK, fun q => absurd q (by decide), fun _ => n_isSearch (by omega) hK hl ⟨hK, fun _ => n_isNone hM hK hk ⟨hK, fun q => absurd q (by rw [if_pos hn0]; decide), fun _ => ⟨hK, rfl, h.up⟩⟩, fun q => absurd (show (1 : Int) ≠ 0 by decide) q⟩⟩)⟩
    · exact B9_copy k b hK hTop (c_searchAt hTop hK hk ⟨hK, c_searchAt_no hTop hK hb ⟨hK, fun c => absurd c (by omega), fun _ => ⟨fun q => absurd rfl q, fun _ => ⟨hK, B10_copy k b hK hM (n_isSearch (by omega) hK hk ⟨hK, fun q => absurd q (by decide), fun _ => n_isSearch_no (by omega) hK hb ⟨hK, fun q => absurd rfl q, fun _ => ⟨hK, rfl, h.up⟩⟩⟩)⟩⟩⟩⟩)
  · have fin : Ci (d + 1) q10_copy [zr 2230, zi a, zi b] M (fun y M2 => KW K M2 ∧ -2001 = y ∧ LaR K M2 (i + 1)) := B10_copy a b hK hM (n_isSearch_no (by omega) hK ha ⟨hK, fun _ => ⟨hK, rfl, h.up⟩, fun c => absurd rfl c⟩)
    by_cases hb : 0 ≤ b ∧ b ≤ 3
    · obtain ⟨l, rfl⟩ : ∃ l : Nat, b = l := ⟨b.toNat, by omega⟩
      exact B9_copy a l hK hTop (c_searchAt_no hTop hK ha ⟨hK, c_searchAt hTop hK (show l < 4 by omega) ⟨hK, fun _ => ⟨hK, fin⟩, fun c => absurd rfl c⟩⟩)
    · exact B9_copy a b hK hTop (c_searchAt_no hTop hK ha ⟨hK, c_searchAt_no hTop hK hb ⟨hK, fun _ => ⟨hK, fin⟩, fun c => absurd rfl c⟩⟩)
end COPYS
