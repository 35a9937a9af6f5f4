/-! one point goes on both sides: the relation stays -/
section REMOVE3
variable {P : Pg} {σ : Int → Int} {D : Int → Int} {S : Sr} {U : Tr}
theorem cur_rmS {i : Nat} : cur (rmS S i) = cur S := by
  unfold rmS
  cases nB S <;> rfl
theorem sC_rmS {i k : Nat} : sC (rmS S i) k = sC S k := by
  unfold rmS
  cases nB S <;> rfl
theorem sT_rmS {i k : Nat} : sT (rmS S i) k = sT S k := by
  unfold rmS
  cases nB S <;> rfl
theorem sB_rmS {i k : Nat} : sB (rmS S i) k = sB S k := by
  unfold rmS
  cases nB S <;> rfl
theorem sQ_rmS {i : Nat} : sQ (rmS S i) = sQ S := by
  unfold rmS
  cases nB S <;> rfl
theorem way_rmS {i j : Nat} : (rmS S i).1 j = if j = cur S then wWithout (S.1 (cur S)) i else S.1 j := by
  unfold rmS
  cases nB S <;> rfl
theorem way_rmS_f {i j : Nat} : ((rmS S i).1 j).1 = (S.1 j).1 ∧ ((rmS S i).1 j).2.1 = (S.1 j).2.1 ∧ ((rmS S i).1 j).2.2.1 = (S.1 j).2.2.1 ∧ ((rmS S i).1 j).2.2.2.1 = (S.1 j).2.2.2.1 := by
  rw [way_rmS]
  by_cases c : j = cur S
  · rw [if_pos c, c]; exact ⟨rfl, rfl, rfl, rfl⟩
  · rw [if_neg c]; exact ⟨rfl, rfl, rfl, rfl⟩
theorem stS_rmS {i : Nat} {l : Int} : stS (rmS S i) l = stS S l := by
  unfold stS
  rw [(way_rmS_f).1]
theorem RP.seg (h : RP P σ D S U) (hB : SB P S) {v k : Nat} (hk : k < (CL S).length) (h1 : loS S (v : Int) ≤ k) (h2 : (v : Int) < sC S 11 → k < loS S ((v : Int) + 1)) (hv : (v : Int) ≤ sC S 11) : gp U.2.2.1 k 45 = v := by
  obtain ⟨_, _, _, a4, a5, a6, _⟩ := h
  by_cases c : k < S.2.1.length
  · rw [a4 k c]
    by_cases c0 : v = 0
    · omega
    · rw [loS_i, if_neg c0] at h1; omega
  · have lk := a5 k (by omega) hk
    have up : ¬ ((v : Int) + 1 ≤ gp U.2.2.1 k 45) := fun q => by
      have hvn : (v : Int) < sC S 11 := by omega
      have b := a6 (v + 1) (by omega) (by omega)
      have := (b.2.2 k (by omega) hk).mpr (by omega)
      have e : loS S (((v + 1 : Nat)) : Int) = loS S ((v : Int) + 1) := by congr 1
      have := h2 hvn
      omega
    by_cases c0 : v = 0
    · omega
    · have b := a6 v (by omega) hv
      have := (b.2.2 k (by omega) hk).mp h1
      omega
theorem rm_ok (h : RP P σ D S U) (hw : RW P σ D S U) (hB : SB P S) (h13 : U.1 13 = sC S 11) {i : Nat} (hi : i < (sL (nB S) S).length) (hlo : loS S (sC S 11) ≤ rmO S i) : RP P σ D (rmS S i) (oOff U (rmO S i) (gp U.2.2.1 (rmO S i))) ∧ RW P σ D (rmS S i) (oOff U (rmO S i) (gp U.2.2.1 (rmO S i))) := by
  obtain ⟨p1, p2, p3, p4⟩ := rm_parts h hB hi
  have hn := hB.2.2.2.2.2.2.1
  have hcl := CL_len (S := S)
  have h0 := h
  obtain ⟨a1, a2, a3, a4, a5, a6, a7⟩ := h
  generalize hR : rmO S i = R at *
  have hRU : R < U.2.2.1.length := by omega
  -- the level of what goes
  have eRn : gp U.2.2.1 R 45 = sC S 11 := by
    by_cases c : R < S.2.1.length
    · rw [a4 R c]
      unfold rmO at hR
      cases hb : nB S with
      | false => have := nB_f hb; omega
      | true => rw [hb, if_pos rfl] at hR; omega
    · have := a5 R (by omega) p2
      have hc := a6 (sC S 11).toNat (by omega) (by omega)
      rw [show (((sC S 11).toNat : Nat) : Int) = sC S 11 by omega] at hc
      have := (hc.2.2 R (by omega) p2).mp hlo
      omega
  -- the bounds below
  have loR : ∀ l : Int, 0 ≤ l → l ≤ sC S 11 → loS S l ≤ R := fun l l0 l1 => by
    by_cases c : l = 0
    · rw [c]; unfold loS; rw [if_pos rfl]; exact Nat.zero_le _
    · have hc := a6 l.toNat (by omega) (by omega)
      rw [show ((l.toNat : Nat) : Int) = l by omega] at hc
      have hof : S.2.1.length ≤ R := by
        have : loS S (sC S 11) = S.2.1.length + (sB S (sC S 11).toNat).toNat := by unfold loS; rw [if_neg (by omega)]
        omega
      exact (hc.2.2 R hof p2).mpr (by omega)
  have lo2 : ∀ l : Int, 0 ≤ l → l ≤ sC S 11 → loS S l ≤ loS S (sC S 11) := fun l l0 l1 => by
    by_cases c : l = 0
    · rw [c]; unfold loS; rw [if_pos rfl]; exact Nat.zero_le _
    · have hc := a6 l.toNat (by omega) (by omega)
      rw [show ((l.toNat : Nat) : Int) = l by omega] at hc
      have hd := a6 (sC S 11).toNat (by omega) (by omega)
      rw [show (((sC S 11).toNat : Nat) : Int) = sC S 11 by omega] at hd
      have hof : S.2.1.length ≤ loS S (sC S 11) := by unfold loS; rw [if_neg (by omega)]; omega
      exact (hc.2.2 _ hof (by omega)).mpr (by have := (hd.2.2 _ hof (by omega)).mp (Nat.le_refl _); omega)
  have lvs : ∀ J, J < (CL S).length → 0 ≤ gp U.2.2.1 J 45 ∧ gp U.2.2.1 J 45 ≤ sC S 11 := fun J hJ => by
    by_cases c : J < S.2.1.length
    · rw [a4 J c]; omega
    · have := a5 J (by omega) hJ; omega
  -- what stands at a place then
  have gU : ∀ J, J + 1 < (CL S).length → gp (oOff U R (gp U.2.2.1 R)).2.2.1 J = cb (gp U.2.2.1 R 44) (gp U.2.2.1 R 34) (gp U.2.2.1 (if J < R then J else J + 1)) := fun J hJ => gp_map_erase (Or.inl (by omega))
  have lo' : ∀ l : Int, 0 ≤ l → l ≤ sC S 11 → loS (rmS S i) l = loS S l := fun l l0 l1 => by
    unfold loS
    by_cases c : l = 0
    · rw [if_pos c, if_pos c]
    · rw [if_neg c, if_neg c, sB_rmS, p4, if_pos (show nB S = true from decide_eq_true (by omega))]
  have ca := CM_all h0.cms (fun J k hJ h1 h2 => h0.lo_eq hB hJ h1 h2)
  have eqs : ∀ k, k + 1 < (CL S).length → idU (oOff U R (gp U.2.2.1 R)) k = rmI R (idU U) k ∧ csS (rmS S i) k = rmC R (csS S) k ∧ dpS (rmS S i) k = rmI R (dpS S) k := fun k hk => by
    obtain ⟨g1, g2, g3, g4, g5, g6⟩ := p3 k hk
    refine ⟨?_, g6, ?_⟩
    · unfold idU
      rw [gU k hk, cb_k (by omega)]
      by_cases c : k < R
      · rw [if_pos c]; exact (if_pos c).symm
      · rw [if_neg c]; exact (if_neg c).symm
    · unfold dpS
      rw [g1]
      by_cases c : k < R
      · rw [if_pos c]; exact (if_pos c).symm
      · rw [if_neg c]; exact (if_neg c).symm
  have hcR := (a7 R p2).2
  rw [eRn] at hcR
  have idR := (a2 R p2).1
  have rmCM : ∀ (lo hi : Nat) (c : Nat → Bool) (par dep : Int), hi ≤ (CL S).length → (lo ≤ R → lo ≤ loS S (sC S 11)) → (lo ≤ R ∨ hi ≤ R) → CM (idU U) (csS S) (dpS S) lo hi c par dep → CM (idU (oOff U R (gp U.2.2.1 R))) (csS (rmS S i)) (dpS (rmS S i)) lo (if R < hi then hi - 1 else hi) (cWithout c R) (if par = idU U R then gp U.2.2.1 R 34 else par) dep := fun lo hi c par dep h1 h2 h3 h4 => by
    refine CM_congr (fun k hk => ?_) (CM_rm p2 h1 (fun i j hi hj e => h0.inj hi hj e) (by omega) h2 h3 h4 hcR)
    refine eqs k ?_
    split at hk <;> omega
  have cb34 : ∀ r : Pf, cb (gp U.2.2.1 R 44) (gp U.2.2.1 R 34) r 34 = if r 34 = idU U R then gp U.2.2.1 R 34 else r 34 := fun r => by
    unfold cb idU
    by_cases c : r 34 = gp U.2.2.1 R 44
    · rw [if_pos c, if_pos c]; exact fup_self
    · rw [if_neg c, if_neg c]
  constructor
  · refine ⟨by rw [oOff_len hRU, p1, a1], fun J hJ => ?_, fun J J' hJ hJ' => ?_, fun J hJ => ?_, fun J h1 h2 => ?_, fun l l0 l1 => ?_, fun J hJ => ?_⟩
    · rw [p1] at hJ
      rw [(eqs J (by omega)).1]
      have e16 : (oOff U R (gp U.2.2.1 R)).1 16 = U.1 16 := oOff_s (by decide)
      rw [e16]
      unfold rmI
      split
      · exact a2 J (by omega)
      · exact a2 (J + 1) (by omega)
    · rw [p1] at hJ'
      rw [(eqs J (by omega)).1, (eqs J' (by omega)).1]
      unfold rmI
      split
      · split
        · exact a3 _ _ hJ (by omega)
        · exact a3 _ _ (by omega) (by omega)
      · rw [if_neg (by omega)]
        exact a3 _ _ (by omega) (by omega)
    · rw [p4] at hJ
      have hJ2 : J + 1 < (CL S).length := by
        split at hJ
        · rename_i hb
          have : (sL (nB S) S).length = S.2.2.1.length := by rw [hb]; rfl
          omega
        · rename_i hb
          have := h0.noInner (nB_f (Bool.not_eq_true _ ▸ hb))
          omega
      rw [gU J hJ2, cb_k (by decide)]
      by_cases c : J < R
      · rw [if_pos c]; exact a4 J (by split at hJ <;> omega)
      · rw [if_neg c]
        refine a4 (J + 1) ?_
        split at hJ
        · rename_i hb
          have : R = S.2.1.length + i := by rw [← hR]; unfold rmO; rw [hb, if_pos rfl]
          omega
        · omega
    · rw [p1] at h2
      rw [p4] at h1
      rw [gU J (by omega), cb_k (by decide), sC_rmS]
      split at h1
      · by_cases c : J < R
        · rw [if_pos c]; exact a5 J h1 (by omega)
        · rw [if_neg c]; exact a5 (J + 1) (by omega) (by omega)
      · rename_i hb
        have := h0.noInner (nB_f (Bool.not_eq_true _ ▸ hb))
        omega
    · rw [sC_rmS] at l1
      obtain ⟨b0, b1, b2⟩ := a6 l l0 l1
      have hb : nB S = true := decide_eq_true (by omega)
      have hil : i < S.2.2.1.length := by rw [hb] at hi; exact hi
      have eR : R = S.2.1.length + i := by rw [← hR]; unfold rmO; rw [hb, if_pos rfl]
      have eN : (rmS S i).2.2.1.length = S.2.2.1.length - 1 := by
        have := CL_len (S := rmS S i)
        rw [p4, if_pos hb] at this
        omega
      have g := loR l (by omega) l1
      have g2 : loS S (l : Int) = S.2.1.length + (sB S l).toNat := by rw [loS_i, if_neg (by omega)]
      rw [sB_rmS, eN]
      refine ⟨b0, by omega, fun J j1 j2 => ?_⟩
      rw [p4, if_pos hb] at j1
      rw [p1] at j2
      rw [lo' l (by omega) l1, gU J (by omega), cb_k (by decide)]
      by_cases c : J < R
      · rw [if_pos c]; exact b2 J j1 (by omega)
      · rw [if_neg c]
        have := b2 (J + 1) (by omega) (by omega)
        constructor
        · intro _; exact this.mp (by omega)
        · intro _; omega
    · rw [p1] at hJ
      have hJ2 : J + 1 < (CL S).length := by omega
      obtain ⟨g1, g2, g3, g4, g5, g6⟩ := p3 J hJ2
      have hph : (if J < R then J else J + 1) < (CL S).length := by split <;> omega
      obtain ⟨c1, c2⟩ := a7 _ hph
      have hlv := lvs _ hph
      have hhi : (if R < (if J < R then J else J + 1) then (if J < R then J else J + 1) - 1 else (if J < R then J else J + 1)) = J := by
        by_cases c : J < R
        · rw [if_pos c, if_neg (by omega)]
        · rw [if_neg c, if_pos (by omega)]; omega
      rw [gU J hJ2, cb_k (by decide), lo' _ hlv.1 hlv.2, stS_rmS]
      refine ⟨PtR_cell g1 g2 g3 g4 g5 (fun k hk => cb_k hk) c1, ?_⟩
      have r := rmCM _ _ _ _ _ (by omega) (fun _ => lo2 _ hlv.1 hlv.2) (Or.inl (loR _ hlv.1 hlv.2)) c2
      rw [hhi] at r
      rw [cb34, (eqs J hJ2).2.1, (eqs J hJ2).2.2]
      have e1 : rmC R (csS S) J = cWithout (csS S (if J < R then J else J + 1)) R := by
        by_cases c : J < R
        · rw [rmC_lo c, if_pos c]
        · rw [rmC_hi c, if_neg c]
      have e2 : rmI R (dpS S) J = dpS S (if J < R then J else J + 1) := by
        unfold rmI
        by_cases c : J < R
        · rw [if_pos c, if_pos c]
        · rw [if_neg c, if_neg c]
      rw [e1, e2]
      exact r
  · obtain ⟨w1, w2, w3, w4⟩ := hw
    have wy : ∀ v : Nat, v ≤ cur S → (oOff U R (gp U.2.2.1 R)).2.1 v = cb (gp U.2.2.1 R 44) (gp U.2.2.1 R 34) (U.2.1 v) := fun v hv => by
      show (if (v : Int) ≤ U.1 13 then cb _ _ (U.2.1 v) else U.2.1 v) = _
      rw [if_pos (by rw [h13]; unfold cur at hv; omega)]
    refine ⟨w1, fun v hv => ?_, ?_, fun v v1 hv => ?_⟩
    · rw [cur_rmS] at hv
      have hv2 : (v : Int) ≤ sC S 11 := by unfold cur at hv; omega
      obtain ⟨c1, c2⟩ := w2 v hv
      obtain ⟨f1, f2, f3, f4⟩ := way_rmS_f (S := S) (i := i) (j := v)
      rw [wy v hv, stS_rmS, lo' v (by omega) hv2]
      refine ⟨WR_cell f1 f2 f3 f4 (fun k hk => cb_k (by omega)) c1, ?_⟩
      rw [cb34, f1]
      have hhi : hiS S v ≤ (CL S).length := by
        unfold hiS
        split
        · have := loR (v + 1) (by omega) (by omega); omega
        · exact Nat.le_refl _
      have r := rmCM _ _ _ _ _ hhi (fun _ => lo2 v (by omega) hv2) (Or.inl (loR v (by omega) hv2)) c2
      have eh : (if R < hiS S v then hiS S v - 1 else hiS S v) = hiS (rmS S i) v := by
        unfold hiS
        rw [sC_rmS, p1]
        by_cases c : (v : Int) < sC S 11
        · rw [if_pos c, if_pos c, lo' (v + 1) (by omega) (by omega)]
          have := loR (v + 1) (by omega) (by omega)
          rw [if_neg (by omega)]
        · rw [if_neg c, if_neg c, if_pos p2]
      rw [eh] at r
      have ec : cwW (rmS S i) v = cWithout (cwW S v) R := by
        by_cases c : v = cur S
        · unfold cwW
          rw [way_rmS, if_pos c, p4, c]
          by_cases c0 : cur S = 0
          · rw [if_pos c0, if_pos c0]
            have hb : nB S = false := decide_eq_false (by unfold cur at c0; omega)
            have : R = i := by rw [← hR]; unfold rmO; rw [hb, if_neg (by decide)]
            rw [this]; rfl
          · rw [if_neg c0, if_neg c0]
            have hb : nB S = true := decide_eq_true (by unfold cur at c0; omega)
            have : R = S.2.1.length + i := by rw [← hR]; unfold rmO; rw [hb, if_pos rfl]
            rw [if_pos hb, this]
            exact shf_without
        · have hb : nB S = true := decide_eq_true (by unfold cur at c hv; omega)
          have hlt : (v : Int) < sC S 11 := by unfold cur at c hv; omega
          have e1 : cwW (rmS S i) v = cwW S v := by
            unfold cwW
            rw [way_rmS, if_neg c, p4, if_pos hb]
          rw [e1]
          have hh : hiS S v ≤ R := by
            unfold hiS
            rw [if_pos hlt]
            exact loR (v + 1) (by omega) (by omega)
          refine (cWithout_id fun j hj => ?_).symm
          have := ca (hiS S v) (loS S v) _ _ _ (by omega) (fun k k1 k2 => ?_) c2 j hj
          · omega
          · have hk : k < hiS S v := k2
            rw [h0.seg hB (v := v) (by omega) k1 (fun q => by unfold hiS at hk; rw [if_pos q] at hk; exact hk) hv2]
      rw [ec]
      exact r
    · rw [wy 0 (by omega), cb_k (by decide), (way_rmS_f).1]
      exact w3
    · rw [cur_rmS] at hv
      rw [stS_rmS]
      exact w4 v v1 hv
end REMOVE3
