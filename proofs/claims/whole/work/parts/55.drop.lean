/-! a drop and a cut are the same -/
theorem pOf_eq {id : Int} : ∀ (l : List Pf) (i : Int) (R : Nat), R < l.length → gp l R 44 = id → (∀ j, j < R → gp l j 44 ≠ id) → pOf id l i = i + R
  | [], _, _, h, _, _ => by simp at h
  | p :: l, i, 0, h, e, hn => by
    have e : p 44 = id := e
    rw [pOf, if_pos e]
    omega
  | p :: l, i, R + 1, h, e, hn => by
    have e0 : p 44 ≠ id := hn 0 (by omega)
    rw [pOf, if_neg e0, pOf_eq l (i + 1) R (by simpa using h) e (fun j hj => hn (j + 1) (by omega))]
    omega
theorem pOf_none {id : Int} : ∀ (l : List Pf) (i : Int), (∀ j, j < l.length → gp l j 44 ≠ id) → pOf id l i = -1
  | [], _, _ => rfl
  | p :: l, i, hn => by
    have e0 : p 44 ≠ id := hn 0 (by simp)
    rw [pOf, if_neg e0]
    exact pOf_none l (i + 1) fun j hj => hn (j + 1) (by simpa using hj)
theorem dropN_none {since : Int} : ∀ (n : Nat) (l : List Pt) (w : Wy) (g : Int), (∀ j, j < n → w.2.2.2.2 j = true → (gq l j).1.1 5 < since) → n ≤ l.length → dropN since n l w g = (l, w, g)
  | 0, _, _, _, _, _ => rfl
  | n + 1, l, w, g, h, hn => by
    rw [dropN, if_neg ?_]
    · exact dropN_none n l w g (fun j hj q => h j (by omega) q) (by omega)
    · intro q
      have := h n (by omega) q.1
      have q2 := q.2
      rw [List.getElem?_eq_getElem (by omega)] at q2
      have e : gq l n = l[n] := by unfold gq; rw [List.getElem?_eq_getElem (by omega)]; rfl
      rw [e] at this
      have q2 : since ≤ l[n].1.1 5 := q2
      omega
section DROP
variable {P : Pg} {σ : Int → Int} {D : Int → Int}
theorem nB_rmS {S : Sr} {i : Nat} : nB (rmS S i) = nB S := by
  unfold nB
  rw [sC_rmS]
theorem sL_rmS {S : Sr} {i : Nat} : sL (nB S) (rmS S i) = rmL (sL (nB S) S) i := by
  unfold rmS
  cases nB S <;> rfl
theorem uL_rmS {S : Sr} {i : Nat} {l : List Pt} {w : Wy} : uW (uL (nB S) (rmS S i) l) (cur S) w = uW (uL (nB S) S l) (cur S) w := by
  unfold rmS
  exact uL_uL
theorem pB_without {p : Pt} {i : Nat} (h : pB P p) : pB P (pWithout i p) := h
theorem SB_rmS {S : Sr} {U' : Tr} {i : Nat} (hi : i < (sL (nB S) S).length) (hB : SB P S) (h : RP P σ D (rmS S i) U') : SB P (rmS S i) := by
  obtain ⟨b1, b2, b3, b4, b5, b6, b7, b8, b9, b10, b11⟩ := hB
  have hbases := h.2.2.2.2.2.1
  have sub : ∀ (l : List Pt), (∀ p ∈ l, pB P p) → ∀ p ∈ rmL l i, pB P p := fun l hl p hp => by
    obtain ⟨q, hq, rfl⟩ := List.mem_map.mp hp
    exact pB_without (hl q (List.mem_of_mem_eraseIdx hq))
  refine ⟨fun j => ?_, ?_, ?_, ?_, ?_, fun k => by rw [sT_rmS]; exact b6 k, by rw [sC_rmS]; exact b7, by rw [sC_rmS]; exact b8, by rw [sC_rmS]; exact b9, by rw [sQ_rmS]; exact b10, fun k k1 k2 => ?_⟩
  · rw [way_rmS]
    split
    · exact b1 _
    · exact b1 _
  · cases hb : nB S with
    | false =>
      have e : (rmS S i).2.1 = rmL S.2.1 i := by unfold rmS; rw [hb]; rfl
      rw [e]; exact sub _ b2
    | true =>
      have e : (rmS S i).2.1 = S.2.1 := by unfold rmS; rw [hb]; rfl
      rw [e]; exact b2
  · cases hb : nB S with
    | false =>
      have e : (rmS S i).2.2.1 = S.2.2.1 := by unfold rmS; rw [hb]; rfl
      rw [e]; exact b3
    | true =>
      have e : (rmS S i).2.2.1 = rmL S.2.2.1 i := by unfold rmS; rw [hb]; rfl
      rw [e]; exact sub _ b3
  · cases hb : nB S with
    | false =>
      have e : (rmS S i).2.1 = rmL S.2.1 i := by unfold rmS; rw [hb]; rfl
      rw [hb] at hi
      have hi : i < S.2.1.length := hi
      rw [e, rmL_len hi]
      omega
    | true =>
      have e : (rmS S i).2.1 = S.2.1 := by unfold rmS; rw [hb]; rfl
      rw [e]; exact b4
  · cases hb : nB S with
    | false =>
      have e : (rmS S i).2.2.1 = S.2.2.1 := by unfold rmS; rw [hb]; rfl
      rw [e]; exact b5
    | true =>
      have e : (rmS S i).2.2.1 = rmL S.2.2.1 i := by unfold rmS; rw [hb]; rfl
      rw [hb] at hi
      have hi : i < S.2.2.1.length := hi
      rw [e, rmL_len hi]
      omega
  · rw [sC_rmS] at k2
    have := hbases k k1 (by rw [sC_rmS]; omega)
    exact ⟨this.1, this.2.1⟩
/-- where an inner or outer place stands among all -/
theorem gq_rmO {S : Sr} {n : Nat} (hn : n < (sL (nB S) S).length) : gq (CL S) (rmO S n) = gq (sL (nB S) S) n := by
  unfold rmO
  cases hb : nB S with
  | false =>
    rw [hb] at hn
    rw [if_neg (by decide), gq_lo hn]; rfl
  | true =>
    rw [if_pos rfl, gq_hi (by omega), Nat.add_sub_cancel_left]; rfl
theorem cw_rmO {S : Sr} {j : Nat} (hn : 0 ≤ sC S 11) : cwW S (cur S) (rmO S j) = (S.1 (cur S)).2.2.2.2 j := by
  unfold cwW rmO
  cases hb : nB S with
  | false =>
    have := nB_f hb
    rw [if_pos (by unfold cur; omega), if_neg (by decide)]
  | true =>
    have := nB_t hb
    rw [if_neg (by unfold cur; omega), if_pos rfl]
    show (if _ then false else _) = _
    rw [if_neg (by omega), Nat.add_sub_cancel_left]
theorem cw_up {S : Sr} {n J : Nat} (hn : 0 ≤ sC S 11) (h : ∀ j, (S.1 (cur S)).2.2.2.2 j = true → j < n + 1) (hJ : rmO S n < J) : cwW S (cur S) J = false := by
  refine Bool.not_eq_true _ ▸ fun q => ?_
  unfold cwW at q
  unfold rmO at hJ
  cases hb : nB S with
  | false =>
    have := nB_f hb
    rw [hb, if_neg (by decide)] at hJ
    rw [if_pos (by unfold cur; omega)] at q
    have := h J q
    omega
  | true =>
    have := nB_t hb
    rw [hb, if_pos rfl] at hJ
    rw [if_neg (by unfold cur; omega)] at q
    have q : (if J < S.2.1.length then false else (S.1 (cur S)).2.2.2.2 (J - S.2.1.length)) = true := q
    rw [if_neg (by omega)] at q
    have := h _ q
    omega
theorem drop_ok {since : Int} {lv : Nat} : ∀ (k : Nat) (S : Sr) (U : Tr) (fuel : Nat) (g : Int), RP P σ D S U → RW P σ D S U → SB P S → U.1 13 = sC S 11 → lv = cur S → k ≤ (sL (nB S) S).length → (∀ j, (S.1 (cur S)).2.2.2.2 j = true → j < k) → k < fuel →
    RP P σ D (uW (uL (nB S) S (dropN since k (sL (nB S) S) (S.1 (cur S)) g).1) (cur S) (dropN since k (sL (nB S) S) (S.1 (cur S)) g).2.1) (cutsF lv (since - D (sC S 11)) fuel U) ∧
    RW P σ D (uW (uL (nB S) S (dropN since k (sL (nB S) S) (S.1 (cur S)) g).1) (cur S) (dropN since k (sL (nB S) S) (S.1 (cur S)) g).2.1) (cutsF lv (since - D (sC S 11)) fuel U) ∧
    SB P (uW (uL (nB S) S (dropN since k (sL (nB S) S) (S.1 (cur S)) g).1) (cur S) (dropN since k (sL (nB S) S) (S.1 (cur S)) g).2.1) ∧
    (cutsF lv (since - D (sC S 11)) fuel U).1 7 = U.1 7 + (if sC S 11 = 0 then (dropN since k (sL (nB S) S) (S.1 (cur S)) g).2.2 - g else 0) ∧
    ((dropN since k (sL (nB S) S) (S.1 (cur S)) g).1.length : Int) + (dropN since k (sL (nB S) S) (S.1 (cur S)) g).2.2 = (sL (nB S) S).length + g
  | k, S, U, 0, g, _, _, _, _, _, _, _, hf => absurd hf (by omega)
  | 0, S, U, fuel + 1, g, hP, hW, hB, h13, hlv, hk, hc, hf => by
    have hn := hB.2.2.2.2.2.2.1
    have eS : uW (uL (nB S) S (sL (nB S) S)) (cur S) (S.1 (cur S)) = S := by
      rw [uL_sL]
      show (fup S.1 (cur S) (S.1 (cur S)), S.2) = S
      rw [show fup S.1 (cur S) (S.1 (cur S)) = S.1 from funext fun j => by
        show (if j = cur S then S.1 (cur S) else S.1 j) = S.1 j
        by_cases q : j = cur S
        · rw [if_pos q, q]
        · rw [if_neg q]]
    have hcm := (hW.2.1 (cur S) (Nat.le_refl _)).2
    have hpar : U.2.1 lv 34 = -1 := by
      rw [hlv]
      rcases hcm with q | ⟨k', _, k2, _, _, k5⟩
      · exact q.1
      · have := (k5 k').mpr (Or.inl rfl)
        have hz : ∀ J, cwW S (cur S) J = false := fun J => by
          refine Bool.not_eq_true _ ▸ fun q => ?_
          unfold cwW at q
          split at q
          · have := hc J q; omega
          · have q : (if J < S.2.1.length then false else (S.1 (cur S)).2.2.2.2 (J - S.2.1.length)) = true := q
            split at q
            · cases q
            · have := hc _ q; omega
        rw [hz] at this; cases this
    have hno : pOf (U.2.1 lv 34) U.2.2.1 0 = -1 := by
      rw [hpar]
      refine pOf_none _ _ fun j hj => ?_
      have : 0 ≤ gp U.2.2.1 j 44 := (hP.2.1 j (by rw [← hP.1]; exact hj)).1
      omega
    rw [cutsF, if_pos hno]
    show RP P σ D (uW (uL (nB S) S (sL (nB S) S)) (cur S) (S.1 (cur S))) U ∧ RW P σ D (uW (uL (nB S) S (sL (nB S) S)) (cur S) (S.1 (cur S))) U ∧ SB P (uW (uL (nB S) S (sL (nB S) S)) (cur S) (S.1 (cur S))) ∧ U.1 7 = U.1 7 + (if sC S 11 = 0 then g - g else 0) ∧ _
    rw [eS]
    exact ⟨hP, hW, hB, by split <;> omega, rfl⟩
  | n + 1, S, U, fuel + 1, g, hP, hW, hB, h13, hlv, hk, hc, hf => by
    have hn := hB.2.2.2.2.2.2.1
    have hcur : (cur S : Int) = sC S 11 := by unfold cur; omega
    by_cases cb : (S.1 (cur S)).2.2.2.2 n = true
    · -- the parent is the n-th
      have hcm := (hW.2.1 (cur S) (Nat.le_refl _)).2
      have hhi : hiS S (cur S) = (CL S).length := by unfold hiS; rw [if_neg (by omega)]
      rw [hhi] at hcm
      have hlo := fun J k (hJ : J < (CL S).length) h1 h2 => hP.lo_eq hB (k := k) hJ h1 h2
      have hseg : ∀ k, loS S (cur S) ≤ k → k < (CL S).length → loS S (gp U.2.2.1 k 45) = loS S (cur S) := fun k k1 k2 => by
        rw [hP.seg hB (v := cur S) k2 k1 (fun q => by omega) (by omega)]
      have hR : rmO S n < (CL S).length := (rm_parts hP hB (i := n) (by omega)).2.1
      have cR : cwW S (cur S) (rmO S n) = true := by rw [cw_rmO hn.1]; exact cb
      obtain ⟨t1, t2⟩ := CM_top hP.cms hlo (Nat.le_refl _) hseg hcm cR fun j hj => cw_up hn.1 hc hj
      have all := CM_all hP.cms hlo _ _ _ _ _ (Nat.le_refl _) hseg hcm
      have aR := all _ cR
      have lvR := hP.seg hB (v := cur S) hR aR.1 (fun q => by omega) (by omega)
      have hpo : pOf (U.2.1 lv 34) U.2.2.1 0 = (rmO S n : Int) := by
        rw [hlv, t1]
        have := pOf_eq (id := idU U (rmO S n)) U.2.2.1 0 (rmO S n) (by rw [hP.1]; exact hR) rfl (fun j hj q => by
          have := hP.2.2.1 j (rmO S n) hj hR
          unfold idU at *
          omega)
        rw [this]; omega
      have hd : gp U.2.2.1 (rmO S n) 32 = (gq (sL (nB S) S) n).1.1 5 - D (sC S 11) := by
        have := (hP.2.2.2.2.2.2 _ hR).1.1.2.2.2.2.1
        rw [lvR, gq_rmO (by omega), hcur] at this
        exact this
      have hget : ((sL (nB S) S)[n]?.map (fun q => q.1.1 5)).getD 0 = (gq (sL (nB S) S) n).1.1 5 := by
        rw [gq_some (by omega)]; rfl
      rw [cutsF, if_neg (by omega), hpo, Int.toNat_natCast, hd]
      by_cases cs : since ≤ (gq (sL (nB S) S) n).1.1 5
      · -- it goes
        rw [if_neg (by omega)]
        have hrm := rm_ok (U := oS U 7 (U.1 7 + if U.1 13 = 0 then 1 else 0)) (i := n) hP hW hB h13 (by omega) (by rw [← hcur]; exact aR.1)
        have hB' := SB_rmS (by omega) hB hrm.1
        have ih := drop_ok (since := since) (lv := lv) n (rmS S n) (oOff (oS U 7 (U.1 7 + if U.1 13 = 0 then 1 else 0)) (rmO S n) (gp U.2.2.1 (rmO S n))) fuel (g + 1) hrm.1 hrm.2 hB' (by rw [oOff_s (by decide), sC_rmS]; exact h13) (by rw [cur_rmS]; exact hlv) (by rw [nB_rmS, sL_rmS, rmL_len (by omega)]; omega) (fun j hj => ?_) (by omega)
        · rw [nB_rmS, sL_rmS, cur_rmS, way_rmS, if_pos rfl, uL_rmS, sC_rmS, rmL_len (by omega)] at ih
          rw [dropN, hget, if_pos ⟨cb, cs⟩]
          obtain ⟨i1, i2, i3, i4, i5⟩ := ih
          refine ⟨i1, i2, i3, ?_, by omega⟩
          have e7 : (oS U 7 (U.1 7 + if U.1 13 = 0 then 1 else 0)).1 7 = U.1 7 + if U.1 13 = 0 then 1 else 0 := by
            show fup U.1 7 (U.1 7 + if U.1 13 = 0 then 1 else 0) 7 = _
            exact fup_self
          rw [i4, oOff_s (by decide), e7, h13]
          split <;> omega
        · rw [cur_rmS, way_rmS, if_pos rfl] at hj
          have hj : (if j < n then (S.1 (cur S)).2.2.2.2 j else (S.1 (cur S)).2.2.2.2 (j + 1)) = true := hj
          split at hj
          · assumption
          · have := hc _ hj; omega
      · -- it stays, and so do all below
        rw [if_pos (by omega)]
        have hd0 : dropN since (n + 1) (sL (nB S) S) (S.1 (cur S)) g = dropN since 0 (sL (nB S) S) (S.1 (cur S)) g := by
          rw [dropN_none (n + 1) _ _ _ (fun j hj q => ?_) (by omega)]
          · rfl
          · by_cases e : j = n
            · subst e; omega
            · have cj : cwW S (cur S) (rmO S j) = true := by rw [cw_rmO hn.1]; exact q
              have hjn : rmO S j ≠ rmO S n := by unfold rmO; split <;> omega
              have aj : csS S (rmO S n) (rmO S j) = true := by
                rcases t2 with ⟨_, z⟩ | ⟨k', k1, k2, k3, k4, k5⟩
                · rw [z] at cR; cases cR
                · have ek : k' = rmO S n := hP.inj (by omega) hR (by rw [k3, t1])
                  rw [ek] at k5
                  rcases (k5 _).mp cj with w | w
                  · exact absurd w hjn
                  · exact w
              have hcn := (hP.2.2.2.2.2.2 _ hR).2
              have := CM_all hP.cms hlo _ _ _ _ _ (Nat.le_of_lt hR) (fun k a b => hlo _ k hR a b) hcn _ aj
              have e1 : dpS S (rmO S j) = (gq (sL (nB S) S) j).1.1 5 := by unfold dpS; rw [gq_rmO (by omega)]
              have e2 : dpS S (rmO S n) = (gq (sL (nB S) S) n).1.1 5 := by unfold dpS; rw [gq_rmO (by omega)]
              omega
        rw [hd0]
        have eS : uW (uL (nB S) S (sL (nB S) S)) (cur S) (S.1 (cur S)) = S := by
          rw [uL_sL]
          show (fup S.1 (cur S) (S.1 (cur S)), S.2) = S
          rw [show fup S.1 (cur S) (S.1 (cur S)) = S.1 from funext fun j => by
            show (if j = cur S then S.1 (cur S) else S.1 j) = S.1 j
            by_cases q : j = cur S
            · rw [if_pos q, q]
            · rw [if_neg q]]
        show RP P σ D (uW (uL (nB S) S (sL (nB S) S)) (cur S) (S.1 (cur S))) U ∧ RW P σ D (uW (uL (nB S) S (sL (nB S) S)) (cur S) (S.1 (cur S))) U ∧ SB P (uW (uL (nB S) S (sL (nB S) S)) (cur S) (S.1 (cur S))) ∧ U.1 7 = U.1 7 + (if sC S 11 = 0 then g - g else 0) ∧ _
        rw [eS]
        exact ⟨hP, hW, hB, by split <;> omega, rfl⟩
    · rw [dropN, if_neg (fun q => cb q.1)]
      exact drop_ok n S U (fuel + 1) g hP hW hB h13 hlv (by omega) (fun j hj => by
        have := hc j hj
        have : j ≠ n := fun q => cb (by rw [← q]; exact hj)
        omega) (by omega)
end DROP
