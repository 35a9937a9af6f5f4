/-! one point goes on both sides -/
theorem FRM_cell {P : Pg} {σ : Int → Int} {w w' : Wy} {r r' : Pf} {stop D : Int} (h2 : w'.2.2.1 = w.2.2.1) (h3 : w'.2.2.2.1 = w.2.2.2.1) : ∀ (m : Nat) (c : Int), (∀ k, 10 ≤ k → k < 10 + 3 * m → r' k = r k) → FRM P σ w r stop D m c → FRM P σ w' r' stop D m c
  | 0, c, _, h => h
  | m + 1, c, hr, h => by
    obtain ⟨a, b, e, f, g, g2, i⟩ := h
    exact ⟨a, b, by rw [hr _ (by omega) (by omega)]; exact e, by rw [hr _ (by omega) (by omega), h2]; exact f, fun q => by rw [hr _ (by omega) (by omega), h3]; exact g q, by rw [hr _ (by omega) (by omega)]; exact g2, FRM_cell h2 h3 m _ (fun k h1 hk => hr k h1 (by omega)) i⟩
theorem WR_cell {P : Pg} {σ : Int → Int} {w w' : Wy} {r r' : Pf} {stop D : Int} (h0 : w'.1 = w.1) (h1 : w'.2.1 = w.2.1) (h2 : w'.2.2.1 = w.2.2.1) (h3 : w'.2.2.2.1 = w.2.2.2.1) (hr : ∀ k, k < 34 → r' k = r k) (h : WR P σ stop D w r) : WR P σ stop D w' r' := by
  obtain ⟨a, b, ⟨m, hm, c, d⟩, e, f, g⟩ := h
  refine ⟨fun k hk => by rw [hr _ (by omega), h1]; exact a k hk, by rw [hr 8 (by omega), h0]; exact b, ⟨m, hm, by rw [hr 9 (by omega)]; exact c, by rw [h0]; exact FRM_cell h2 h3 m _ (fun k _ hk => hr k (by omega)) d⟩, by rw [hr 31 (by omega), h0, h2]; exact e, by rw [hr 32 (by omega), h0]; exact f, by rw [hr 33 (by omega), h0]; exact g⟩
theorem PtR_cell {P : Pg} {σ : Int → Int} {q q' : Pt} {p p' : Pf} {stop D : Int} (h0 : q'.1.1 = q.1.1) (h1 : q'.1.2.1 = q.1.2.1) (h2 : q'.1.2.2.1 = q.1.2.2.1) (h3 : q'.1.2.2.2.1 = q.1.2.2.2.1) (h4 : q'.2 = q.2) (hp : ∀ k, k ≠ 34 → p' k = p k) (h : PtR P σ stop D q p) : PtR P σ stop D q' p' := by
  obtain ⟨a, b, c, d, e, f, g, i, j, l⟩ := h
  refine ⟨WR_cell h0 h1 h2 h3 (fun k hk => hp k (by omega)) a, by rw [h0]; exact b, by rw [hp 35 (by omega), h0]; exact c, by rw [hp 36 (by omega), h4]; exact d, by rw [hp 37 (by omega), h4]; exact e, by rw [h0, hp 38 (by omega), h4]; exact f, by rw [h0, h4]; exact fun q1 k hk => by rw [hp _ (by omega)]; exact g q1 k hk, by rw [h0, h4]; exact i, by rw [hp 46 (by omega), h4]; exact j, by rw [hp 45 (by omega), hp 33 (by omega), h0]; exact l⟩
theorem gp_map_erase {l : List Pf} {f : Pf → Pf} {R J : Nat} (hJ : J + 1 < l.length ∨ J < l.length ∧ J < R) : gp ((l.map f).eraseIdx R) J = f (gp l (if J < R then J else J + 1)) := by
  unfold gp
  rw [List.getElem?_eraseIdx]
  by_cases c : J < R
  · rw [if_pos c, if_pos c, List.getElem?_map, List.getElem?_eq_getElem (by omega)]; rfl
  · rw [if_neg c, if_neg c, List.getElem?_map, List.getElem?_eq_getElem (by omega)]; rfl
theorem gq_rm {l : List Pt} {R J : Nat} (hR : R < l.length) (hJ : J + 1 < l.length) : gq (rmL l R) J = pWithout R (gq l (if J < R then J else J + 1)) := by
  unfold gq rmL
  rw [List.getElem?_map, List.getElem?_eraseIdx]
  by_cases c : J < R
  · rw [if_pos c, if_pos c, List.getElem?_eq_getElem (by omega)]; rfl
  · rw [if_neg c, if_neg c, List.getElem?_eq_getElem (by omega)]; rfl
theorem rmL_len {l : List Pt} {R : Nat} (hR : R < l.length) : (rmL l R).length = l.length - 1 := by
  unfold rmL
  rw [List.length_map, List.length_eraseIdx, if_pos hR]
theorem CL_len {S : Sr} : (CL S).length = S.2.1.length + S.2.2.1.length := by unfold CL; exact List.length_append ..
theorem gq_lo {S : Sr} {J : Nat} (h : J < S.2.1.length) : gq (CL S) J = gq S.2.1 J := by
  unfold gq CL
  rw [List.getElem?_append_left h]
theorem gq_hi {S : Sr} {J : Nat} (h : S.2.1.length ≤ J) : gq (CL S) J = gq S.2.2.1 (J - S.2.1.length) := by
  unfold gq CL
  rw [List.getElem?_append_right h]
theorem shf_without {off i : Nat} {c : Nat → Bool} : shf off (cWithout c i) = cWithout (shf off c) (off + i) := funext fun j => by
  show (if j < off then false else if j - off < i then c (j - off) else c (j - off + 1)) = if j < off + i then (if j < off then false else c (j - off)) else (if j + 1 < off then false else c (j + 1 - off))
  by_cases c1 : j < off
  · rw [if_pos c1, if_pos (show j < off + i by omega), if_pos c1]
  · rw [if_neg c1]
    by_cases c2 : j < off + i
    · rw [if_pos c2, if_pos (show j - off < i by omega), if_neg c1]
    · rw [if_neg c2, if_neg (show ¬ j - off < i by omega), if_neg (show ¬ j + 1 < off by omega), show j + 1 - off = j - off + 1 by omega]
/-- the i-th of the points that the way that stands can reach goes -/
def rmS (S : Sr) (i : Nat) : Sr := uW (uL (nB S) S (rmL (sL (nB S) S) i)) (cur S) (wWithout (S.1 (cur S)) i)
def rmO (S : Sr) (i : Nat) : Nat := if nB S = true then S.2.1.length + i else i
theorem loS_i {S : Sr} {i : Nat} : loS S (i : Int) = if i = 0 then 0 else S.2.1.length + (sB S i).toNat := by
  unfold loS
  by_cases c : i = 0
  · rw [if_pos (by omega), if_pos c]
  · rw [if_neg (by omega), if_neg c, Int.toNat_natCast]
section REMOVE2
variable {P : Pg} {σ : Int → Int} {D : Int → Int} {S : Sr} {U : Tr}
/-- the places' lower bounds hang together -/
theorem RP.lo_eq (h : RP P σ D S U) (hB : SB P S) {J k : Nat} (hJ : J < (CL S).length) (h1 : loS S (gp U.2.2.1 J 45) ≤ k) (h2 : k < J) : loS S (gp U.2.2.1 k 45) = loS S (gp U.2.2.1 J 45) := by
  obtain ⟨_, _, _, h0, hl, hb, _⟩ := h
  by_cases c : J < S.2.1.length
  · rw [h0 J c, h0 k (by omega)]
  · have lJ := hl J (by omega) hJ
    obtain ⟨i, hi⟩ : ∃ i : Nat, gp U.2.2.1 J 45 = i := ⟨(gp U.2.2.1 J 45).toNat, by omega⟩
    rw [hi] at h1 lJ ⊢
    obtain ⟨b0, b1, b2⟩ := hb i (by omega) (by omega)
    have hk : S.2.1.length ≤ k := by rw [loS_i, if_neg (by omega)] at h1; omega
    have lk := hl k hk (by omega)
    have g1 := (b2 k hk (by omega)).mp h1
    obtain ⟨i', hi'⟩ : ∃ i' : Nat, gp U.2.2.1 k 45 = i' := ⟨(gp U.2.2.1 k 45).toNat, by omega⟩
    rw [hi'] at g1 lk ⊢
    obtain ⟨c0, c1, c2⟩ := hb i' (by omega) (by omega)
    have : (i' : Int) ≤ gp U.2.2.1 J 45 := (c2 J (by omega) hJ).mp (by
      have := (c2 k hk (by omega)).mpr (by omega)
      omega)
    have e : i' = i := by omega
    rw [e]
theorem RP.cms (h : RP P σ D S U) : ∀ J, J < (CL S).length → ∃ par, CM (idU U) (csS S) (dpS S) (loS S (gp U.2.2.1 J 45)) J (csS S J) par (dpS S J) := fun J hJ => ⟨_, (h.2.2.2.2.2.2 J hJ).2⟩
theorem RP.inj (h : RP P σ D S U) {i j : Nat} (hi : i < (CL S).length) (hj : j < (CL S).length) (e : idU U i = idU U j) : i = j := by
  rcases Nat.lt_trichotomy i j with q | q | q
  · have := h.2.2.1 i j q hj; omega
  · exact q
  · have := h.2.2.1 j i q hi; omega
theorem CM_congr {ids ids' : Nat → Int} {cs cs' : Nat → Nat → Bool} {dp dp' : Nat → Int} {lo hi : Nat} {c : Nat → Bool} {par dep : Int} (e : ∀ k, k < hi → ids' k = ids k ∧ cs' k = cs k ∧ dp' k = dp k) (h : CM ids cs dp lo hi c par dep) : CM ids' cs' dp' lo hi c par dep := by
  rcases h with h | ⟨k, k1, k2, k3, k4, k5⟩
  · exact Or.inl h
  · obtain ⟨e1, e2, e3⟩ := e k k2
    exact Or.inr ⟨k, k1, k2, by rw [e1]; exact k3, by rw [e3]; exact k4, by rw [e2]; exact k5⟩
theorem cWithout_id {c : Nat → Bool} {R : Nat} (h : ∀ j, c j = true → j < R) : cWithout c R = c := funext fun j => by
  have nf : ∀ j, R ≤ j → c j = false := fun j hj => Bool.not_eq_true _ ▸ fun q => by have := h j q; omega
  show (if j < R then c j else c (j + 1)) = c j
  by_cases q : j < R
  · rw [if_pos q]
  · rw [if_neg q, nf j (by omega), nf (j + 1) (by omega)]
theorem nB_f (h : nB S = false) : sC S 11 ≤ 0 := by
  have := of_decide_eq_false h
  omega
theorem nB_t (h : nB S = true) : 0 < sC S 11 := of_decide_eq_true h
theorem RP.noInner (h : RP P σ D S U) (hn : sC S 11 ≤ 0) : S.2.2.1.length = 0 := by
  have hl := CL_len (S := S)
  rcases Nat.eq_zero_or_pos S.2.2.1.length with q | q
  · exact q
  · have := h.2.2.2.2.1 S.2.1.length (Nat.le_refl _) (by omega); omega
theorem rmC_lo {R J : Nat} {cs : Nat → Nat → Bool} (h : J < R) : rmC R cs J = cWithout (cs J) R := if_pos h
theorem rmC_hi {R J : Nat} {cs : Nat → Nat → Bool} (h : ¬ J < R) : rmC R cs J = cWithout (cs (J + 1)) R := if_neg h
theorem csS_lo {S : Sr} {J : Nat} (h : J < S.2.1.length) : csS S J = (gq (CL S) J).1.2.2.2.2 := if_pos h
theorem csS_hi {S : Sr} {J : Nat} (h : ¬ J < S.2.1.length) : csS S J = shf S.2.1.length (gq (CL S) J).1.2.2.2.2 := if_neg h
/-- what a removal makes of the parts that are looked at -/
theorem rm_parts (h : RP P σ D S U) (hB : SB P S) {i : Nat} (hi : i < (sL (nB S) S).length) :
    (CL (rmS S i)).length = (CL S).length - 1 ∧ rmO S i < (CL S).length ∧ (∀ J, J + 1 < (CL S).length → (gq (CL (rmS S i)) J).1.1 = (gq (CL S) (if J < rmO S i then J else J + 1)).1.1 ∧ (gq (CL (rmS S i)) J).1.2.1 = (gq (CL S) (if J < rmO S i then J else J + 1)).1.2.1 ∧ (gq (CL (rmS S i)) J).1.2.2.1 = (gq (CL S) (if J < rmO S i then J else J + 1)).1.2.2.1 ∧ (gq (CL (rmS S i)) J).1.2.2.2.1 = (gq (CL S) (if J < rmO S i then J else J + 1)).1.2.2.2.1 ∧ (gq (CL (rmS S i)) J).2 = (gq (CL S) (if J < rmO S i then J else J + 1)).2 ∧ csS (rmS S i) J = rmC (rmO S i) (csS S) J) ∧ (rmS S i).2.1.length = (if nB S = true then S.2.1.length else S.2.1.length - 1) := by
  have hl := CL_len (S := S)
  have ca := CM_all h.cms (fun J k hJ h1 h2 => h.lo_eq hB hJ h1 h2)
  cases hb : nB S with
  | false =>
    have hn := h.noInner (nB_f hb)
    have eS : rmS S i = uW (uP S (rmL S.2.1 i)) (cur S) (wWithout (S.1 (cur S)) i) := by unfold rmS; rw [hb]; rfl
    have eR : rmO S i = i := by unfold rmO; rw [hb]; rfl
    have hi' : i < S.2.1.length := by rw [hb] at hi; exact hi
    have hlen := rmL_len hi'
    have hCL : CL (rmS S i) = rmL S.2.1 i ++ S.2.2.1 := by rw [eS]; rfl
    have ho : (rmS S i).2.1 = rmL S.2.1 i := by rw [eS]; rfl
    rw [eR, hCL, ho, List.length_append, hlen]
    refine ⟨by omega, by omega, fun J hJ => ?_, by rw [if_neg (by decide)]⟩
    have g : gq (rmL S.2.1 i ++ S.2.2.1) J = pWithout i (gq (CL S) (if J < i then J else J + 1)) := by
      have : gq (rmL S.2.1 i ++ S.2.2.1) J = gq (rmL S.2.1 i) J := by
        unfold gq
        rw [List.getElem?_append_left (by omega)]
      rw [this, gq_rm hi' (by omega)]
      congr 1
      split
      · exact (gq_lo (by omega)).symm
      · exact (gq_lo (by omega)).symm
    rw [g]
    refine ⟨rfl, rfl, rfl, rfl, rfl, ?_⟩
    rw [csS_lo (by rw [ho, hlen]; omega), hCL, g]
    by_cases c : J < i
    · rw [if_pos c, rmC_lo c, csS_lo (by omega)]; rfl
    · rw [if_neg c, rmC_hi c, csS_lo (by omega)]; rfl
  | true =>
    have eS : rmS S i = uW (uN S (rmL S.2.2.1 i)) (cur S) (wWithout (S.1 (cur S)) i) := by unfold rmS; rw [hb]; rfl
    have eR : rmO S i = S.2.1.length + i := by unfold rmO; rw [hb]; rfl
    have hi' : i < S.2.2.1.length := by rw [hb] at hi; exact hi
    have hlen := rmL_len hi'
    have hCL : CL (rmS S i) = S.2.1 ++ rmL S.2.2.1 i := by rw [eS]; rfl
    have ho : (rmS S i).2.1 = S.2.1 := by rw [eS]; rfl
    rw [eR, hCL, ho, List.length_append, hlen]
    refine ⟨by omega, by omega, fun J hJ => ?_, by rw [if_pos rfl]⟩
    by_cases cJ : J < S.2.1.length
    · have g : gq (S.2.1 ++ rmL S.2.2.1 i) J = gq (CL S) J := by
        rw [gq_lo cJ]
        unfold gq
        rw [List.getElem?_append_left cJ]
      rw [g, if_pos (by omega)]
      refine ⟨rfl, rfl, rfl, rfl, rfl, ?_⟩
      have hc := (h.2.2.2.2.2.2 J (by omega)).2
      have hlo : ∀ k, loS S (gp U.2.2.1 J 45) ≤ k → k < J → loS S (gp U.2.2.1 k 45) = loS S (gp U.2.2.1 J 45) := fun k a b => h.lo_eq hB (by omega) a b
      have e2 : cWithout (csS S J) (S.2.1.length + i) = csS S J := cWithout_id fun j hj => by
        have := ca J _ _ _ _ (by omega) hlo hc j hj
        omega
      rw [rmC_lo (by omega), e2, csS_lo (by rw [ho]; exact cJ), csS_lo cJ, hCL, g]
    · have g : gq (S.2.1 ++ rmL S.2.2.1 i) J = pWithout i (gq (CL S) (if J < S.2.1.length + i then J else J + 1)) := by
        have : gq (S.2.1 ++ rmL S.2.2.1 i) J = gq (rmL S.2.2.1 i) (J - S.2.1.length) := by
          unfold gq
          rw [List.getElem?_append_right (by omega)]
        rw [this, gq_rm hi' (by omega)]
        congr 1
        by_cases c : J < S.2.1.length + i
        · rw [if_pos c, if_pos (by omega), gq_hi (by omega)]
        · rw [if_neg c, if_neg (by omega), gq_hi (by omega), show J + 1 - S.2.1.length = J - S.2.1.length + 1 by omega]
      rw [g]
      refine ⟨rfl, rfl, rfl, rfl, rfl, ?_⟩
      rw [csS_hi (by rw [ho]; exact cJ), hCL, ho, g]
      by_cases c : J < S.2.1.length + i
      · rw [if_pos c, rmC_lo c, csS_hi cJ]
        exact shf_without
      · rw [if_neg c, rmC_hi c, csS_hi (by omega)]
        exact shf_without
end REMOVE2
