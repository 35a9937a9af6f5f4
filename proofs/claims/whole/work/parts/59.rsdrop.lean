/-! the relation stays over a drop and a cut -/
theorem all_gq {l : List Pt} {p : Pt → Prop} : (∀ J, J < l.length → p (gq l J)) ↔ ∀ q ∈ l, p q := by
  constructor
  · intro h q hq
    obtain ⟨i, hi, e⟩ := List.getElem_of_mem hq
    have := h i hi
    unfold gq at this
    rw [List.getElem?_eq_getElem hi] at this
    have this : p l[i] := this
    rwa [e] at this
  · intro h J hJ
    unfold gq
    rw [List.getElem?_eq_getElem hJ]
    exact h _ (List.getElem_mem hJ)
theorem rb3 {S : Sr} {t : Int} (h : ∀ q ∈ CL S, q.1.1 5 ≤ t ∧ q.1.1 6 ≤ q.1.1 5) : ∀ J, J < (CL S).length → dpS S J ≤ t ∧ (gq (CL S) J).1.1 6 ≤ dpS S J := (all_gq (p := fun q => q.1.1 5 ≤ t ∧ q.1.1 6 ≤ q.1.1 5)).mpr h
theorem rb3' {S : Sr} {t : Int} (h : ∀ J, J < (CL S).length → dpS S J ≤ t ∧ (gq (CL S) J).1.1 6 ≤ dpS S J) : ∀ q ∈ CL S, q.1.1 5 ≤ t ∧ q.1.1 6 ≤ q.1.1 5 := (all_gq (p := fun q => q.1.1 5 ≤ t ∧ q.1.1 6 ≤ q.1.1 5)).mp h
theorem dropN_way {since : Int} : ∀ (n : Nat) (l : List Pt) (w : Wy) (g : Int), (dropN since n l w g).2.1.1 = w.1 ∧ (dropN since n l w g).2.1.2.1 = w.2.1 ∧ (dropN since n l w g).2.1.2.2.1 = w.2.2.1 ∧ (dropN since n l w g).2.1.2.2.2.1 = w.2.2.2.1
  | 0, _, _, _ => ⟨rfl, rfl, rfl, rfl⟩
  | n + 1, l, w, g => by
    rw [dropN]
    split
    · exact dropN_way n _ _ _
    · exact dropN_way n _ _ _
theorem dropN_mem {since : Int} {p : Pt → Prop} (hp : ∀ q i, p q → p (pWithout i q)) : ∀ (n : Nat) (l : List Pt) (w : Wy) (g : Int), (∀ q ∈ l, p q) → ∀ q ∈ (dropN since n l w g).1, p q
  | 0, _, _, _, h => h
  | n + 1, l, w, g, h => by
    rw [dropN]
    split
    · refine dropN_mem hp n _ _ _ fun q hq => ?_
      obtain ⟨q', hq', rfl⟩ := List.mem_map.mp hq
      exact hp _ _ (h q' (List.mem_of_mem_eraseIdx hq'))
    · exact dropN_mem hp n _ _ _ h
theorem cutsF_a {lv : Nat} {since : Int} : ∀ (n : Nat) (U : Tr), (cutsF lv since n U).2.2.2 = U.2.2.2
  | 0, U => rfl
  | n + 1, U => by
    rw [cutsF]
    split
    · rfl
    · split
      · rfl
      · rw [cutsF_a n]; rfl
section RSDROP
variable {M : ZMem} {P : Pg} {σ : Int → Int} {root price : Int} {e : Nat} {D : Int → Int} {S : Sr} {U : Tr} {b t : Int}
theorem RS_drop (h : RS P σ root price D S U b t) {since : Int} : RS P σ root price D (xDrop S since) (cutsF (cur S) (since - D (sC S 11)) 62 U) b t := by
  obtain ⟨⟨b1, b2, b3, b4, b5, b6, b7, b8, b9, b10, b11, b12, b13, b14, b15⟩, ⟨n0, n1, n4, n5, n6, n7, n8, n9, n10, n11, n12, n13, n15, nb, na⟩, hRP, hP, hW⟩ := h
  have hn := b1.n
  have hcu := cur_n hn.1
  have hl := CL_len (S := S)
  obtain ⟨s1, s2, s3, s4, s5, s6, s7, s8, s9, s10, s11⟩ := id b1
  have hlen : (sL (nB S) S).length ≤ 30 := by cases nB S; exact s4; exact s5
  have hcm := (hW.2.1 (cur S) (Nat.le_refl _)).2
  have hhi : hiS S (cur S) = (CL S).length := by unfold hiS; rw [if_neg (by omega)]
  rw [hhi] at hcm
  have hlo := fun J k (hJ : J < (CL S).length) h1 h2 => hP.lo_eq b1 (k := k) hJ h1 h2
  have hseg : ∀ k, loS S (cur S) ≤ k → k < (CL S).length → loS S (gp U.2.2.1 k 45) = loS S (cur S) := fun k k1 k2 => by
    rw [hP.seg b1 (v := cur S) k2 k1 (fun q => by omega) (by omega)]
  have all := CM_all hP.cms hlo _ _ _ _ _ (Nat.le_refl _) hseg hcm
  have hbits : ∀ j, (S.1 (cur S)).2.2.2.2 j = true → j < (sL (nB S) S).length := fun j hj => by
    have := (all (rmO S j) (by rw [cw_rmO hn.1]; exact hj)).2.1
    unfold rmO at this
    cases hb : nB S with
    | false =>
      have h0 := hP.noInner (nB_f hb)
      rw [hb, if_neg (show ¬ (false = true) by decide)] at this
      show j < S.2.1.length
      omega
    | true =>
      rw [hb, if_pos rfl] at this
      show j < S.2.2.1.length
      omega
  obtain ⟨d1, d2, d3, d4, d5⟩ := drop_ok (since := since) (lv := cur S) (sL (nB S) S).length S U 62 0 hP hW b1 n13 rfl (Nat.le_refl _) hbits (by omega)
  obtain ⟨w1, w2, w3, w4⟩ := dropN_way (since := since) (sL (nB S) S).length (sL (nB S) S) (S.1 (cur S)) 0
  have dg := dropN_g since (sL (nB S) S).length (sL (nB S) S) (S.1 (cur S)) 0
  have dm := fun (p : Pt → Prop) hp hl => dropN_mem (since := since) (p := p) hp (sL (nB S) S).length (sL (nB S) S) (S.1 (cur S)) 0 hl
  have b3' : ∀ q ∈ CL S, q.1.1 5 ≤ t ∧ q.1.1 6 ≤ q.1.1 5 := rb3' b3
  have es : ∀ k, k ≠ 14 → k ≠ 7 → (cutsF (cur S) (since - D (sC S 11)) 62 U).1 k = U.1 k := fun k h1 h2 => cutsF_s h1 h2 _ _
  have ea := cutsF_a (lv := cur S) (since := since - D (sC S 11)) 62 U
  cases hb : nB S with
  | false =>
    have hn0 := nB_f hb
    have eS : xDrop S since = uT (uW (uP S (dropN since S.2.1.length S.2.1 (S.1 (cur S)) 0).1) (cur S) (dropN since S.2.1.length S.2.1 (S.1 (cur S)) 0).2.1) 7 (sT S 7 + (dropN since S.2.1.length S.2.1 (S.1 (cur S)) 0).2.2) := by unfold xDrop; rw [if_pos hn0]
    rw [hb] at d1 d2 d3 d4 d5 w1 w2 w3 w4 dg dm
    rw [if_pos (by omega)] at d4
    rw [eS]
    have e7 : ∀ k, k ≠ 7 → sT (uT (uW (uP S (dropN since S.2.1.length S.2.1 (S.1 (cur S)) 0).1) (cur S) (dropN since S.2.1.length S.2.1 (S.1 (cur S)) 0).2.1) 7 (sT S 7 + (dropN since S.2.1.length S.2.1 (S.1 (cur S)) 0).2.2)) k = sT S k := fun k hk => fup_ne hk
    have dm1 := dm (fun q => q.1.1 5 ≤ t ∧ q.1.1 6 ≤ q.1.1 5) (fun _ _ q => q) fun q hq => b3' q (List.mem_append_left _ hq)
    have d5 : ((dropN since S.2.1.length S.2.1 (S.1 (cur S)) 0).1.length : Int) + (dropN since S.2.1.length S.2.1 (S.1 (cur S)) 0).2.2 = S.2.1.length + 0 := d5
    have dg : 0 ≤ (dropN since S.2.1.length S.2.1 (S.1 (cur S)) 0).2.2 ∧ _ := dg
    have t7 := s6 7
    obtain ⟨u1, u2, u3, u4, u5, u6, u7⟩ := d3
    refine ⟨⟨⟨u1, u2, u3, u4, u5, fun k => ?_, s7, s8, s9, s10, u7.2.2.2.2⟩, fun i hi => ?_, rb3 fun q hq => ?_, by rw [e7 5 (by decide)]; exact b4, by rw [e7 6 (by decide)]; exact b5, by rw [e7 8 (by decide)]; exact b6, ?_, b8, by rw [e7 2 (by decide)]; exact b9, by rw [e7 2 (by decide)]; exact b10, by rw [e7 4 (by decide)]; exact b11, b12, b13, by rw [es 16 (by decide) (by decide)]; exact b14, by rw [es 16 (by decide) (by decide)]; exact b15⟩,
      ⟨by rw [es 0 (by decide) (by decide)]; exact n0, by rw [es 1 (by decide) (by decide)]; exact n1, by rw [es 4 (by decide) (by decide), e7 2 (by decide)]; exact n4, by rw [es 5 (by decide) (by decide), e7 5 (by decide)]; exact n5, by rw [es 6 (by decide) (by decide), e7 6 (by decide)]; exact n6, ?_, by rw [es 8 (by decide) (by decide), e7 8 (by decide)]; exact n8, by rw [es 9 (by decide) (by decide)]; exact n9, by rw [es 10 (by decide) (by decide)]; exact n10, by rw [es 11 (by decide) (by decide), e7 4 (by decide)]; exact n11, by rw [es 12 (by decide) (by decide)]; exact n12, by rw [es 13 (by decide) (by decide)]; exact n13, by rw [es 15 (by decide) (by decide)]; exact n15, nb, by rw [ea]; exact na⟩,
      ⟨by rw [es 2 (by decide) (by decide)]; exact hRP.1, by rw [es 3 (by decide) (by decide)]; exact hRP.2⟩, d1, d2⟩
    · by_cases c : k = 7
      · rw [c]
        show 0 ≤ fup S.2.2.2.2.1 7 (sT S 7 + (dropN since S.2.1.length S.2.1 (S.1 (cur S)) 0).2.2) 7 ∧ fup S.2.2.2.2.1 7 (sT S 7 + (dropN since S.2.1.length S.2.1 (S.1 (cur S)) 0).2.2) 7 ≤ 100000000
        rw [fup_self]
        omega
      · rw [e7 k c]; exact s6 k
    · show (fup S.1 (cur S) _ i).1 5 ≤ t ∧ (fup S.1 (cur S) _ i).1 6 ≤ (fup S.1 (cur S) _ i).1 5
      by_cases c : i = cur S
      · rw [c, fup_self]
        have w1 : (dropN since S.2.1.length S.2.1 (S.1 (cur S)) 0).2.1.1 = (S.1 (cur S)).1 := w1
        rw [w1]
        exact b2 _ (Nat.le_refl _)
      · rw [fup_ne c]; exact b2 i hi
    · rcases List.mem_append.mp hq with q1 | q1
      · exact dm1 q q1
      · exact b3' q (List.mem_append_right _ q1)
    · rw [e7 5 (by decide)]
      show fup S.2.2.2.2.1 7 (sT S 7 + (dropN since S.2.1.length S.2.1 (S.1 (cur S)) 0).2.2) 7 + ((dropN since S.2.1.length S.2.1 (S.1 (cur S)) 0).1.length : Int) ≤ _
      rw [fup_self]
      omega
    · rw [d4, n7]
      show _ = fup S.2.2.2.2.1 7 (sT S 7 + (dropN since S.2.1.length S.2.1 (S.1 (cur S)) 0).2.2) 7
      rw [fup_self]
      show sT S 7 + ((dropN since S.2.1.length S.2.1 (S.1 (cur S)) 0).2.2 - 0) = _
      omega
  | true =>
    have hn0 := nB_t hb
    have eS : xDrop S since = uW (uN S (dropN since S.2.2.1.length S.2.2.1 (S.1 (cur S)) 0).1) (cur S) (dropN since S.2.2.1.length S.2.2.1 (S.1 (cur S)) 0).2.1 := by unfold xDrop; rw [if_neg (by omega)]
    rw [hb] at d1 d2 d3 d4 d5 w1 w2 w3 w4 dg dm
    rw [if_neg (by omega)] at d4
    rw [eS]
    have dm1 := dm (fun q => q.1.1 5 ≤ t ∧ q.1.1 6 ≤ q.1.1 5) (fun _ _ q => q) fun q hq => b3' q (List.mem_append_right _ hq)
    refine ⟨⟨d3, fun i hi => ?_, rb3 fun q hq => ?_, b4, b5, b6, b7, b8, b9, b10, b11, b12, b13, by rw [es 16 (by decide) (by decide)]; exact b14, by rw [es 16 (by decide) (by decide)]; exact b15⟩,
      ⟨by rw [es 0 (by decide) (by decide)]; exact n0, by rw [es 1 (by decide) (by decide)]; exact n1, by rw [es 4 (by decide) (by decide)]; exact n4, by rw [es 5 (by decide) (by decide)]; exact n5, by rw [es 6 (by decide) (by decide)]; exact n6, by rw [d4, Int.add_zero]; exact n7, by rw [es 8 (by decide) (by decide)]; exact n8, by rw [es 9 (by decide) (by decide)]; exact n9, by rw [es 10 (by decide) (by decide)]; exact n10, by rw [es 11 (by decide) (by decide)]; exact n11, by rw [es 12 (by decide) (by decide)]; exact n12, by rw [es 13 (by decide) (by decide)]; exact n13, by rw [es 15 (by decide) (by decide)]; exact n15, nb, by rw [ea]; exact na⟩,
      ⟨by rw [es 2 (by decide) (by decide)]; exact hRP.1, by rw [es 3 (by decide) (by decide)]; exact hRP.2⟩, d1, d2⟩
    · show (fup S.1 (cur S) _ i).1 5 ≤ t ∧ (fup S.1 (cur S) _ i).1 6 ≤ (fup S.1 (cur S) _ i).1 5
      by_cases c : i = cur S
      · rw [c, fup_self]
        have w1 : (dropN since S.2.2.1.length S.2.2.1 (S.1 (cur S)) 0).2.1.1 = (S.1 (cur S)).1 := w1
        rw [w1]
        exact b2 _ (Nat.le_refl _)
      · rw [fup_ne c]; exact b2 i hi
    · rcases List.mem_append.mp hq with q1 | q1
      · exact b3' q (List.mem_append_left _ q1)
      · exact dm1 q q1
end RSDROP
