/-! the relation stays when the way that stands goes on -/
section TRANS
variable {M : ZMem} {P : Pg} {σ : Int → Int} {root price : Int} {e : Nat} {D : Int → Int} {S : Sr} {U : Tr} {b t : Int}
theorem SB.n (h : SB P S) : 0 ≤ sC S 11 ∧ sC S 11 ≤ 6 := h.2.2.2.2.2.2.1
theorem cur_n (h : 0 ≤ sC S 11) : (cur S : Int) = sC S 11 := by unfold cur; omega
theorem stS_uW {w : Wy} {l : Int} (hn : 0 ≤ sC S 11) (h0 : 0 ≤ l) (h1 : l ≤ sC S 11) : stS (uW S (cur S) w) l = stS S l := by
  unfold stS
  by_cases c : l = 0
  · rw [if_pos c, if_pos c]
  · rw [if_neg c, if_neg c]
    show (fup S.1 (cur S) w (l.toNat - 1)).1 3 = _
    rw [fup_ne (by unfold cur; omega)]
theorem RP_way (hn : 0 ≤ sC S 11) (h : RP P σ D S U) {w : Wy} {r : Pf} : RP P σ D (uW S (cur S) w) (oW U (cur S) r) := by
  obtain ⟨a1, a2, a3, a4, a5, a6, a7⟩ := h
  refine ⟨a1, a2, a3, a4, a5, a6, fun J hJ => ?_⟩
  have hJ : J < (CL S).length := hJ
  have lv : 0 ≤ gp U.2.2.1 J 45 ∧ gp U.2.2.1 J 45 ≤ sC S 11 := by
    by_cases c : J < S.2.1.length
    · rw [a4 J c]; omega
    · have := a5 J (by omega) hJ; omega
  have q := a7 J hJ
  have e : stS (uW S (cur S) w) (gp (oW U (cur S) r).2.2.1 J 45) = stS S (gp U.2.2.1 J 45) := stS_uW hn lv.1 lv.2
  rw [e]
  exact q
theorem RS_way (h : RS P σ root price D S U b t) {w : Wy} {r : Pf} (hw : WR P σ (stS S (cur S)) (D (cur S)) w r) (hB : wB w) (h5 : w.1 5 = (S.1 (cur S)).1 5) (h6 : w.1 6 = (S.1 (cur S)).1 6) (hc : w.2.2.2.2 = (S.1 (cur S)).2.2.2.2) (h34 : r 34 = U.2.1 (cur S) 34) (h33 : r 33 = U.2.1 (cur S) 33) : RS P σ root price D (uW S (cur S) w) (oW U (cur S) r) b t := by
  obtain ⟨⟨b1, b2, b3, b4⟩, hN, hRP, hP, ⟨w1, w2, w3, w4⟩⟩ := h
  have hn := b1.n
  have hcu := cur_n hn.1
  refine ⟨⟨?_, fun i hi => ?_, b3, b4⟩, hN, hRP, RP_way hn.1 hP, w1, fun i hi => ?_, ?_, fun i i1 hi => ?_⟩
  · obtain ⟨s1, s2⟩ := b1
    refine ⟨fun i => ?_, s2⟩
    show wB (fup S.1 (cur S) w i)
    by_cases c : i = cur S
    · rw [c, fup_self]; exact hB
    · rw [fup_ne c]; exact s1 i
  · show (fup S.1 (cur S) w i).1 5 ≤ t ∧ (fup S.1 (cur S) w i).1 6 ≤ (fup S.1 (cur S) w i).1 5
    by_cases c : i = cur S
    · rw [c, fup_self, h5, h6]; exact b2 _ (Nat.le_refl _)
    · rw [fup_ne c]; exact b2 i hi
  · have hi : i ≤ cur S := hi
    have es : stS (uW S (cur S) w) i = stS S i := stS_uW hn.1 (by omega) (by omega)
    rw [es]
    obtain ⟨c1, c2⟩ := w2 i hi
    by_cases c : i = cur S
    · subst c
      have e1 : (uW S (cur S) w).1 (cur S) = w := fup_self
      have e2 : (oW U (cur S) r).2.1 (cur S) = r := fup_self
      have e3 : cwW (uW S (cur S) w) (cur S) = cwW S (cur S) := by
        unfold cwW
        rw [e1, hc]
        rfl
      rw [e1, e2, e3, h34, h5]
      exact ⟨hw, c2⟩
    · have e1 : (uW S (cur S) w).1 i = S.1 i := fup_ne c
      have e2 : (oW U (cur S) r).2.1 i = U.2.1 i := fup_ne c
      have e3 : cwW (uW S (cur S) w) i = cwW S i := by
        unfold cwW
        rw [e1]
        rfl
      rw [e1, e2, e3]
      exact ⟨c1, c2⟩
  · show fup U.2.1 (cur S) r 0 33 = (fup S.1 (cur S) w 0).1 6
    by_cases c : 0 = cur S
    · rw [← c, fup_self, fup_self, h33, h6, ← c]; exact w3
    · rw [fup_ne c, fup_ne c]; exact w3
  · have es : stS (uW S (cur S) w) i = stS S i := stS_uW hn.1 (by omega) (by have hi : i ≤ cur S := hi; omega)
    rw [es]
    exact w4 i i1 hi
/-- a step is paid -/
theorem RS_spend (h : RS P σ root price D S U b (sT S 2)) (hb : 0 < b) : RS P σ root price D (xSpend S) (oBump U) (b - 1) (sT S 2) := by
  obtain ⟨⟨b1, b2, b3, b4, b5, b6, b7, b8, b9, b10, b11, b12, b13, b14, b15⟩, ⟨n0, n1, n4, n5, n6, n7, n8, n9, n10, n11, n12, n13, n15, nb, na⟩, hRP, hP, hW⟩ := h
  obtain ⟨s1, s2, s3, s4, s5, s6, s7, s8, s9, s10, s11⟩ := b1
  have h2 := s6 2
  have e2 : sT (xSpend S) 2 = sT S 2 + 1 := rfl
  have e13 : sC (xSpend S) 13 = sC S 13 - 1 := rfl
  have ek : ∀ k, k ≠ 2 → sT (xSpend S) k = sT S k := fun k hk => fup_ne hk
  have ec : ∀ k, k ≠ 13 → sC (xSpend S) k = sC S k := fun k hk => fup_ne hk
  have hlt : sT S 2 ≤ 1100000 := by omega
  refine ⟨⟨⟨s1, s2, s3, s4, s5, fun k => ?_, s7, s8, by rw [e13]; omega, s10, s11⟩, b2, b3, b4, b5, b6, b7, b8, by rw [e2]; omega, by rw [e2, e13]; omega, b11, b12, b13, b14, b15⟩, ⟨n0, n1, ?_, n5, n6, n7, n8, n9, n10, n11, n12, n13, n15, by rw [e13]; omega, na⟩, hRP, hP, hW⟩
  · by_cases c : k = 2
    · rw [c, e2]; omega
    · rw [ek k c]; exact s6 k
  · show fup U.1 4 (U.1 4 + 1) 4 = _
    rw [fup_self, e2, n4]
theorem RS_mono {t' : Int} (h : RS P σ root price D S U b t) (h1 : t ≤ t') (h2 : t' ≤ sT S 2) : RS P σ root price D S U b t' := by
  obtain ⟨⟨b1, b2, b3, b4, b5, b6, b7, b8, b9, b10, b11, b12, b13, b14, b15⟩, r⟩ := h
  exact ⟨⟨b1, fun i hi => ⟨by have := (b2 i hi).1; omega, (b2 i hi).2⟩, fun J hJ => ⟨by have := (b3 J hJ).1; omega, (b3 J hJ).2⟩, by omega, by omega, by omega, b7, by omega, h2, b10, b11, b12, b13, b14, by omega⟩, r⟩
theorem RS_stand (h : RS P σ root price D S U b t) {x : Int} (hx : x = 0 ∨ x = 1) : RS P σ root price D (uC S 12 x) (oS U 12 x) b t := by
  obtain ⟨⟨b1, b2, b3, b4, b5, b6, b7, b8, b9, b10, b11, b12, b13, b14, b15⟩, ⟨n0, n1, n4, n5, n6, n7, n8, n9, n10, n11, n12, n13, n15, nb, na⟩, hRP, hP, hW⟩ := h
  exact ⟨⟨b1, b2, b3, b4, b5, b6, b7, b8, b9, b10, b11, b12, hx, b14, b15⟩, ⟨n0, n1, n4, n5, n6, n7, n8, n9, n10, n11, rfl, n13, n15, nb, na⟩, hRP, hP, hW⟩
theorem RS.wr (h : RS P σ root price D S U b t) : WR P σ (stS S (cur S)) (D (cur S)) (S.1 (cur S)) (U.2.1 (cur S)) := (h.2.2.2.2.2.1 (cur S) (Nat.le_refl _)).1
theorem RS.sb (h : RS P σ root price D S U b t) : SB P S := h.1.1
theorem wB_at {w : Wy} {x : Int} (h : wB w) : wB (fup w.1 3 x, w.2) := by
  obtain ⟨a, b, c, d⟩ := h
  refine ⟨a, ?_, ?_, d⟩
  · show 0 ≤ fup w.1 3 x 5 ∧ fup w.1 3 x 5 ≤ _
    rw [fup_ne (by decide)]; exact b
  · show 0 ≤ fup w.1 3 x 6 ∧ fup w.1 3 x 6 ≤ _
    rw [fup_ne (by decide)]; exact c
theorem wB_val {w : Wy} {a v : Int} (h : wB w) (hv : isV v) : wB (wSetValue w a v) := by
  unfold wSetValue
  split
  · obtain ⟨h1, h2, h3, h4⟩ := h
    refine ⟨fun k => ?_, h2, h3, h4⟩
    show isV (fup w.2.1 a.toNat v k)
    by_cases c : k = a.toNat
    · rw [c, fup_self]; exact hv
    · rw [fup_ne c]; exact h1 k
  · exact h
/-- on to the next -/
theorem RS_on (hPR : PR M P σ root price e) (h : RS P σ root price D S U b t) {s : Int} (hs : (S.1 (cur S)).1 3 = s) (hh : gHas P s) : RS P σ root price D (xOn P S s) (oW U (cur S) (fup (U.2.1 (cur S)) 8 (mI M 2236 (σ s).toNat))) b t := by
  subst hs
  exact RS_way h (WR_on hPR h.wr hh) (wB_at (h.sb.1 _)) rfl rfl rfl rfl rfl
/-- a value is assigned -/
theorem RS_assign (hPR : PR M P σ root price e) (h : RS P σ root price D S U b t) {s a v : Int} (hs : (S.1 (cur S)).1 3 = s) (hh : gHas P s) (ha : 0 ≤ a ∧ a < 8) (hv : isV v) : RS P σ root price D (uW S (cur S) (fup (wSetValue (S.1 (cur S)) a v).1 3 (gBehind P s), (wSetValue (S.1 (cur S)) a v).2)) (oW U (cur S) (fup (fup (U.2.1 (cur S)) a.toNat v) 8 (mI M 2236 (σ s).toNat))) b t := by
  subst hs
  have e1 : (wSetValue (S.1 (cur S)) a v).1 = (S.1 (cur S)).1 := by unfold wSetValue; split <;> rfl
  have e2 : (wSetValue (S.1 (cur S)) a v).2.2.2.2 = (S.1 (cur S)).2.2.2.2 := by unfold wSetValue; split <;> rfl
  have hw := WR_on hPR (WR_val (v := v) h.wr ha) (by rw [e1]; exact hh)
  rw [e1] at hw ⊢
  refine RS_way h hw ?_ rfl rfl e2 ?_ ?_
  · have := wB_at (x := gBehind P ((S.1 (cur S)).1 3)) (wB_val (a := a) (h.sb.1 (cur S)) hv)
    rw [e1] at this
    exact this
  · rw [fup_ne (by decide), fup_ne (by omega)]
  · rw [fup_ne (by decide), fup_ne (by omega)]
end TRANS
