/-! the reference takes a point: the whole of it -/
section RTAKE
variable {d : Nat} {K M0 M M' : ZMem} {s lv : Nat} {b : Int} {U : Tr}
theorem r_take208 {i : Nat} {p : Pf} {x k : Int} {w : Pf} {Q : ZMem → Prop} (hM : ModelAt K 2230) (h : RM K M0 M s lv b (oW U lv w)) (hn0 : 0 ≤ k ∧ k ≤ 10000) (hch : ∀ j : Nat, (j : Int) ≤ k → 0 ≤ pk M0 (mI M0 2233 (p 35).toNat) j ∧ pk M0 (mI M0 2233 (p 35).toNat) j < 70200) (h9 : 0 ≤ w 9 ∧ w 9 ≤ 6)
    (q : ∀ M', RM K M0 M' s lv b (oW U lv (wEnters w (p 35) (mI M0 2233 (pk M0 (mI M0 2233 (p 35).toNat) k.toNat).toNat) 0)) → Xv (d + 1) q10_takesPoint 318 [some (zr 2230), some (zi i), some (zi x), none, none, none, none] [] M' Q) : ∀ (m j : Nat), (j : Int) + m = k → Xv (d + 1) q10_takesPoint 208 [some (zr 2230), some (zi i), some (zi x), some (zi (p 35)), some (zi k), some (zi (pk M0 (mI M0 2233 (p 35).toNat) j)), some (zi j)] [] M Q
  | 0, j, e => by
    have hj : j = k.toNat := by omega
    obtain ⟨c0, c1⟩ := hch j (by omega)
    have en : mI M 2233 (pk M0 (mI M0 2233 (p 35).toNat) j).toNat = mI M0 2233 (pk M0 (mI M0 2233 (p 35).toNat) j).toNat := h.nd 2233 (by omega) (by omega) _
    refine B10_takesPoint_208 i x (p 35) k _ j h.1 hM ⟨fun _ => ?_, fun c => absurd (by omega) c⟩
    rw [en]
    repeat (first | refine pe1 (by omega) ?_ | refine pe2 (by omega) ?_ | refine pe3 (by omega) ?_)
    refine r_enters h hM (by rw [oW_at]; exact h9) fun M1 a1 => ⟨a1.1, q M1 ?_⟩
    rw [oW_oW, oW_at] at a1
    rw [← hj]
    exact a1
  | m + 1, j, e => by
    obtain ⟨c0, c1⟩ := hch j (by omega)
    have en : mI M 2236 (pk M0 (mI M0 2233 (p 35).toNat) j).toNat = mI M0 2236 (pk M0 (mI M0 2233 (p 35).toNat) j).toNat := h.nd 2236 (by omega) (by omega) _
    refine B10_takesPoint_208 i x (p 35) k _ j h.1 hM ⟨fun c => absurd c (by omega), fun _ => ?_⟩
    rw [en]
    repeat (first | refine pe1 (by omega) ?_ | refine pe2 (by omega) ?_ | refine pe3 (by omega) ?_)
    exact r_take208 hM h hn0 hch h9 q m (j + 1) (by omega)
theorem r_takesPoint {i : Nat} {p : Pf} {Q : ZMem → Prop} (hd : 4 ≤ d) (h : RM K M0 M s lv b U) (hM : ModelAt K 2230) (h13 : U.1 13 = lv) (hp : U.2.2.1[i]? = some p) (hn : 0 ≤ p 35 ∧ p 35 < 70200) (h36 : 0 ≤ p 36 ∧ p 36 ≤ 10000) (h32 : -100000000 ≤ p 32 ∧ p 32 ≤ 100000000) (h33 : -10 ≤ p 33 ∧ p 33 ≤ 200000000) (h6 : 0 ≤ U.1 6 ∧ U.1 6 ≤ 100000000) (h8 : 0 ≤ U.1 8 ∧ U.1 8 ≤ 100000000)
    (h11 : mI M0 2232 (p 35).toNat = 11 → (0 ≤ p 9 ∧ p 9 ≤ 6) ∧ ∀ j : Nat, (j : Int) ≤ p 36 → 0 ≤ pk M0 (mI M0 2233 (p 35).toNat) j ∧ pk M0 (mI M0 2233 (p 35).toNat) j < 70200)
    (hna : mI M0 2232 (p 35).toNat ≠ 11 → (0 ≤ mI M0 2233 (p 35).toNat ∧ mI M0 2233 (p 35).toNat < 8) ∧ (mI M0 2232 (p 35).toNat = 8 → -2000 ≤ p 38 ∧ p 38 ≤ 2000) ∧ (mI M0 2232 (p 35).toNat ≠ 8 → p 36 < 6))
    (q : ∀ M', RM K M0 M' s lv b (oTook (oW (if U.1 13 = 0 then oS (oS U 6 (U.1 6 + 1)) 8 (U.1 8 + unlN (U.2.1 lv) p 8) else U) lv (wTaken M0 p)) i p) → Q M') : Cv d q10_takesPoint [zr 2230, zi i] M Q := by
  obtain ⟨d, rfl⟩ : ∃ e, d = e + 3 + 1 := ⟨d - 4, by omega⟩
  have hs := h.2.2.2.2.2.2.1
  have hl := h.2.2.2.2.2.2.2.1
  have hn61 := h.n61
  have hil : i < U.2.2.1.length := (List.getElem?_eq_some_iff.mp hp).1
  -- from the copy on
  have c85 : ∀ (M1 : ZMem) (U1 : Tr), RM K M0 M1 s lv b U1 → U1.1 13 = lv → U1.2.2.1 = U.2.2.1 → (∀ M', RM K M0 M' s lv b (oTook (oW U1 lv (wTaken M0 p)) i p) → Q M') → Xv (d + 3 + 1) q10_takesPoint 85 [some (zr 2230), some (zi i), some (zi ((s : Int) + 262 + 47 * i)), none, none, none, none] [] M1 Q := fun M1 U1 a u13 up q => by
    have hp1 : U1.2.2.1[i]? = some p := by rw [up]; exact hp
    have f35 : mI M1 2239 ((s : Int) + 262 + 47 * i + 35).toNat = p 35 := a.p (v := i) (k := 35) rfl hp1 (by omega)
    have f36 : mI M1 2239 ((s : Int) + 262 + 47 * i + 36).toNat = p 36 := a.p (v := i) (k := 36) rfl hp1 (by omega)
    refine B10_takesPoint_85 i _ a.1 hM ?_
    rw [f35]
    repeat (first | refine pe1 (by omega) ?_ | refine pe2 (by omega) ?_ | refine pe3 (by omega) ?_)
    refine B10_takesPoint_95 i _ (p 35) a.1 hM ?_
    rw [f36]
    repeat (first | refine pe1 (by omega) ?_ | refine pe2 (by omega) ?_ | refine pe3 (by omega) ?_)
    refine B10_takesPoint_106 i _ (p 35) (p 36) a.1 hM ?_
    rw [a.2.2.1]
    repeat (first | refine pe1 (by omega) ?_ | refine pe2 (by omega) ?_ | refine pe3 (by omega) ?_)
    have a2 := a.cpP hp1 rfl
    generalize sA M1 2239 (zCpy (mI M1 2239) (mI M1 2239) ((s : Int) + 262 + 47 * i).toNat ((s : Int) + 17 + 35 * lv).toNat 35) = M2 at *
    have f44 : mI M2 2239 ((s : Int) + 262 + 47 * i + 44).toNat = p 44 := a2.p (v := i) (k := 44) rfl hp1 (by omega)
    refine B10_takesPoint_124 i _ (p 35) (p 36) a2.1 hM ?_
    rw [a2.2.2.1, f44]
    repeat (first | refine pe1 (by omega) ?_ | refine pe2 (by omega) ?_ | refine pe3 (by omega) ?_)
    have a3 := a2.kW2 (i := (s : Int) + 17 + 35 * lv + 34) (x := p 44) (k := 34) rfl (by omega)
    generalize sI M2 2239 ((s : Int) + 17 + 35 * lv + 34).toNat (p 44) = M3 at *
    have f32 : mI M3 2239 ((s : Int) + 17 + 35 * lv + 32).toNat = p 32 := (a3.w2 (k := 32) rfl (by omega)).trans ((fup_ne (by decide)).trans (tq_at (by omega) (by omega)))
    refine B10_takesPoint_145 i _ (p 35) (p 36) a3.1 hM ?_
    rw [a3.2.2.1, f32]
    repeat (first | refine pe1 (by omega) ?_ | refine pe2 (by omega) ?_ | refine pe3 (by omega) ?_)
    have a4 := a3.kW2 (i := (s : Int) + 17 + 35 * lv + 32) (x := p 32 + 1) (k := 32) rfl (by omega)
    generalize sI M3 2239 ((s : Int) + 17 + 35 * lv + 32).toNat (p 32 + 1) = M4 at *
    have f33 : mI M4 2239 ((s : Int) + 17 + 35 * lv + 33).toNat = p 33 := (a4.w2 (k := 33) rfl (by omega)).trans ((fup_ne (by decide)).trans ((fup_ne (by decide)).trans (tq_at (by omega) (by omega))))
    have c318 : ∀ (M7 : ZMem), RM K M0 M7 s lv b (oW U1 lv (wTaken M0 p)) → Xv (d + 3 + 1) q10_takesPoint 318 [some (zr 2230), some (zi i), some (zi ((s : Int) + 262 + 47 * i)), none, none, none, none] [] M7 Q := fun M7 a7 => r_take318 (U := oW U1 lv (wTaken M0 p)) a7 hM u13 rfl hp1 h36 q
    -- behind the turns
    have c186 : ∀ (M5 : ZMem), RM K M0 M5 s lv b (oW U1 lv (wTake p)) → Xv (d + 3 + 1) q10_takesPoint 186 [some (zr 2230), some (zi i), some (zi ((s : Int) + 262 + 47 * i)), some (zi (p 35)), some (zi (p 36)), none, none] [] M5 Q := fun M5 a5 => by
      have nop : mI M5 2232 (p 35).toNat = mI M0 2232 (p 35).toNat := a5.nd 2232 (by omega) (by omega) _
      have na : mI M5 2233 (p 35).toNat = mI M0 2233 (p 35).toNat := a5.nd 2233 (by omega) (by omega) _
      have nx : mI M5 2236 (p 35).toNat = mI M0 2236 (p 35).toNat := a5.nd 2236 (by omega) (by omega) _
      refine B10_takesPoint_186 i _ (p 35) (p 36) a5.1 hM ?_
      rw [nop, na]
      repeat (first | refine pe1 (by omega) ?_ | refine pe2 (by omega) ?_ | refine pe3 (by omega) ?_)
      unfold wTaken at c318
      refine ⟨fun c => ?_, fun c => ?_⟩
      · rw [if_neg c] at c318
        obtain ⟨ha, hb8, hb6⟩ := hna c
        refine B10_takesPoint_246 i _ (p 35) (p 36) a5.1 hM ?_
        have f38 : mI M5 2239 ((s : Int) + 262 + 47 * i + 38).toNat = p 38 := a5.p (v := i) (k := 38) rfl hp1 (by omega)
        rw [nop, na, a5.2.2.1, f38]
        repeat (first | refine pe1 (by omega) ?_ | refine pe2 (by omega) ?_ | refine pe3 (by omega) ?_)
        have c300 : ∀ y, y = (if mI M0 2232 (p 35).toNat = 8 then p 38 + p 36 else p (38 + (p 36).toNat)) → Xv (d + 3 + 1) q10_takesPoint 300 [some (zr 2230), some (zi i), some (zi ((s : Int) + 262 + 47 * i)), some (zi (p 35)), none, none, none] [] (sI M5 2239 ((s : Int) + 17 + 35 * lv + mI M0 2233 (p 35).toNat).toNat y) Q := fun y hy => by
          have a6 := a5.kW2 (i := (s : Int) + 17 + 35 * lv + mI M0 2233 (p 35).toNat) (x := y) (k := (mI M0 2233 (p 35).toNat).toNat) (by omega) (by omega)
          rw [hy] at a6
          rw [hy]
          generalize sI M5 2239 ((s : Int) + 17 + 35 * lv + mI M0 2233 (p 35).toNat).toNat (if mI M0 2232 (p 35).toNat = 8 then p 38 + p 36 else p (38 + (p 36).toNat)) = M6 at *
          have nx6 : mI M6 2236 (p 35).toNat = mI M0 2236 (p 35).toNat := a6.nd 2236 (by omega) (by omega) _
          refine B10_takesPoint_300 i _ (p 35) a6.1 hM ?_
          rw [a6.2.2.1, nx6]
          repeat (first | refine pe1 (by omega) ?_ | refine pe2 (by omega) ?_ | refine pe3 (by omega) ?_)
          exact c318 _ (a6.kW2 (k := 8) rfl (by omega))
        refine ⟨fun c8 => ?_, fun c8 => ?_⟩
        · have h6' := hb6 c8
          have f38k : mI M5 2239 ((s : Int) + 262 + 47 * i + 38 + p 36).toNat = p (38 + (p 36).toNat) := a5.p (v := i) (k := 38 + (p 36).toNat) (by omega) hp1 (by omega)
          rw [f38k]
          repeat (first | refine pe1 (by omega) ?_ | refine pe2 (by omega) ?_ | refine pe3 (by omega) ?_)
          exact c300 _ (by rw [if_neg c8])
        · have h8' := hb8 (Decidable.not_not.mp c8)
          repeat (first | refine pe1 (by omega) ?_ | refine pe2 (by omega) ?_ | refine pe3 (by omega) ?_)
          exact c300 _ (by rw [if_pos (Decidable.not_not.mp c8)])
      · have c := Decidable.not_not.mp c
        rw [if_pos c] at c318
        obtain ⟨h9, hch⟩ := h11 c
        repeat (first | refine pe1 (by omega) ?_ | refine pe2 (by omega) ?_ | refine pe3 (by omega) ?_)
        have e9 : wTake p 9 = p 9 := by
          unfold wTake
          rw [fup_ne (by decide), fup_ne (by decide), fup_ne (by decide)]
          exact tq_at (by omega) (by omega)
        exact r_take208 (p := p) hM a5 h36 hch (by rw [e9]; exact h9) c318 (p 36).toNat 0 (by omega)
    refine B10_takesPoint_161 i _ (p 35) (p 36) a4.1 hM ?_
    rw [a4.2.2.1, f33]
    repeat (first | refine pe1 (by omega) ?_ | refine pe2 (by omega) ?_ | refine pe3 (by omega) ?_)
    refine ⟨fun c => ?_, fun c => ?_⟩
    · repeat (first | refine pe1 (by omega) ?_ | refine pe2 (by omega) ?_ | refine pe3 (by omega) ?_)
      refine c186 _ ?_
      have := a4.kW2 (i := (s : Int) + 17 + 35 * lv + 33) (x := p 33 + 0) (k := 33) rfl (by omega)
      rw [wTake, if_neg (by omega)]
      exact this
    · repeat (first | refine pe1 (by omega) ?_ | refine pe2 (by omega) ?_ | refine pe3 (by omega) ?_)
      refine c186 _ ?_
      have := a4.kW2 (i := (s : Int) + 17 + 35 * lv + 33) (x := p 33 + 1) (k := 33) rfl (by omega)
      rw [wTake, if_pos (by omega)]
      exact this
  refine B10_takesPoint i h.1 hM ((r_pointAt h hM (by omega)).pure ⟨h.1, (r_level h hM).pure ⟨h.1, fun c => ?_, fun c => ?_⟩⟩)
  · rw [if_neg c] at q
    exact c85 M U h h13 rfl q
  · rw [if_pos (Decidable.not_not.mp c)] at q
    have f6 : mI M 2239 ((s : Int) + 6).toNat = U.1 6 := h.sc (k := 6) rfl (by omega)
    rw [h.2.1, f6]
    repeat (first | refine pe1 (by omega) ?_ | refine pe2 (by omega) ?_ | refine pe3 (by omega) ?_)
    have a := h.kS (i := (s : Int) + 6) (x := U.1 6 + 1) (k := 6) rfl (by omega) (by omega)
    have e8 : (oS U 6 (U.1 6 + 1)).1 8 = U.1 8 := by show fup U.1 6 (U.1 6 + 1) 8 = U.1 8; exact fup_ne (by decide)
    refine r_undone (M0 := M0) (lv := lv) (b := b) (U := oS U 6 (U.1 6 + 1)) (i := i) (p := p) hM rfl (by rw [e8]; exact h8) hp (fun M1 a1 => ?_) 8 0 _ rfl ?_
    · rw [e8] at a1
      exact c85 M1 _ a1 h13 rfl q
    · rw [e8, unlN, Int.add_zero]
      have e : oS (oS U 6 (U.1 6 + 1)) 8 (U.1 8) = oS U 6 (U.1 6 + 1) := by
        show (fup (fup U.1 6 _) 8 (U.1 8), _) = (fup U.1 6 _, _)
        congr 1
        have := fup_id (f := fup U.1 6 (U.1 6 + 1)) (k := 8)
        rw [fup_ne (by decide)] at this
        exact this
      rw [e]
      exact a
end RTAKE
