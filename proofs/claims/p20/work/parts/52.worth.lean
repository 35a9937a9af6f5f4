/-! an E that was read is worth the same on both sides -/
def FE (F : Fm) (f : Nat) (l : FL) : Prop := (f : Int) < F.2.2.2.2 ∧ f < 150 ∧ ∃ b : Nat, F.2.2.1 f = b ∧ (b : Int) + l.length ≤ F.2.2.2.1 ∧ (((f : Int) + 1 < F.2.2.2.2 ∧ f + 1 < 150 ∧ F.2.2.1 (f + 1) = (b : Int) + l.length) ∨ ((f : Int) + 1 = F.2.2.2.2 ∧ F.2.2.2.1 = (b : Int) + l.length)) ∧ ∀ t, t < l.length → l[t]? = some (F.1 (b + t), F.2.1 (b + t))
theorem fApp_f (F : Fm) (h0 : 0 ≤ F.2.2.2.1) : ∀ (l : FL), (fApp F l).2.2.2.1 = F.2.2.2.1 + l.length ∧ (fApp F l).2.2.2.2 = F.2.2.2.2 ∧ (fApp F l).2.2.1 = F.2.2.1 ∧ (∀ k : Nat, (k : Int) < F.2.2.2.1 → (fApp F l).1 k = F.1 k ∧ (fApp F l).2.1 k = F.2.1 k) ∧ (∀ t, t < l.length → l[t]? = some ((fApp F l).1 (F.2.2.2.1.toNat + t), (fApp F l).2.1 (F.2.2.2.1.toNat + t))) := by
  intro l
  generalize hn : l.length = n
  induction n generalizing l with
  | zero =>
    have : l = [] := List.eq_nil_of_length_eq_zero hn
    subst this
    exact ⟨by show F.2.2.2.1 = F.2.2.2.1 + 0; omega, rfl, rfl, fun k _ => ⟨rfl, rfl⟩, fun t ht => by omega⟩
  | succ n ih =>
    obtain ⟨l', c, rfl⟩ : ∃ l' c, l = l' ++ [c] := by
      rcases List.eq_nil_or_concat l with q | ⟨l', c, q⟩
      · rw [q] at hn; cases hn
      · exact ⟨l', c, by rw [q, List.concat_eq_append]⟩
    have hl : l'.length = n := by simpa using hn
    obtain ⟨i1, i2, i3, i4, i5⟩ := ih l' hl
    rw [fApp_app]
    have es : (fApp F l').2.2.2.1.toNat = F.2.2.2.1.toNat + n := by omega
    refine ⟨?_, i2, i3, fun k hk => ?_, fun t ht => ?_⟩
    · show (fApp F l').2.2.2.1 + 1 = _
      omega
    · show fup (fApp F l').1 _ _ k = _ ∧ fup (fApp F l').2.1 _ _ k = _
      rw [fup_ne (by omega), fup_ne (by omega)]
      exact i4 k hk
    · show _ = some (fup (fApp F l').1 (fApp F l').2.2.2.1.toNat c.1 (F.2.2.2.1.toNat + t), fup (fApp F l').2.1 (fApp F l').2.2.2.1.toNat c.2 (F.2.2.2.1.toNat + t))
      rw [es]
      by_cases q : t = n
      · subst q
        rw [fup_self, fup_self, List.getElem?_append_right (by omega), hl, Nat.sub_self]
        rfl
      · rw [fup_ne (by omega), fup_ne (by omega), List.getElem?_append_left (by omega)]
        exact i5 t (by omega)
theorem FE_new {F : Fm} {l : FL} {f : Nat} (h0 : 0 ≤ F.2.2.2.1) (hf : F.2.2.2.2 = f) (h1 : f < 150) : FE (fApp (fSt F) l) f l := by
  obtain ⟨i1, i2, i3, i4, i5⟩ := fApp_f (fSt F) h0 l
  refine ⟨?_, h1, F.2.2.2.1.toNat, ?_, ?_, Or.inr ⟨?_, ?_⟩, i5⟩
  · rw [i2]; show (f : Int) < F.2.2.2.2 + 1; omega
  · rw [i3]
    show fup F.2.2.1 F.2.2.2.2.toNat F.2.2.2.1 f = _
    rw [hf, Int.toNat_natCast, fup_self]; omega
  · rw [i1]; show _ ≤ F.2.2.2.1 + _; omega
  · rw [i2]; show _ = F.2.2.2.2 + 1; omega
  · rw [i1]; show F.2.2.2.1 + _ = _; omega
theorem FE_keep {F : Fm} {l l2 : FL} {f : Nat} (h0 : 0 ≤ F.2.2.2.1) (hf : F.2.2.2.2 < 150) (h : FE F f l) : FE (fApp (fSt F) l2) f l := by
  obtain ⟨i1, i2, i3, i4, i5⟩ := fApp_f (fSt F) h0 l2
  obtain ⟨a1, a2, b, a3, a4, a5, a6⟩ := h
  have es : (fSt F).2.2.2.1 = F.2.2.2.1 := rfl
  refine ⟨by rw [i2]; show (f : Int) < F.2.2.2.2 + 1; omega, a2, b, ?_, by rw [i1, es]; omega, Or.inl ⟨by rw [i2]; show (f : Int) + 1 < F.2.2.2.2 + 1; omega, by omega, ?_⟩, fun t ht => ?_⟩
  · rw [i3]
    show fup F.2.2.1 F.2.2.2.2.toNat F.2.2.2.1 f = _
    rw [fup_ne (by omega)]; exact a3
  · rw [i3]
    show fup F.2.2.1 F.2.2.2.2.toNat F.2.2.2.1 (f + 1) = _
    rcases a5 with ⟨c1, c2, c3⟩ | ⟨c1, c2⟩
    · rw [fup_ne (by omega)]; exact c3
    · rw [show F.2.2.2.2.toNat = f + 1 by omega, fup_self]; exact c2
  · obtain ⟨k1, k2⟩ := i4 (b + t) (by rw [es]; omega)
    rw [k1, k2]
    exact a6 t ht
theorem FE_worth {F : Fm} {f : Nat} {l : FL} (h : FE F f l) (hs : F.2.2.2.1 ≤ 150) {v : Nat → Int} : fWorth F f v = (lval v l).getD 999999 := by
  obtain ⟨a1, a2, b, a3, a4, a5, a6⟩ := h
  have hend : fEnd F f = (b : Int) + l.length := by
    unfold fEnd
    rcases a5 with ⟨c1, c2, c3⟩ | ⟨c1, c2⟩
    · rw [if_pos ⟨by omega, c1, by omega⟩, show ((f : Int) + 1).toNat = f + 1 by omega]; exact c3
    · rw [if_neg (by omega)]; exact c2
  unfold fWorth
  rw [if_pos ⟨by omega, a1, by omega⟩, hend, Int.toNat_natCast, a3, show ((b : Int) + l.length - b).toNat = l.length by omega]
  have hz : isV 0 := by show -999 ≤ (0 : Int) ∧ (0 : Int) ≤ 999; omega
  rw [wLoop_eq _ _ _ _ _ hz]
  have el : ((List.range l.length).map fun t : Nat => (fOf F.1 ((b : Int) + t), fOf F.2.1 ((b : Int) + t))) = l := by
    refine List.ext_getElem? fun t => ?_
    by_cases c : t < l.length
    · rw [a6 t c, List.getElem?_map, List.getElem?_eq_getElem (by rw [List.length_range]; exact c), List.getElem_range]
      show some (fOf F.1 ((b : Int) + t), fOf F.2.1 ((b : Int) + t)) = _
      unfold fOf
      rw [if_pos ⟨by omega, by omega⟩, if_pos ⟨by omega, by omega⟩, show ((b : Int) + t).toNat = b + t by omega]
    · rw [List.getElem?_eq_none (by rw [List.length_map, List.length_range]; omega), List.getElem?_eq_none (by omega)]
  rw [el]
  rfl
