/-! of on both sides -/
section OFS
variable {K M : ZMem}
theorem rv_rm {s : Nat} {U : Tr} (hK : KW K M) (h16 : mI M 2230 16 = s) (hU : vT (mI M 2239) s = U) (h14 : 0 ≤ U.1 14 ∧ U.1 14 ≤ 61) (hs : s + 3849 ≤ 19245) : RM K (sI M 2230 17 (s + 17)) (sI M 2230 17 (s + 17)) s 0 (mI M 2230 18) U := by
  have er : mI (sI M 2230 17 ((s : Int) + 17)) 2239 = mI M 2239 := funext fun j => by rw [mI_sI, if_neg (by omega)]
  refine ⟨hK.sI _ _ _, ?_, ?_, ?_, by rw [er]; exact hU, h14, hs, by omega, Fr.refl, fun _ _ => rfl, fun _ _ => rfl⟩
  · rw [mI_sI, if_neg (by omega)]; exact h16
  · rw [mI_sI_eq]; omega
  · rw [mI_sI, if_neg (by omega)]
theorem om_loop {d s : Nat} {U : Tr} (hM : ModelAt K 2230) (hK : KW K M) (h16 : mI M 2230 16 = s) (hU : vT (mI M 2239) s = U) (h14 : 0 ≤ U.1 14 ∧ U.1 14 ≤ 61) (hs : s + 3849 ≤ 19245) {Q : Int → ZMem → Prop} : ∀ (j n : Nat) (acc : Int), n + j = U.2.2.1.length → 0 ≤ acc → acc ≤ n → Q (acc + cntO (U.2.2.1.drop n)) M → Xi (d + 1) q10_openMany 4 [some (zr 2230), some (zi acc), some (zi n)] [] M Q
  | 0, n, acc, e, h0, h1, q => by
    have h := rv_rm hK h16 hU h14 hs
    have hn := h.n61
    have et : mI (sI M 2230 17 (s + 17)) 2239 ((s : Int) + 14).toNat = U.1 14 := h.sc (i := (s : Int) + 14) (k := 14) rfl (by omega)
    rw [mI_sI, if_neg (by omega)] at et
    rw [List.drop_eq_nil_of_le (by omega), cntO, Int.add_zero] at q
    refine B10_openMany_4 acc n hK hM ?_
    rw [h16]
    repeat (first | refine pe1 (by omega) ?_ | refine pe2 (by omega) ?_ | refine pe3 (by omega) ?_)
    rw [et]
    exact ⟨fun _ => q, fun c => absurd c (by omega)⟩
  | j + 1, n, acc, e, h0, h1, q => by
    have h := rv_rm hK h16 hU h14 hs
    have hn := h.n61
    have et : mI (sI M 2230 17 (s + 17)) 2239 ((s : Int) + 14).toNat = U.1 14 := h.sc (i := (s : Int) + 14) (k := 14) rfl (by omega)
    rw [mI_sI, if_neg (by omega)] at et
    have hln : n < U.2.2.1.length := by omega
    have ih := om_loop (d := d) (Q := Q) hM hK h16 hU h14 hs j (n + 1)
    have hp : U.2.2.1[n]? = some U.2.2.1[n] := List.getElem?_eq_getElem hln
    have ep : mI (sI M 2230 17 (s + 17)) 2239 ((s : Int) + 262 + 47 * n + 45).toNat = U.2.2.1[n] 45 := h.p (i := (s : Int) + 262 + 47 * n + 45) (k := 45) rfl hp (by omega)
    rw [mI_sI, if_neg (by omega)] at ep
    rw [List.drop_eq_getElem_cons hln, cntO] at q
    refine B10_openMany_4 acc n hK hM ?_
    rw [h16]
    repeat (first | refine pe1 (by omega) ?_ | refine pe2 (by omega) ?_ | refine pe3 (by omega) ?_)
    rw [et]
    refine ⟨fun c => absurd c (by omega), fun _ => B10_pointAt n hK hM ?_⟩
    rw [h16]
    refine ⟨⟨by omega, by omega⟩, ⟨by omega, by omega⟩, ⟨by omega, by omega⟩, hK, ?_⟩
    repeat (first | refine pe1 (by omega) ?_ | refine pe2 (by omega) ?_ | refine pe3 (by omega) ?_)
    rw [ep]
    refine ⟨fun c => ?_, fun c => ?_⟩
    · rw [if_neg c] at q
      repeat (first | refine pe1 (by omega) ?_ | refine pe2 (by omega) ?_ | refine pe3 (by omega) ?_)
      exact ih _ (by omega) (by omega) (by omega) (by rw [show acc + 0 + cntO (U.2.2.1.drop (n + 1)) = acc + (0 + cntO (U.2.2.1.drop (n + 1))) by omega]; exact q)
    · rw [if_pos (Decidable.not_not.mp c)] at q
      repeat (first | refine pe1 (by omega) ?_ | refine pe2 (by omega) ?_ | refine pe3 (by omega) ?_)
      exact ih _ (by omega) (by omega) (by omega) (by rw [Int.add_assoc]; exact q)
theorem n_openMany {d s : Nat} {U : Tr} (hd : 1 ≤ d) (hM : ModelAt K 2230) (hK : KW K M) (h16 : mI M 2230 16 = s) (hU : vT (mI M 2239) s = U) (h14 : 0 ≤ U.1 14 ∧ U.1 14 ≤ 61) (hs : s + 3849 ≤ 19245) {Q : Int → ZMem → Prop} (q : Q (cntO U.2.2.1) M) : Ci d q10_openMany [zr 2230] M Q := by
  obtain ⟨d, rfl⟩ : ∃ e, d = e + 1 := ⟨d - 1, by omega⟩
  exact B10_openMany hK hM (om_loop hM hK h16 hU h14 hs U.2.2.1.length 0 0 (by omega) (by omega) (by omega) (by rw [List.drop_zero, Int.zero_add]; exact q))
end OFS
