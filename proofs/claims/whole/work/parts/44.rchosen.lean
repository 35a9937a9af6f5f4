/-! the reference: which point is taken next -/
def oMine (st lvl : Int) (p : Pf) : Int := if 0 < lvl then 0 else oRank st p
theorem chO_cons {st lvl : Int} {p : Pf} {l : List Pf} {i best hr : Int} : chO st lvl (p :: l) i best hr = if p 45 = lvl then (if best = -1 ∨ oMine st lvl p < hr ∨ (oMine st lvl p = hr ∧ ¬ (lvl = 0 ∧ (st = 1 ∨ st = 2))) then chO st lvl l (i + 1) i (oMine st lvl p) else chO st lvl l (i + 1) best hr) else chO st lvl l (i + 1) best hr := rfl
section RCHOSEN
variable {d : Nat} {K M0 M M' : ZMem} {s lv : Nat} {b : Int} {U : Tr}
theorem r_rank {i : Nat} {p : Pf} {x : Int} (h : RM K M0 M s lv b U) (hM : ModelAt K 2230) (hp : U.2.2.1[i]? = some p) (hx : x = s + 262 + 47 * i) (h33 : -10 ≤ p 33 ∧ p 33 ≤ 200000000) : Ci d q10_rank [zr 2230, zi x] M (fun y M' => y = oRank (U.1 1) p ∧ M' = M) := by
  have hs := h.2.2.2.2.2.2.1
  have hn := h.n61
  have hil : i < U.2.2.1.length := (List.getElem?_eq_some_iff.mp hp).1
  have e1 := h.sc (i := (s : Int) + 1) (k := 1) rfl (by omega)
  have e46 := h.p (i := x + 46) (v := i) (k := 46) (by omega) hp (by omega)
  have e36 := h.p (i := x + 36) (v := i) (k := 36) (by omega) hp (by omega)
  have e33 := h.p (i := x + 33) (v := i) (k := 33) (by omega) hp (by omega)
  refine B10_rank x h.1 hM ?_
  rw [h.2.1, e1, e46, e36, e33]
  repeat (first | refine pe1 (by omega) ?_ | refine pe2 (by omega) ?_ | refine pe3 (by omega) ?_)
  refine ⟨fun c => ?_, fun c => ?_, fun c => ⟨?_, rfl⟩⟩
  · repeat (first | refine pe1 (by omega) ?_ | refine pe2 (by omega) ?_ | refine pe3 (by omega) ?_)
    exact ⟨by rw [oRank, if_pos c], rfl⟩
  · repeat (first | refine pe1 (by omega) ?_ | refine pe2 (by omega) ?_ | refine pe3 (by omega) ?_)
    refine ⟨fun c2 => ?_, fun c2 => ?_⟩
    · repeat (first | refine pe1 (by omega) ?_ | refine pe2 (by omega) ?_ | refine pe3 (by omega) ?_)
      exact ⟨by rw [oRank, if_neg (by omega), if_pos c, if_neg (by omega)], rfl⟩
    · repeat (first | refine pe1 (by omega) ?_ | refine pe2 (by omega) ?_ | refine pe3 (by omega) ?_)
      exact ⟨by rw [oRank, if_neg (by omega), if_pos c, if_pos (by omega)], rfl⟩
  · rw [oRank, if_neg (by omega), if_neg (by omega)]
theorem r_chosen_loop {old : Int} {Q : Int → ZMem → Prop} (h : RM K M0 M s lv b U) (hM : ModelAt K 2230) (h33 : ∀ p ∈ U.2.2.1, -10 ≤ p 33 ∧ p 33 ≤ 200000000) (hold : old ≠ 0 ↔ (U.1 13 = 0 ∧ (U.1 1 = 1 ∨ U.1 1 = 2))) (h13 : 0 ≤ U.1 13) : ∀ (j n : Nat) (best hr : Int), n + j = U.2.2.1.length → (best = -1 ∧ hr = 0 ∨ 0 ≤ best ∧ ∃ p, U.2.2.1[best.toNat]? = some p ∧ hr = oMine (U.1 1) (U.1 13) p) → Q (chO (U.1 1) (U.1 13) (U.2.2.1.drop n) n best hr) M → Xi (d + 1) q10_chosen 39 [some (zr 2230), some (zi best), some (zi old), some (zi n), none, none] [] M Q
  | 0, n, best, hr, e, hb, q => by
    have hs := h.2.2.2.2.2.2.1
    have hn := h.n61
    have et := h.sc (i := (s : Int) + 14) (k := 14) rfl (by omega)
    rw [List.drop_eq_nil_of_le (by omega), chO] at q
    refine B10_chosen_39 best old n h.1 hM ?_
    rw [h.2.1, et]
    repeat (first | refine pe1 (by omega) ?_ | refine pe2 (by omega) ?_ | refine pe3 (by omega) ?_)
    exact ⟨fun _ => q, fun c => absurd c (by omega)⟩
  | j + 1, n, best, hr, e, hb, q => by
    have hs := h.2.2.2.2.2.2.1
    have hn := h.n61
    have et := h.sc (i := (s : Int) + 14) (k := 14) rfl (by omega)
    have hln : n < U.2.2.1.length := by omega
    have ih := r_chosen_loop (Q := Q) h hM h33 hold h13 j (n + 1)
    have hp : U.2.2.1[n]? = some U.2.2.1[n] := List.getElem?_eq_getElem hln
    have e45 := h.p (i := (s : Int) + 262 + 47 * n + 45) (k := 45) rfl hp (by omega)
    have hpb := h33 _ (List.getElem_mem hln)
    rw [List.drop_eq_getElem_cons hln, chO_cons] at q
    generalize hpp : U.2.2.1[n] = p at *
    have hrn : inR ((n : Int) + 1) := ⟨by omega, by omega⟩
    refine B10_chosen_39 best old n h.1 hM ?_
    rw [h.2.1, et]
    repeat (first | refine pe1 (by omega) ?_ | refine pe2 (by omega) ?_ | refine pe3 (by omega) ?_)
    refine ⟨fun c => absurd c (by omega), fun _ => (r_pointAt h hM (by omega)).pure ⟨h.1, ?_⟩⟩
    repeat (first | refine pe1 (by omega) ?_ | refine pe2 (by omega) ?_ | refine pe3 (by omega) ?_)
    rw [e45]
    refine (r_level h hM).pure ⟨h.1, ?_⟩
    -- what follows when it is better, or not
    have yes : (best = -1 ∨ oMine (U.1 1) (U.1 13) p < hr ∨ (oMine (U.1 1) (U.1 13) p = hr ∧ ¬ (U.1 13 = 0 ∧ (U.1 1 = 1 ∨ U.1 1 = 2)))) → p 45 = U.1 13 → inR ((n : Int) + 1) ∧ Xi (d + 1) q10_chosen 39 [some (zr 2230), some (zi n), some (zi old), some (zi ((n : Int) + 1)), none, none] [] M Q := fun c c0 => ⟨hrn, ih n _ (by omega) (Or.inr ⟨by omega, p, by rw [Int.toNat_natCast]; exact hp, rfl⟩) (by rw [if_pos c0, if_pos c] at q; exact q)⟩
    have no : ¬ (best = -1 ∨ oMine (U.1 1) (U.1 13) p < hr ∨ (oMine (U.1 1) (U.1 13) p = hr ∧ ¬ (U.1 13 = 0 ∧ (U.1 1 = 1 ∨ U.1 1 = 2)))) → p 45 = U.1 13 → inR ((n : Int) + 1) ∧ Xi (d + 1) q10_chosen 39 [some (zr 2230), some (zi best), some (zi old), some (zi ((n : Int) + 1)), none, none] [] M Q := fun c c0 => ⟨hrn, ih best hr (by omega) hb (by rw [if_pos c0, if_neg c] at q; exact q)⟩
    have ho : ¬ old ≠ 0 → ¬ (U.1 13 = 0 ∧ (U.1 1 = 1 ∨ U.1 1 = 2)) := fun c a => c (hold.mpr a)
    refine ⟨fun c0 => (r_level h hM).pure ⟨h.1, fun cl => ?_, fun cl => ?_⟩, fun c0 => ⟨hrn, ih best hr (by omega) hb (by rw [if_neg c0] at q; exact q)⟩⟩
    · have em : oMine (U.1 1) (U.1 13) p = oRank (U.1 1) p := if_neg (by omega)
      refine (r_pointAt h hM (by omega)).pure ⟨h.1, (r_rank h hM hp rfl hpb).pure ⟨h.1, fun cb => ?_, fun cb => ?_⟩⟩
      · refine ⟨fun _ => yes (Or.inl cb) c0, fun c => absurd cb c⟩
      · obtain ⟨hb1, hb2⟩ | ⟨hb0, p2, hp2, ehr⟩ := hb
        · exact absurd hb1 cb
        refine (r_level h hM).pure ⟨h.1, fun cl2 => ?_, fun cl2 => absurd cl cl2⟩
        have hbl : best.toNat < U.2.2.1.length := (List.getElem?_eq_some_iff.mp hp2).1
        have hpb2 := h33 p2 (List.mem_of_getElem? hp2)
        have em2 : oMine (U.1 1) (U.1 13) p2 = oRank (U.1 1) p2 := if_neg (by omega)
        refine (r_pointAt h hM (by omega)).pure ⟨h.1, (r_rank h hM hp2 (by omega) hpb2).pure ⟨h.1, ?_⟩⟩
        rw [← em, ← em2, ← ehr]
        exact ⟨fun c => absurd c cb, fun _ => ⟨fun c2 => yes (Or.inr (Or.inl c2)) c0, fun c2 => ⟨fun c3 => no (by omega) c0, fun c3 => ⟨fun c4 => no (fun a => a.elim cb (fun a => a.elim c2 (fun a => a.2 (hold.mp c4)))) c0, fun c4 => yes (Or.inr (Or.inr ⟨Decidable.not_not.mp c3, ho c4⟩)) c0⟩⟩⟩⟩
    · have em : oMine (U.1 1) (U.1 13) p = 0 := if_pos (by omega)
      have nh : ¬ (U.1 13 = 0 ∧ (U.1 1 = 1 ∨ U.1 1 = 2)) := fun a => by omega
      refine ⟨fun cb => ⟨fun _ => yes (Or.inl cb) c0, fun c => absurd cb c⟩, fun cb => ?_⟩
      obtain ⟨hb1, hb2⟩ | ⟨hb0, p2, hp2, ehr⟩ := hb
      · exact absurd hb1 cb
      have em2 : hr = 0 := by rw [ehr]; exact if_pos (by omega)
      refine (r_level h hM).pure ⟨h.1, fun cl2 => absurd cl2 cl, fun cl2 => ⟨fun c => absurd c cb, fun _ => ⟨fun c4 => absurd (hold.mp c4) nh, fun c4 => yes (Or.inr (Or.inr ⟨by rw [em, em2], nh⟩)) c0⟩⟩⟩
theorem r_chosen {Q : Int → ZMem → Prop} (hd : 2 ≤ d) (h : RM K M0 M s lv b U) (hM : ModelAt K 2230) (h33 : ∀ p ∈ U.2.2.1, -10 ≤ p 33 ∧ p 33 ≤ 200000000) (h13 : 0 ≤ U.1 13) (q : Q (chO (U.1 1) (U.1 13) U.2.2.1 0 (-1) 0) M) : Ci d q10_chosen [zr 2230] M Q := by
  obtain ⟨d, rfl⟩ : ∃ e, d = e + 1 := ⟨d - 1, by omega⟩
  have hs := h.2.2.2.2.2.2.1
  have e1 := h.sc (i := (s : Int) + 1) (k := 1) rfl (by omega)
  have l : ∀ old : Int, (old ≠ 0 ↔ (U.1 13 = 0 ∧ (U.1 1 = 1 ∨ U.1 1 = 2))) → Xi (d + 1) q10_chosen 39 [some (zr 2230), some (zi (-1)), some (zi old), some (zi 0), none, none] [] M Q := fun old ho => r_chosen_loop h hM h33 ho h13 U.2.2.1.length 0 (-1) 0 (by omega) (Or.inl ⟨rfl, rfl⟩) q
  refine B10_chosen h.1 hM ((r_level h hM).pure ⟨h.1, fun c => l 0 ⟨fun a => absurd rfl a, fun a => absurd a.1 c⟩, fun c => ?_⟩)
  rw [h.2.1, e1]
  repeat (first | refine pe1 (by omega) ?_ | refine pe2 (by omega) ?_ | refine pe3 (by omega) ?_)
  exact ⟨fun c2 => l 1 ⟨fun _ => ⟨Decidable.not_not.mp c, by omega⟩, fun _ => by decide⟩, fun c2 => l 0 ⟨fun a => absurd rfl a, fun a => absurd (by omega) c2⟩⟩
end RCHOSEN
