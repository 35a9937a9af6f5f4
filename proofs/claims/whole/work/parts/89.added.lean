/-! a statement was added on both sides -/
section ADDED
variable {K M0 : ZMem} {tp : Nat → Int} {n N T : Nat}
/-- what the draft is once a statement was added and linked -/
def pNew (S : St) (kd dt : Int) : Pg := zLnk (pAdd (zg S) kd dt (zAr S) S.2.1) (zAr S) (S.2.2.2.1 S.2.1) (zsz S)
theorem pNew_at {S : St} {kd dt : Int} {j t : Nat} (h3 : j ≠ 3) (h7 : j ≠ 7) : (pNew S kd dt).1 j t = if t = (zsz S).toNat then (if j = 0 then kd else if j = 1 then dt else if j = 2 then (zg S).2.1.2.2.2.2 else if j = 4 then zAr S else if j = 5 then (S.2.1 : Int) else if j = 6 then 0 else (zg S).1 j t) else (zg S).1 j t := by
  unfold pNew
  rw [pLink_j h3 h7, pAdd_at]
  show (if t = (zsz S).toNat then _ else _) = _
  split
  · first
    | rfl
    | (rw [if_neg h3])
  · rfl
theorem SI.ar {S : St} (h : SI n S) : zAr S = -1 ∨ (gHas (zg S) (zAr S) ∧ gLevel (zg S) (zAr S) = (S.2.1 : Int) - 1 ∧ 1 ≤ gParts (zg S) (zAr S)) := by
  unfold zAr
  by_cases c : 1 ≤ S.2.1
  · rw [if_pos c]
    obtain ⟨h1, h2, _, h4, _⟩ := h.2.2 (S.2.1 - 1) (by omega)
    exact Or.inr ⟨h1, by rw [h2]; omega, h4⟩
  · rw [if_neg c]; exact Or.inl rfl
theorem SI.lv {S : St} (h : SI n S) : lvI (zg S) (zAr S) = (S.2.1 : Int) := by
  unfold zAr
  by_cases c : 1 ≤ S.2.1
  · rw [if_pos c]
    obtain ⟨h1, h2, _⟩ := h.2.2 (S.2.1 - 1) (by omega)
    rw [lvI_has h1, h2]; omega
  · rw [if_neg c]
    unfold lvI
    rw [if_pos rfl]; omega
/-- below it, and its own behind and parts -/
theorem pNew_lo {S : St} {kd dt : Int} (h : SI n S) (h40 : zsz S < 40) (hb : S.2.2.2.1 S.2.1 < zsz S) : Cl (zLnk (zg S) (zAr S) (S.2.2.2.1 S.2.1) (zsz S)) (pNew S kd dt) 0 (zsz S) ∧ (pNew S kd dt).1 3 (zsz S).toNat = -1 ∧ ∀ t, t < 6 → (pNew S kd dt).1 7 ((zsz S).toNat * 6 + t) = (zg S).1 7 ((zsz S).toNat * 6 + t) := by
  have hs0 := h.1.1.1
  have hpar := h.1.2.1.1
  have esz : (zg S).2.2.2 = zsz S := rfl
  have esz' : (pAdd (zg S) kd dt (zAr S) S.2.1).2.2.2 = zsz S + 1 := rfl
  have hasIff : ∀ b : Int, b < zsz S → (gHas (pAdd (zg S) kd dt (zAr S) S.2.1) b ↔ gHas (zg S) b) := fun b hb => by
    unfold gHas
    rw [esz, esz']
    constructor
    · rintro ⟨q1, q2, q3⟩; exact ⟨q1, by omega, q3⟩
    · rintro ⟨q1, q2, q3⟩; exact ⟨q1, by omega, q3⟩
  have lowA : ∀ j t : Nat, t ≠ (zsz S).toNat → (pAdd (zg S) kd dt (zAr S) S.2.1).1 j t = (zg S).1 j t := fun j t ht => by
    rw [pAdd_at]
    exact if_neg ht
  have selfA3 : (pAdd (zg S) kd dt (zAr S) S.2.1).1 3 (zsz S).toNat = -1 := by
    rw [pAdd_at]
    show (if (zsz S).toNat = (zsz S).toNat then _ else _) = _
    rw [if_pos rfl, if_neg (by decide), if_neg (by decide), if_neg (by decide), if_pos rfl]
  have selfA7 : ∀ t, (pAdd (zg S) kd dt (zAr S) S.2.1).1 7 t = (zg S).1 7 t := fun t => by
    rw [pAdd_at]
    split
    · rw [if_neg (by decide), if_neg (by decide), if_neg (by decide), if_neg (by decide), if_neg (by decide), if_neg (by decide), if_neg (by decide)]
    · rfl
  have har : zAr S < zsz S := by
    rcases h.ar with q | q
    · omega
    · have := q.1.2.1; omega
  unfold pNew zLnk
  by_cases cb : S.2.2.2.1 S.2.1 = -1
  · rw [if_pos cb, if_pos cb]
    unfold pLinkF
    by_cases ca : gHas (zg S) (zAr S)
    · have ha0 := ca.1
      have ha40 := ca.2.2
      have hp := hpar (zAr S).toNat
      have eslot : pSlot (pAdd (zg S) kd dt (zAr S) S.2.1) (zAr S) = pSlot (zg S) (zAr S) := by
        unfold pSlot
        rw [lowA 6 _ (by omega)]
      rw [eslot]
      by_cases cs : 0 ≤ pSlot (zg S) (zAr S) ∧ pSlot (zg S) (zAr S) < 240
      · have hsl : pSlot (zg S) (zAr S) < zsz S * 6 := by unfold pSlot; omega
        rw [if_pos ⟨ca, cs⟩, if_pos ⟨(hasIff _ har).mpr ca, cs⟩]
        refine ⟨fun s s1 s2 => ⟨?_, ?_, fun t ht => ?_⟩, ?_, fun t ht => ?_⟩
        · rw [pU_at, pU_at, if_neg (by omega), if_neg (by omega), lowA 3 s (by omega)]
        · rw [pU_at, pU_at, if_neg (by omega), if_neg (by omega), lowA 6 s (by omega)]
        · rw [pU_at, pU_at, selfA7]
        · rw [pU_at, if_neg (by omega)]; exact selfA3
        · rw [pU_at, if_neg (by omega)]; exact selfA7 _
      · rw [if_neg (fun q => cs q.2), if_neg (fun q => cs q.2)]
        exact ⟨fun s s1 s2 => ⟨lowA 3 s (by omega), lowA 6 s (by omega), fun t _ => selfA7 _⟩, selfA3, fun t _ => selfA7 _⟩
    · rw [if_neg (fun q => ca q.1), if_neg (fun q => ca ((hasIff _ har).mp q.1))]
      exact ⟨fun s s1 s2 => ⟨lowA 3 s (by omega), lowA 6 s (by omega), fun t _ => selfA7 _⟩, selfA3, fun t _ => selfA7 _⟩
  · rw [if_neg cb, if_neg cb]
    unfold pLinkB
    by_cases ca : gHas (zg S) (S.2.2.2.1 S.2.1)
    · have ha0 := ca.1
      rw [if_pos ca, if_pos ((hasIff _ hb).mpr ca)]
      refine ⟨fun s s1 s2 => ⟨?_, ?_, fun t ht => ?_⟩, ?_, fun t ht => ?_⟩
      · rw [pU_at, pU_at, lowA 3 s (by omega)]
      · rw [pU_at, pU_at, if_neg (by omega), if_neg (by omega), lowA 6 s (by omega)]
      · rw [pU_at, pU_at, if_neg (by omega), if_neg (by omega), selfA7]
      · rw [pU_at, if_neg (by omega)]; exact selfA3
      · rw [pU_at, if_neg (by omega)]; exact selfA7 _
    · rw [if_neg ca, if_neg (fun q => ca ((hasIff _ hb).mp q))]
      exact ⟨fun s s1 s2 => ⟨lowA 3 s (by omega), lowA 6 s (by omega), fun t _ => selfA7 _⟩, selfA3, fun t _ => selfA7 _⟩
end ADDED
