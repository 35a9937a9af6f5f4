/-! once, not and rounds on both sides -/
/-- another statement gets its node -/
theorem Body.sig {M : ZMem} {P : Pg} {σ σ' : Int → Int} {a b : Nat} {s c : Int} (hσ : ∀ i, i ≠ c → σ' i = σ i) (h1 : s ≠ c) (h2 : gAround P c ≠ s) (h : Body M P σ a b s) : Body M P σ' a b s := by
  obtain ⟨hs, hr, h3, h4, hk⟩ := h
  have es := hσ s h1
  have ef : ∀ t : Int, gAround P t = s → σ' t = σ t := fun t ht => hσ t fun q => h2 (by rw [← q]; exact ht)
  refine ⟨hs, by rw [es]; exact hr, h3, h4, ?_⟩
  unfold Kds at hk ⊢
  rw [es]
  rcases hk with q | q | q | q | q | q | q | q
  · exact Or.inl q
  · exact Or.inr (Or.inl q)
  · exact Or.inr (Or.inr (Or.inl q))
  · exact Or.inr (Or.inr (Or.inr (Or.inl q)))
  · obtain ⟨q1, q2, q3, q4, q5, q6⟩ := q
    refine Or.inr (Or.inr (Or.inr (Or.inr (Or.inl ⟨q1, q2, q3, q4, q5, fun k hk => ?_⟩))))
    obtain ⟨r1, r2, r3, r4⟩ := q6 k hk
    exact ⟨r1, r2, r3, by rw [ef _ r3]; exact r4⟩
  · obtain ⟨q1, q2, q3, q4, q5, q6⟩ := q
    exact Or.inr (Or.inr (Or.inr (Or.inr (Or.inr (Or.inl ⟨q1, q2, q3, q4, q5, by rw [ef _ q5]; exact q6⟩)))))
  · exact Or.inr (Or.inr (Or.inr (Or.inr (Or.inr (Or.inr (Or.inl q))))))
  · obtain ⟨q1, q2, q3, q4, q5, q6, q7, q8⟩ := q
    exact Or.inr (Or.inr (Or.inr (Or.inr (Or.inr (Or.inr (Or.inr ⟨q1, q2, q3, q4, q5, q6, q7, by rw [ef _ q7]; exact q8⟩))))))
theorem Lnk.sig {M : ZMem} {P : Pg} {σ σ' : Int → Int} {s c : Int} (hσ : ∀ i, i ≠ c → σ' i = σ i) (h1 : c < s) (h : Lnk M P σ s) : Lnk M P σ' s := by
  unfold Lnk at h ⊢
  rw [hσ s (by omega)]
  rcases h with q | ⟨q1, q2, q3⟩
  · exact Or.inl q
  · have := q1.2
    exact Or.inr ⟨q1, q2, by rw [hσ _ (by omega)]; exact q3⟩
section BRACK
variable {K M0 : ZMem} {tp : Nat → Int} {n N T : Nat}
/-- the state behind an opening bracket -/
def zIn (S : St) (pb : Nat) (kd dt : Int) : St := (pb + 1, S.2.1 + 1, fup S.2.2.1 S.2.1 (zsz S), fup (fup S.2.2.2.1 S.2.1 (zsz S)) (S.2.1 + 1) (-1), 1, pPart (pNew S kd dt) (zsz S))
theorem zOpen_in {S : St} {pb : Nat} {kd dt : Int} (h : S.2.1 < 6) : zOpen (zAdd (zP S pb) kd dt) (zsz S) = (1, zIn S pb kd dt) := if_pos h
/-- what a bracket's draft is -/
theorem in_facts {S : St} {pb : Nat} {kd dt : Int} (h : SI n S) (h40 : zsz S < 40) (hb : S.2.2.2.1 S.2.1 < zsz S) : (zg (zIn S pb kd dt)).2 = ((zg S).2.1, (zg S).2.2.1, zsz S + 1) ∧ (∀ j t : Nat, j ≠ 6 → (zg (zIn S pb kd dt)).1 j t = (pNew S kd dt).1 j t) ∧ (∀ t : Nat, (zg (zIn S pb kd dt)).1 6 t = if (t : Int) = zsz S then 1 else (zg S).1 6 t) := by
  have hs0 := h.1.1.1
  have e2 : (pNew S kd dt).2 = ((zg S).2.1, (zg S).2.2.1, zsz S + 1) := zLnk_2
  have esz : (pNew S kd dt).2.2.2 = zsz S + 1 := congrArg (fun x : Fm × Fm × Int => x.2.2) e2
  have hh : gHas (pNew S kd dt) (zsz S) := ⟨hs0, by rw [esz]; omega, h40⟩
  have e6 : (pNew S kd dt).1 6 (zsz S).toNat = 0 := by
    rw [pNew_at (by decide) (by decide), if_pos rfl, if_neg (by decide), if_neg (by decide), if_neg (by decide), if_neg (by decide), if_neg (by decide), if_pos rfl]
  have e : zg (zIn S pb kd dt) = pU (pNew S kd dt) 6 (zsz S).toNat (0 + 1) := by
    show pPart (pNew S kd dt) (zsz S) = _
    unfold pPart
    rw [if_pos ⟨hh, by rw [e6]; decide⟩, e6]
  refine ⟨by rw [e]; exact e2, fun j t hj => by rw [e, pU_at, if_neg (by omega)], fun t => ?_⟩
  rw [e, pU_at]
  by_cases c : (t : Int) = zsz S
  · rw [if_pos c, if_pos ⟨rfl, by omega⟩]; rfl
  · rw [if_neg c, if_neg (by omega), pNew_at (by decide) (by decide), if_neg (by omega)]
theorem in_new {S : St} {pb : Nat} {kd dt : Int} (h : SI n S) (h40 : zsz S < 40) (hb : S.2.2.2.1 S.2.1 < zsz S) : Gr (zg S) (zg (zIn S pb kd dt)) ∧ Cl (zLnk (zg S) (zAr S) (S.2.2.2.1 S.2.1) (zsz S)) (zg (zIn S pb kd dt)) 0 (zsz S) ∧ (zg (zIn S pb kd dt)).1 3 (zsz S).toNat = -1 ∧ gHas (zg (zIn S pb kd dt)) (zsz S) ∧ gKind (zg (zIn S pb kd dt)) (zsz S) = kd ∧ gAround (zg (zIn S pb kd dt)) (zsz S) = zAr S ∧ gLevel (zg (zIn S pb kd dt)) (zsz S) = (S.2.1 : Int) ∧ gDetail (zg (zIn S pb kd dt)) (zsz S) = dt ∧ gParts (zg (zIn S pb kd dt)) (zsz S) = 1 := by
  have hs0 := h.1.1.1
  obtain ⟨e2, ej, e6⟩ := in_facts (pb := pb) (kd := kd) (dt := dt) h h40 hb
  obtain ⟨p1, p2, p3⟩ := pNew_lo (kd := kd) (dt := dt) h h40 hb
  have esz : zsz (zIn S pb kd dt) = zsz S + 1 := congrArg (fun x : Fm × Fm × Int => x.2.2) e2
  obtain ⟨f1, f2, f3, f4, f5, f6, f7, f8⟩ := new_facts (S' := zIn S pb kd dt) (kd := kd) (dt := dt) h h40 hb (by omega) (by omega) (fun j t q _ => ej j t (by omega)) (by rw [ej 3 _ (by decide)]; exact p2)
  have hG := new_gr (S' := zIn S pb kd dt) (kd := kd) (dt := dt) h h40 (by omega) (by omega) (fun j t q _ => ej j t (by omega)) (fun t ht => ej 1 t (by decide)) (fun f l q => by have eF := congrArg (fun x : Fm × Fm × Int => x.1) e2; dsimp only at eF; rw [eF]; exact q)
  refine ⟨hG, fun s s1 s2 => ?_, by rw [ej 3 _ (by decide)]; exact p2, f1, f2, f4, f5, ?_, ?_⟩
  · obtain ⟨x1, x2, x3⟩ := p1 s s1 s2
    refine ⟨(ej 3 s (by decide)).trans x1, ?_, fun t ht => (ej 7 _ (by decide)).trans (x3 t ht)⟩
    rw [e6, if_neg (by omega), zLnk_36]
  · rw [f7, ej 1 _ (by decide)]; exact pNew_det
  · rw [f8, e6, if_pos (by omega)]
theorem in_SI {S : St} {pb : Nat} {kd dt : Int} (h : SI n S) (h40 : zsz S < 40) (hb : S.2.2.2.1 S.2.1 < zsz S) (hop : S.2.1 < 6) (hp : S.1 ≤ pb) (hpn : pb + 1 ≤ n) (hn150 : n ≤ 150) (hdt : -1000 ≤ dt ∧ dt ≤ 1000) (hkd : kd = 5 ∨ kd = 6 ∨ kd = 7 ∨ kd = 9) : SI n (zIn S pb kd dt) := by
  have hs0 := h.1.1.1
  obtain ⟨g1, g2, g3, g4, g5, g6, g7, g8, g9⟩ := in_new (pb := pb) (kd := kd) (dt := dt) h h40 hb
  obtain ⟨e2, ej, e6⟩ := in_facts (pb := pb) (kd := kd) (dt := dt) h h40 hb
  have esz : zsz (zIn S pb kd dt) = zsz S + 1 := congrArg (fun x : Fm × Fm × Int => x.2.2) e2
  have eF : (zg (zIn S pb kd dt)).2.1 = (zg S).2.1 := by have := congrArg (fun x : Fm × Fm × Int => x.1) e2; exact this
  have eF2 : (zg (zIn S pb kd dt)).2.2.1 = (zg S).2.2.1 := by have := congrArg (fun x : Fm × Fm × Int => x.2.1) e2; exact this
  have hpiA := zAdd_pi (PI_zP h.1 hp) h40 (by show pb ≤ 150; omega) (kd := kd) (dt := dt) hdt
  obtain ⟨b1, b2, b3, b4, b5, b6⟩ := hpiA
  refine ⟨⟨by omega, pPart_DI b2, ?_, ?_, by show S.2.1 + 1 ≤ 6; omega, by rw [eF2]; exact h.1.2.2.2.2.2⟩, hpn, fun k hk => ?_⟩
  · rw [eF]
    have := h.1.2.2.1
    refine ⟨this.1, ?_⟩
    show (zg S).2.1.2.2.2.1 ≤ ((pb + 1 : Nat) : Int)
    omega
  · rw [eF]
    have := h.1.2.2.2.1
    refine ⟨this.1, ?_⟩
    show (zg S).2.1.2.2.2.2 ≤ ((pb + 1 : Nat) : Int)
    omega
  · have hk : k < S.2.1 + 1 := hk
    have eo : (zIn S pb kd dt).2.2.1 = fup S.2.2.1 S.2.1 (zsz S) := rfl
    rw [eo]
    by_cases c : k = S.2.1
    · subst c
      rw [fup_self]
      refine ⟨g4, g7, by rw [g5]; exact hkd, by rw [g9]; decide, ?_⟩
      rw [g6]
      unfold zAr
      by_cases c : S.2.1 = 0
      · rw [if_neg (by omega), if_pos c]
      · rw [if_pos (by omega), if_neg c]
        rw [fup_ne (by omega)]
    · rw [fup_ne c]
      obtain ⟨x1, x2, x3, x4, x5⟩ := h.2.2 k (by omega)
      obtain ⟨y1, y2, y3, y4, y5⟩ := g1.g x1
      have x10 := x1.1
      have x11 : S.2.2.1 k < zsz S := x1.2.1
      rw [y1, y5, y4]
      refine ⟨g1.has x1, x2, x3, ?_, ?_⟩
      · unfold gParts at x4 ⊢
        rw [if_pos x1] at x4
        rw [if_pos (g1.has x1), e6, if_neg (by omega)]
        exact x4
      · rw [x5]
        by_cases c : k = 0
        · rw [if_pos c, if_pos c]
        · rw [if_neg c, if_neg c]
          rw [fup_ne (by omega)]
end BRACK
