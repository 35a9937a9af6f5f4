/-! the class reads an E -/
def fAddF (F : Fm) (c : Int × Int) : Fm := (fup F.1 F.2.2.2.1.toNat c.1, fup F.2.1 F.2.2.2.1.toNat c.2, F.2.2.1, F.2.2.2.1 + 1, F.2.2.2.2)
def fSt (F : Fm) : Fm := (F.1, F.2.1, fup F.2.2.1 F.2.2.2.2.toNat F.2.2.2.1, F.2.2.2.1, F.2.2.2.2 + 1)
def fApp (F : Fm) (l : FL) : Fm := l.foldl fAddF F
def CRd (K M : ZMem) (tp : Nat → Int) (n p : Nat) : Prop := KW K M ∧ (mI M 3 1 = n ∧ ∀ k, k < n → mI M 4 k = tp k) ∧ mI M 5 4 = p ∧ p ≤ n
/-- what reading an E leaves as it was -/
def fx (a : Nat) (M M' : ZMem) : Prop := Fr (fun q => q = 5 ∨ bk a 4 q) M M' ∧ ∀ k, k ≠ 4 → mI M' 5 k = mI M 5 k
theorem fx.refl {a : Nat} {M : ZMem} : fx a M M := ⟨Fr.refl, fun _ _ => rfl⟩
theorem fx.trans {a : Nat} {M M1 M2 : ZMem} (h : fx a M M1) (g : fx a M1 M2) : fx a M M2 := ⟨h.1.trans g.1, fun k hk => (g.2 k hk).trans (h.2 k hk)⟩
section CFORM
variable {d : Nat} {K M M' : ZMem} {tp : Nat → Int} {n p a : Nat}
theorem CRd.fr (h : CRd K M tp n p) (hK : KW K M') {X : Nat → Prop} (F : Fr X M M') (h3 : ¬ X 3) (h4 : ¬ X 4) {p' : Nat} (e : mI M' 5 4 = p') (hp : p' ≤ n) : CRd K M' tp n p' :=
  ⟨hK, ⟨by rw [F.i h3]; exact h.2.1.1, fun k hk => by rw [F.i h4]; exact h.2.1.2 k hk⟩, e, hp⟩
theorem CRd.go (h : CRd K M tp n p) {x : Int} {p' : Nat} (e : (p' : Int) = x) (hp : p' ≤ n) : CRd K (sI M 5 4 x) tp n p' :=
  h.fr (h.1.sI _ _ _) (X := fun q => q = 5) (Fr.refl.sI rfl) (by decide) (by decide) (by rw [mI_sI_eq, e]) hp
theorem fx.go {M1 : ZMem} {x : Int} (h : fx a M M1) : fx a M (sI M1 5 4 x) := ⟨h.1.sI (Or.inl rfl), fun k hk => by rw [mI_sI, if_neg (fun q => hk q.2)]; exact h.2 k hk⟩
theorem s_tat (hT : Tp tp n) (h : CRd K M tp n p) (hR : ReaderAt K 5) {x : Int} {k : Nat} {Q : Int → ZMem → Prop} (hx : x = k) (q : Q (tp k) M) : Ci d q7_at [zr 3, zi x] M Q := by
  have hn := hT.1
  obtain ⟨a1, ⟨b1, b2⟩, _⟩ := h
  refine B7_at 3 x a1 hR.2.2.2.2.2.2.2.1 ⟨fun c => absurd c (by omega), fun _ => ⟨fun c => ?_, fun c => ⟨fun c2 => absurd c2 (by omega), fun c2 => ⟨by omega, by omega, ?_⟩⟩⟩⟩
  · rw [b1] at c
    rw [hT.2.2 k (by omega)] at q
    exact q
  · rw [b1] at c
    rw [hx, Int.toNat_natCast, show (3 + 1) = 4 from rfl, b2 k (by omega)]
    exact q
theorem s_isVar {x : Int} {Q : Int → ZMem → Prop} (hK : KW K M) (q1 : 97 ≤ x ∧ x ≤ 104 → Q 1 M) (q0 : ¬ (97 ≤ x ∧ x ≤ 104) → Q 0 M) : Ci d q5_isVariable [zi x] M Q :=
  B5_isVariable x hK ⟨fun c => q0 (by omega), fun c => ⟨fun c2 => q0 (by omega), fun c2 => q1 (by omega)⟩⟩
theorem s_isDig {x : Int} {Q : Int → ZMem → Prop} (hK : KW K M) (q1 : dg x → Q 1 M) (q0 : ¬ dg x → Q 0 M) : Ci d q5_isDigit [zi x] M Q :=
  B5_isDigit x hK ⟨fun c => q0 (by omega), fun c => ⟨fun c2 => q0 (by omega), fun c2 => q1 (by omega)⟩⟩
theorem s_joinOf {x : Int} {Q : Int → ZMem → Prop} (hK : KW K M) (q : Q (jo x) M) : Ci d q5_joinOf [zi x] M Q := by
  unfold jo at q
  refine B5_joinOf x hK ⟨fun c => ⟨fun c2 => ⟨fun c3 => ?_, fun c3 => ?_⟩, fun c2 => ?_⟩, fun c => ?_⟩
  · rw [if_neg c, if_neg c2, if_neg c3] at q; exact q
  · rw [if_neg c, if_neg c2, if_pos (Decidable.not_not.mp c3)] at q; exact q
  · rw [if_neg c, if_pos (Decidable.not_not.mp c2)] at q; exact q
  · rw [if_pos (Decidable.not_not.mp c)] at q; exact q
theorem gF_joins {x : Int} {k : Nat} (hk : k < 150) : gF (sI M (a + 1) k x) a = (fup (gF M a).1 k x, (gF M a).2) := by
  have e1 : tq 0 150 (mI (sI M (a + 1) k x) (a + 1)) = fup (tq 0 150 (mI M (a + 1))) k x := tq_fup (Nat.zero_le _) hk fun j => by rw [mI_sI]; by_cases q : j = k <;> simp [q]
  have r : ∀ o, o ≠ a + 1 → mI (sI M (a + 1) k x) o = mI M o := fun o ho => by funext j; rw [mI_sI, if_neg (fun q => ho q.1)]
  show (_, _, _, _, _) = (_, _, _, _, _)
  rw [e1, r (a + 2) (by omega), r (a + 3) (by omega), r a (by omega)]; rfl
theorem gF_facs {x : Int} {k : Nat} (hk : k < 150) : gF (sI M (a + 2) k x) a = ((gF M a).1, fup (gF M a).2.1 k x, (gF M a).2.2) := by
  have e1 : tq 0 150 (mI (sI M (a + 2) k x) (a + 2)) = fup (tq 0 150 (mI M (a + 2))) k x := tq_fup (Nat.zero_le _) hk fun j => by rw [mI_sI]; by_cases q : j = k <;> simp [q]
  have r : ∀ o, o ≠ a + 2 → mI (sI M (a + 2) k x) o = mI M o := fun o ho => by funext j; rw [mI_sI, if_neg (fun q => ho q.1)]
  show (_, _, _, _, _) = (_, _, _, _, _)
  rw [e1, r (a + 1) (by omega), r (a + 3) (by omega), r a (by omega)]; rfl
theorem gF_begs {x : Int} {k : Nat} (hk : k < 150) : gF (sI M (a + 3) k x) a = ((gF M a).1, (gF M a).2.1, fup (gF M a).2.2.1 k x, (gF M a).2.2.2) := by
  have e1 : tq 0 150 (mI (sI M (a + 3) k x) (a + 3)) = fup (tq 0 150 (mI M (a + 3))) k x := tq_fup (Nat.zero_le _) hk fun j => by rw [mI_sI]; by_cases q : j = k <;> simp [q]
  have r : ∀ o, o ≠ a + 3 → mI (sI M (a + 3) k x) o = mI M o := fun o ho => by funext j; rw [mI_sI, if_neg (fun q => ho q.1)]
  show (_, _, _, _, _) = (_, _, _, _, _)
  rw [e1, r (a + 1) (by omega), r (a + 2) (by omega), r a (by omega)]; rfl
theorem gF_sz {x : Int} : gF (sI M a 3 x) a = ((gF M a).1, (gF M a).2.1, (gF M a).2.2.1, x, (gF M a).2.2.2.2) := by
  have r : ∀ o, o ≠ a → mI (sI M a 3 x) o = mI M o := fun o ho => by funext j; rw [mI_sI, if_neg (fun q => ho q.1)]
  show (_, _, _, _, _) = (_, _, _, _, _)
  rw [r (a + 1) (by omega), r (a + 2) (by omega), r (a + 3) (by omega), mI_sI_eq, mI_sI, if_neg (fun q => by cases q.2)]; rfl
theorem gF_fs {x : Int} : gF (sI M a 4 x) a = ((gF M a).1, (gF M a).2.1, (gF M a).2.2.1, (gF M a).2.2.2.1, x) := by
  have r : ∀ o, o ≠ a → mI (sI M a 4 x) o = mI M o := fun o ho => by funext j; rw [mI_sI, if_neg (fun q => ho q.1)]
  show (_, _, _, _, _) = (_, _, _, _, _)
  rw [r (a + 1) (by omega), r (a + 2) (by omega), r (a + 3) (by omega), mI_sI_eq, mI_sI, if_neg (fun q => by cases q.2)]; rfl
theorem fx.set {M1 : ZMem} {o k : Nat} {x : Int} (ha : 8 ≤ a) (h : fx a M M1) (h1 : a ≤ o) (h2 : o < a + 4) : fx a M (sI M1 o k x) := ⟨h.1.sI (Or.inr ⟨h1, h2⟩), fun j hj => by rw [mI_sI, if_neg (by omega)]; exact h.2 j hj⟩
theorem CRd.set (h : CRd K M tp n p) {o k : Nat} {x : Int} (ho : 8 ≤ o) : CRd K (sI M o k x) tp n p :=
  h.fr (h.1.sI _ _ _) (X := fun q => q = o) (Fr.refl.sI rfl) (by omega) (by omega) (by rw [mI_sI, if_neg (by omega)]; exact h.2.2.1) h.2.2.2
theorem s_addFactor (ha : 8 ≤ a) (hA : FormulasAt K a) (h : CRd K M tp n p) {j x neg : Int} {Q : ZMem → Prop} (h0 : 0 ≤ (gF M a).2.2.2.1) (h1 : (gF M a).2.2.2.1 < 150) (hx : -2000 ≤ x ∧ x ≤ 2000) (q : ∀ M', CRd K M' tp n p → fx a M M' → gF M' a = fAddF (gF M a) (j, if neg = 0 then x else -1 - x) → Q M') : Cv d q1_addFactor [zr a, zi j, zi x, zi neg] M Q := by
  have e3 : mI M a 3 = (gF M a).2.2.2.1 := rfl
  refine B1_addFactor a j x neg h.1 hA ⟨fun c => absurd c (by omega), fun _ => ⟨fun c => absurd c (by omega), fun _ => ?_⟩⟩
  have f1 : mI (sI M (a + 1) (mI M a 3).toNat j) a 3 = mI M a 3 := by rw [mI_sI, if_neg (by omega)]
  have f2 : ∀ y, mI (sI (sI M (a + 1) (mI M a 3).toNat j) (a + 2) (mI M a 3).toNat y) a 3 = mI M a 3 := fun y => by rw [mI_sI, if_neg (by omega), f1]
  have fin : ∀ y, CRd K (sI (sI (sI M (a + 1) (mI M a 3).toNat j) (a + 2) (mI M a 3).toNat y) a 3 (mI M a 3 + 1)) tp n p ∧ fx a M (sI (sI (sI M (a + 1) (mI M a 3).toNat j) (a + 2) (mI M a 3).toNat y) a 3 (mI M a 3 + 1)) ∧ gF (sI (sI (sI M (a + 1) (mI M a 3).toNat j) (a + 2) (mI M a 3).toNat y) a 3 (mI M a 3 + 1)) a = fAddF (gF M a) (j, y) := fun y => by
    refine ⟨((h.set (by omega)).set (by omega)).set ha, ((fx.refl.set ha (by omega) (by omega)).set ha (by omega) (by omega)).set ha (by omega) (by omega), ?_⟩
    rw [gF_sz, gF_facs (by omega), gF_joins (by omega), e3]
    rfl
  refine ⟨by omega, by omega, fun c => ?_, fun c => ?_⟩
  · rw [f1, f2]
    rw [if_pos c] at q
    exact ⟨by omega, by omega, ⟨by omega, by omega⟩, q _ (fin x).1 (fin x).2.1 (fin x).2.2⟩
  · rw [f1, f2]
    rw [if_neg c] at q
    exact ⟨⟨by omega, by omega⟩, by omega, by omega, ⟨by omega, by omega⟩, q _ (fin (-1 - x)).1 (fin (-1 - x)).2.1 (fin (-1 - x)).2.2⟩
theorem s_startFormula (ha : 8 ≤ a) (hA : FormulasAt K a) (h : CRd K M tp n p) {Q : ZMem → Prop} (h0 : 0 ≤ (gF M a).2.2.2.2) (q1 : (gF M a).2.2.2.2 < 150 → ∀ M', CRd K M' tp n p → fx a M M' → gF M' a = fSt (gF M a) → Q M') (q2 : ¬ (gF M a).2.2.2.2 < 150 → Q M) : Cv d q1_startFormula [zr a] M Q := by
  have e4 : mI M a 4 = (gF M a).2.2.2.2 := rfl
  refine B1_startFormula a h.1 hA ⟨fun c => absurd c (by omega), fun _ => ⟨fun c => q2 (by omega), fun c => ?_⟩⟩
  have f1 : mI (sI M (a + 3) (mI M a 4).toNat (mI M a 3)) a 4 = mI M a 4 := by rw [mI_sI, if_neg (by omega)]
  rw [f1]
  refine ⟨by omega, by omega, ⟨by omega, by omega⟩, q1 (by omega) _ ((h.set (by omega)).set ha) ((fx.refl.set ha (by omega) (by omega)).set ha (by omega) (by omega)) ?_⟩
  rw [gF_fs, gF_begs (by omega), e4]
  rfl
theorem s_digits (hT : Tp tp n) (hR : ReaderAt K 5) (ha : 8 ≤ a) (hA : FormulasAt K a) {jn neg : Int} {q0 : Nat} {Q : Int → ZMem → Prop} (hd : 1 ≤ d) : ∀ (j i : Nat) (v : Int) (M : ZMem), i + j = 3 → 0 ≤ v → v ≤ (if i = 0 then 0 else if i = 1 then 9 else if i = 2 then 99 else 999) → CRd K M tp n (q0 + i) → 0 ≤ (gF M a).2.2.2.1 → (gF M a).2.2.2.1 < 150 →
    (∀ M', CRd K M' tp n (nuL tp j (q0 + i) v).1 → fx a M M' → gF M' a = fAddF (gF M a) (jn, if neg = 0 then (nuL tp j (q0 + i) v).2 else -1 - (nuL tp j (q0 + i) v).2) → Q 1 M') → Xi (d + 1) q5_readFactor 119 [some (zr 5), some (zr a), some (zi jn), some (zi neg), none, some (zi v), some (zi i)] [] M Q
  | 0, i, v, M, hij, hv0, hv, h, g0, g1, q => by
    rw [nuL] at q
    rw [if_neg (by omega), if_neg (by omega), if_neg (by omega)] at hv
    exact B5_readFactor_119 a jn neg v i h.1 hR hA ⟨fun _ => s_addFactor ha hA h g0 g1 ⟨by omega, by omega⟩ fun M' k1 k2 k3 => ⟨k1.1, q M' k1 k2 k3⟩, fun c => absurd (show (3 : Int) ≤ i by omega) c⟩
  | j + 1, i, v, M, hij, hv0, hv, h, g0, g1, q => by
    have e2 := h.2.2.1
    have hn := hT.1
    rw [nuL] at q
    have hv999 : v ≤ 99 := by
      by_cases c0 : i = 0
      · rw [if_pos c0] at hv; omega
      · by_cases c1 : i = 1
        · rw [if_neg c0, if_pos c1] at hv; omega
        · rw [if_neg c0, if_neg c1, if_pos (by omega)] at hv; omega
    refine B5_readFactor_119 a jn neg v i h.1 hR hA ⟨fun c => absurd c (by omega), fun _ => s_tat hT h hR e2 ⟨h.1, s_isDig h.1 (fun c => ⟨h.1, fun c2 => absurd c2 (by decide), fun _ => ?_⟩) (fun c => ⟨h.1, fun _ => ?_, fun c2 => absurd rfl c2⟩)⟩⟩
    · have hin := hT.in (p := q0 + i) (by omega)
      rw [if_pos c] at q
      refine ⟨⟨by omega, by omega⟩, s_tat hT h hR e2 ⟨h.1, ⟨by omega, by omega⟩, ⟨by omega, by omega⟩, ⟨by omega, by omega⟩, ⟨by omega, by omega⟩, ?_⟩⟩
      have a1 := h.go (x := mI M 5 4 + 1) (p' := q0 + (i + 1)) (by omega) (by omega)
      have e0 : gF (sI M 5 4 (mI M 5 4 + 1)) a = gF M a := gF_fr (X := fun q => q = 5) (Fr.refl.sI rfl) fun j hj q => by omega
      have r := s_digits hT hR ha hA (jn := jn) (neg := neg) (q0 := q0) (Q := Q) hd j (i + 1) (10 * v + tp (q0 + i) - 48) (sI M 5 4 (mI M 5 4 + 1)) (by omega) (by omega) (by
        rw [if_neg (by omega)]
        by_cases c0 : i = 0
        · rw [if_pos c0] at hv
          rw [if_pos (by omega)]; omega
        · rw [if_neg c0] at hv
          by_cases c1 : i = 1
          · rw [if_pos c1] at hv
            rw [if_neg (by omega), if_pos (by omega)]; omega
          · rw [if_neg (by omega), if_neg (by omega)]; omega) a1 (by rw [e0]; exact g0) (by rw [e0]; exact g1) (fun M' k1 k2 k3 => by
        rw [e0] at k3
        exact q M' k1 (fx.refl.go.trans k2) k3)
      have ex : v * 10 + tp (q0 + i) - 48 = 10 * v + tp (q0 + i) - 48 := by omega
      rw [ex]
      exact r
    · rw [if_neg c] at q
      exact s_addFactor ha hA h g0 g1 ⟨by omega, by omega⟩ fun M' k1 k2 k3 => ⟨k1.1, q M' k1 k2 k3⟩
theorem s_factor_loop (hT : Tp tp n) (hR : ReaderAt K 5) (ha : 8 ≤ a) (hA : FormulasAt K a) {jn : Int} {Q : Int → ZMem → Prop} (hd : 1 ≤ d) : ∀ (f q : Nat) (neg i : Int) (M : ZMem), q ≤ n → n < q + f → 0 ≤ i → i ≤ q → CRd K M tp n q → 0 ≤ (gF M a).2.2.2.1 → (gF M a).2.2.2.1 ≤ q →
    ((un tp f q).1 = 1 → ∀ M', CRd K M' tp n (un tp f q).2.1 → fx a M M' → gF M' a = fAddF (gF M a) (jn, if neg = 0 then (un tp f q).2.2 else -1 - (un tp f q).2.2) → Q 1 M') →
    ((un tp f q).1 ≠ 1 → ∀ M', CRd K M' tp n (un tp f q).2.1 → fx a M M' → gF M' a = gF M a → Q 0 M') → Xi (d + 1) q5_readFactor 5 [some (zr 5), some (zr a), some (zi jn), some (zi neg), some (zi i), none, none] [] M Q
  | 0, q, neg, i, M, hq, hf, hi0, hi, h, g0, g1, q1, q2 => by omega
  | f + 1, q, neg, i, M, hq, hf, hi0, hi, h, g0, g1, q1, q2 => by
    have e2 := h.2.2.1
    have hn := hT.1
    rw [un] at q1 q2
    have last : ¬ tp q = 45 → (97 ≤ tp q ∧ tp q ≤ 104 → ∀ M4 : ZMem, M4 = M → Cv d q1_addFactor [zr a, zi jn, zi (1000 + tp q - 97), zi neg] M4 (fun M15 => KW K M15 ∧ (inR ((mI M15 5 4) + 1)) ∧ Q 1 (sI M15 5 4 ((mI M15 5 4) + 1)))) ∧ (¬ (97 ≤ tp q ∧ tp q ≤ 104) → dg (tp q) → Xi (d + 1) q5_readFactor 119 [some (zr 5), some (zr a), some (zi jn), some (zi neg), none, some (zi 0), some (zi 0)] [] M Q) ∧ (¬ (97 ≤ tp q ∧ tp q ≤ 104) → ¬ dg (tp q) → Q 0 M) := fun c => by
      rw [if_neg c] at q1 q2
      refine ⟨fun c2 M4 e4 => ?_, fun c2 c3 => ?_, fun c2 c3 => ?_⟩
      · subst e4
        have hin := hT.in (p := q) (by omega)
        rw [if_pos c2] at q1
        refine s_addFactor ha hA h g0 (by omega) ⟨by omega, by omega⟩ fun M' k1 k2 k3 => ⟨k1.1, ?_⟩
        have e2' := k1.2.2.1
        refine ⟨⟨by omega, by omega⟩, q1 rfl _ (k1.go (by show ((q + 1 : Nat) : Int) = _; omega) (by show q + 1 ≤ n; omega)) k2.go ?_⟩
        rw [gF_fr (M := M') (X := fun q => q = 5) (Fr.refl.sI rfl) fun j hj q => by omega, k3]
        show fAddF _ (jn, if neg = 0 then 1000 + tp q - 97 else -1 - (1000 + tp q - 97)) = fAddF _ (jn, if neg = 0 then 1000 + (tp q - 97) else -1 - (1000 + (tp q - 97)))
        rw [show 1000 + tp q - 97 = 1000 + (tp q - 97) by omega]
      · have hin := hT.in (p := q) (by omega)
        rw [if_neg c2, if_pos c3] at q1
        refine s_digits hT hR ha hA hd 3 0 0 M rfl (Int.le_refl 0) (by rw [if_pos rfl]; exact Int.le_refl 0) h g0 (by omega) fun M' k1 k2 k3 => ?_
        rw [show q + 0 = q from rfl, nu_nuL c3] at k1 k3
        exact q1 rfl M' k1 k2 k3
      · rw [if_neg c2, if_neg c3] at q2
        exact q2 (show (0 : Int) ≠ 1 by decide) M h fx.refl rfl
    refine B5_readFactor_5 a jn neg i h.1 hR hA ⟨fun c => ?_, fun c => s_tat hT h hR e2 ⟨h.1, fun c2 => ?_, fun c2 => ?_⟩⟩
    · have ht : tp q = 0 := hT.2.2 q (by omega)
      obtain ⟨l1, l2, l3⟩ := last (by omega)
      exact s_tat hT h hR e2 ⟨h.1, s_isVar h.1 (fun c2 => absurd c2 (by omega)) (fun c2 => ⟨h.1, fun _ => s_isDig h.1 (fun c3 => absurd c3 (by omega)) (fun c3 => ⟨h.1, fun c4 => absurd rfl c4, fun _ => l3 c2 c3⟩), fun c3 => absurd rfl c3⟩)⟩
    · obtain ⟨l1, l2, l3⟩ := last c2
      refine s_tat hT h hR e2 ⟨h.1, s_isVar h.1 (fun c3 => ⟨h.1, fun c4 => absurd c4 (by decide), fun _ => ?_⟩) (fun c3 => ⟨h.1, fun _ => s_isDig h.1 (fun c4 => ⟨h.1, fun _ => l2 c3 c4, fun c5 => absurd (by decide) c5⟩) (fun c4 => ⟨h.1, fun c5 => absurd rfl c5, fun _ => l3 c3 c4⟩), fun c4 => absurd rfl c4⟩)⟩
      exact ⟨⟨by omega, by omega⟩, ⟨by omega, by omega⟩, l1 c3 M rfl⟩
    · have c2 := Decidable.not_not.mp c2
      have hin := hT.in (p := q) (by omega)
      rw [if_pos c2] at q1 q2
      have a1 := h.go (x := mI M 5 4 + 1) (p' := q + 1) (by omega) (by omega)
      have e0 : gF (sI M 5 4 (mI M 5 4 + 1)) a = gF M a := gF_fr (X := fun q => q = 5) (Fr.refl.sI rfl) fun j hj q => by omega
      have nx : ∀ neg', (neg' = if neg = 0 then 1 else 0) → Xi (d + 1) q5_readFactor 5 [some (zr 5), some (zr a), some (zi jn), some (zi neg'), some (zi (i + 1)), none, none] [] (sI M 5 4 (mI M 5 4 + 1)) Q := fun neg' en => by
        refine s_factor_loop hT hR ha hA hd f (q + 1) neg' (i + 1) _ (by omega) (by omega) (by omega) (by omega) a1 (by rw [e0]; exact g0) (by rw [e0]; omega) (fun k1 M' k2 k3 k4 => q1 k1 M' k2 (fx.refl.go.trans k3) ?_) (fun k1 M' k2 k3 k4 => q2 k1 M' k2 (fx.refl.go.trans k3) (k4.trans e0))
        rw [e0] at k4
        rw [k4, en]
        by_cases c3 : neg = 0
        · rw [if_pos c3, if_pos c3, if_neg (by decide)]
        · rw [if_neg c3, if_neg c3, if_pos rfl]
          show fAddF _ (jn, (un tp f (q + 1)).2.2) = fAddF _ (jn, -1 - (-1 - (un tp f (q + 1)).2.2))
          rw [show -1 - (-1 - (un tp f (q + 1)).2.2) = (un tp f (q + 1)).2.2 by omega]
      refine ⟨fun c3 => ?_, fun c3 => ?_⟩
      · exact ⟨⟨by omega, by omega⟩, ⟨by omega, by omega⟩, nx 0 (by rw [if_neg c3])⟩
      · exact ⟨⟨by omega, by omega⟩, ⟨by omega, by omega⟩, nx 1 (by rw [if_pos (Decidable.not_not.mp c3)])⟩
/-- factors and begins in their bounds -/
def FA (F : Fm) : Prop := (∀ k, -2000 ≤ F.2.1 k ∧ F.2.1 k ≤ 2000) ∧ ∀ k, 0 ≤ F.2.2.1 k ∧ F.2.2.1 k ≤ 150
theorem FA_add {F : Fm} {c : Int × Int} (h : FA F) (hc : -2000 ≤ c.2 ∧ c.2 ≤ 2000) : FA (fAddF F c) := by
  refine ⟨fun k => ?_, h.2⟩
  show -2000 ≤ (if k = F.2.2.2.1.toNat then c.2 else F.2.1 k) ∧ (if k = F.2.2.2.1.toNat then c.2 else F.2.1 k) ≤ 2000
  split
  · exact hc
  · exact h.1 k
theorem FA_st {F : Fm} (h : FA F) (h0 : 0 ≤ F.2.2.2.1) (h1 : F.2.2.2.1 ≤ 150) : FA (fSt F) := by
  refine ⟨h.1, fun k => ?_⟩
  show 0 ≤ (if k = F.2.2.2.2.toNat then F.2.2.2.1 else F.2.2.1 k) ∧ (if k = F.2.2.2.2.toNat then F.2.2.2.1 else F.2.2.1 k) ≤ 150
  split
  · exact ⟨h0, h1⟩
  · exact h.2 k
theorem fApp_app {F : Fm} {l : FL} {c : Int × Int} : fApp F (l ++ [c]) = fAddF (fApp F l) c := by
  unfold fApp
  rw [List.foldl_append]; rfl
theorem s_formula_loop {N : Nat} (hT : Tp tp n) (hN : n < N) (hR : ReaderAt K 5) (ha : 8 ≤ a) (hA : FormulasAt K a) {G : Fm} {Q : Int → ZMem → Prop} : ∀ (f q : Nat) (jn i : Int) (l : FL) (M : ZMem), q ≤ n → n < q + f → 0 ≤ i → i ≤ q → CRd K M tp n q → 0 ≤ (gF M a).2.2.2.1 → (gF M a).2.2.2.1 ≤ q → FA (gF M a) →
    ((er tp N f q jn l).1 = 1 → gF M a = fApp G l → ∀ M', CRd K M' tp n (er tp N f q jn l).2.1 → fx a M M' → gF M' a = fApp G (er tp N f q jn l).2.2 → FA (gF M' a) → Q 1 M') →
    ((er tp N f q jn l).1 ≠ 1 → ∀ M', CRd K M' tp n (er tp N f q jn l).2.1 → fx a M M' → FA (gF M' a) → Q 0 M') → (gF M a = fApp G l ∨ (er tp N f q jn l).1 ≠ 1) → Xi (d + 2 + 1) q5_readFormula 8 [some (zr 5), some (zr a), some (zi jn), some (zi i)] [] M Q
  | 0, q, jn, i, l, M, hq, hf, hi0, hi, h, g0, g1, hFA, q1, q2, hG => by omega
  | f + 1, q, jn, i, l, M, hq, hf, hi0, hi, h, g0, g1, hFA, q1, q2, hG => by
    have hn := hT.1
    obtain ⟨u1, u2, u3, u4, u5, u6⟩ := un_b hT N q hq (by omega)
    refine B5_readFormula_8 a jn i h.1 hR hA ⟨fun c => absurd c (by omega), fun _ => B5_readFactor a jn h.1 hR hA (s_factor_loop hT hR ha hA (by omega) N q 0 0 M hq (by omega) (Int.le_refl 0) (by omega) h g0 g1 (fun k1 M1 k2 k3 k4 => ⟨k2.1, fun _ => ?_, fun c => absurd (by decide) c⟩) (fun k1 M1 k2 k3 k4 => ⟨k2.1, fun c => absurd rfl c, fun _ => ?_⟩))⟩
    · have u4 := u4 k1
      rw [er_ok k1] at q1 q2 hG
      rw [if_pos rfl] at k4
      generalize hu : (un tp N q).2.1 = p' at *
      generalize hcc : (un tp N q).2.2 = cc at *
      refine s_tat hT k2 hR k2.2.2.1 ⟨k2.1, s_joinOf k2.1 ⟨k2.1, fun c => ?_, fun c => ?_⟩⟩
      · have hin := jo_in hT c
        have e2' := k2.2.2.1
        have e0 : er2 tp N f p' (l ++ [(jn, cc)]) = er tp N f (p' + 1) (jo (tp p')) (l ++ [(jn, cc)]) := by unfold er2; rw [if_neg c]
        rw [e0] at q1 q2 hG
        have eg : gF (sI M1 5 4 (mI M1 5 4 + 1)) a = fAddF (gF M a) (jn, cc) := by
          rw [gF_fr (M := M1) (X := fun q => q = 5) (Fr.refl.sI rfl) fun j hj q => by omega, k4]
        refine ⟨⟨by omega, by omega⟩, ⟨by omega, by omega⟩, s_formula_loop hT hN hR ha hA (G := G) f (p' + 1) (jo (tp p')) (i + 1) (l ++ [(jn, cc)]) _ (by omega) (by omega) (by omega) (by omega) (k2.go (by omega) (by omega)) (by rw [eg]; show 0 ≤ (gF M a).2.2.2.1 + 1; omega) (by rw [eg]; show (gF M a).2.2.2.1 + 1 ≤ _; omega) (by rw [eg]; exact FA_add hFA (show -2000 ≤ cc ∧ cc ≤ 2000 by omega)) (fun w1 w2 M' w3 w4 w5 w6 => q1 w1 ?_ M' w3 (k3.go.trans w4) w5 w6) (fun w1 M' w3 w4 w5 => q2 w1 M' w3 (k3.go.trans w4) w5) ?_⟩
        · rcases hG with g | g
          · exact g
          · exact absurd w1 g
        · rcases hG with g | g
          · left
            rw [eg, g, fApp_app]
          · exact Or.inr g
      · have c := Decidable.not_not.mp c
        have e0 : er2 tp N f p' (l ++ [(jn, cc)]) = (1, p', l ++ [(jn, cc)]) := by unfold er2; rw [if_pos c]
        rw [e0] at q1 hG
        have hG : gF M a = fApp G l := by
          rcases hG with g | g
          · exact g
          · exact absurd rfl g
        exact q1 rfl hG M1 k2 k3 (by rw [k4, hG]; exact fApp_app.symm) (by rw [k4]; exact FA_add hFA (show -2000 ≤ cc ∧ cc ≤ 2000 by omega))
    · rw [er_bad k1] at q2
      exact q2 (show (0 : Int) ≠ 1 by decide) M1 k2 k3 (by rw [k4]; exact hFA)
theorem s_formula {N : Nat} (hT : Tp tp n) (hN : n < N) (hR : ReaderAt K 5) (ha : 8 ≤ a) (hA : FormulasAt K a) {Q : Int → ZMem → Prop} (hd : 3 ≤ d) (hp : p ≤ n) (h : CRd K M tp n p) (g0 : 0 ≤ (gF M a).2.2.2.1) (g1 : (gF M a).2.2.2.1 ≤ p) (f0 : 0 ≤ (gF M a).2.2.2.2) (f1 : (gF M a).2.2.2.2 ≤ p) (hFA : FA (gF M a))
    (q1 : (ee tp N p).1 = 1 → ∀ M', CRd K M' tp n (ee tp N p).2.1 → fx a M M' → gF M' a = fApp (fSt (gF M a)) (ee tp N p).2.2 → FA (gF M' a) → Q 1 M')
    (q2 : (ee tp N p).1 ≠ 1 → ∀ M', CRd K M' tp n (ee tp N p).2.1 → fx a M M' → FA (gF M' a) → Q 0 M') : Ci d q5_readFormula [zr 5, zr a] M Q := by
  obtain ⟨d, rfl⟩ : ∃ e, d = e + 2 + 1 := ⟨d - 3, by omega⟩
  have hn := hT.1
  unfold ee at q1 q2
  have eb := er_b hT hN N p 0 [] hp (by omega)
  refine B5_readFormula a h.1 hR hA (s_startFormula ha hA h f0 (fun c M1 k1 k2 k3 => ⟨k1.1, ?_⟩) (fun c => ⟨h.1, ?_⟩))
  · exact s_formula_loop hT hN hR ha hA (G := fSt (gF M a)) N p 0 0 [] M1 hp (by omega) (Int.le_refl 0) (by omega) k1 (by rw [k3]; exact g0) (by rw [k3]; exact g1) (by rw [k3]; exact FA_st hFA g0 (by omega)) (fun w1 _ M' w3 w4 w5 w6 => q1 w1 M' w3 (k2.trans w4) w5 w6) (fun w1 M' w3 w4 w5 => q2 w1 M' w3 (k2.trans w4) w5) (Or.inl k3)
  · have hbad : (er tp N N p 0 []).1 ≠ 1 := fun w => by
      obtain ⟨_, b2, _, l', _, _, b6⟩ := eb
      have := b6 w
      omega
    exact s_formula_loop hT hN hR ha hA (G := fSt (gF M a)) N p 0 0 [] M hp (by omega) (Int.le_refl 0) (by omega) h g0 g1 hFA (fun w1 => absurd w1 hbad) (fun w1 M' w3 w4 w5 => q2 w1 M' w3 w4 w5) (Or.inr hbad)
end CFORM
