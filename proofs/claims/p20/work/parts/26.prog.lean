/-! formulas and programs as they are seen; what an E is worth; what is asked of a program -/
def cpM (M : ZMem) (a b n : Nat) : ZMem := sA M b (zCpy (mI M a) (mI M b) 0 0 n)
theorem mI_cp_eq {M : ZMem} {a b n k : Nat} (h : k < n) : mI (cpM M a b n) b k = mI M a k := by
  unfold cpM
  rw [mI_sA, if_pos rfl]
  simp [zCpy, h]
theorem mI_cp_ne {M : ZMem} {a b n x k : Nat} (h : x ≠ b) : mI (cpM M a b n) x k = mI M x k := by
  unfold cpM
  rw [mI_sA, if_neg h]
theorem mI_sI_eq {M : ZMem} {o k : Nat} {x : Int} : mI (sI M o k x) o k = x := by rw [mI_sI, if_pos ⟨rfl, rfl⟩]
theorem mI_sI_ne {M : ZMem} {o k a j : Nat} {x : Int} (h : a ≠ o ∨ j ≠ k) : mI (sI M o k x) a j = mI M a j := by rw [mI_sI, if_neg (by omega)]
theorem Fr.cp {X : Nat → Prop} {M M1 : ZMem} (h : Fr X M M1) {a b n : Nat} (hb : X b) : Fr X M (cpM M1 a b n) := h.sA hb
abbrev Fm : Type := (Nat → Int) × (Nat → Int) × (Nat → Int) × Int × Int
def gF (M : ZMem) (o : Nat) : Fm := (tq 0 150 (mI M (o + 1)), tq 0 150 (mI M (o + 2)), tq 0 150 (mI M (o + 3)), mI M o 3, mI M o 4)
theorem gF_eq {M M' : ZMem} {o a : Nat} (h0 : ∀ k, 3 ≤ k → k < 5 → mI M' o k = mI M a k) (h : ∀ j k, 1 ≤ j → j < 4 → k < 150 → mI M' (o + j) k = mI M (a + j) k) : gF M' o = gF M a := by
  show (_, _, _, _, _) = (_, _, _, _, _)
  rw [tq_congr (f := mI M' (o + 1)) fun k _ q => h 1 k (by omega) (by omega) q, tq_congr (f := mI M' (o + 2)) fun k _ q => h 2 k (by omega) (by omega) q, tq_congr (f := mI M' (o + 3)) fun k _ q => h 3 k (by omega) (by omega) q, h0 3 (by omega) (by omega), h0 4 (by omega) (by omega)]
theorem gF_fr {X : Nat → Prop} {M M' : ZMem} {o : Nat} (h : Fr X M M') (hx : ∀ j, j < 4 → ¬ X (o + j)) : gF M' o = gF M o :=
  gF_eq (fun k _ _ => h.i (hx 0 (by omega)) k) (fun j k _ hj _ => h.i (hx j hj) k)
/-- a program: kinds, details, first formulas, behinds, arounds, levels, parts, firsts of parts; formulas, price, size -/
abbrev Pg : Type := (Nat → Nat → Int) × Fm × Fm × Int
def gG (M : ZMem) (o : Nat) : Pg := (fun j => if j < 7 then tq 0 40 (mI M (o + 1 + j)) else if j = 7 then tq 0 240 (mI M (o + 8)) else fun _ => 0, gF M (o + 9), gF M (o + 13), mI M o 10)
theorem gG_eq {M M' : ZMem} {o a : Nat} (h0 : mI M' o 10 = mI M a 10) (h1 : ∀ j k, 1 ≤ j → j < 8 → k < 40 → mI M' (o + j) k = mI M (a + j) k) (h2 : ∀ k, k < 240 → mI M' (o + 8) k = mI M (a + 8) k) (h3 : gF M' (o + 9) = gF M (a + 9)) (h4 : gF M' (o + 13) = gF M (a + 13)) : gG M' o = gG M a := by
  show (_, _, _, _) = (_, _, _, _)
  rw [h3, h4, h0]
  congr 1
  funext j
  by_cases q : j < 7
  · rw [if_pos q, if_pos q]; exact tq_congr fun k _ hk => by rw [Nat.add_assoc, Nat.add_assoc]; exact h1 (1 + j) k (by omega) (by omega) hk
  · rw [if_neg q, if_neg q]
    by_cases q : j = 7
    · rw [if_pos q, if_pos q]; exact tq_congr fun k _ hk => h2 k hk
    · rw [if_neg q, if_neg q]
theorem gG_fr {X : Nat → Prop} {M M' : ZMem} {o : Nat} (h : Fr X M M') (hx : ∀ j, j < 17 → ¬ X (o + j)) : gG M' o = gG M o :=
  gG_eq (h.i (hx 0 (by omega)) 10) (fun j k _ hj _ => h.i (hx j (by omega)) k) (fun k _ => h.i (hx 8 (by omega)) k) (gF_fr h fun j hj => by rw [Nat.add_assoc]; exact hx (9 + j) (by omega)) (gF_fr h fun j hj => by rw [Nat.add_assoc]; exact hx (13 + j) (by omega))
theorem mulB {a b : Int} (ha : -999 ≤ a ∧ a ≤ 999) (hb : -3000 ≤ b ∧ b ≤ 3000) : -2997000 ≤ a * b ∧ a * b ≤ 2997000 := by
  have h : (a * b).natAbs ≤ 999 * 3000 := by rw [Int.natAbs_mul]; exact Nat.mul_le_mul (by omega) (by omega)
  omega
def fOf (f : Nat → Int) (i : Int) : Int := if 0 ≤ i ∧ i < 150 then f i.toNat else 0
def fWork (f vals : Nat → Int) (i : Int) : Int :=
  if 0 ≤ fOf f i then (if 1000 ≤ fOf f i ∧ fOf f i < 1008 then vals (fOf f i - 1000).toNat else fOf f i)
  else (if fOf f i ≤ -1001 ∧ -1009 < fOf f i then - vals (-1 - fOf f i - 1000).toNat else 1 + fOf f i)
abbrev isV (x : Int) : Prop := -999 ≤ x ∧ x ≤ 999
def wLoop (f j vals : Nat → Int) : Nat → Int → Int → Int → Int → Int
  | 0, _, s, g, p => if isV (s + g * p) then s + g * p else 999999
  | n + 1, i, s, g, p =>
    if fOf j i = 3 then (if isV (p * fWork f vals i) ∧ isV s then wLoop f j vals n (i + 1) s g (p * fWork f vals i) else 999999)
    else if isV (fWork f vals i) ∧ isV (s + g * p) then wLoop f j vals n (i + 1) (s + g * p) (if fOf j i = 2 then -1 else 1) (fWork f vals i) else 999999
def fEnd (F : Fm) (x : Int) : Int := if 0 ≤ x + 1 ∧ x + 1 < F.2.2.2.2 ∧ x + 1 < 150 then F.2.2.1 (x + 1).toNat else F.2.2.2.1
def fWorth (F : Fm) (x : Int) (vals : Nat → Int) : Int :=
  if 0 ≤ x ∧ x < F.2.2.2.2 ∧ x < 150 then wLoop F.2.1 F.1 vals (fEnd F x - F.2.2.1 x.toNat).toNat (F.2.2.1 x.toNat) 0 1 0 else 999999
/-- formulas in their bounds -/
def FB (F : Fm) : Prop := (∀ k, -2000 ≤ F.2.1 k ∧ F.2.1 k ≤ 2000) ∧ (∀ k, 0 ≤ F.2.2.1 k ∧ F.2.2.1 k ≤ 150) ∧ 0 ≤ F.2.2.2.1 ∧ F.2.2.2.1 ≤ 150 ∧ 0 ≤ F.2.2.2.2 ∧ F.2.2.2.2 ≤ 150
theorem wLoop_range (f j vals : Nat → Int) : ∀ (n : Nat) (i s g p : Int), isV (wLoop f j vals n i s g p) ∨ wLoop f j vals n i s g p = 999999
  | 0, i, s, g, p => by
    rw [wLoop]
    by_cases h : isV (s + g * p)
    · rw [if_pos h]; exact Or.inl h
    · rw [if_neg h]; exact Or.inr rfl
  | n + 1, i, s, g, p => by
    rw [wLoop]
    split
    · split
      · exact wLoop_range f j vals n _ _ _ _
      · exact Or.inr rfl
    · split
      · exact wLoop_range f j vals n _ _ _ _
      · exact Or.inr rfl
theorem fWorth_range (F : Fm) (x : Int) (vals : Nat → Int) : isV (fWorth F x vals) ∨ fWorth F x vals = 999999 := by
  unfold fWorth
  split
  · exact wLoop_range _ _ _ _ _ _ _ _
  · exact Or.inr rfl
section FORM
variable {d : Nat} {K M : ZMem}
theorem s_isValue {x : Int} (hK : KW K M) : Ci d q9_isValue [zi x] M (fun y M' => y = (if isV x then 1 else 0) ∧ M' = M) := by
  refine B9_isValue x hK ⟨fun c => ⟨?_, rfl⟩, fun c => ⟨fun c2 => ⟨?_, rfl⟩, fun c2 => ⟨?_, rfl⟩⟩⟩
  · rw [if_neg (fun q => by unfold isV at q; omega)]
  · rw [if_neg (fun q => by unfold isV at q; omega)]
  · rw [if_pos (by unfold isV; omega)]
theorem s_joinAt {o : Nat} {i : Int} (hK : KW K M) (h0 : FormulasAt K o) : Ci d q1_joinAt [zr o, zi i] M (fun x M' => x = fOf (gF M o).1 i ∧ M' = M) := by
  refine B1_joinAt o i hK h0 ⟨fun c => ⟨?_, rfl⟩, fun c => ⟨fun c2 => ⟨?_, rfl⟩, fun c2 => ⟨by omega, by omega, ?_, rfl⟩⟩⟩
  · rw [fOf, if_neg (by omega)]
  · rw [fOf, if_neg (by omega)]
  · rw [fOf, if_pos (by omega)]; exact (tq_at (by omega) (by omega)).symm
theorem s_factorWorth {o v : Nat} {i : Int} (hK : KW K M) (h0 : FormulasAt K o) (h2 : mS K v = (1, 8)) (hf : ∀ k, -2000 ≤ (gF M o).2.1 k ∧ (gF M o).2.1 k ≤ 2000) (hv : ∀ k, -999 ≤ tq 0 8 (mI M v) k ∧ tq 0 8 (mI M v) k ≤ 999) : Ci d q1_factorWorth [zr o, zi i, zr v] M (fun x M' => x = fWork (gF M o).2.1 (tq 0 8 (mI M v)) i ∧ M' = M) := by
  by_cases hi : 0 ≤ i ∧ i < 150
  · have e1 : fOf (gF M o).2.1 i = mI M (o + 2) i.toNat := by rw [fOf, if_pos hi]; exact tq_at (by omega) (by omega)
    have b1 : -2000 ≤ mI M (o + 2) i.toNat ∧ mI M (o + 2) i.toNat ≤ 2000 := by rw [← e1, fOf, if_pos hi]; exact hf _
    have ev (k : Nat) (hk : k < 8) : tq 0 8 (mI M v) k = mI M v k := tq_at (by omega) hk
    have bv (k : Nat) (hk : k < 8) : -999 ≤ mI M v k ∧ mI M v k ≤ 999 := by rw [← ev k hk]; exact hv k
    have fin (e : Int) (he : e = fWork (gF M o).2.1 (tq 0 8 (mI M v)) i) : (fun x M' => x = fWork (gF M o).2.1 (tq 0 8 (mI M v)) i ∧ M' = M) e M := ⟨he, rfl⟩
    refine B1_factorWorth o i v hK h0 h2 ?_
    repeat' (first | apply fin | refine And.intro ?_ ?_ | intro _)
    all_goals first
      | omega
      | (rw [fWork, e1, if_pos (by omega), if_pos (by omega), ev _ (by omega)])
      | (rw [fWork, e1, if_pos (by omega), if_neg (by omega)])
      | (rw [fWork, e1, if_neg (by omega), if_pos (by omega), ev _ (by omega)])
      | (rw [fWork, e1, if_neg (by omega), if_neg (by omega)]; omega)
      | (have := bv (-1 - mI M (o + 2) i.toNat - 1000).toNat (by omega); omega)
      | (have := bv (mI M (o + 2) i.toNat - 1000).toNat (by omega); omega)
  · have e1 : fOf (gF M o).2.1 i = 0 := by rw [fOf, if_neg hi]
    have e2 : fWork (gF M o).2.1 (tq 0 8 (mI M v)) i = 0 := by rw [fWork, e1, if_pos (by decide), if_neg (by decide)]
    have fin (e : Int) (he : e = 0) : (fun x M' => x = fWork (gF M o).2.1 (tq 0 8 (mI M v)) i ∧ M' = M) e M := ⟨by rw [e2]; exact he, rfl⟩
    refine B1_factorWorth o i v hK h0 h2 ⟨fun c => fin 0 rfl, fun c => ⟨fun c2 => fin 0 rfl, fun c2 => absurd (by omega) hi⟩⟩
theorem s_worth_loop {o v : Nat} {e : Int} (hK : KW K M) (h0 : FormulasAt K o) (h2 : mS K v = (1, 8)) (hF : FB (gF M o)) (hv : ∀ k, -999 ≤ tq 0 8 (mI M v) k ∧ tq 0 8 (mI M v) k ≤ 999) (he : e ≤ 200) {Q : Int → ZMem → Prop} : ∀ (n : Nat) (i s g p : Int), n = (e - i).toNat → isV s → (g = 1 ∨ g = -1) → isV p → -10 ≤ i → Q (wLoop (gF M o).2.1 (gF M o).1 (tq 0 8 (mI M v)) n i s g p) M → Xi (d + 1) q1_worth 51 [some (zr o), none, some (zr v), some (zi s), some (zi g), some (zi p), none, some (zi e), some (zi i), none, none] [] M Q
  | 0, i, s, g, p, hn, hs, hg, hp, hi, hQ => by
    have gp : -999 ≤ g * p ∧ g * p ≤ 999 := by rcases hg with rfl | rfl <;> (omega)
    unfold isV at hs
    refine B1_worth_51 o v s g p e i hK h0 h2 ⟨fun _ => ⟨⟨by omega, by omega⟩, ⟨by omega, by omega⟩, (s_isValue hK).pure ⟨hK, fun c => ?_, fun c => ?_⟩⟩, fun c => absurd (by omega) c⟩
    · rw [wLoop] at hQ
      by_cases q : isV (s + g * p)
      · rw [if_pos q] at c; exact absurd c (by decide)
      · rw [if_neg q] at hQ; exact hQ
    · rw [wLoop] at hQ
      by_cases q : isV (s + g * p)
      · rw [if_pos q] at hQ; exact hQ
      · rw [if_neg q] at c; exact absurd rfl c
  | n + 1, i, s, g, p, hn, hs, hg, hp, hi, hQ => by
    have gp : -999 ≤ g * p ∧ g * p ≤ 999 := by rcases hg with rfl | rfl <;> (omega)
    have hs' := hs
    unfold isV at hs'
    have hw : -3000 ≤ fWork (gF M o).2.1 (tq 0 8 (mI M v)) i ∧ fWork (gF M o).2.1 (tq 0 8 (mI M v)) i ≤ 3000 := by
      have hf : -2000 ≤ fOf (gF M o).2.1 i ∧ fOf (gF M o).2.1 i ≤ 2000 := by
        unfold fOf
        split
        · exact hF.1 _
        · omega
      unfold fWork
      split
      · split
        · have := hv (fOf (gF M o).2.1 i - 1000).toNat; omega
        · omega
      · split
        · have := hv (-1 - fOf (gF M o).2.1 i - 1000).toNat; omega
        · omega
    have hm := mulB (a := p) hp hw
    have ih := s_worth_loop hK h0 h2 hF hv he (Q := Q) n (i + 1)
    rw [wLoop] at hQ
    refine B1_worth_51 o v s g p e i hK h0 h2 ⟨fun c => absurd c (by omega), fun _ => (s_factorWorth hK h0 h2 hF.1 hv).pure ⟨hK, (s_joinAt hK h0).pure ⟨hK, fun c3 => ?_, fun c3 => ?_⟩⟩⟩
    · rw [if_neg c3] at hQ
      refine ⟨⟨by omega, by omega⟩, ⟨by omega, by omega⟩, fun c2 => ?_, fun c2 => ?_⟩
      · rw [if_neg c2] at hQ
        refine (s_isValue hK).pure ⟨hK, fun c => ?_, fun c => (s_isValue hK).pure ⟨hK, fun c4 => ⟨⟨by omega, by omega⟩, ?_⟩, fun c4 => ?_⟩⟩
        · rw [if_neg (fun q => by rw [if_pos q.1] at c; exact absurd c (by decide))] at hQ; exact hQ
        · have q1 : isV (fWork (gF M o).2.1 (tq 0 8 (mI M v)) i) := Decidable.not_not.mp fun q => c (if_neg q)
          have q2 : isV (s + g * p) := Decidable.not_not.mp fun q => c4 (if_neg q)
          rw [if_pos ⟨q1, q2⟩] at hQ
          exact ih _ _ _ (by omega) q2 (Or.inl rfl) q1 (by omega) hQ
        · rw [if_neg (fun q => c4 (by rw [if_pos q.2]; decide))] at hQ; exact hQ
      · rw [if_pos (Decidable.not_not.mp c2)] at hQ
        refine (s_isValue hK).pure ⟨hK, fun c => ?_, fun c => (s_isValue hK).pure ⟨hK, fun c4 => ⟨⟨by omega, by omega⟩, ?_⟩, fun c4 => ?_⟩⟩
        · rw [if_neg (fun q => by rw [if_pos q.1] at c; exact absurd c (by decide))] at hQ; exact hQ
        · have q1 : isV (fWork (gF M o).2.1 (tq 0 8 (mI M v)) i) := Decidable.not_not.mp fun q => c (if_neg q)
          have q2 : isV (s + g * p) := Decidable.not_not.mp fun q => c4 (if_neg q)
          rw [if_pos ⟨q1, q2⟩] at hQ
          exact ih _ _ _ (by omega) q2 (Or.inr rfl) q1 (by omega) hQ
        · rw [if_neg (fun q => c4 (by rw [if_pos q.2]; decide))] at hQ; exact hQ
    · rw [if_pos (Decidable.not_not.mp c3)] at hQ
      refine ⟨⟨by omega, by omega⟩, (s_isValue hK).pure ⟨hK, fun c => ?_, fun c => (s_isValue hK).pure ⟨hK, fun c4 => ⟨⟨by omega, by omega⟩, ?_⟩, fun c4 => ?_⟩⟩⟩
      · rw [if_neg (fun q => by rw [if_pos q.1] at c; exact absurd c (by decide))] at hQ; exact hQ
      · have q1 : isV (p * fWork (gF M o).2.1 (tq 0 8 (mI M v)) i) := Decidable.not_not.mp fun q => c (if_neg q)
        have q2 : isV s := Decidable.not_not.mp fun q => c4 (if_neg q)
        rw [if_pos ⟨q1, q2⟩] at hQ
        exact ih _ _ _ (by omega) q2 hg q1 (by omega) hQ
      · rw [if_neg (fun q => c4 (by rw [if_pos q.2]; decide))] at hQ; exact hQ
theorem s_endOf {o : Nat} {x : Int} (hK : KW K M) (h0 : FormulasAt K o) (hx : -10 ≤ x ∧ x ≤ 1000) : Ci d q1_endOf [zr o, zi x] M (fun y M' => y = fEnd (gF M o) x ∧ M' = M) := by
  refine B1_endOf o x hK h0 ⟨⟨by omega, by omega⟩, fun c => ⟨?_, rfl⟩, fun c => ⟨fun c2 => ⟨?_, rfl⟩, fun c2 => ⟨fun c3 => ⟨?_, rfl⟩, fun c3 => ⟨by omega, by omega, ?_, rfl⟩⟩⟩⟩
  · rw [fEnd, if_neg (by omega)]; rfl
  · rw [fEnd, if_neg (fun q => by have : x + 1 < mI M o 4 := q.2.1; omega)]; rfl
  · rw [fEnd, if_neg (by omega)]; rfl
  · rw [fEnd, if_pos ⟨by omega, by show x + 1 < mI M o 4; omega, by omega⟩]; exact (tq_at (by omega) (by omega)).symm
theorem s_worth {o v : Nat} {x : Int} (hd : 1 ≤ d) (hK : KW K M) (h0 : FormulasAt K o) (h2 : mS K v = (1, 8)) (hF : FB (gF M o)) (hv : ∀ k, -999 ≤ tq 0 8 (mI M v) k ∧ tq 0 8 (mI M v) k ≤ 999) : Ci d q1_worth [zr o, zi x, zr v] M (fun y M' => y = fWorth (gF M o) x (tq 0 8 (mI M v)) ∧ M' = M) := by
  obtain ⟨d, rfl⟩ : ∃ e, d = e + 1 := ⟨d - 1, by omega⟩
  refine B1_worth o x v hK h0 h2 ⟨fun c => ⟨?_, rfl⟩, fun c => ⟨fun c2 => ⟨?_, rfl⟩, fun c2 => ⟨fun c3 => ⟨by omega, by omega, (s_endOf hK h0 ⟨by omega, by omega⟩).pure ⟨hK, ?_⟩⟩, fun c3 => ⟨?_, rfl⟩⟩⟩⟩
  · rw [fWorth, if_neg (by omega)]
  · rw [fWorth, if_neg (fun q => by have : x < mI M o 4 := q.2.1; omega)]
  · have eb : mI M (o + 3) x.toNat = (gF M o).2.2.1 x.toNat := (tq_at (by omega) (by omega)).symm
    have bb := hF.2.1 x.toNat
    rw [eb]
    refine s_worth_loop hK h0 h2 hF hv ?_ _ _ 0 1 0 rfl ⟨by omega, by omega⟩ (Or.inl rfl) ⟨by omega, by omega⟩ (by omega) ⟨?_, rfl⟩
    · unfold fEnd
      split
      · have := hF.2.1 (x + 1).toNat; omega
      · have := hF.2.2.2.1; omega
    · rw [fWorth, if_pos ⟨by omega, by show x < mI M o 4; omega, by omega⟩]
  · rw [fWorth, if_neg (by omega)]
end FORM
/-- what is asked of a program -/
abbrev gHas (P : Pg) (s : Int) : Prop := 0 ≤ s ∧ s < P.2.2.2 ∧ s < 40
section PROG
variable {d : Nat} {K M : ZMem}
theorem s_has {o : Nat} {s : Int} (hK : KW K M) (h0 : ProgramAt K o) : Ci d q4_has [zr o, zi s] M (fun x M' => x = (if gHas (gG M o) s then 1 else 0) ∧ M' = M) := by
  refine B4_has o s hK h0 ⟨fun c => ⟨?_, rfl⟩, fun c => ⟨fun c2 => ⟨?_, rfl⟩, fun c2 => ⟨fun c3 => ⟨?_, rfl⟩, fun c3 => ⟨?_, rfl⟩⟩⟩⟩
  · rw [if_neg (fun q => by have := q.1; omega)]
  · rw [if_neg (fun q => by have : s < mI M o 10 := q.2.1; omega)]
  · rw [if_neg (fun q => by have := q.2.2; omega)]
  · rw [if_pos ⟨by omega, by show s < mI M o 10; omega, by omega⟩]
def gKind (P : Pg) (s : Int) : Int := if gHas P s then P.1 0 s.toNat else (-1)
theorem s_kindOf {o : Nat} {s : Int} (hd : 1 ≤ d) (hK : KW K M) (h0 : ProgramAt K o) : Ci d q4_kindOf [zr o, zi s] M (fun x M' => x = gKind (gG M o) s ∧ M' = M) := by
  obtain ⟨d, rfl⟩ : ∃ e, d = e + 1 := ⟨d - 1, by omega⟩
  refine B4_kindOf o s hK h0 ((s_has hK h0).pure ⟨hK, fun c => ⟨?_, rfl⟩, fun c => ?_⟩)
  · rw [gKind, if_neg (fun q => by rw [if_pos q] at c; exact absurd c (by decide))]
  · have q : gHas (gG M o) s := Decidable.not_not.mp fun q => c (if_neg q)
    have q1 := q.1
    have q3 := q.2.2
    refine ⟨by omega, by omega, ?_, rfl⟩
    rw [gKind, if_pos q]
    exact (tq_at (by omega) (by omega)).symm
def gDetail (P : Pg) (s : Int) : Int := if gHas P s then P.1 1 s.toNat else 0
theorem s_detailOf {o : Nat} {s : Int} (hd : 1 ≤ d) (hK : KW K M) (h0 : ProgramAt K o) : Ci d q4_detailOf [zr o, zi s] M (fun x M' => x = gDetail (gG M o) s ∧ M' = M) := by
  obtain ⟨d, rfl⟩ : ∃ e, d = e + 1 := ⟨d - 1, by omega⟩
  refine B4_detailOf o s hK h0 ((s_has hK h0).pure ⟨hK, fun c => ⟨?_, rfl⟩, fun c => ?_⟩)
  · rw [gDetail, if_neg (fun q => by rw [if_pos q] at c; exact absurd c (by decide))]
  · have q : gHas (gG M o) s := Decidable.not_not.mp fun q => c (if_neg q)
    have q1 := q.1
    have q3 := q.2.2
    refine ⟨by omega, by omega, ?_, rfl⟩
    rw [gDetail, if_pos q]
    exact (tq_at (by omega) (by omega)).symm
def gBehind (P : Pg) (s : Int) : Int := if gHas P s then P.1 3 s.toNat else (-1)
theorem s_behind {o : Nat} {s : Int} (hd : 1 ≤ d) (hK : KW K M) (h0 : ProgramAt K o) : Ci d q4_behind [zr o, zi s] M (fun x M' => x = gBehind (gG M o) s ∧ M' = M) := by
  obtain ⟨d, rfl⟩ : ∃ e, d = e + 1 := ⟨d - 1, by omega⟩
  refine B4_behind o s hK h0 ((s_has hK h0).pure ⟨hK, fun c => ⟨?_, rfl⟩, fun c => ?_⟩)
  · rw [gBehind, if_neg (fun q => by rw [if_pos q] at c; exact absurd c (by decide))]
  · have q : gHas (gG M o) s := Decidable.not_not.mp fun q => c (if_neg q)
    have q1 := q.1
    have q3 := q.2.2
    refine ⟨by omega, by omega, ?_, rfl⟩
    rw [gBehind, if_pos q]
    exact (tq_at (by omega) (by omega)).symm
def gAround (P : Pg) (s : Int) : Int := if gHas P s then P.1 4 s.toNat else (-1)
theorem s_around {o : Nat} {s : Int} (hd : 1 ≤ d) (hK : KW K M) (h0 : ProgramAt K o) : Ci d q4_around [zr o, zi s] M (fun x M' => x = gAround (gG M o) s ∧ M' = M) := by
  obtain ⟨d, rfl⟩ : ∃ e, d = e + 1 := ⟨d - 1, by omega⟩
  refine B4_around o s hK h0 ((s_has hK h0).pure ⟨hK, fun c => ⟨?_, rfl⟩, fun c => ?_⟩)
  · rw [gAround, if_neg (fun q => by rw [if_pos q] at c; exact absurd c (by decide))]
  · have q : gHas (gG M o) s := Decidable.not_not.mp fun q => c (if_neg q)
    have q1 := q.1
    have q3 := q.2.2
    refine ⟨by omega, by omega, ?_, rfl⟩
    rw [gAround, if_pos q]
    exact (tq_at (by omega) (by omega)).symm
def gLevel (P : Pg) (s : Int) : Int := if gHas P s then P.1 5 s.toNat else 0
theorem s_levelOf {o : Nat} {s : Int} (hd : 1 ≤ d) (hK : KW K M) (h0 : ProgramAt K o) : Ci d q4_levelOf [zr o, zi s] M (fun x M' => x = gLevel (gG M o) s ∧ M' = M) := by
  obtain ⟨d, rfl⟩ : ∃ e, d = e + 1 := ⟨d - 1, by omega⟩
  refine B4_levelOf o s hK h0 ((s_has hK h0).pure ⟨hK, fun c => ⟨?_, rfl⟩, fun c => ?_⟩)
  · rw [gLevel, if_neg (fun q => by rw [if_pos q] at c; exact absurd c (by decide))]
  · have q : gHas (gG M o) s := Decidable.not_not.mp fun q => c (if_neg q)
    have q1 := q.1
    have q3 := q.2.2
    refine ⟨by omega, by omega, ?_, rfl⟩
    rw [gLevel, if_pos q]
    exact (tq_at (by omega) (by omega)).symm
def gParts (P : Pg) (s : Int) : Int := if gHas P s then P.1 6 s.toNat else 0
theorem s_partsOf {o : Nat} {s : Int} (hd : 1 ≤ d) (hK : KW K M) (h0 : ProgramAt K o) : Ci d q4_partsOf [zr o, zi s] M (fun x M' => x = gParts (gG M o) s ∧ M' = M) := by
  obtain ⟨d, rfl⟩ : ∃ e, d = e + 1 := ⟨d - 1, by omega⟩
  refine B4_partsOf o s hK h0 ((s_has hK h0).pure ⟨hK, fun c => ⟨?_, rfl⟩, fun c => ?_⟩)
  · rw [gParts, if_neg (fun q => by rw [if_pos q] at c; exact absurd c (by decide))]
  · have q : gHas (gG M o) s := Decidable.not_not.mp fun q => c (if_neg q)
    have q1 := q.1
    have q3 := q.2.2
    refine ⟨by omega, by omega, ?_, rfl⟩
    rw [gParts, if_pos q]
    exact (tq_at (by omega) (by omega)).symm
def gForm (P : Pg) (s : Int) : Int := if gHas P s then P.1 2 s.toNat else P.2.1.2.2.2.2
theorem s_formulaOf {o : Nat} {s : Int} (hd : 1 ≤ d) (hK : KW K M) (h0 : ProgramAt K o) : Ci d q4_formulaOf [zr o, zi s] M (fun x M' => x = gForm (gG M o) s ∧ M' = M) := by
  obtain ⟨d, rfl⟩ : ∃ e, d = e + 1 := ⟨d - 1, by omega⟩
  refine B4_formulaOf o s hK h0 ((s_has hK h0).pure ⟨hK, fun c => ⟨?_, rfl⟩, fun c => ?_⟩)
  · rw [gForm, if_neg (fun q => by rw [if_pos q] at c; exact absurd c (by decide))]; rfl
  · have q : gHas (gG M o) s := Decidable.not_not.mp fun q => c (if_neg q)
    have q1 := q.1
    have q3 := q.2.2
    refine ⟨by omega, by omega, ?_, rfl⟩
    rw [gForm, if_pos q]
    exact (tq_at (by omega) (by omega)).symm
def gPartFirst (P : Pg) (s a : Int) : Int := if gHas P s ∧ 0 ≤ a ∧ a < 6 then P.1 7 (s * 6 + a).toNat else -1
theorem s_partFirst {o : Nat} {s a : Int} (hd : 1 ≤ d) (hK : KW K M) (h0 : ProgramAt K o) : Ci d q4_partFirst [zr o, zi s, zi a] M (fun x M' => x = gPartFirst (gG M o) s a ∧ M' = M) := by
  obtain ⟨d, rfl⟩ : ∃ e, d = e + 1 := ⟨d - 1, by omega⟩
  refine B4_partFirst o s a hK h0 ((s_has hK h0).pure ⟨hK, fun c => ⟨?_, rfl⟩, fun c => ?_⟩)
  · rw [gPartFirst, if_neg (fun q => by rw [if_pos q.1] at c; exact absurd c (by decide))]
  · have q : gHas (gG M o) s := Decidable.not_not.mp fun q => c (if_neg q)
    have q1 := q.1
    have q3 := q.2.2
    refine ⟨fun c2 => ⟨?_, rfl⟩, fun c2 => ⟨fun c3 => ⟨?_, rfl⟩, fun c3 => ⟨⟨by omega, by omega⟩, ⟨by omega, by omega⟩, fun c4 => absurd c4 (by omega), fun c4 => ⟨fun c5 => absurd c5 (by omega), fun c5 => ⟨by omega, by omega, ?_, rfl⟩⟩⟩⟩⟩
    · rw [gPartFirst, if_neg (by omega)]
    · rw [gPartFirst, if_neg (by omega)]
    · rw [gPartFirst, if_pos ⟨q, by omega, by omega⟩]
      exact (tq_at (by omega) (by omega)).symm
def gPrice (P : Pg) (vals : Nat → Int) : Int := if P.2.2.1.2.2.2.2 = 0 then 0 else fWorth P.2.2.1 0 vals
theorem s_priceOf {o v : Nat} (hd : 2 ≤ d) (hK : KW K M) (h0 : ProgramAt K o) (h2 : mS K v = (1, 8)) (hF : FB (gG M o).2.2.1) (hv : ∀ k, -999 ≤ tq 0 8 (mI M v) k ∧ tq 0 8 (mI M v) k ≤ 999) : Ci d q4_priceOf [zr o, zr v] M (fun y M' => y = gPrice (gG M o) (tq 0 8 (mI M v)) ∧ M' = M) := by
  obtain ⟨d, rfl⟩ : ∃ e, d = e + 1 := ⟨d - 1, by omega⟩
  refine B4_priceOf o v hK h0 h2 ⟨fun c => (s_worth (by omega) hK h0.2.2.2.2.2.2.2.2.2.2.2.2.2.2.2.2.2.2.2.2 h2 hF hv).pure ⟨hK, ?_, rfl⟩, fun c => ⟨?_, rfl⟩⟩
  · rw [gPrice, if_neg (show ¬ (gG M o).2.2.1.2.2.2.2 = 0 from c)]; rfl
  · rw [gPrice, if_pos (show (gG M o).2.2.1.2.2.2.2 = 0 from Decidable.not_not.mp c)]
theorem s_fbecome {o a : Nat} (hoa : o + 4 ≤ a ∨ a + 4 ≤ o) (hK : KW K M) (h0 : FormulasAt K o) (h1 : FormulasAt K a) : Cv d q1_become [zr o, zr a] M (fun M' => KW K M' ∧ Fr (bk o 4) M M' ∧ gF M' o = gF M a) := by
  refine B1_become o a hK h0 h1 ?_
  show (fun M' => KW K M' ∧ Fr (bk o 4) M M' ∧ gF M' o = gF M a) (sI (sI (cpM (cpM (cpM M (a + 1) (o + 1) 150) (a + 2) (o + 2) 150) (a + 3) (o + 3) 150) o 3 (mI (cpM (cpM (cpM M (a + 1) (o + 1) 150) (a + 2) (o + 2) 150) (a + 3) (o + 3) 150) a 3)) o 4 (mI (sI (cpM (cpM (cpM M (a + 1) (o + 1) 150) (a + 2) (o + 2) 150) (a + 3) (o + 3) 150) o 3 (mI (cpM (cpM (cpM M (a + 1) (o + 1) 150) (a + 2) (o + 2) 150) (a + 3) (o + 3) 150) a 3)) a 4))
  refine ⟨hK, ((((Fr.refl.cp ⟨by omega, by omega⟩).cp ⟨by omega, by omega⟩).cp ⟨by omega, by omega⟩).sI ⟨by omega, by omega⟩).sI ⟨by omega, by omega⟩, gF_eq (fun k h3 h4 => ?_) (fun j k hj1 hj hk => ?_)⟩
  · obtain rfl | rfl : k = 3 ∨ k = 4 := by omega
    · rw [mI_sI_ne (by omega), mI_sI_eq, mI_cp_ne (by omega), mI_cp_ne (by omega), mI_cp_ne (by omega)]
    · rw [mI_sI_eq, mI_sI_ne (by omega), mI_cp_ne (by omega), mI_cp_ne (by omega), mI_cp_ne (by omega)]
  · rw [mI_sI_ne (by omega), mI_sI_ne (by omega)]
    obtain rfl | rfl | rfl : j = 1 ∨ j = 2 ∨ j = 3 := by omega
    · rw [mI_cp_ne (by omega), mI_cp_ne (by omega), mI_cp_eq hk]
    · rw [mI_cp_ne (by omega), mI_cp_eq hk, mI_cp_ne (by omega)]
    · rw [mI_cp_eq hk, mI_cp_ne (by omega), mI_cp_ne (by omega)]
def cp8 (M : ZMem) (a o : Nat) : ZMem := (cpM (cpM (cpM (cpM (cpM (cpM (cpM (cpM M (a + 1) (o + 1) 40) (a + 2) (o + 2) 40) (a + 3) (o + 3) 40) (a + 4) (o + 4) 40) (a + 5) (o + 5) 40) (a + 6) (o + 6) 40) (a + 7) (o + 7) 40) (a + 8) (o + 8) 240)
theorem cp8_fr {M : ZMem} {a o : Nat} : Fr (bk o 17) M (cp8 M a o) := ((((((((Fr.refl.cp ⟨by omega, by omega⟩).cp ⟨by omega, by omega⟩).cp ⟨by omega, by omega⟩).cp ⟨by omega, by omega⟩).cp ⟨by omega, by omega⟩).cp ⟨by omega, by omega⟩).cp ⟨by omega, by omega⟩).cp ⟨by omega, by omega⟩)
theorem cp8_1 {M : ZMem} {a o : Nat} (hoa : o + 17 ≤ a ∨ a + 17 ≤ o) {j k : Nat} (h1 : 1 ≤ j) (hj : j < 8) (hk : k < 40) : mI (cp8 M a o) (o + j) k = mI M (a + j) k := by
  unfold cp8
  obtain rfl | rfl | rfl | rfl | rfl | rfl | rfl : j = 1 ∨ j = 2 ∨ j = 3 ∨ j = 4 ∨ j = 5 ∨ j = 6 ∨ j = 7 := by omega
  · rw [mI_cp_ne (by omega), mI_cp_ne (by omega), mI_cp_ne (by omega), mI_cp_ne (by omega), mI_cp_ne (by omega), mI_cp_ne (by omega), mI_cp_ne (by omega), mI_cp_eq hk]
  · rw [mI_cp_ne (by omega), mI_cp_ne (by omega), mI_cp_ne (by omega), mI_cp_ne (by omega), mI_cp_ne (by omega), mI_cp_ne (by omega), mI_cp_eq hk, mI_cp_ne (by omega)]
  · rw [mI_cp_ne (by omega), mI_cp_ne (by omega), mI_cp_ne (by omega), mI_cp_ne (by omega), mI_cp_ne (by omega), mI_cp_eq hk, mI_cp_ne (by omega), mI_cp_ne (by omega)]
  · rw [mI_cp_ne (by omega), mI_cp_ne (by omega), mI_cp_ne (by omega), mI_cp_ne (by omega), mI_cp_eq hk, mI_cp_ne (by omega), mI_cp_ne (by omega), mI_cp_ne (by omega)]
  · rw [mI_cp_ne (by omega), mI_cp_ne (by omega), mI_cp_ne (by omega), mI_cp_eq hk, mI_cp_ne (by omega), mI_cp_ne (by omega), mI_cp_ne (by omega), mI_cp_ne (by omega)]
  · rw [mI_cp_ne (by omega), mI_cp_ne (by omega), mI_cp_eq hk, mI_cp_ne (by omega), mI_cp_ne (by omega), mI_cp_ne (by omega), mI_cp_ne (by omega), mI_cp_ne (by omega)]
  · rw [mI_cp_ne (by omega), mI_cp_eq hk, mI_cp_ne (by omega), mI_cp_ne (by omega), mI_cp_ne (by omega), mI_cp_ne (by omega), mI_cp_ne (by omega), mI_cp_ne (by omega)]
theorem cp8_8 {M : ZMem} {a o : Nat} (hoa : o + 17 ≤ a ∨ a + 17 ≤ o) {k : Nat} (hk : k < 240) : mI (cp8 M a o) (o + 8) k = mI M (a + 8) k := by
  unfold cp8
  rw [mI_cp_eq hk, mI_cp_ne (by omega), mI_cp_ne (by omega), mI_cp_ne (by omega), mI_cp_ne (by omega), mI_cp_ne (by omega), mI_cp_ne (by omega), mI_cp_ne (by omega)]
theorem s_gbecome {o a : Nat} (hd : 1 ≤ d) (hoa : o + 17 ≤ a ∨ a + 17 ≤ o) (hK : KW K M) (h0 : ProgramAt K o) (h1 : ProgramAt K a) : Cv d q4_become [zr o, zr a] M (fun M' => KW K M' ∧ Fr (bk o 17) M M' ∧ gG M' o = gG M a) := by
  obtain ⟨d, rfl⟩ : ∃ e, d = e + 1 := ⟨d - 1, by omega⟩
  refine B4_become o a hK h0 h1 ?_
  have f8 := cp8_fr (M := M) (a := a) (o := o)
  have hK8 : KW K (cp8 M a o) := hK
  have hf := h0.2.2.2.2.2.2.2.2.2.2.2.2.2.2.2.2.2.2.2
  have hg := h1.2.2.2.2.2.2.2.2.2.2.2.2.2.2.2.2.2.2.2
  refine (s_fbecome (o := o + 9) (a := a + 9) (M := cp8 M a o) (by omega) hK8 hf.1 hg.1).mono fun M1 ⟨k1, f1, w1⟩ => ⟨k1, ?_⟩
  refine (s_fbecome (o := o + 13) (a := a + 13) (by omega) k1 hf.2 hg.2).mono fun M2 ⟨k2, f2, w2⟩ => ⟨k2, k2, ?_, ?_⟩
  · exact ((f8.trans (f1.wide fun q hq => by unfold bk at *; omega)).trans (f2.wide fun q hq => by unfold bk at *; omega)).sI ⟨by omega, by omega⟩
  · have g1 (x k : Nat) (hx : x < o + 9 ∨ o + 13 ≤ x) : mI M1 x k = mI (cp8 M a o) x k := f1.i (fun q => by unfold bk at q; omega) k
    have g2 (x k : Nat) (hx : x < o + 13 ∨ o + 17 ≤ x) : mI M2 x k = mI M1 x k := f2.i (fun q => by unfold bk at q; omega) k
    have F3 (x : Int) : Fr (bk o 1) M2 (sI M2 o 10 x) := Fr.refl.sI ⟨by omega, by omega⟩
    have ga (x k : Nat) (hx : x < o ∨ o + 17 ≤ x) : mI (cp8 M a o) x k = mI M x k := f8.i (fun q => by unfold bk at q; omega) k
    refine gG_eq ?_ (fun j k hj1 hj hk => ?_) (fun k hk => ?_) ?_ ?_
    · rw [mI_sI_eq, g2 _ _ (by omega), g1 _ _ (by omega), ga _ _ (by omega)]
    · rw [mI_sI_ne (by omega), g2 _ _ (by omega), g1 _ _ (by omega), cp8_1 hoa hj1 hj hk]
    · rw [mI_sI_ne (by omega), g2 _ _ (by omega), g1 _ _ (by omega), cp8_8 hoa hk]
    · rw [gF_fr (F3 _) (fun j hj q => by unfold bk at q; omega), gF_fr f2 (fun j hj q => by unfold bk at q; omega), w1, gF_fr f8 (fun j hj q => by unfold bk at q; omega)]
    · rw [gF_fr (F3 _) (fun j hj q => by unfold bk at q; omega), w2, gF_fr f1 (fun j hj q => by unfold bk at q; omega), gF_fr f8 (fun j hj q => by unfold bk at q; omega)]
end PROG
