/-! answers: a row is added, a field is read, ranks, likes -/
abbrev An : Type := (Nat → Int) × Int
def gA (M : ZMem) (o : Nat) : An := (tq 0 720 (mI M (o + 1)), mI M o 1)
theorem gA_fr {X : Nat → Prop} {M M' : ZMem} {o : Nat} (h : Fr X M M') (hx : ∀ j, j < 2 → ¬ X (o + j)) : gA M' o = gA M o := by
  show (_, _) = (_, _)
  rw [tq_congr (f := mI M' (o + 1)) (fun k _ _ => h.i (hx 1 (by omega)) k), h.i (a := o) (hx 0 (by omega)) 1]
def aField (A : An) (i v : Int) : Int := if 0 ≤ i * 12 + v ∧ i * 12 + v < 720 then A.1 (i * 12 + v).toNat else 0
def aRow (w : Wy) (price steps : Int) : Nat → Int := fun v => if v < 8 then w.2.1 v else if v = 8 then w.1 5 else if v = 9 then w.1 6 else if v = 10 then price else steps
def aFill (A : An) (r : Nat → Int) (m : Nat) : Nat → Int := fun k => if A.2.toNat * 12 ≤ k ∧ k < A.2.toNat * 12 + m then r (k - A.2.toNat * 12) else A.1 k
theorem aFill_succ {A : An} {r : Nat → Int} {m : Nat} : aFill A r (m + 1) = fup (aFill A r m) (A.2.toNat * 12 + m) (r m) := by
  funext k
  show (if A.2.toNat * 12 ≤ k ∧ k < A.2.toNat * 12 + (m + 1) then r (k - A.2.toNat * 12) else A.1 k) = if k = A.2.toNat * 12 + m then r m else if A.2.toNat * 12 ≤ k ∧ k < A.2.toNat * 12 + m then r (k - A.2.toNat * 12) else A.1 k
  by_cases h : k = A.2.toNat * 12 + m
  · subst h
    rw [if_pos (by omega), if_pos rfl]
    congr 1
    omega
  · rw [if_neg h]
    by_cases q : A.2.toNat * 12 ≤ k ∧ k < A.2.toNat * 12 + m
    · rw [if_pos q, if_pos (by omega)]
    · rw [if_neg q, if_neg (by omega)]
theorem aFill_0 {A : An} {r : Nat → Int} : aFill A r 0 = A.1 := by
  funext k
  unfold aFill
  rw [if_neg (by omega)]
section ANS
variable {d : Nat} {K : ZMem}
theorem s_field {M : ZMem} {o : Nat} {i v : Int} (hK : KW K M) (h0 : AnswersAt K o) (hi : -100 ≤ i ∧ i ≤ 100000000) (hv : -100 ≤ v ∧ v ≤ 1000) : Ci d q0_field [zr o, zi i, zi v] M (fun x M' => x = aField (gA M o) i v ∧ M' = M) := by
  refine B0_field o i v hK h0 ⟨⟨by omega, by omega⟩, ⟨by omega, by omega⟩, fun c => ⟨?_, rfl⟩, fun c => ⟨fun c2 => ⟨?_, rfl⟩, fun c2 => ⟨by omega, by omega, ?_, rfl⟩⟩⟩
  · rw [aField, if_neg (by omega)]
  · rw [aField, if_neg (by omega)]
  · rw [aField, if_pos (by omega)]; exact (tq_at (by omega) (by omega)).symm
theorem s_setField {M : ZMem} {o m : Nat} {A : An} {r : Nat → Int} {x : Int} (hK : KW K M) (h0 : AnswersAt K o) (hA : gA M o = (aFill A r m, A.2)) (hn : 0 ≤ A.2 ∧ A.2 < 60) (hm : m < 12) (hx : x = r m) : Cv d q0_setField [zr o, zi A.2, zi m, zi x] M (fun M' => KW K M' ∧ Fr (bk o 2) M M' ∧ gA M' o = (aFill A r (m + 1), A.2)) := by
  refine B0_setField o A.2 m x hK h0 ⟨⟨by omega, by omega⟩, ⟨by omega, by omega⟩, fun c => absurd c (by omega), fun c => ⟨fun c2 => absurd c2 (by omega), fun c2 => ⟨by omega, by omega, hK.sI _ _ _, Fr.refl.sI ⟨by omega, by omega⟩, ?_⟩⟩⟩
  have e : (A.2 * 12 + (m : Int)).toNat = A.2.toNat * 12 + m := by omega
  rw [e, aFill_succ, hx]
  have h1 : tq 0 720 (mI M (o + 1)) = aFill A r m := congrArg Prod.fst hA
  have h2 : mI M o 1 = A.2 := congrArg Prod.snd hA
  show (_, _) = (_, _)
  rw [mI_sI_ne (by omega), h2, ← h1, tq_fup (k := A.2.toNat * 12 + m) (x := r m) (f := mI M (o + 1)) (by omega) (by omega) fun j => ?_]
  rw [mI_sI]
  by_cases q : j = A.2.toNat * 12 + m <;> simp [q]
theorem s_add_loop {o a : Nat} {p st : Int} {M0 : ZMem} {Q : Int → ZMem → Prop} (h0 : AnswersAt K o) (h1 : WayAt K a) (ho : a + 4 ≤ o ∨ o + 2 ≤ a) (hn : 0 ≤ (gA M0 o).2 ∧ (gA M0 o).2 < 60) (fin : ∀ M, KW K M → Fr (bk o 2) M0 M → gA M o = (aFill (gA M0 o) (aRow (gW M0 a) p st) 12, (gA M0 o).2 + 1) → Q 1 M) : ∀ (j n : Nat) (M : ZMem), n + j = 8 → KW K M → Fr (bk o 2) M0 M → gA M o = (aFill (gA M0 o) (aRow (gW M0 a) p st) n, (gA M0 o).2) → Xi (d + 1) q0_add 21 [some (zr o), some (zr a), some (zi p), some (zi st), some (zi n)] [] M Q
  | 0, n, M, e, hK, hF, hA => by
    obtain rfl : n = 8 := by omega
    have ew (M : ZMem) (hF : Fr (bk o 2) M0 M) : gW M a = gW M0 a := gW_fr hF fun j hj q => by unfold bk at q; omega
    have esz (M : ZMem) (F : Nat → Int) (hA : gA M o = (F, (gA M0 o).2)) : mI M o 1 = (gA M0 o).2 := congrArg Prod.snd hA
    refine B0_add_21 o a p st (8 : Nat) hK h0 h1 ⟨fun _ => ?_, fun c => absurd (by decide) c⟩
    rw [esz _ _ hA]
    refine (s_setField (m := 8) hK h0 hA hn (by omega) (show mI M a 5 = _ from ?_)).mono fun M1 ⟨k1, f1, a1⟩ => ⟨k1, ?_⟩
    · show mI M a 5 = (gW M0 a).1 5
      rw [← ew M hF]; rfl
    have F1 := hF.trans f1
    rw [esz _ _ a1]
    refine (s_setField (m := 9) k1 h0 a1 hn (by omega) (show mI M1 a 6 = _ from ?_)).mono fun M2 ⟨k2, f2, a2⟩ => ⟨k2, ?_⟩
    · show mI M1 a 6 = (gW M0 a).1 6
      rw [← ew M1 F1]; rfl
    have F2 := F1.trans f2
    rw [esz _ _ a2]
    refine (s_setField (m := 10) k2 h0 a2 hn (by omega) rfl).mono fun M3 ⟨k3, f3, a3⟩ => ⟨k3, ?_⟩
    have F3 := F2.trans f3
    rw [esz _ _ a3]
    refine (s_setField (m := 11) k3 h0 a3 hn (by omega) rfl).mono fun M4 ⟨k4, f4, a4⟩ => ⟨k4, ?_⟩
    have F4 := F3.trans f4
    rw [esz _ _ a4]
    refine ⟨⟨by omega, by omega⟩, fin _ (k4.sI _ _ _) (F4.sI ⟨by omega, by omega⟩) ?_⟩
    have h1 : tq 0 720 (mI M4 (o + 1)) = aFill (gA M0 o) (aRow (gW M0 a) p st) 12 := congrArg Prod.fst a4
    show (_, _) = (_, _)
    rw [mI_sI_eq, ← h1]
    congr 1
    exact tq_congr fun k _ _ => mI_sI_ne (by omega)
  | j + 1, n, M, e, hK, hF, hA => by
    have ew : gW M a = gW M0 a := gW_fr hF fun j hj q => by unfold bk at q; omega
    have esz : mI M o 1 = (gA M0 o).2 := congrArg Prod.snd hA
    refine B0_add_21 o a p st (n : Int) hK h0 h1 ⟨fun c => absurd c (by omega), fun _ => (s_valueOf hK h1).pure ⟨hK, ?_⟩⟩
    rw [esz]
    refine (s_setField (m := n) hK h0 hA hn (by omega) ?_).mono fun M1 ⟨k1, f1, a1⟩ => ⟨k1, ⟨by omega, by omega⟩, s_add_loop h0 h1 ho hn fin j (n + 1) M1 (by omega) k1 (hF.trans f1) a1⟩
    rw [wValueOf, if_pos (by omega), ew, Int.toNat_natCast, aRow, if_pos (by omega)]
def aAdd (A : An) (r : Nat → Int) : An := (aFill A r 12, A.2 + 1)
theorem s_add {M : ZMem} {o a : Nat} {p st : Int} (hd : 1 ≤ d) (hK : KW K M) (h0 : AnswersAt K o) (h1 : WayAt K a) (ho : a + 4 ≤ o ∨ o + 2 ≤ a) (hn : 0 ≤ (gA M o).2) : Ci d q0_add [zr o, zr a, zi p, zi st] M (fun x M' => KW K M' ∧ Fr (bk o 2) M M' ∧ (x, gA M' o) = if (gA M o).2 < 60 then (1, aAdd (gA M o) (aRow (gW M a) p st)) else (0, gA M o)) := by
  obtain ⟨d, rfl⟩ : ∃ e, d = e + 1 := ⟨d - 1, by omega⟩
  have hn' : 0 ≤ mI M o 1 := hn
  refine B0_add o a p st hK h0 h1 ⟨fun c => absurd c (by omega), fun _ => ⟨fun c => ?_, fun c => ⟨hK, Fr.refl, ?_⟩⟩⟩
  · refine s_add_loop h0 h1 ho ⟨hn, c⟩ (fun M1 k1 f1 a1 => ⟨k1, f1, ?_⟩) 8 0 M rfl hK Fr.refl ?_
    · rw [aFill_0]
    · rw [if_pos (show (gA M o).2 < 60 from c), a1]; rfl
  · rw [if_neg (show ¬ (gA M o).2 < 60 from c)]
/-- whether two rows have like values, whether one of the first is like, how many -/
def aLike (A : An) (i : Int) (B : An) (j : Int) : Nat → Bool
  | 0 => true
  | n + 1 => aLike A i B j n && decide (aField A i n = aField B j n)
theorem aLike_false {A B : An} {i j : Int} {n m : Nat} (h : n ≤ m) (hn : aLike A i B j n = false) : aLike A i B j m = false := by
  induction m with
  | zero => rw [show n = 0 by omega] at hn; exact hn
  | succ m ih =>
    by_cases q : n = m + 1
    · rw [← q]; exact hn
    · rw [aLike, ih (by omega), Bool.false_and]
theorem s_alike_loop {M : ZMem} {o a : Nat} {i j : Int} {Q : Int → ZMem → Prop} (hK : KW K M) (h0 : AnswersAt K o) (h1 : AnswersAt K a) (hi : 0 ≤ i ∧ i ≤ 1000) (hj : 0 ≤ j ∧ j ≤ 1000) (fin : Q (if aLike (gA M o) i (gA M a) j 8 = true then 1 else 0) M) : ∀ (m n : Nat), n + m = 8 → aLike (gA M o) i (gA M a) j n = true → Xi (d + 1) q0_alike 3 [some (zr o), some (zi i), some (zr a), some (zi j), some (zi n)] [] M Q
  | 0, n, e, h => by
    obtain rfl : n = 8 := by omega
    rw [if_pos h] at fin
    exact B0_alike_3 o i a j (8 : Nat) hK h0 h1 ⟨fun _ => fin, fun c => absurd (by decide) c⟩
  | m + 1, n, e, h => by
    refine B0_alike_3 o i a j (n : Int) hK h0 h1 ⟨fun c => absurd c (by omega), fun _ => (s_field hK h0 ⟨by omega, by omega⟩ ⟨by omega, by omega⟩).pure ⟨hK, (s_field hK h1 ⟨by omega, by omega⟩ ⟨by omega, by omega⟩).pure ⟨hK, fun c => ⟨⟨by omega, by omega⟩, ?_⟩, fun c => ?_⟩⟩⟩
    · exact s_alike_loop hK h0 h1 hi hj fin m (n + 1) (by omega) (by rw [aLike, h, decide_eq_true c]; rfl)
    · rw [if_neg] at fin
      · exact fin
      · rw [aLike_false (n := n + 1) (by omega) (by rw [aLike, h, decide_eq_false c]; rfl)]; decide
theorem s_alike {M : ZMem} {o a : Nat} {i j : Int} (hd : 1 ≤ d) (hK : KW K M) (h0 : AnswersAt K o) (h1 : AnswersAt K a) (hi : 0 ≤ i ∧ i ≤ 1000) (hj : 0 ≤ j ∧ j ≤ 1000) : Ci d q0_alike [zr o, zi i, zr a, zi j] M (fun x M' => x = (if aLike (gA M o) i (gA M a) j 8 = true then 1 else 0) ∧ M' = M) := by
  obtain ⟨d, rfl⟩ : ∃ e, d = e + 1 := ⟨d - 1, by omega⟩
  exact B0_alike o i a j hK h0 h1 (s_alike_loop hK h0 h1 hi hj ⟨rfl, rfl⟩ 8 0 rfl rfl)
/-- one of the rows below n of A is like B's i-th -/
def aHas (A : An) (B : An) (i : Int) : Nat → Bool
  | 0 => false
  | n + 1 => aHas A B i n || aLike A n B i 8
theorem aHas_true {A B : An} {i : Int} {n m : Nat} (h : n ≤ m) (hn : aHas A B i n = true) : aHas A B i m = true := by
  induction m with
  | zero => rw [show n = 0 by omega] at hn; exact hn
  | succ m ih =>
    by_cases q : n = m + 1
    · rw [← q]; exact hn
    · rw [aHas, ih (by omega), Bool.true_or]
theorem s_hasLike_loop {M : ZMem} {o a : Nat} {i : Int} {m : Nat} {Q : Int → ZMem → Prop} (hK : KW K M) (h0 : AnswersAt K o) (h1 : AnswersAt K a) (hi : 0 ≤ i ∧ i ≤ 1000) (hm : m ≤ 1000) (fin : Q (if aHas (gA M o) (gA M a) i m = true then 1 else 0) M) : ∀ (j n : Nat), n + j = m → aHas (gA M o) (gA M a) i n = false → Xi (d + 2) q0_hasLike 3 [some (zr o), some (zr a), some (zi i), some (zi m), some (zi n)] [] M Q
  | 0, n, e, h => by
    obtain rfl : n = m := by omega
    rw [if_neg (by rw [h]; decide)] at fin
    exact B0_hasLike_3 o a i n n hK h0 h1 ⟨fun _ => fin, fun c => absurd (Int.le_refl _) c⟩
  | j + 1, n, e, h => by
    refine B0_hasLike_3 o a i m n hK h0 h1 ⟨fun c => absurd c (by omega), fun _ => (s_alike (by omega) hK h0 h1 ⟨by omega, by omega⟩ hi).pure ⟨hK, fun c => ⟨⟨by omega, by omega⟩, ?_⟩, fun c => ?_⟩⟩
    · have q : aLike (gA M o) n (gA M a) i 8 = false := Bool.not_eq_true _ ▸ fun q => by rw [if_pos q] at c; exact absurd c (by decide)
      exact s_hasLike_loop hK h0 h1 hi hm fin j (n + 1) (by omega) (by rw [aHas, h, q]; rfl)
    · have q : aLike (gA M o) n (gA M a) i 8 = true := Decidable.not_not.mp fun q => c (if_neg q)
      rw [if_pos (aHas_true (n := n + 1) (by omega) (by rw [aHas, q, Bool.or_true]))] at fin
      exact fin
theorem s_hasLike {M : ZMem} {o a : Nat} {i : Int} {m : Nat} (hd : 2 ≤ d) (hK : KW K M) (h0 : AnswersAt K o) (h1 : AnswersAt K a) (hi : 0 ≤ i ∧ i ≤ 1000) (hm : m ≤ 1000) : Ci d q0_hasLike [zr o, zr a, zi i, zi m] M (fun x M' => x = (if aHas (gA M o) (gA M a) i m = true then 1 else 0) ∧ M' = M) := by
  obtain ⟨d, rfl⟩ : ∃ e, d = e + 2 := ⟨d - 2, by omega⟩
  exact B0_hasLike o a i m hK h0 h1 (s_hasLike_loop hK h0 h1 hi hm ⟨rfl, rfl⟩ m 0 (by omega) rfl)
def aShared (A B : An) : Nat → Int
  | 0 => 0
  | n + 1 => aShared A B n + if aHas B A n B.2.toNat = true then 1 else 0
def aDiff (A : An) : Nat → Int
  | 0 => 0
  | n + 1 => aDiff A n + if aHas A A n n = true then 0 else 1
theorem aShared_le (A B : An) : ∀ n, 0 ≤ aShared A B n ∧ aShared A B n ≤ n
  | 0 => ⟨Int.le_refl 0, Int.le_refl 0⟩
  | n + 1 => by
    have h := aShared_le A B n
    show 0 ≤ aShared A B n + (if _ then 1 else 0) ∧ aShared A B n + (if _ then 1 else 0) ≤ ((n + 1 : Nat) : Int)
    split <;> omega
theorem aDiff_le (A : An) : ∀ n, 0 ≤ aDiff A n ∧ aDiff A n ≤ n
  | 0 => ⟨Int.le_refl 0, Int.le_refl 0⟩
  | n + 1 => by
    have h := aDiff_le A n
    show 0 ≤ aDiff A n + (if _ then 0 else 1) ∧ aDiff A n + (if _ then 0 else 1) ≤ ((n + 1 : Nat) : Int)
    split <;> omega
theorem s_shared_loop {M : ZMem} {o a : Nat} {Q : Int → ZMem → Prop} (hK : KW K M) (h0 : AnswersAt K o) (h1 : AnswersAt K a) (ho : 0 ≤ (gA M o).2 ∧ (gA M o).2 ≤ 60) (ha : 0 ≤ (gA M a).2 ∧ (gA M a).2 ≤ 60) (fin : Q (aShared (gA M o) (gA M a) (gA M o).2.toNat) M) : ∀ (j n : Nat), n + j = (gA M o).2.toNat → Xi (d + 3) q0_sharedWith 4 [some (zr o), some (zr a), some (zi (aShared (gA M o) (gA M a) n)), some (zi n)] [] M Q
  | 0, n, e => by
    have hc : mI M o 1 ≤ (n : Int) := by show (gA M o).2 ≤ _; omega
    rw [← e] at fin
    exact B0_sharedWith_4 o a _ n hK h0 h1 ⟨fun _ => fin, fun c => absurd hc c⟩
  | j + 1, n, e => by
    have hb := aShared_le (gA M o) (gA M a) n
    have hc : ¬ mI M o 1 ≤ (n : Int) := by show ¬ (gA M o).2 ≤ _; omega
    have ih := s_shared_loop hK h0 h1 ho ha fin j (n + 1) (by omega)
    have e2 : mI M a 1 = (((gA M a).2.toNat : Nat) : Int) := by show (gA M a).2 = _; omega
    refine B0_sharedWith_4 o a _ n hK h0 h1 ⟨fun c => absurd c hc, fun _ => ?_⟩
    rw [e2]
    refine (s_hasLike (by omega) hK h1 h0 ⟨by omega, by omega⟩ (by omega)).pure ⟨hK, fun c => ⟨⟨by omega, by omega⟩, ⟨by omega, by omega⟩, ?_⟩, fun c => ⟨⟨by omega, by omega⟩, ⟨by omega, by omega⟩, ?_⟩⟩
    · rw [aShared, if_neg (fun q => by rw [if_pos q] at c; exact absurd c (by decide))] at ih
      exact ih
    · rw [aShared, if_pos (Decidable.not_not.mp fun q => c (if_neg q))] at ih
      exact ih
theorem s_shared {M : ZMem} {o a : Nat} (hd : 3 ≤ d) (hK : KW K M) (h0 : AnswersAt K o) (h1 : AnswersAt K a) (ho : 0 ≤ (gA M o).2 ∧ (gA M o).2 ≤ 60) (ha : 0 ≤ (gA M a).2 ∧ (gA M a).2 ≤ 60) : Ci d q0_sharedWith [zr o, zr a] M (fun x M' => x = aShared (gA M o) (gA M a) (gA M o).2.toNat ∧ M' = M) := by
  obtain ⟨d, rfl⟩ : ∃ e, d = e + 3 := ⟨d - 3, by omega⟩
  exact B0_sharedWith o a hK h0 h1 (s_shared_loop hK h0 h1 ho ha ⟨rfl, rfl⟩ (gA M o).2.toNat 0 (by omega))
theorem s_diff_loop {M : ZMem} {o : Nat} {Q : Int → ZMem → Prop} (hK : KW K M) (h0 : AnswersAt K o) (ho : 0 ≤ (gA M o).2 ∧ (gA M o).2 ≤ 60) (fin : Q (aDiff (gA M o) (gA M o).2.toNat) M) : ∀ (j n : Nat), n + j = (gA M o).2.toNat → Xi (d + 3) q0_different 4 [some (zr o), some (zi (aDiff (gA M o) n)), some (zi n)] [] M Q
  | 0, n, e => by
    have hc : mI M o 1 ≤ (n : Int) := by show (gA M o).2 ≤ _; omega
    rw [← e] at fin
    exact B0_different_4 o _ n hK h0 ⟨fun _ => fin, fun c => absurd hc c⟩
  | j + 1, n, e => by
    have hb := aDiff_le (gA M o) n
    have hc : ¬ mI M o 1 ≤ (n : Int) := by show ¬ (gA M o).2 ≤ _; omega
    have ih := s_diff_loop hK h0 ho fin j (n + 1) (by omega)
    refine B0_different_4 o _ n hK h0 ⟨fun c => absurd c hc, fun _ => ?_⟩
    refine (s_hasLike (by omega) hK h0 h0 ⟨by omega, by omega⟩ (by omega)).pure ⟨hK, fun c => ⟨⟨by omega, by omega⟩, ⟨by omega, by omega⟩, ?_⟩, fun c => ⟨⟨by omega, by omega⟩, ⟨by omega, by omega⟩, ?_⟩⟩
    · rw [aDiff, if_neg (fun q => by rw [if_pos q] at c; exact absurd c (by decide))] at ih
      exact ih
    · rw [aDiff, if_pos (Decidable.not_not.mp fun q => c (if_neg q))] at ih
      exact ih
theorem s_diff {M : ZMem} {o : Nat} (hd : 3 ≤ d) (hK : KW K M) (h0 : AnswersAt K o) (ho : 0 ≤ (gA M o).2 ∧ (gA M o).2 ≤ 60) : Ci d q0_different [zr o] M (fun x M' => x = aDiff (gA M o) (gA M o).2.toNat ∧ M' = M) := by
  obtain ⟨d, rfl⟩ : ∃ e, d = e + 3 := ⟨d - 3, by omega⟩
  exact B0_different o hK h0 (s_diff_loop hK h0 ho ⟨rfl, rfl⟩ (gA M o).2.toNat 0 (by omega))
/-- how many of the first n stand before the i-th -/
def aRank (A : An) (i : Int) : Nat → Int
  | 0 => 0
  | n + 1 => aRank A i n + if aField A n 10 < aField A i 10 ∨ (aField A n 10 = aField A i 10 ∧ (n : Int) < i) then 1 else 0
theorem aRank_le (A : An) (i : Int) : ∀ n, 0 ≤ aRank A i n ∧ aRank A i n ≤ n
  | 0 => ⟨Int.le_refl 0, Int.le_refl 0⟩
  | n + 1 => by
    have h := aRank_le A i n
    show 0 ≤ aRank A i n + (if _ then 1 else 0) ∧ aRank A i n + (if _ then 1 else 0) ≤ ((n + 1 : Nat) : Int)
    split <;> omega
theorem s_rankOf_loop {M : ZMem} {o : Nat} {i : Int} {Q : Int → ZMem → Prop} (hK : KW K M) (h0 : AnswersAt K o) (ho : 0 ≤ (gA M o).2 ∧ (gA M o).2 ≤ 60) (fin : Q (aRank (gA M o) i (gA M o).2.toNat) M) : ∀ (j n : Nat), n + j = (gA M o).2.toNat → Xi (d + 1) q0_rankOf 13 [some (zr o), some (zi i), some (zi (aField (gA M o) i 10)), some (zi (aRank (gA M o) i n)), some (zi n), none] [] M Q
  | 0, n, e => by
    have hc : mI M o 1 ≤ (n : Int) := by show (gA M o).2 ≤ _; omega
    rw [← e] at fin
    exact B0_rankOf_13 o i _ _ n hK h0 ⟨fun _ => fin, fun c => absurd hc c⟩
  | j + 1, n, e => by
    have hb := aRank_le (gA M o) i n
    have hc : ¬ mI M o 1 ≤ (n : Int) := by show ¬ (gA M o).2 ≤ _; omega
    have ih := s_rankOf_loop hK h0 ho fin j (n + 1) (by omega)
    have r0 : inR (aRank (gA M o) i n + 0) := ⟨by omega, by omega⟩
    have r1 : inR (aRank (gA M o) i n + 1) := ⟨by omega, by omega⟩
    have rn : inR ((n : Int) + 1) := ⟨by omega, by omega⟩
    refine B0_rankOf_13 o i _ _ n hK h0 ⟨fun c => absurd c hc, fun _ => (s_field hK h0 ⟨by omega, by omega⟩ ⟨by omega, by omega⟩).pure ⟨hK, fun c => ⟨r1, rn, ?_⟩, fun c => ⟨fun c2 => ⟨r0, rn, ?_⟩, fun c2 => ⟨fun c3 => ⟨r0, rn, ?_⟩, fun c3 => ⟨r1, rn, ?_⟩⟩⟩⟩⟩
    · rw [aRank, if_pos (Or.inl c)] at ih; exact ih
    · rw [aRank, if_neg (by omega)] at ih; exact ih
    · rw [aRank, if_neg (by omega)] at ih; exact ih
    · rw [aRank, if_pos (by omega)] at ih; exact ih
theorem s_rankOf {M : ZMem} {o : Nat} {i : Int} (hd : 1 ≤ d) (hK : KW K M) (h0 : AnswersAt K o) (hi : 0 ≤ i ∧ i ≤ 1000) (ho : 0 ≤ (gA M o).2 ∧ (gA M o).2 ≤ 60) : Ci d q0_rankOf [zr o, zi i] M (fun x M' => x = aRank (gA M o) i (gA M o).2.toNat ∧ M' = M) := by
  obtain ⟨d, rfl⟩ : ∃ e, d = e + 1 := ⟨d - 1, by omega⟩
  exact B0_rankOf o i hK h0 ((s_field hK h0 ⟨by omega, by omega⟩ ⟨by omega, by omega⟩).pure ⟨hK, s_rankOf_loop hK h0 ho ⟨rfl, rfl⟩ (gA M o).2.toNat 0 (by omega)⟩)
/-- the first from n on, with so much still to see, whose rank is the place; or -1 -/
def aRanked (A : An) (place : Int) : Nat → Nat → Int
  | 0, _ => -1
  | j + 1, n => if aRank A n A.2.toNat = place then n else aRanked A place j (n + 1)
theorem s_ranked_loop {M : ZMem} {o : Nat} {p : Int} {Q : Int → ZMem → Prop} (hK : KW K M) (h0 : AnswersAt K o) (ho : 0 ≤ (gA M o).2 ∧ (gA M o).2 ≤ 60) : ∀ (j n : Nat), n + j = (gA M o).2.toNat → Q (aRanked (gA M o) p j n) M → Xi (d + 2) q0_ranked 2 [some (zr o), some (zi p), some (zi n)] [] M Q
  | 0, n, e, fin => by
    have hc : mI M o 1 ≤ (n : Int) := by show (gA M o).2 ≤ _; omega
    exact B0_ranked_2 o p n hK h0 ⟨fun _ => fin, fun c => absurd hc c⟩
  | j + 1, n, e, fin => by
    have hc : ¬ mI M o 1 ≤ (n : Int) := by show ¬ (gA M o).2 ≤ _; omega
    rw [aRanked] at fin
    refine B0_ranked_2 o p n hK h0 ⟨fun c => absurd c hc, fun _ => (s_rankOf (by omega) hK h0 ⟨by omega, by omega⟩ ho).pure ⟨hK, fun c => ⟨⟨by omega, by omega⟩, ?_⟩, fun c => ?_⟩⟩
    · rw [if_neg c] at fin
      exact s_ranked_loop hK h0 ho j (n + 1) (by omega) fin
    · rw [if_pos (Decidable.not_not.mp c)] at fin
      exact fin
theorem s_ranked {M : ZMem} {o : Nat} {p : Int} (hd : 2 ≤ d) (hK : KW K M) (h0 : AnswersAt K o) (ho : 0 ≤ (gA M o).2 ∧ (gA M o).2 ≤ 60) : Ci d q0_ranked [zr o, zi p] M (fun x M' => x = aRanked (gA M o) p (gA M o).2.toNat 0 ∧ M' = M) := by
  obtain ⟨d, rfl⟩ : ∃ e, d = e + 2 := ⟨d - 2, by omega⟩
  exact B0_ranked o p hK h0 (s_ranked_loop hK h0 ho _ 0 (by omega) ⟨rfl, rfl⟩)
end ANS
