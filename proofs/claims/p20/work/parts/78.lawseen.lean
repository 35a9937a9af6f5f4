/-! each answer is one of the nested rounds', each once -/
def uns (s : Nat → Int) : Nat → List T3 → List T3
  | _, [] => []
  | k, t :: l => if s k = 0 then t :: uns s (k + 1) l else uns s (k + 1) l
theorem uns_congr {s s' : Nat → Int} : ∀ (l : List T3) (o : Nat), (∀ k, o ≤ k → s k = s' k) → uns s o l = uns s' o l
  | [], o, h => rfl
  | t :: l, o, h => by
    rw [uns, uns, h o (Nat.le_refl _), uns_congr l (o + 1) fun k hk => h k (by omega)]
theorem uns_all {s : Nat → Int} (h : ∀ k, s k = 0) : ∀ (l : List T3) (o : Nat), uns s o l = l
  | [], o => rfl
  | t :: l, o => by rw [uns, if_pos (h o), uns_all h l]
theorem uns_take {s : Nat → Int} {t : T3} : ∀ (l : List T3) (o k : Nat), o ≤ k → l[k - o]? = some t → s k = 0 → (uns s o l).Perm (t :: uns (fup s k 1) o l)
  | [], o, k, h, e, z => by simp at e
  | x :: l, o, k, h, e, z => by
    by_cases c : k = o
    · subst c
      rw [Nat.sub_self] at e
      have e : some x = some t := e
      cases e
      rw [uns, if_pos z, uns, if_neg (by rw [fup_self]; decide), uns_congr (s := s) (s' := fup s k 1) l (k + 1) fun j hj => (fup_ne (by omega)).symm]
    · have ih := uns_take (s := s) (t := t) l (o + 1) k (by omega) (by
        rw [show k - o = (k - (o + 1)) + 1 by omega] at e
        exact e) z
      rw [uns, uns, fup_ne (show o ≠ k by omega)]
      by_cases c2 : s o = 0
      · rw [if_pos c2, if_pos c2]
        exact (List.Perm.cons x ih).trans (List.Perm.swap t x _)
      · rw [if_neg c2, if_neg c2]
        exact ih
theorem uns_mem {s : Nat → Int} {t : T3} : ∀ (l : List T3) (o : Nat), t ∈ uns s o l → ∃ k, o ≤ k ∧ k < o + l.length ∧ l[k - o]? = some t ∧ s k = 0
  | [], o, h => by cases h
  | x :: l, o, h => by
    rw [uns] at h
    by_cases c : s o = 0
    · rw [if_pos c] at h
      rcases List.mem_cons.mp h with q | q
      · exact ⟨o, Nat.le_refl _, by rw [List.length_cons]; omega, by rw [Nat.sub_self, q]; rfl, c⟩
      · obtain ⟨k, h1, h2, h3, h4⟩ := uns_mem l (o + 1) q
        exact ⟨k, by omega, by rw [List.length_cons]; omega, by rw [show k - o = (k - (o + 1)) + 1 by omega]; exact h3, h4⟩
    · rw [if_neg c] at h
      obtain ⟨k, h1, h2, h3, h4⟩ := uns_mem l (o + 1) h
      exact ⟨k, by omega, by rw [List.length_cons]; omega, by rw [show k - o = (k - (o + 1)) + 1 by omega]; exact h3, h4⟩
section SEEN
variable {q : Nat × (Nat → Int)} {d : Nat} {K M0 : ZMem} {c : Nm} {P : Pg} {S : Sr} {n0 k sn : Nat} {st N w stp : Int}
theorem AL_b (hB : NmB c) : ∀ t ∈ AL c, (-3 ≤ t.1 ∧ t.1 ≤ 3) ∧ (0 ≤ t.2.1 ∧ t.2.1 ≤ 8) ∧ -2 ≤ t.2.2 ∧ t.2.2 ≤ 3 := fun t ht => by
  obtain ⟨b1, b2, -, -, b5⟩ := hB
  obtain ⟨g, hg, ht⟩ := List.mem_flatMap.mp (show t ∈ (rst c 0 f0 0 (nch c 0 f0)).flatMap (an c 2) from ht)
  obtain ⟨k1, hk1, rfl⟩ := List.mem_map.mp hg
  have hk1 := List.mem_range'_1.mp hk1
  obtain ⟨g2, hg2, ht⟩ := List.mem_flatMap.mp (show t ∈ (rst c 1 (fup f0 0 (cval c 0 k1)) 0 3).flatMap (an c 1) from ht)
  obtain ⟨k2, hk2, rfl⟩ := List.mem_map.mp hg2
  obtain ⟨g3, hg3, ht⟩ := List.mem_flatMap.mp (show t ∈ (rst c 2 (fup (fup f0 0 (cval c 0 k1)) 1 (cval c 1 k2)) 0 (cval c 0 k1 + 3).toNat).flatMap (an c 0) from ht)
  obtain ⟨k3, hk3, rfl⟩ := List.mem_map.mp hg3
  have hk3 := List.mem_range'_1.mp hk3
  have hx : cval c 0 k1 = nmP c + k1 := rfl
  have hn : nch c 0 f0 = (nmQ c - nmP c + 1).toNat := rfl
  have hz : cval c 2 k3 = -2 + (k3 : Int) := rfl
  have hy : cval c 1 k2 = nmL c k2 := rfl
  have ht : t ∈ (if qTest c (fup (fup (fup f0 0 (cval c 0 k1)) 1 (cval c 1 k2)) 2 (cval c 2 k3)) = true then [((cval c 0 k1), (cval c 1 k2), (cval c 2 k3))] else []) := ht
  split at ht
  · rw [List.mem_singleton.mp ht]
    have := b5 k2
    exact ⟨by show -3 ≤ cval c 0 k1 ∧ cval c 0 k1 ≤ 3; omega, by show 0 ≤ cval c 1 k2 ∧ cval c 1 k2 ≤ 8; omega, by show -2 ≤ cval c 2 k3; omega, by show cval c 2 k3 ≤ 3; omega⟩
  · cases ht
theorem aT0 {A : An} {i : Nat} : (aT A i).1 = aField A i 0 := by dsimp only [aT]
theorem aT1 {A : An} {i : Nat} : (aT A i).2.1 = aField A i 1 := by dsimp only [aT]
theorem aT2 {A : An} {i : Nat} : (aT A i).2.2 = aField A i 2 := by dsimp only [aT]
theorem aL_get {A : An} {i : Nat} (h : (i : Int) < A.2) : (aL A)[i]? = some (aT A i) := by
  unfold aL
  rw [List.getElem?_map, List.getElem?_range (by omega)]
  rfl
/-- the first that is like it and not seen -/
theorem scan (hL : LK K n0) (hn0 : 2233 ≤ n0) (hsn : mS K sn = (6, 400)) (hq : ∀ j, inR (q.2 j)) (hq1 : q.1 ≤ 260) (hB : NmB c) (hd : 7 ≤ d) (hk : k < 4) (hN : N = ((AL c).length : Int)) (hS : Dn c st S) {M : ZMem} (h : SrA K M k P S) (hA : Ar M (AL c)) {i : Nat} (hi : i < (AL c).length) {s : Nat → Int} (hs : ∀ j, mI M sn j = s j) {t : T3} (ht : aT (sQ S) i = t) (kont : ∀ j, j < (AL c).length → s j = 0 → (AL c)[j]? = some t → (∀ j', j' < j → ¬ (s j' = 0 ∧ (AL c)[j']? = some t)) → XL q (d + 1) 1039 (LD c N w st k [some (zi N), some (zi stp), some (zr sn), some (zi i), some (zi j), none, none, none]) [] M) : ∀ (r j : Nat), j + r = (AL c).length → (∀ j', j' < j → ¬ (s j' = 0 ∧ (AL c)[j']? = some t)) → (∃ j', j ≤ j' ∧ j' < (AL c).length ∧ s j' = 0 ∧ (AL c)[j']? = some t) → XL q (d + 1) 958 (LD c N w st k [some (zi N), some (zi stp), some (zr sn), some (zi i), some (zi (-1)), some (zi j), none, none]) [] M
  | 0, j, e, hno, ⟨j', h1, h2, _⟩ => by omega
  | r + 1, j, e, hno, hex => by
    have hT := hL.1
    have hSr := hL.sr
    have h9 := hL.2.2.2.2.2.1 (by omega)
    have h10 := hL.2.2.2.2.2.2.1 (by omega)
    have h11 := hL.2.2.2.2.2.2.2 (by omega)
    have h54 := AL_len hB
    have hK := h.1
    have c7 := hS.c7
    have hn := hS.n
    have hjl : j < (AL c).length := by omega
    obtain ⟨tj, htj⟩ : ∃ tj, (AL c)[j]? = some tj := ⟨(AL c)[j], List.getElem?_eq_getElem hjl⟩
    obtain ⟨a1, a2, a3⟩ := hA j tj htj
    have nx : ¬ (s j = 0 ∧ tj = t) → XL q (d + 1) 1033 (LD c N w st k [some (zi N), some (zi stp), some (zr sn), some (zi i), some (zi (-1)), some (zi j), none, none]) [] M := fun hne => by
      refine BL_1033 _ _ _ _ _ _ _ _ _ _ _ _ hq hq1 hK hT h9 h10 h11 hsn ⟨⟨by omega, by omega⟩, ?_⟩
      refine scan hL hn0 hsn hq hq1 hB hd hk hN hS h hA hi hs ht kont r (j + 1) (by omega) (fun j' hj' => ?_) ?_
      · by_cases c : j' = j
        · subst c
          rintro ⟨z1, z2⟩
          rw [htj] at z2
          exact hne ⟨z1, Option.some.inj z2⟩
        · exact hno j' (by omega)
      · obtain ⟨j', x1, x2, x3, x4⟩ := hex
        refine ⟨j', ?_, x2, x3, x4⟩
        by_cases c : j' = j
        · subst c
          rw [htj] at x4
          exact absurd ⟨x3, Option.some.inj x4⟩ hne
        · omega
    have ej : ((j : Int)).toNat = j := Int.toNat_natCast j
    have an : ∀ (v : Int) (Q : Int → ZMem → Prop), 0 ≤ v ∧ v < 12 → Q (aField (sQ S) i v) M → Ci d q9_answer [zr 2, zi k, zi i, zi v] M Q := fun v Q hv hQ => c_answer hT hSr (by omega) hk h (by omega) (by omega) hv (fun _ => hQ) (fun c => absurd (by omega) c)
    have t0 : aField (sQ S) i 0 = t.1 := by rw [← ht, aT0]
    have t1 : aField (sQ S) i 1 = t.2.1 := by rw [← ht, aT1]
    have t2 : aField (sQ S) i 2 = t.2.2 := by rw [← ht, aT2]
    refine BL_958 _ _ _ _ _ _ _ _ _ _ _ _ hq hq1 hK hT h9 h10 h11 hsn ⟨fun c => absurd c (by omega), fun _ => ⟨fun c => absurd c (by decide), fun _ => ⟨by omega, by omega, fun c => ?_, fun c => ?_⟩⟩⟩
    · rw [ej, hs] at c
      exact nx fun z => c z.1
    · rw [ej, hs] at c
      have s0 : s j = 0 := Decidable.not_not.mp c
      refine an 0 _ (by decide) ⟨hK, by omega, by omega, fun c => nx fun z => ?_, fun c0 => an 1 _ (by decide) ⟨hK, by omega, by omega, fun c => nx fun z => ?_, fun c1 => an 2 _ (by decide) ⟨hK, by omega, by omega, fun c => nx fun z => ?_, fun c2 => ?_⟩⟩⟩
      · rw [ej, a1, t0, z.2] at c; exact c rfl
      · rw [ej, a2, t1, z.2] at c; exact c rfl
      · rw [ej, a3, t2, z.2] at c; exact c rfl
      · rw [ej, a1, t0] at c0
        rw [ej, a2, t1] at c1
        rw [ej, a3, t2] at c2
        have etj : tj = t := Prod.ext (Decidable.not_not.mp c0).symm (Prod.ext (Decidable.not_not.mp c1).symm (Decidable.not_not.mp c2).symm)
        rw [etj] at htj
        have kk := kont j hjl s0 htj hno
        refine BL_1033 _ _ _ _ _ _ _ _ _ _ _ _ hq hq1 hK hT h9 h10 h11 hsn ⟨⟨by omega, by omega⟩, ?_⟩
        refine BL_958 _ _ _ _ _ _ _ _ _ _ _ _ hq hq1 hK hT h9 h10 h11 hsn ⟨fun _ => kk, fun _ => ⟨fun _ => kk, fun c => absurd (by omega) c⟩⟩
/-- all of them -/
theorem seen_loop (hL : LK K n0) (hn0 : 2233 ≤ n0) (hsn : mS K sn = (6, 400)) (hsn2 : 2234 ≤ sn) (hq : ∀ j, inR (q.2 j)) (hq1 : q.1 ≤ 260) (hB : NmB c) (hd : 7 ≤ d) (hk : k < 4) (hN : N = ((AL c).length : Int)) (hS : Dn c st S) (kont : ∀ M', SrA K M' k P S → Ar M' (AL c) → Fr (fun a => a = sn) M0 M' → XL q (d + 1) 1134 (LD c N w st k [some (zi N), some (zi stp), none, none, none, none, none, none]) [] M') : ∀ (r i : Nat) (M : ZMem), i + r = (AL c).length → SrA K M k P S → Ar M (AL c) → Fr (fun a => a = sn) M0 M → (uns (mI M sn) 0 (AL c)).Perm ((aL (sQ S)).drop i) → (st = 0 ∨ st = 5 → ∀ j, j < (AL c).length → (mI M sn j ≠ 0 ↔ j < i)) → XL q (d + 1) 945 (LD c N w st k [some (zi N), some (zi stp), some (zr sn), some (zi i), none, none, none, none]) [] M
  | 0, i, M, e, h, hA, F, hp, ho => by
    exact BL_945 _ _ _ _ _ _ _ _ _ _ hq hq1 h.1 hL.1 (hL.2.2.2.2.2.1 (by omega)) (hL.2.2.2.2.2.2.1 (by omega)) (hL.2.2.2.2.2.2.2 (by omega)) hsn ⟨fun _ => kont M h hA F, fun c => absurd (by omega) c⟩
  | r + 1, i, M, e, h, hA, F, hp, ho => by
    have hT := hL.1
    have hSr := hL.sr
    have h9 := hL.2.2.2.2.2.1 (by omega)
    have h10 := hL.2.2.2.2.2.2.1 (by omega)
    have h11 := hL.2.2.2.2.2.2.2 (by omega)
    have h54 := AL_len hB
    have hK := h.1
    have c7 := hS.c7
    have hn := hS.n
    have hi : i < (AL c).length := by omega
    have hget := aL_get (A := sQ S) (i := i) (by omega)
    have hdrop : (aL (sQ S)).drop i = aT (sQ S) i :: (aL (sQ S)).drop (i + 1) := by
      have hil : i < (aL (sQ S)).length := (List.getElem?_eq_some_iff.mp hget).1
      rw [List.drop_eq_getElem_cons hil]
      rw [List.getElem?_eq_getElem hil] at hget
      rw [Option.some.inj hget]
    rw [hdrop] at hp
    refine BL_945 _ _ _ _ _ _ _ _ _ _ hq hq1 hK hT h9 h10 h11 hsn ⟨fun c => absurd c (by omega), fun _ => ?_⟩
    refine scan hL hn0 hsn hq hq1 hB hd hk hN hS h hA hi (s := mI M sn) (fun j => rfl) rfl (fun j hj s0 htj hfirst => ?_) (AL c).length 0 (by omega) (fun j' hj' => absurd hj' (Nat.not_lt_zero _)) ?_
    · have ej : ((j : Int)).toNat = j := Int.toNat_natCast j
      obtain ⟨a1, a2, a3⟩ := hA j _ htj
      have an : ∀ (v : Int) (Q : Int → ZMem → Prop), 0 ≤ v ∧ v < 12 → Q (aField (sQ S) i v) M → Ci d q9_answer [zr 2, zi k, zi i, zi v] M Q := fun v Q hv hQ => c_answer hT hSr (by omega) hk h (by omega) (by omega) hv (fun _ => hQ) (fun c => absurd (by omega) c)
      have hok : aOK (sQ S) := by obtain ⟨S1, e1, e2, -⟩ := hS; have : sQ S = sQ S1 := by rw [e1]; rfl
                                  rw [this]; exact e2.2.1.1
      obtain ⟨o8, o10, o3⟩ := hok.2 i (by omega)
      obtain ⟨⟨v1, v2⟩, ⟨v3, v4⟩, v5, v6⟩ := AL_b hB _ (List.mem_of_getElem? htj)
      generalize hx : (aT (sQ S) i).1 = x at *
      generalize hy : (aT (sQ S) i).2.1 = y at *
      generalize hz : (aT (sQ S) i).2.2 = z at *
      have hx' : aField (sQ S) i 0 = x := aT0.symm.trans hx
      have hy' : aField (sQ S) i 1 = y := aT1.symm.trans hy
      have hz' : aField (sQ S) i 2 = z := aT2.symm.trans hz
      rw [hx', hy', hz'] at o10
      have hm : -24 ≤ x * y ∧ x * y ≤ 24 := by
        have m1 : x * y ≤ 3 * y := Int.mul_le_mul_of_nonneg_right v2 v3
        have m2 : -3 * y ≤ x * y := Int.mul_le_mul_of_nonneg_right v1 v3
        omega
      refine BL_1039 _ _ _ _ _ _ _ _ _ _ _ hq hq1 hK hT h9 h10 h11 hsn ⟨fun c => absurd c (by omega), fun _ => an 8 _ (by decide) ⟨hK, fun c => absurd o8 c, fun _ => an 10 _ (by decide) ⟨hK, by omega, by omega, by omega, by omega, ?_⟩⟩⟩
      rw [ej, a1, a2, a3]
      refine ⟨⟨by omega, by omega⟩, by omega, by omega, ⟨by omega, by omega⟩, fun c => absurd o10 c, fun _ => an 3 _ (by decide) ⟨hK, fun _ => ?_, fun c => absurd (o3 3 (by decide) (by decide)) c⟩⟩
      refine BL_1102 _ _ _ _ _ _ _ _ _ _ _ hq hq1 hK hT h9 h10 h11 hsn ⟨by omega, by omega, ?_⟩
      rw [ej]
      have F1 : Fr (fun a => a = sn) M (sI M sn j 1) := Fr.refl.sI rfl
      have h1 : SrA K (sI M sn j 1) k P S := h.frame2 (hK.sI _ _ _) F1 fun j' hj' c => by omega
      have hA1 : Ar (sI M sn j 1) (AL c) := hA.keep F1 fun a a1 a2 c => by omega
      have es : mI (sI M sn j 1) sn = fup (mI M sn) j 1 := funext fun j' => by
        rw [mI_sI]
        unfold fup
        by_cases c : j' = j <;> simp [c]
      have hp1 : (uns (mI (sI M sn j 1) sn) 0 (AL c)).Perm ((aL (sQ S)).drop (i + 1)) := by
        rw [es]
        exact ((uns_take (s := mI M sn) (AL c) 0 j (Nat.zero_le _) htj s0).symm.trans hp).cons_inv
      have hji : st = 0 ∨ st = 5 → j = i := fun hst => by
        have ho := ho hst
        have hge : ¬ j < i := fun c => (ho j hj).mpr c s0
        have si : mI M sn i = 0 := Decidable.not_not.mp fun c => absurd ((ho i hi).mp c) (Nat.lt_irrefl _)
        have hti : (AL c)[i]? = some (aT (sQ S) i) := by
          obtain ⟨S1, e1, e2, e3⟩ := hS
          have : sQ S = sQ S1 := by rw [e1]; rfl
          rw [this] at hget ⊢
          rw [← e3.2.1.2 hst]
          exact hget
        refine Nat.le_antisymm (Nat.not_lt.mp fun c => hfirst i c ⟨si, hti⟩) (Nat.not_lt.mp hge)
      have nx : XL q (d + 1) 1128 (LD c N w st k [some (zi N), some (zi stp), some (zr sn), some (zi i), none, none, none, none]) [] (sI M sn j 1) := by
        refine BL_1128 _ _ _ _ _ _ _ _ _ _ hq hq1 h1.1 hT h9 h10 h11 hsn ⟨⟨by omega, by omega⟩, ?_⟩
        refine seen_loop hL hn0 hsn hsn2 hq hq1 hB hd hk hN hS kont r (i + 1) _ (by omega) h1 hA1 (F.trans F1) hp1 fun hst j' hj' => ?_
        rw [es]
        have hj2 := hji hst
        subst hj2
        by_cases c : j' = j
        · subst c
          rw [fup_self]
          exact ⟨fun _ => by omega, fun _ => by decide⟩
        · rw [fup_ne c, ho hst j' hj']
          omega
      refine BL_1108 _ _ _ _ _ _ _ _ _ _ _ hq hq1 h1.1 hT h9 h10 h11 hsn ⟨fun c => ⟨fun _ => nx, fun c2 => absurd (by rw [hji (Or.inl c)]) c2⟩, fun _ => ⟨fun _ => nx, fun c => ⟨fun _ => nx, fun c2 => absurd (by rw [hji (Or.inr (Decidable.not_not.mp c))]) c2⟩⟩⟩
    · obtain ⟨j, x1, x2, x3, x4⟩ := uns_mem (s := mI M sn) (t := aT (sQ S) i) (AL c) 0 (hp.symm.subset List.mem_cons_self)
      exact ⟨j, x1, by omega, x4, x3⟩
end SEEN
