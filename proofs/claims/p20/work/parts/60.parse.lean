/-! this program's text is read -/
def fls (c : Nm) : Nat → FL := fun k => match k with
  | 0 => [(0, cd (nmP c))]
  | 1 => [(0, cd (nmQ c))]
  | 2 => [(0, cd (nmL c 0))]
  | 3 => [(0, cd (nmL c 1))]
  | 4 => [(0, cd (nmL c 2))]
  | 5 => [(0, cd (-2))]
  | 6 => [(0, 1000)]
  | 7 => [(0, 1000), (1, 1001), (3, cd (nmU c))]
  | _ => [(0, 1002), (1, cd (nmV c))]
/-- kind, detail, first E of each statement -/
def Tb (x : Int) : Nat → Int × Int × Int := fun k => match k with
  | 0 => (3, 0, 0)
  | 1 => (4, 1, 2)
  | 2 => (3, 2, 5)
  | _ => (2, x, 7)
def txt (c : Nm) : List Int := 97 :: 63 :: (nt (nmP c) ++ 44 :: (nt (nmQ c) ++ 59 :: 98 :: 63 :: 123 :: (nt (nmL c 0) ++ 44 :: (nt (nmL c 1) ++ 44 :: (nt (nmL c 2) ++ 125 :: 59 :: 99 :: 63 :: (nt (-2) ++ 44 :: 97 :: 59 :: 97 :: 43 :: 98 :: 42 :: (nt (nmU c) ++ nmS c :: 99 :: 43 :: (nt (nmV c) ++ []))))))))
def PJ (P : Pg) (m nf : Nat) (T : Nat → Int × Int × Int) (L : Nat → FL) : Prop := P.2.2.2 = m ∧ (∀ k, k < m → P.1 0 k = (T k).1 ∧ P.1 1 k = (T k).2.1 ∧ P.1 2 k = (T k).2.2 ∧ P.1 3 k = (if k + 1 < m then ((k + 1 : Nat) : Int) else -1)) ∧ (P.2.1.2.2.2.2 = nf ∧ 0 ≤ P.2.1.2.2.2.1) ∧ (∀ f, f < nf → FE P.2.1 f (L f)) ∧ P.2.2.1.2.2.2.1 = 0 ∧ P.2.2.1.2.2.2.2 = 0
def Dq (tp : Nat → Int) (n : Nat) (S : St) (r : List Int) (m nf : Nat) (T : Nat → Int × Int × Int) (L : Nat → FL) (due : Int) : Prop := Sf tp n S.1 r ∧ S.2.1 = 0 ∧ S.2.2.2.1 0 = (m : Int) - 1 ∧ S.2.2.2.2.1 = due ∧ PJ (zg S) m nf T L
section PARSE
variable {tp : Nat → Int} {n N m nf : Nat} {S : St} {r r' : List Int} {T T' : Nat → Int × Int × Int} {L : Nat → FL} {due x y : Int} {c : Nm}
theorem Dq.go (h : Dq tp n S (x :: r) m nf T L due) : Dq tp n (zP S (S.1 + 1)) r m nf T L due := ⟨h.1.tl, h.2⟩
theorem Dq.go2 (h : Dq tp n S (x :: y :: r) m nf T L due) : Dq tp n (zP S (S.1 + 2)) r m nf T L due := ⟨h.1.tl.tl, h.2⟩
theorem Dq.sz (h : Dq tp n S r m nf T L due) : zsz S = m := h.2.2.2.2.1
theorem Dq.add (h : Dq tp n S r m nf T L due) {kd dt : Int} (hm : m < 39) (hT : T m = (kd, dt, (nf : Int))) : Dq tp n (zAdd S kd dt) r (m + 1) nf T L 0 := by
  have hsz := h.sz
  obtain ⟨h1, h2, h3, h4, p1, p2, ⟨p3, p3'⟩, p4, p5⟩ := h
  have hAr : zAr S = -1 := by unfold zAr; rw [h2]; rfl
  have hs' : (zg S).2.2.2.toNat = m := by rw [p1]; rfl
  generalize hP' : zLnk (pAdd (zg S) kd dt (-1) ((0 : Nat) : Int)) (-1) ((m : Int) - 1) (m : Int) = P'
  have eS : zAdd S kd dt = (S.1, S.2.1, S.2.2.1, fup S.2.2.2.1 0 (m : Int), 0, P') := by
    unfold zAdd
    rw [hAr, h2, h3, hsz, hP']
  have e2 : P'.2 = (pAdd (zg S) kd dt (-1) ((0 : Nat) : Int)).2 := by rw [← hP']; exact zLnk_2
  have ej : ∀ j k, j ≠ 3 → j ≠ 7 → P'.1 j k = (pAdd (zg S) kd dt (-1) ((0 : Nat) : Int)).1 j k := fun j k a b => by rw [← hP']; exact pLink_j a b
  have e3 : ∀ k, k < m + 1 → P'.1 3 k = if k + 1 < m + 1 then ((k + 1 : Nat) : Int) else -1 := fun k hk => by
    rw [← hP']
    unfold zLnk
    have hA : ∀ k, (pAdd (zg S) kd dt (-1) ((0 : Nat) : Int)).1 3 k = if k = m then -1 else (zg S).1 3 k := fun k => by
      rw [pAdd_at, hs']
      by_cases q : k = m
      · rw [if_pos q, if_pos q]; rfl
      · rw [if_neg q, if_neg q]
    by_cases q0 : (m : Int) - 1 = -1
    · rw [if_pos q0]
      unfold pLinkF
      rw [if_neg (fun q => gHas_n1 q.1), hA, if_pos (by omega), if_neg (by omega)]
    · rw [if_neg q0]
      unfold pLinkB
      rw [if_pos ⟨by omega, by show (m : Int) - 1 < (zg S).2.2.2 + 1; omega, by omega⟩, pU_at]
      by_cases q1 : k + 1 = m
      · rw [if_pos ⟨rfl, by omega⟩, if_pos (by omega)]
        omega
      · rw [if_neg (fun q => by have := q.2; omega), hA]
        by_cases q2 : k = m
        · rw [if_pos q2, if_neg (by omega)]
        · rw [if_neg q2, if_pos (by omega), (p2 k (by omega)).2.2.2, if_pos (by omega)]
  rw [eS]
  refine ⟨h1, h2, ?_, rfl, ?_, fun k hk => ?_, ⟨?_, ?_⟩, fun f hf => ?_, ?_⟩
  · show fup S.2.2.2.1 0 (m : Int) 0 = ((m + 1 : Nat) : Int) - 1
    rw [fup_self]; omega
  · show P'.2.2.2 = _
    rw [e2]
    show (zg S).2.2.2 + 1 = _
    rw [p1]; rfl
  · show P'.1 0 k = _ ∧ P'.1 1 k = _ ∧ P'.1 2 k = _ ∧ P'.1 3 k = _
    rw [ej 0 k (by decide) (by decide), ej 1 k (by decide) (by decide), ej 2 k (by decide) (by decide), e3 k hk, pAdd_at, pAdd_at, pAdd_at, hs']
    by_cases q : k = m
    · rw [if_pos q, if_pos q, if_pos q, q, hT]
      exact ⟨rfl, rfl, p3, rfl⟩
    · rw [if_neg q, if_neg q, if_neg q]
      obtain ⟨a1, a2, a3, -⟩ := p2 k (by omega)
      exact ⟨a1, a2, a3, rfl⟩
  · show P'.2.1.2.2.2.2 = _
    rw [e2]; exact p3
  · show 0 ≤ P'.2.1.2.2.2.1
    rw [e2]; exact p3'
  · show FE P'.2.1 f _
    rw [e2]; exact p4 f hf
  · show P'.2.2.1.2.2.2.1 = 0 ∧ P'.2.2.1.2.2.2.2 = 0
    rw [e2]; exact p5
theorem Dq.form (h : Dq tp n S r' m nf T L due) {i' : Nat} (e : ee tp N S.1 = (1, i', L nf)) (h2 : Sf tp n i' r) (hnf : nf < 149) : (zForm tp N S).1 = 1 ∧ Dq tp n (zForm tp N S).2 r m (nf + 1) T L due := by
  obtain ⟨h1, h2', h3, h4, p1, p2, ⟨p3, p3'⟩, p4, p5⟩ := h
  have eF : zForm tp N S = (1, i', S.2.1, S.2.2.1, S.2.2.2.1, S.2.2.2.2.1, ((zg S).1, fApp (fSt (zg S).2.1) (L nf), (zg S).2.2)) := by
    unfold zForm
    rw [e]
  rw [eF]
  obtain ⟨a1, a2, -⟩ := fApp_f (fSt (zg S).2.1) p3' (L nf)
  refine ⟨rfl, h2, h2', h3, h4, p1, p2, ⟨?_, ?_⟩, fun f hf => ?_, p5⟩
  · show (fApp (fSt (zg S).2.1) (L nf)).2.2.2.2 = _
    rw [a2]
    show (zg S).2.1.2.2.2.2 + 1 = _
    rw [p3]; rfl
  · show 0 ≤ (fApp (fSt (zg S).2.1) (L nf)).2.2.2.1
    rw [a1]
    show 0 ≤ (zg S).2.1.2.2.2.1 + _
    omega
  · show FE (fApp (fSt (zg S).2.1) (L nf)) f (L f)
    by_cases q : f = nf
    · subst q
      exact FE_new p3' p3 (by omega)
    · exact FE_keep p3' (by omega) (p4 f (by omega))
theorem Dq.det (h : Dq tp n S r m nf T L due) (hm : 0 < m) (hm2 : m ≤ 40) (hT : ∀ k, k < m → T' k = if k + 1 = m then ((T k).1, x, (T k).2.2) else T k) : Dq tp n (zDet S ((m : Int) - 1) x) r m nf T' L due := by
  obtain ⟨h1, h2', h3, h4, p1, p2, p3, p4, p5⟩ := h
  have e : pDet (zg S) ((m : Int) - 1) x = pU (zg S) 1 (m - 1) x := by
    unfold pDet
    rw [if_pos ⟨by omega, by omega, by omega⟩, show ((m : Int) - 1).toNat = m - 1 by omega]
  have eZ : zDet S ((m : Int) - 1) x = (S.1, S.2.1, S.2.2.1, S.2.2.2.1, S.2.2.2.2.1, pU (zg S) 1 (m - 1) x) := by unfold zDet; rw [e]
  rw [eZ]
  refine ⟨h1, h2', h3, h4, p1, fun k hk => ?_, p3, p4, p5⟩
  have hne : ∀ j, j ≠ 1 → (pU (zg S) 1 (m - 1) x).1 j k = (zg S).1 j k := fun j hj => by rw [pU_at, if_neg (fun q => hj q.1)]
  have he : (pU (zg S) 1 (m - 1) x).1 1 k = if k + 1 = m then x else (zg S).1 1 k := by
    rw [pU_at]
    by_cases q : k + 1 = m
    · rw [if_pos ⟨rfl, by omega⟩, if_pos q]
    · rw [if_neg (fun q2 => q (by have := q2.2; omega)), if_neg q]
  show (pU (zg S) 1 (m - 1) x).1 0 k = _ ∧ (pU (zg S) 1 (m - 1) x).1 1 k = _ ∧ (pU (zg S) 1 (m - 1) x).1 2 k = _ ∧ (pU (zg S) 1 (m - 1) x).1 3 k = _
  rw [hne 0 (by decide), hne 2 (by decide), hne 3 (by decide), he, hT k hk]
  obtain ⟨a1, a2, a3, a4⟩ := p2 k hk
  by_cases q : k + 1 = m
  · rw [if_pos q, if_pos q]
    exact ⟨a1, rfl, a3, a4⟩
  · rw [if_neg q, if_neg q]
    exact ⟨a1, a2, a3, a4⟩
theorem zThen_1 {k : St → Int × St} {z : Int × St} (h : z.1 = 1) : zThen z k = k z.2 := if_pos h
theorem Dq.choose (h : Dq tp n S (x :: 63 :: r) m nf T L due) (hm : m < 39) (hx : 97 ≤ x ∧ x ≤ 104) : zStmt tp N S = zChoose tp N (zP S (S.1 + 2)) (x - 97) := by
  have h0 := h.1.hd
  have h1 := h.1.tl.hd
  unfold zStmt
  rw [if_neg (by rw [h.sz]; omega), h0, h1, if_neg (by omega), if_neg (by omega), if_neg (by omega), if_neg (by omega), if_neg (by omega), if_neg (by omega), if_pos ⟨hx, rfl⟩]
theorem Dq.behind (h : Dq tp n S (59 :: r) m nf T L 0) : zStep tp N n S = (1, S.1 + 1, S.2.1, S.2.2.1, S.2.2.2.1, 1, zg S) ∧ Dq tp n (S.1 + 1, S.2.1, S.2.2.1, S.2.2.2.1, 1, zg S) r m nf T L 1 := by
  refine ⟨?_, h.1.tl, h.2.1, h.2.2.1, rfl, h.2.2.2.2⟩
  unfold zStep
  rw [if_pos h.2.2.2.1]
  unfold zBehind
  rw [if_pos h.1.hd]
theorem Dq.due1 (h : Dq tp n S r m nf T L 1) : zStep tp N n S = zStmt tp N S := by
  unfold zStep
  rw [if_neg (by rw [h.2.2.2.1]; decide)]
theorem jo_c {y : Int} {r : List Int} (h : jo y = 0) : jo ((y :: r).getD 0 0) = 0 := h
theorem nd_c {y : Int} {r : List Int} (h : ¬ dg y) : nd (y :: r) := h
/-- the first statement -/
theorem rd_1 (hB : NmB c) (hN : 10 ≤ N) (h : Dq tp n S (97 :: 63 :: (nt (nmP c) ++ 44 :: (nt (nmQ c) ++ 59 :: r))) 0 0 T (fls c) 1) (hT : T 0 = (3, 0, 0)) : ∃ S', zStep tp N n S = (1, S') ∧ Dq tp n S' (59 :: r) 1 2 T (fls c) 0 := by
  obtain ⟨b1, b2, -⟩ := hB
  rw [h.due1, h.choose (by decide) (by decide)]
  unfold zChoose
  have g := (h.go2.add (kd := 3) (dt := 97 - 97) (by decide) (by rw [hT]; rfl))
  have hne : tp (zP S (S.1 + 2)).1 ≠ 123 := by
    rw [h.go2.1.nx]
    unfold nt
    split
    · show (45 : Int) ≠ 123; decide
    · show 48 + nmP c ≠ 123; omega
  rw [if_neg hne]
  obtain ⟨e1, s1⟩ := ee_nt (r := 44 :: (nt (nmQ c) ++ 59 :: r)) hN g.1 (by omega) (nd_c (by decide)) (jo_c (by decide))
  obtain ⟨f1, g1⟩ := g.form e1 s1 (by decide)
  rw [zThen_1 f1]
  have es : zSign tp 44 (zForm tp N (zAdd (zP S (S.1 + 2)) 3 (97 - 97))).2 = (1, zP (zForm tp N (zAdd (zP S (S.1 + 2)) 3 (97 - 97))).2 ((zForm tp N (zAdd (zP S (S.1 + 2)) 3 (97 - 97))).2.1 + 1)) := by
    unfold zSign
    rw [if_pos g1.1.hd]
  rw [zThen_1 (by rw [es]), es]
  obtain ⟨e2, s2⟩ := ee_nt (r := 59 :: r) hN g1.go.1 (by omega) (nd_c (by decide)) (jo_c (by decide))
  obtain ⟨f2, g2⟩ := g1.go.form e2 s2 (by decide)
  exact ⟨_, Prod.ext f2 rfl, g2⟩
/-- the second -/
theorem rd_2 (hB : NmB c) (hN : 10 ≤ N) (h : Dq tp n S (98 :: 63 :: 123 :: (nt (nmL c 0) ++ 44 :: (nt (nmL c 1) ++ 44 :: (nt (nmL c 2) ++ 125 :: 59 :: r)))) 1 2 T (fls c) 1) (hT : T 1 = (4, 1, 2)) : ∃ S', zStep tp N n S = (1, S') ∧ Dq tp n S' (59 :: r) 2 5 T (fls c) 0 := by
  obtain ⟨-, -, -, -, b5⟩ := hB
  have n0 := b5 0
  have n1 := b5 1
  have n2 := b5 2
  rw [h.due1, h.choose (by decide) (by decide)]
  unfold zChoose
  rw [if_pos h.go2.1.hd]
  have g : Dq tp n (zP (zAdd (zP S (S.1 + 2)) 4 (98 - 97)) ((zP S (S.1 + 2)).1 + 1)) _ 2 2 T (fls c) 0 := (h.go2.add (kd := 4) (dt := 98 - 97) (by decide) (by rw [hT]; rfl)).go
  generalize zP (zAdd (zP S (S.1 + 2)) 4 (98 - 97)) ((zP S (S.1 + 2)).1 + 1) = Sa at *
  obtain ⟨e1, s1⟩ := ee_nt hN g.1 (by omega) (nd_c (by decide)) (jo_c (by decide))
  obtain ⟨f1, g1⟩ := g.form e1 s1 (by decide)
  rw [zAmong, zThen_1 f1]
  generalize (zForm tp N Sa).2 = Sb at *
  rw [if_pos g1.1.hd, if_neg (by decide)]
  have g1' := g1.go
  generalize zP Sb (Sb.1 + 1) = Sc at *
  obtain ⟨e2, s2⟩ := ee_nt hN g1'.1 (by omega) (nd_c (by decide)) (jo_c (by decide))
  obtain ⟨f2, g2⟩ := g1'.form e2 s2 (by decide)
  rw [zAmong, zThen_1 f2]
  generalize (zForm tp N Sc).2 = Sd at *
  rw [if_pos g2.1.hd, if_neg (by decide)]
  have g2' := g2.go
  generalize zP Sd (Sd.1 + 1) = Se at *
  obtain ⟨e3, s3⟩ := ee_nt hN g2'.1 (by omega) (nd_c (by decide)) (jo_c (by decide))
  obtain ⟨f3, g3⟩ := g2'.form e3 s3 (by decide)
  rw [zAmong, zThen_1 f3]
  generalize (zForm tp N Se).2 = Sg at *
  rw [if_neg (by rw [g3.1.hd]; decide)]
  unfold zSign
  rw [if_pos g3.1.hd]
  exact ⟨_, rfl, g3.go⟩
/-- the third -/
theorem rd_3 (hN : 10 ≤ N) (h : Dq tp n S (99 :: 63 :: (nt (-2) ++ 44 :: 97 :: 59 :: r)) 2 5 T (fls c) 1) (hT : T 2 = (3, 2, 5)) : ∃ S', zStep tp N n S = (1, S') ∧ Dq tp n S' (59 :: r) 3 7 T (fls c) 0 := by
  rw [h.due1, h.choose (by decide) (by decide)]
  unfold zChoose
  have g := (h.go2.add (kd := 3) (dt := 99 - 97) (by decide) (by rw [hT]; rfl))
  have hne : tp (zP S (S.1 + 2)).1 ≠ 123 := by
    rw [h.go2.1.nx]
    show (45 : Int) ≠ 123
    decide
  rw [if_neg hne]
  obtain ⟨e1, s1⟩ := ee_nt (r := 44 :: 97 :: 59 :: r) hN g.1 (by decide) (nd_c (by decide)) (jo_c (by decide))
  obtain ⟨f1, g1⟩ := g.form e1 s1 (by decide)
  rw [zThen_1 f1]
  have es : zSign tp 44 (zForm tp N (zAdd (zP S (S.1 + 2)) 3 (99 - 97))).2 = (1, zP (zForm tp N (zAdd (zP S (S.1 + 2)) 3 (99 - 97))).2 ((zForm tp N (zAdd (zP S (S.1 + 2)) 3 (99 - 97))).2.1 + 1)) := by
    unfold zSign
    rw [if_pos g1.1.hd]
  rw [zThen_1 (by rw [es]), es]
  obtain ⟨e2, s2⟩ := ee_v (r := 59 :: r) hN g1.go.1 (by decide) (jo_c (by decide))
  obtain ⟨f2, g2⟩ := g1.go.form e2 s2 (by decide)
  exact ⟨_, Prod.ext f2 rfl, g2⟩
/-- the fourth, a test -/
theorem rd_4 (hB : NmB c) (hN : 10 ≤ N) (hs : zSg (nmS c)) (h : Dq tp n S (97 :: 43 :: 98 :: 42 :: (nt (nmU c) ++ nmS c :: 99 :: 43 :: (nt (nmV c) ++ []))) 3 7 (Tb 0) (fls c) 1) : ∃ S', zStep tp N n S = (1, S') ∧ Dq tp n S' [] 4 9 (Tb (nmS c)) (fls c) 0 := by
  obtain ⟨-, -, b3, b4, -⟩ := hB
  have e0 : zStmt tp N S = zTest tp N S := by
    unfold zStmt
    rw [if_neg (by rw [h.sz]; decide), h.1.hd, h.1.tl.hd, if_neg (by decide), if_neg (by decide), if_neg (by decide), if_neg (by decide), if_neg (fun q => absurd q.2.1 (by decide)), if_neg (by decide), if_neg (by decide)]
  rw [h.due1, e0]
  unfold zTest
  rw [if_pos (Or.inl (by rw [h.1.hd]; decide)), h.sz]
  have g := h.add (kd := 2) (dt := 0) (by decide) rfl
  generalize zAdd S 2 0 = Sa at *
  have hnd : nd (nmS c :: 99 :: 43 :: (nt (nmV c) ++ [])) := nd_c (by rcases hs with q | q | q | q <;> rw [q] <;> decide)
  have hjo : jo ((nmS c :: 99 :: 43 :: (nt (nmV c) ++ [])).getD 0 0) = 0 := by
    show jo (nmS c) = 0
    rcases hs with q | q | q | q <;> rw [q] <;> decide
  obtain ⟨e1, s1⟩ := ee_abu hN g.1 (by omega) hnd hjo
  obtain ⟨f1, g1⟩ := g.form e1 s1 (by decide)
  rw [zThen_1 f1]
  generalize (zForm tp N Sa).2 = Sb at *
  rw [if_pos (by rw [g1.1.hd]; exact hs), g1.1.hd]
  have g2 : Dq tp n (zP (zDet Sb ((3 : Nat) : Int) (nmS c)) (Sb.1 + 1)) (99 :: 43 :: (nt (nmV c) ++ [])) 4 8 (Tb (nmS c)) (fls c) 0 := (g1.det (T' := Tb (nmS c)) (by decide) (by decide) (fun k hk => by
    obtain rfl | rfl | rfl | rfl : k = 0 ∨ k = 1 ∨ k = 2 ∨ k = 3 := by omega
    · rfl
    · rfl
    · rfl
    · rfl)).go
  generalize zP (zDet Sb ((3 : Nat) : Int) (nmS c)) (Sb.1 + 1) = Sc at *
  obtain ⟨e2, s2⟩ := ee_cv hN g2.1 (by omega) (by unfold nd; decide) (by decide)
  obtain ⟨f2, g3⟩ := g2.form e2 s2 (by decide)
  exact ⟨_, Prod.ext f2 rfl, g3⟩
theorem rd_all (hB : NmB c) (hN : 10 ≤ N) (hs : zSg (nmS c)) (h : Dq tp n S (txt c) 0 0 (Tb 0) (fls c) 1) (k : Nat) : (zGo tp N n (k + 8) S).1 = -1 ∧ PJ (zg (zGo tp N n (k + 8) S).2) 4 9 (Tb (nmS c)) (fls c) ∧ (zGo tp N n (k + 8) S).2.1 = n := by
  have nx : ∀ (k : Nat) (S S' : St), zStep tp N n S = (1, S') → zGo tp N n (k + 1) S = zGo tp N n k S' := fun k S S' e => by rw [zGo_s, e]; rfl
  have nx2 : ∀ (k : Nat) (S S' : St), zStep tp N n S = (2, S') → zGo tp N n (k + 1) S = (-1, S') := fun k S S' e => by rw [zGo_s, e]; rfl
  obtain ⟨S1, e1, d1⟩ := rd_1 hB hN h rfl
  obtain ⟨e2, d2⟩ := d1.behind (N := N)
  obtain ⟨S3, e3, d3⟩ := rd_2 hB hN d2 rfl
  obtain ⟨e4, d4⟩ := d3.behind (N := N)
  obtain ⟨S5, e5, d5⟩ := rd_3 hN d4 rfl
  obtain ⟨e6, d6⟩ := d5.behind (N := N)
  obtain ⟨S7, e7, d7⟩ := rd_4 hB hN hs d6
  have e8 : zStep tp N n S7 = (2, S7) := by
    unfold zStep
    rw [if_pos d7.2.2.2.1]
    unfold zBehind
    have z0 : tp S7.1 = 0 := d7.1.nx
    rw [z0, if_neg (by decide), if_neg (fun q => absurd q.1 (by decide)), if_neg (fun q => q.elim (fun q => absurd q.1 (by decide)) (fun q => absurd q.1 (by decide))), if_pos ⟨d7.2.1, d7.1.1⟩]
  rw [nx (k + 7) _ _ e1, nx (k + 6) _ _ e2, nx (k + 5) _ _ e3, nx (k + 4) _ _ e4, nx (k + 3) _ _ e5, nx (k + 2) _ _ e6, nx (k + 1) _ _ e7, nx2 k _ _ e8]
  exact ⟨rfl, d7.2.2.2.2, d7.1.1⟩
end PARSE
