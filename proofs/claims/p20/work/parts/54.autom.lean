/-! reading a program: what the class does, byte by byte -/
/-- place, how many brackets, whose they are, the S before in each, whether an S is due, the draft -/
abbrev St : Type := Nat × Nat × (Nat → Int) × (Nat → Int) × Int × Pg
def zg (S : St) : Pg := S.2.2.2.2.2
def zsz (S : St) : Int := S.2.2.2.2.2.2.2.2
def zAr (S : St) : Int := if 1 ≤ S.2.1 then S.2.2.1 (S.2.1 - 1) else -1
def zLnk (P : Pg) (ar bf s : Int) : Pg := if bf = -1 then pLinkF P ar s else pLinkB P bf s
def zAdd (S : St) (kd dt : Int) : St := (S.1, S.2.1, S.2.2.1, fup S.2.2.2.1 S.2.1 (zsz S), 0, zLnk (pAdd (zg S) kd dt (zAr S) S.2.1) (zAr S) (S.2.2.2.1 S.2.1) (zsz S))
def zP (S : St) (p : Nat) : St := (p, S.2)
def zOpen (S : St) (s : Int) : Int × St := if S.2.1 < 6 then (1, S.1 + 1, S.2.1 + 1, fup S.2.2.1 S.2.1 s, fup S.2.2.2.1 (S.2.1 + 1) (-1), 1, pPart (zg S) s) else (0, S)
def zForm (tp : Nat → Int) (N : Nat) (S : St) : Int × St := ((ee tp N S.1).1, (ee tp N S.1).2.1, S.2.1, S.2.2.1, S.2.2.2.1, S.2.2.2.2.1, ((zg S).1, fApp (fSt (zg S).2.1) (ee tp N S.1).2.2, (zg S).2.2))
def zThen (r : Int × St) (k : St → Int × St) : Int × St := if r.1 = 1 then k r.2 else r
def zSign (tp : Nat → Int) (c : Int) (S : St) : Int × St := if tp S.1 = c then (1, zP S (S.1 + 1)) else (0, S)
def zAmong (tp : Nat → Int) (N : Nat) : Nat → St → Int × St
  | 0, S => (0, S)
  | j + 1, S => zThen (zForm tp N S) fun S1 => if tp S1.1 = 44 then zAmong tp N j (if j = 0 then S1 else zP S1 (S1.1 + 1)) else zSign tp 125 S1
abbrev zV (x : Int) : Prop := 97 ≤ x ∧ x ≤ 104
abbrev zSg (x : Int) : Prop := x = 60 ∨ x = 61 ∨ x = 62 ∨ x = 35
def zChoose (tp : Nat → Int) (N : Nat) (S : St) (v : Int) : Int × St :=
  if tp S.1 = 123 then zAmong tp N 6 (zP (zAdd S 4 v) (S.1 + 1))
  else zThen (zForm tp N (zAdd S 3 v)) fun S1 => zThen (zSign tp 44 S1) fun S2 => zForm tp N S2
def zDet (S : St) (s x : Int) : St := (S.1, S.2.1, S.2.2.1, S.2.2.2.1, S.2.2.2.2.1, pDet (zg S) s x)
def zTest (tp : Nat → Int) (N : Nat) (S : St) : Int × St :=
  if zV (tp S.1) ∨ dg (tp S.1) ∨ tp S.1 = 45 then zThen (zForm tp N (zAdd S 2 0)) fun S1 => if zSg (tp S1.1) then zForm tp N (zP (zDet S1 (zsz S) (tp S1.1)) (S1.1 + 1)) else (0, S1)
  else (0, S)
def zStmt (tp : Nat → Int) (N : Nat) (S : St) : Int × St :=
  if ¬ zsz S < 40 then (0, S)
  else if tp S.1 = 40 then zOpen (zAdd S 5 0) (zsz S)
  else if tp S.1 = 91 then zOpen (zAdd S 6 0) (zsz S)
  else if tp S.1 = 126 then (if tp (S.1 + 1) = 91 then zOpen (zAdd (zP S (S.1 + 1)) 7 0) (zsz S) else (0, zP S (S.1 + 1)))
  else if tp S.1 = 33 then (1, zP (zAdd S 8 0) (S.1 + 1))
  else if 49 ≤ tp S.1 ∧ tp S.1 ≤ 57 ∧ tp (S.1 + 1) = 42 ∧ tp (S.1 + 2) = 40 then zOpen (zAdd (zP S (S.1 + 2)) 9 (tp S.1 - 48)) (zsz S)
  else if zV (tp S.1) ∧ tp (S.1 + 1) = 58 then zForm tp N (zAdd (zP S (S.1 + 2)) 1 (tp S.1 - 97))
  else if zV (tp S.1) ∧ tp (S.1 + 1) = 63 then zChoose tp N (zP S (S.1 + 2)) (tp S.1 - 97)
  else zTest tp N S
def zBehind (tp : Nat → Int) (n : Nat) (S : St) : Int × St :=
  if tp S.1 = 59 then (1, S.1 + 1, S.2.1, S.2.2.1, S.2.2.2.1, 1, zg S)
  else if tp S.1 = 124 ∧ gKind (zg S) (zAr S) = 5 then (if gHas (zg S) (zAr S) ∧ (zg S).1 6 (zAr S).toNat < 6 then (1, S.1 + 1, S.2.1, S.2.2.1, fup S.2.2.2.1 S.2.1 (-1), 1, pPart (zg S) (zAr S)) else (0, S))
  else if (tp S.1 = 41 ∧ (gKind (zg S) (zAr S) = 5 ∨ gKind (zg S) (zAr S) = 9)) ∨ (tp S.1 = 93 ∧ (gKind (zg S) (zAr S) = 6 ∨ gKind (zg S) (zAr S) = 7)) then (1, S.1 + 1, S.2.1 - 1, S.2.2)
  else if S.2.1 = 0 ∧ S.1 = n then (2, S) else (0, S)
/-- what keeps the class's memory in order -/
def DI (P : Pg) : Prop := (∀ k, 0 ≤ P.1 6 k ∧ P.1 6 k ≤ 6) ∧ (∀ k, 0 ≤ P.1 5 k ∧ P.1 5 k ≤ 6) ∧ (∀ k, 0 ≤ P.1 2 k ∧ P.1 2 k ≤ 150) ∧ (∀ k, -1000 ≤ P.1 1 k ∧ P.1 1 k ≤ 1000) ∧ FA P.2.1 ∧ FA P.2.2.1
def PI (S : St) : Prop := (0 ≤ zsz S ∧ zsz S ≤ 40) ∧ DI (zg S) ∧ (0 ≤ (zg S).2.1.2.2.2.1 ∧ (zg S).2.1.2.2.2.1 ≤ S.1) ∧ (0 ≤ (zg S).2.1.2.2.2.2 ∧ (zg S).2.1.2.2.2.2 ≤ S.1) ∧ S.2.1 ≤ 6 ∧ (zg S).2.2.1.2.2.2.2 = 0
def CRs (K M0 M : ZMem) (tp : Nat → Int) (n : Nat) (S : St) : Prop := CRd K M tp n S.1 ∧ mI M 5 5 = S.2.1 ∧ (∀ k, k < 6 → mI M 6 k = S.2.2.1 k) ∧ (∀ k, k < 7 → mI M 7 k = S.2.2.2.1 k) ∧ mI M 5 6 = S.2.2.2.2.1 ∧ mI M 5 7 = 0 ∧ gG M 8 = zg S ∧ Fr (fun q => 5 ≤ q ∧ q < 25) M0 M ∧ PI S
def CF (K M0 M : ZMem) (tp : Nat → Int) (n p : Nat) : Prop := CRd K M tp n p ∧ Fr (fun q => 5 ≤ q ∧ q < 25) M0 M ∧ DI (gG M 8)
section AUTOM
variable {d : Nat} {K M0 M M' : ZMem} {tp : Nat → Int} {n N : Nat} {S : St}
theorem CRs.cf (h : CRs K M0 M tp n S) : CF K M0 M tp n S.1 := ⟨h.1, h.2.2.2.2.2.2.2.1, by rw [h.2.2.2.2.2.2.1]; exact h.2.2.2.2.2.2.2.2.2.1⟩
theorem CRs.pi (h : CRs K M0 M tp n S) : PI S := h.2.2.2.2.2.2.2.2
theorem CRs.go (h : CRs K M0 M tp n S) {x : Int} {p' : Nat} (e : (p' : Int) = x) (h1 : S.1 ≤ p') (hp : p' ≤ n) : CRs K M0 (sI M 5 4 x) tp n (zP S p') := by
  obtain ⟨a1, a2, a3, a4, a5, a6, a7, a8, ⟨b1, b2, b3, b4, b5, b6⟩⟩ := h
  refine ⟨a1.go e hp, ?_, fun k hk => ?_, fun k hk => ?_, ?_, ?_, ?_, a8.sI ⟨by omega, by omega⟩, b1, b2, ⟨b3.1, ?_⟩, ⟨b4.1, ?_⟩, b5, b6⟩
  · rw [mI_sI, if_neg (by omega)]; exact a2
  · rw [mI_sI, if_neg (by omega)]; exact a3 k hk
  · rw [mI_sI, if_neg (by omega)]; exact a4 k hk
  · rw [mI_sI, if_neg (by omega)]; exact a5
  · rw [mI_sI, if_neg (by omega)]; exact a6
  · rw [gG_fr (M := M) (X := fun q => q = 5) (Fr.refl.sI rfl) fun j hj q => by omega]; exact a7
  · have h2 := b3.2
    show (zg S).2.1.2.2.2.1 ≤ (p' : Int)
    omega
  · have h2 := b4.2
    show (zg S).2.1.2.2.2.2 ≤ (p' : Int)
    omega
theorem CRs.due (h : CRs K M0 M tp n S) {x : Int} : CRs K M0 (sI M 5 6 x) tp n (S.1, S.2.1, S.2.2.1, S.2.2.2.1, x, zg S) := by
  obtain ⟨a1, a2, a3, a4, a5, a6, a7, a8, b⟩ := h
  refine ⟨a1.fr (a1.1.sI _ _ _) (X := fun q => q = 5) (Fr.refl.sI rfl) (by decide) (by decide) (by rw [mI_sI, if_neg (by omega)]; exact a1.2.2.1) a1.2.2.2, ?_, fun k hk => ?_, fun k hk => ?_, ?_, ?_, ?_, a8.sI ⟨by omega, by omega⟩, b⟩
  · rw [mI_sI, if_neg (by omega)]; exact a2
  · rw [mI_sI, if_neg (by omega)]; exact a3 k hk
  · rw [mI_sI, if_neg (by omega)]; exact a4 k hk
  · exact mI_sI_eq
  · rw [mI_sI, if_neg (by omega)]; exact a6
  · rw [gG_fr (M := M) (X := fun q => q = 5) (Fr.refl.sI rfl) fun j hj q => by omega]; exact a7
theorem CRs.brk (h : CRs K M0 M tp n S) {x : Int} {op : Nat} (e : (op : Int) = x) (ho : op ≤ 6) : CRs K M0 (sI M 5 5 x) tp n (S.1, op, S.2.2) := by
  obtain ⟨a1, a2, a3, a4, a5, a6, a7, a8, ⟨b1, b2, b3, b4, b5, b6⟩⟩ := h
  refine ⟨a1.fr (a1.1.sI _ _ _) (X := fun q => q = 5) (Fr.refl.sI rfl) (by decide) (by decide) (by rw [mI_sI, if_neg (by omega)]; exact a1.2.2.1) a1.2.2.2, ?_, fun k hk => ?_, fun k hk => ?_, ?_, ?_, ?_, a8.sI ⟨by omega, by omega⟩, b1, b2, b3, b4, ho, b6⟩
  · rw [mI_sI_eq]; exact e.symm
  · rw [mI_sI, if_neg (by omega)]; exact a3 k hk
  · rw [mI_sI, if_neg (by omega)]; exact a4 k hk
  · rw [mI_sI, if_neg (by omega)]; exact a5
  · rw [mI_sI, if_neg (by omega)]; exact a6
  · rw [gG_fr (M := M) (X := fun q => q = 5) (Fr.refl.sI rfl) fun j hj q => by omega]; exact a7
theorem CRs.opened (h : CRs K M0 M tp n S) {x : Int} {j : Nat} (hj : j < 6) : CRs K M0 (sI M 6 j x) tp n (S.1, S.2.1, fup S.2.2.1 j x, S.2.2.2) := by
  obtain ⟨a1, a2, a3, a4, a5, a6, a7, a8, b⟩ := h
  refine ⟨a1.fr (a1.1.sI _ _ _) (X := fun q => q = 6) (Fr.refl.sI rfl) (by decide) (by decide) (by rw [mI_sI, if_neg (by omega)]; exact a1.2.2.1) a1.2.2.2, ?_, fun k hk => ?_, fun k hk => ?_, ?_, ?_, ?_, a8.sI ⟨by omega, by omega⟩, b⟩
  · rw [mI_sI, if_neg (by omega)]; exact a2
  · rw [mI_sI]
    show _ = (if k = j then x else S.2.2.1 k)
    by_cases q : k = j
    · rw [if_pos ⟨rfl, q⟩, if_pos q]
    · rw [if_neg (fun w => q w.2), if_neg q]; exact a3 k hk
  · rw [mI_sI, if_neg (by omega)]; exact a4 k hk
  · rw [mI_sI, if_neg (by omega)]; exact a5
  · rw [mI_sI, if_neg (by omega)]; exact a6
  · rw [gG_fr (M := M) (X := fun q => q = 6) (Fr.refl.sI rfl) fun j hj q => by omega]; exact a7
theorem CRs.before (h : CRs K M0 M tp n S) {x : Int} {j : Nat} : CRs K M0 (sI M 7 j x) tp n (S.1, S.2.1, S.2.2.1, fup S.2.2.2.1 j x, S.2.2.2.2) := by
  obtain ⟨a1, a2, a3, a4, a5, a6, a7, a8, b⟩ := h
  refine ⟨a1.fr (a1.1.sI _ _ _) (X := fun q => q = 7) (Fr.refl.sI rfl) (by decide) (by decide) (by rw [mI_sI, if_neg (by omega)]; exact a1.2.2.1) a1.2.2.2, ?_, fun k hk => ?_, fun k hk => ?_, ?_, ?_, ?_, a8.sI ⟨by omega, by omega⟩, b⟩
  · rw [mI_sI, if_neg (by omega)]; exact a2
  · rw [mI_sI, if_neg (by omega)]; exact a3 k hk
  · rw [mI_sI]
    show _ = (if k = j then x else S.2.2.2.1 k)
    by_cases q : k = j
    · rw [if_pos ⟨rfl, q⟩, if_pos q]
    · rw [if_neg (fun w => q w.2), if_neg q]; exact a4 k hk
  · rw [mI_sI, if_neg (by omega)]; exact a5
  · rw [mI_sI, if_neg (by omega)]; exact a6
  · rw [gG_fr (M := M) (X := fun q => q = 7) (Fr.refl.sI rfl) fun j hj q => by omega]; exact a7
theorem CRs.draft (h : CRs K M0 M tp n S) (hK : KW K M') (F : Fr (fun q => 8 ≤ q ∧ q < 25) M M') {P : Pg} (e : gG M' 8 = P) (hp : PI (S.1, S.2.1, S.2.2.1, S.2.2.2.1, S.2.2.2.2.1, P)) : CRs K M0 M' tp n (S.1, S.2.1, S.2.2.1, S.2.2.2.1, S.2.2.2.2.1, P) := by
  obtain ⟨a1, a2, a3, a4, a5, a6, a7, a8, b⟩ := h
  exact ⟨a1.fr hK F (by omega) (by omega) (by rw [F.i (by omega)]; exact a1.2.2.1) a1.2.2.2, by rw [F.i (by omega)]; exact a2, fun k hk => by rw [F.i (by omega)]; exact a3 k hk, fun k hk => by rw [F.i (by omega)]; exact a4 k hk, by rw [F.i (by omega)]; exact a5, by rw [F.i (by omega)]; exact a6, e, a8.trans (F.wide fun q hq => ⟨by omega, hq.2⟩), hp⟩
theorem cs_before (h : CRs K M0 M tp n S) (hR : ReaderAt K 5) {x : Int} {Q : ZMem → Prop} (q : ∀ M', CRs K M0 M' tp n (S.1, S.2.1, S.2.2.1, fup S.2.2.2.1 S.2.1 x, S.2.2.2.2) → Q M') : Cv d q5_setBefore [zr 5, zi x] M Q := by
  have e := h.2.1
  have ho := h.pi.2.2.2.2.1
  refine B5_setBefore x h.1.1 hR ⟨fun c => absurd c (by omega), fun _ => ⟨fun c => absurd c (by omega), fun _ => ⟨by omega, by omega, ?_⟩⟩⟩
  rw [e, Int.toNat_natCast]
  exact q _ h.before
theorem pLink_6 {P : Pg} {ar bf s : Int} {k : Nat} : (zLnk P ar bf s).1 6 k = P.1 6 k := by
  unfold zLnk pLinkF pLinkB
  split
  · split
    · rw [pU_at, if_neg (by omega)]
    · rfl
  · split
    · rw [pU_at, if_neg (by omega)]
    · rfl
theorem zLnk_2 {P : Pg} {ar bf s : Int} : (zLnk P ar bf s).2 = P.2 := by
  unfold zLnk pLinkF pLinkB
  split
  · split <;> rfl
  · split <;> rfl
theorem pLink_j {P : Pg} {ar bf s : Int} {j k : Nat} (h3 : j ≠ 3) (h7 : j ≠ 7) : (zLnk P ar bf s).1 j k = P.1 j k := by
  unfold zLnk pLinkF pLinkB
  split
  · split
    · rw [pU_at, if_neg (by omega)]
    · rfl
  · split
    · rw [pU_at, if_neg (by omega)]
    · rfl
theorem zAdd_pi (h : PI S) (h40 : zsz S < 40) (hp : S.1 ≤ 150) {kd dt : Int} (hdt : -1000 ≤ dt ∧ dt ≤ 1000) : PI (zAdd S kd dt) := by
  obtain ⟨b1, ⟨d1, d2, d3, d4, d5, d6⟩, b3, b4, b5, b6⟩ := h
  have e : (zg (zAdd S kd dt)).2 = ((zg S).2.1, (zg S).2.2.1, zsz S + 1) := zLnk_2
  have e2 : zsz (zAdd S kd dt) = zsz S + 1 := congrArg (fun x => x.2.2) e
  have e1 : (zg (zAdd S kd dt)).2.1 = (zg S).2.1 := congrArg (fun x => x.1) e
  have e3 : (zg (zAdd S kd dt)).2.2.1 = (zg S).2.2.1 := congrArg (fun x => x.2.1) e
  have ej : ∀ j k, j ≠ 3 → j ≠ 7 → (zg (zAdd S kd dt)).1 j k = (pAdd (zg S) kd dt (zAr S) S.2.1).1 j k := fun j k h3 h7 => pLink_j h3 h7
  refine ⟨by rw [e2]; omega, ⟨fun k => ?_, fun k => ?_, fun k => ?_, fun k => ?_, by rw [e1]; exact d5, by rw [e3]; exact d6⟩, by rw [e1]; exact b3, by rw [e1]; exact b4, b5, by rw [e3]; exact b6⟩
  · rw [ej 6 k (by decide) (by decide), pAdd_at]
    split
    · rw [if_neg (by decide), if_neg (by decide), if_neg (by decide), if_neg (by decide), if_neg (by decide), if_neg (by decide), if_pos rfl]
      omega
    · exact d1 k
  · rw [ej 5 k (by decide) (by decide), pAdd_at]
    split
    · rw [if_neg (by decide), if_neg (by decide), if_neg (by decide), if_neg (by decide), if_neg (by decide), if_pos rfl]
      omega
    · exact d2 k
  · rw [ej 2 k (by decide) (by decide), pAdd_at]
    split
    · rw [if_neg (by decide), if_neg (by decide), if_pos rfl]
      omega
    · exact d3 k
  · rw [ej 1 k (by decide) (by decide), pAdd_at]
    split
    · rw [if_neg (by decide), if_pos rfl]
      exact hdt
    · exact d4 k
theorem cs_add (h : CRs K M0 M tp n S) (hR : ReaderAt K 5) (hd : 3 ≤ d) (h40 : zsz S < 40) (h150 : S.1 ≤ 150) {kd dt : Int} (hdt : -1000 ≤ dt ∧ dt ≤ 1000) {Q : Int → ZMem → Prop} (q : ∀ M', CRs K M0 M' tp n (zAdd S kd dt) → Q (zsz S) M') : Ci d q5_addStatement [zr 5, zi kd, zi dt] M Q := by
  obtain ⟨d, rfl⟩ : ∃ e, d = e + 1 := ⟨d - 1, by omega⟩
  have e5 := h.2.1
  have hpi := h.pi
  have ho := hpi.2.2.2.2.1
  have hA : ProgramAt K 8 := hR.2.2.2.2.2.2.2.2
  have eg := h.2.2.2.2.2.2.1
  have esz : (gG M 8).2.2.2 = zsz S := by rw [eg]; rfl
  have hpi' := zAdd_pi hpi h40 h150 (kd := kd) hdt
  -- from the statement added on
  have fin : ∀ (M1 : ZMem) (ar : Int), ar = zAr S → KW K M1 → Fr (fun q => q = 8 ∨ bk (8 + 1) 7 q) M M1 → gG M1 8 = pAdd (gG M 8) kd dt ar S.2.1 →
      KW K M1 ∧ ((mI M1 5 5 < 0 → Cv d q4_linkFirst [zr 8, zi ar, zi (zsz S)] M1 (fun M5 => KW K M5 ∧ Cv d q5_setBefore [zr 5, zi (zsz S)] M5 (fun M8 => KW K M8 ∧ Q (zsz S) (sI M8 5 6 0)))) ∧ (¬ mI M1 5 5 < 0 → (7 ≤ mI M1 5 5 → Cv d q4_linkFirst [zr 8, zi ar, zi (zsz S)] M1 (fun M5 => KW K M5 ∧ Cv d q5_setBefore [zr 5, zi (zsz S)] M5 (fun M8 => KW K M8 ∧ Q (zsz S) (sI M8 5 6 0)))) ∧ (¬ 7 ≤ mI M1 5 5 → 0 ≤ mI M1 5 5 ∧ mI M1 5 5 < 7 ∧ (mI M1 7 (mI M1 5 5).toNat ≠ -1 → Cv d q4_linkBehind [zr 8, zi (mI M1 7 (mI M1 5 5).toNat), zi (zsz S)] M1 (fun M5 => KW K M5 ∧ Cv d q5_setBefore [zr 5, zi (zsz S)] M5 (fun M8 => KW K M8 ∧ Q (zsz S) (sI M8 5 6 0)))) ∧ (¬ mI M1 7 (mI M1 5 5).toNat ≠ -1 → Cv d q4_linkFirst [zr 8, zi ar, zi (zsz S)] M1 (fun M5 => KW K M5 ∧ Cv d q5_setBefore [zr 5, zi (zsz S)] M5 (fun M8 => KW K M8 ∧ Q (zsz S) (sI M8 5 6 0))))))) := fun M1 ar har k1 f1 g1 => by
    have f1' : Fr (fun q => 8 ≤ q ∧ q < 25) M M1 := f1.wide fun q hq => by unfold bk at hq; omega
    have r5 : mI M1 5 5 = (S.2.1 : Int) := by rw [f1'.i (by omega)]; exact e5
    have r7 : mI M1 7 S.2.1 = S.2.2.2.1 S.2.1 := by rw [f1'.i (by omega)]; exact h.2.2.2.1 _ (by omega)
    have last : ∀ M5, KW K M5 → fd 8 M1 M5 → gG M5 8 = zLnk (gG M1 8) ar (S.2.2.2.1 S.2.1) (zsz S) → KW K M5 ∧ Cv d q5_setBefore [zr 5, zi (zsz S)] M5 (fun M8 => KW K M8 ∧ Q (zsz S) (sI M8 5 6 0)) := fun M5 k5 f5 g5 => by
      have f5' : Fr (fun q => 8 ≤ q ∧ q < 25) M M5 := f1'.trans (f5.wide fun q hq => by unfold bk at hq; omega)
      have e6 : gG M5 8 = zg (zAdd S kd dt) := by rw [g5, g1, eg, har]; rfl
      have c5 := h.draft k5 f5' e6 hpi'
      refine ⟨k5, cs_before c5 hR fun M8 c8 => ⟨c8.1.1, q _ ?_⟩⟩
      exact c8.due (x := 0)
    have hp6 : ∀ k, 0 ≤ (gG M1 8).1 6 k ∧ (gG M1 8).1 6 k ≤ 6 := fun k => by
      have := hpi'.2.1.1 k
      have e7 : (zg (zAdd S kd dt)).1 6 k = (gG M1 8).1 6 k := by rw [g1, eg, har]; exact pLink_6
      rw [e7] at this; exact this
    rw [r5, Int.toNat_natCast, r7]
    refine ⟨k1, fun c => absurd c (by omega), fun _ => ⟨fun c => absurd c (by omega), fun _ => ⟨by omega, by omega, fun c => ?_, fun c => ?_⟩⟩⟩
    · refine s_linkB (by omega) k1 hA fun M5 k5 f5 g5 => last M5 k5 f5 ?_
      rw [g5]; unfold zLnk; rw [if_neg c]
    · refine s_linkF (by omega) k1 hA hp6 fun M5 k5 f5 g5 => last M5 k5 f5 ?_
      rw [g5]; unfold zLnk; rw [if_pos (Decidable.not_not.mp c)]
  refine B5_addStatement kd dt h.1.1 hR ⟨fun c => ?_, fun c => ⟨fun c2 => absurd c2 (by omega), fun c2 => ?_⟩⟩
  · have har : zAr S = -1 := by unfold zAr; rw [if_neg (by omega)]
    rw [e5]
    refine s_padd h.1.1 hA (by rw [esz]; exact hpi.1.1) (by rw [esz]; exact h40) fun M1 k1 f1 _ g1 => ?_
    rw [esz]
    exact fin M1 (-1) har.symm k1 f1 g1
  · have har : zAr S = mI M 6 (mI M 5 5 - 1).toNat := by
      unfold zAr
      rw [if_pos (by omega), e5, show ((S.2.1 : Int) - 1).toNat = S.2.1 - 1 by omega]
      exact (h.2.2.1 _ (by omega)).symm
    refine ⟨⟨by omega, by omega⟩, by omega, by omega, ?_⟩
    rw [← har, e5]
    refine s_padd h.1.1 hA (by rw [esz]; exact hpi.1.1) (by rw [esz]; exact h40) fun M1 k1 f1 _ g1 => ?_
    rw [esz]
    exact fin M1 (zAr S) rfl k1 f1 g1
end AUTOM
