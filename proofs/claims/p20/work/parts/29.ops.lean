/-! the small methods of a search, by what they do to what is seen of it -/
theorem SrK.way {K : ZMem} {o i : Nat} (h : SrK K o) (hi : i < 7) : mR K (o + 396) i = o + 397 + 4 * i ∧ WayAt K (o + 397 + 4 * i) := h.1.2.2.2.2.2.2.2.2.2.2.2.2.2.2.2 i hi
theorem SrK.prog {K : ZMem} {o : Nat} (h : SrK K o) : ProgramAt K (o + 1) := h.1.2.2.2.2.2.2.2.2.2.2.2.1
theorem SrK.form {K : ZMem} {o : Nat} (h : SrK K o) : FormulasAt K (o + 10) := h.prog.2.2.2.2.2.2.2.2.2.2.2.2.2.2.2.2.2.2.2.1
theorem SrK.ans {K : ZMem} {o : Nat} (h : SrK K o) : AnswersAt K (o + 18) := h.1.2.2.2.2.2.2.2.2.2.2.2.2.1
def wB (w : Wy) : Prop := (∀ v, isV (w.2.1 v)) ∧ (0 ≤ w.1 5 ∧ w.1 5 ≤ 100000000) ∧ (0 ≤ w.1 6 ∧ w.1 6 ≤ 100000000) ∧ ∀ l, -10 ≤ w.2.2.2.1 l ∧ w.2.2.2.1 l ≤ 1000
def pB (P : Pg) (p : Pt) : Prop := wB p.1 ∧ (gKind P (p.1.1 3) ≠ 3 → gKind P (p.1.1 3) ≠ 5 → p.2.2 3 ≤ 6 ∧ ∀ k : Nat, (k : Int) < p.2.2 3 → isV (p.2.1 k)) ∧ (gKind P (p.1.1 3) = 3 → isV (p.2.2 2) ∧ p.2.2 2 + p.2.2 3 ≤ 1000) ∧ (0 ≤ p.2.2 3 ∧ p.2.2 3 ≤ 3000) ∧ 0 ≤ p.2.2 4 ∧ p.2.2 4 < p.2.2 3
def SB (P : Pg) (S : Sr) : Prop := (∀ i, wB (S.1 i)) ∧ (∀ p ∈ S.2.1, pB P p) ∧ (∀ p ∈ S.2.2.1, pB P p) ∧ S.2.1.length ≤ 30 ∧ S.2.2.1.length ≤ 30 ∧ (∀ k, 0 ≤ sT S k ∧ sT S k ≤ 100000000) ∧ (0 ≤ sC S 11 ∧ sC S 11 ≤ 6) ∧ (0 ≤ sC S 9 ∧ sC S 9 ≤ 100000000) ∧ (0 ≤ sC S 13 ∧ sC S 13 ≤ 2000) ∧ (0 ≤ (sQ S).2 ∧ (sQ S).2 ≤ 60) ∧ ∀ k, 1 ≤ k → k ≤ (sC S 11).toNat → 0 ≤ sB S k ∧ sB S k ≤ S.2.2.1.length
def PB (P : Pg) : Prop := FB P.2.1 ∧ FB P.2.2.1 ∧ (∀ s, 0 ≤ P.1 5 s ∧ P.1 5 s ≤ 6) ∧ (∀ s, 0 ≤ P.1 2 s ∧ P.1 2 s ≤ 150) ∧ ∀ s, -1000 ≤ P.1 1 s ∧ P.1 1 s ≤ 1000
theorem PB.level {P : Pg} (h : PB P) (s : Int) : 0 ≤ gLevel P s ∧ gLevel P s ≤ 6 := by
  unfold gLevel
  split
  · exact h.2.2.1 _
  · omega
theorem PB.form {P : Pg} (h : PB P) (s : Int) : 0 ≤ gForm P s ∧ gForm P s ≤ 150 := by
  unfold gForm
  split
  · exact h.2.2.2.1 _
  · have := h.1.2.2.2.2; omega
theorem PB.detail {P : Pg} (h : PB P) (s : Int) : -1000 ≤ gDetail P s ∧ gDetail P s ≤ 1000 := by
  unfold gDetail
  split
  · exact h.2.2.2.2 _
  · omega
def Ax (K M0 M : ZMem) (o : Nat) (P : Pg) (S : Sr) : Prop := At K M o P S ∧ Fr (bk o 427) M0 M
section OPS
variable {d : Nat} {K M0 M M' : ZMem} {o : Nat} {P : Pg} {S : Sr}
theorem Ax.kC (h : Ax K M0 M o P S) {k : Nat} {x : Int} (h1 : 7 ≤ k) (h2 : k < 14) : Ax K M0 (sI M o k x) o P (uC S k x) := ⟨h.1.kC h1 h2, h.2.sI ⟨by omega, by omega⟩⟩
theorem Ax.kT (h : Ax K M0 M o P S) {k : Nat} {x : Int} (h2 : k < 9) : Ax K M0 (sI M (o + 426) k x) o P (uT S k x) := ⟨h.1.kT h2, h.2.sI ⟨by omega, by omega⟩⟩
theorem Ax.kB (h : Ax K M0 M o P S) {k : Nat} {x : Int} (h2 : k < 7) : Ax K M0 (sI M (o + 425) k x) o P (uB S k x) := ⟨h.1.kB h2, h.2.sI ⟨by omega, by omega⟩⟩
theorem Ax.kW (h : Ax K M0 M o P S) (hK : KW K M') {i : Nat} {w : Wy} (hi : i < 7) (F : Fr (bk (o + 397 + 4 * i) 4) M M') (hw : gW M' (o + 397 + 4 * i) = w) : Ax K M0 M' o P (uW S i w) := ⟨h.1.kW hK hi F hw, h.2.trans (F.wide fun q hq => by unfold bk at *; omega)⟩
theorem Ax.kWf (h : Ax K M0 M o P S) {i k : Nat} {x : Int} (hi : i < 7) (h1 : 3 ≤ k) (h2 : k < 7) : Ax K M0 (sI M (o + 397 + 4 * i) k x) o P (uW S i (fup (S.1 i).1 k x, (S.1 i).2)) := h.kW (h.1.1.sI _ _ _) hi (Fr.refl.sI ⟨by omega, by omega⟩) (by rw [gW_f h1 h2, h.1.way hi])
theorem Ax.kA (h : Ax K M0 M o P S) (hK : KW K M') {a : An} (F : Fr (bk (o + 18) 2) M M') (ha : gA M' (o + 18) = a) : Ax K M0 M' o P (uA S a) := ⟨h.1.kA hK F ha, h.2.trans (F.wide fun q hq => by unfold bk at *; omega)⟩
theorem Ax.g (h : Ax K M0 M o P S) : gG M (o + 1) = P := h.1.2.2.2.1
theorem Ax.f (h : Ax K M0 M o P S) : gF M (o + 10) = P.2.1 := congrArg (fun P : Pg => P.2.1) h.g
theorem Ax.w3 (h : Ax K M0 M o P S) {i k : Nat} (hi : i < 7) (h1 : 3 ≤ k) (h2 : k < 7) : mI M (o + 397 + 4 * i) k = (S.1 i).1 k := by
  rw [← h.1.way hi]
  exact (tq_at h1 h2).symm
theorem Ax.vals (h : Ax K M0 M o P S) {i : Nat} (hi : i < 7) : tq 0 8 (mI M (o + 397 + 4 * i + 1)) = (S.1 i).2.1 := congrArg (fun w : Wy => w.2.1) (h.1.way hi)
theorem s_currentWay (h : Ax K M0 M o P S) (hL : SrK K o) (hn : 0 ≤ sC S 11 ∧ sC S 11 ≤ 6) : Cq d q6_currentWay [zr o] M (fun x M' => x = o + 397 + 4 * (sC S 11).toNat ∧ M' = M) := by
  have e : mI M o 11 = sC S 11 := h.1.c (by omega) (by omega)
  have er : mR M (o + 396) (sC S 11).toNat = o + 397 + 4 * (sC S 11).toNat := by
    have hs : mS K (o + 396) = (5, 7) := hL.1.2.2.2.2.2.2.2.2.1
    rw [h.1.1.2.2.2 _ _ (by rw [hs]; decide)]
    exact (hL.way (by omega)).1
  refine B6_currentWay o h.1.1 hL.1 ⟨fun c => absurd c (by omega), fun c => ⟨fun c => absurd c (by omega), fun c => ⟨by omega, by omega, ?_, rfl⟩⟩⟩
  rw [e]; exact er
theorem s_tally {k : Nat} {x : Int} {Q : ZMem → Prop} (h : Ax K M0 M o P S) (hL : SrK K o) (hk : k < 9) (hr : inR (sT S k + x)) (q : ∀ M', Ax K M0 M' o P (uT S k (sT S k + x)) → Q M') : Cv d q6_tally [zr o, zi k, zi x] M Q := by
  have e : mI M (o + 426) k = sT S k := h.1.t hk
  refine B6_tally o k x h.1.1 hL.1 ⟨fun c => absurd c (by omega), fun c => ⟨fun c => absurd c (by omega), fun c => ⟨by omega, by omega, ?_, by omega, by omega, ?_⟩⟩⟩
  · rw [Int.toNat_natCast, e]; exact hr
  · rw [Int.toNat_natCast, e]; exact q _ (h.kT hk)
def xSpend (S : Sr) : Sr := uT (uC S 13 (sC S 13 - 1)) 2 (sT S 2 + 1)
theorem s_spend {Q : Int → ZMem → Prop} (hd : 1 ≤ d) (h : Ax K M0 M o P S) (hL : SrK K o) (hb : 0 ≤ sC S 13 ∧ sC S 13 ≤ 2000) (ht : 0 ≤ sT S 2 ∧ sT S 2 ≤ 100000000) (q1 : 0 < sC S 13 → ∀ M', Ax K M0 M' o P (xSpend S) → Q 1 M') (q0 : ¬ 0 < sC S 13 → Q 0 M) : Ci d q6_spend [zr o] M Q := by
  obtain ⟨d, rfl⟩ : ∃ e, d = e + 1 := ⟨d - 1, by omega⟩
  have e : mI M o 13 = sC S 13 := h.1.c (by omega) (by omega)
  refine B6_spend o h.1.1 hL.1 ⟨fun c => ?_, fun c => q0 (by rw [← e]; exact c)⟩
  rw [e] at c ⊢
  refine ⟨⟨by omega, by omega⟩, ?_⟩
  have e2 : sT (uC S 13 (sC S 13 - 1)) 2 = sT S 2 := rfl
  refine s_tally (k := 2) (h.kC (k := 13) (by omega) (by omega)) hL (by omega) ⟨by omega, by omega⟩ fun M' h' => ⟨h'.1.1, q1 c M' h'⟩
theorem s_finish {x : Int} {Q : Int → ZMem → Prop} (h : Ax K M0 M o P S) (hL : SrK K o) (q : ∀ M', Ax K M0 M' o P (uC S 7 2) → Q x M') : Ci d q6_finish [zr o, zi x] M Q :=
  B6_finish o x h.1.1 hL.1 (q _ (h.kC (by omega) (by omega)))
theorem s_endWay {Q : Int → ZMem → Prop} (h : Ax K M0 M o P S) (hL : SrK K o) (q : ∀ M', Ax K M0 M' o P (uC S 12 0) → Q 0 M') : Ci d q6_endWay [zr o] M Q :=
  B6_endWay o h.1.1 hL.1 (q _ (h.kC (by omega) (by omega)))
theorem s_baseOfNot (h : Ax K M0 M o P S) (hL : SrK K o) (hn : 0 ≤ sC S 11 ∧ sC S 11 ≤ 6) : Ci d q6_baseOfNot [zr o] M (fun x M' => x = sB S (sC S 11).toNat ∧ M' = M) := by
  have e : mI M o 11 = sC S 11 := h.1.c (by omega) (by omega)
  refine B6_baseOfNot o h.1.1 hL.1 ⟨fun c => absurd c (by omega), fun c => ⟨fun c => absurd c (by omega), fun c => ⟨by omega, by omega, ?_, rfl⟩⟩⟩
  rw [e]; exact h.1.b (by omega)
def xTell (S : Sr) (a : Int) : Int := if a = 1 then (sQ S).2 else if a = 3 then S.2.1.length else if a = 9 then (if sC S 8 = 5 then sC S 9 else -2002) else if 0 ≤ a ∧ a < 9 then sT S a.toNat else 0
theorem s_tell {a : Int} (h : Ax K M0 M o P S) (hL : SrK K o) : Ci d q6_tell [zr o, zi a] M (fun x M' => x = xTell S a ∧ M' = M) := by
  have e8 : mI M o 8 = sC S 8 := h.1.c (by omega) (by omega)
  have e9 : mI M o 9 = sC S 9 := h.1.c (by omega) (by omega)
  refine B6_tell o a h.1.1 hL.1 ⟨fun c => ⟨?_, rfl⟩, fun c => ⟨?_, rfl⟩, fun c => ⟨fun c2 => ⟨?_, rfl⟩, fun c2 => ⟨?_, rfl⟩⟩, fun c => ⟨fun c2 => ⟨?_, rfl⟩, fun c2 => ⟨fun c3 => ⟨?_, rfl⟩, fun c3 => ⟨by omega, by omega, ?_, rfl⟩⟩⟩⟩
  · rw [xTell, if_pos c, ← h.1.ans]; rfl
  · rw [xTell, if_neg (by omega), if_pos c, h.1.plen]
  · rw [xTell, if_neg (by omega), if_neg (by omega), if_pos c, if_neg (by rw [← e8]; exact c2)]
  · rw [xTell, if_neg (by omega), if_neg (by omega), if_pos c, if_pos (by rw [← e8]; exact Decidable.not_not.mp c2), e9]
  · rw [xTell, if_neg (by omega), if_neg (by omega), if_neg (by omega), if_neg (by omega)]
  · rw [xTell, if_neg (by omega), if_neg (by omega), if_neg (by omega), if_neg (by omega)]
  · rw [xTell, if_neg (by omega), if_neg (by omega), if_neg (by omega), if_pos (by omega)]; exact h.1.t (by omega)
/-- the way that stands -/
def cur (S : Sr) : Nat := (sC S 11).toNat
def xDrop (S : Sr) (since : Int) : Sr :=
  if sC S 11 ≤ 0 then uT (uW (uP S (dropN since S.2.1.length S.2.1 (S.1 (cur S)) 0).1) (cur S) (dropN since S.2.1.length S.2.1 (S.1 (cur S)) 0).2.1) 7 (sT S 7 + (dropN since S.2.1.length S.2.1 (S.1 (cur S)) 0).2.2)
  else uW (uN S (dropN since S.2.2.1.length S.2.2.1 (S.1 (cur S)) 0).1) (cur S) (dropN since S.2.2.1.length S.2.2.1 (S.1 (cur S)) 0).2.1
theorem dropN_g (since : Int) : ∀ (n : Nat) (l : List Pt) (w : Wy) (g : Int), g ≤ (dropN since n l w g).2.2 ∧ (dropN since n l w g).2.2 ≤ g + n
  | 0, l, w, g => ⟨Int.le_refl _, by show g ≤ g + 0; omega⟩
  | n + 1, l, w, g => by
    rw [dropN]
    split
    · have := dropN_g since n (rmL l n) (wWithout w n) (g + 1); omega
    · have := dropN_g since n l w g; omega
theorem s_sdrop {since : Int} {Q : ZMem → Prop} (hd : 3 ≤ d) (h : Ax K M0 M o P S) (hL : SrK K o) (hS : SB P S) (q : ∀ M', Ax K M0 M' o P (xDrop S since) → Q M') : Cv d q6_drop [zr o, zr (o + 397 + 4 * cur S), zi since] M Q := by
  obtain ⟨d, rfl⟩ : ∃ e, d = e + 1 := ⟨d - 1, by omega⟩
  have e : mI M o 11 = sC S 11 := h.1.c (by omega) (by omega)
  have hn := hS.2.2.2.2.2.2.1
  have hi : cur S < 7 := by unfold cur; omega
  refine B6_drop o _ since h.1.1 hL.1 (hL.way hi).2 ⟨fun c => ?_, fun c => ?_⟩
  · refine (s_drop (by omega) (by omega) h.1.1 hL.2.1 (hL.way hi).2 h.1.2.1).mono fun x M1 ⟨k1, f1, o1, r1⟩ => ⟨k1, ?_⟩
    rw [h.1.pts, h.1.way hi] at r1
    have g := dropN_g since S.2.1.length S.2.1 (S.1 (cur S)) 0
    have hl := hS.2.2.2.1
    have ht := hS.2.2.2.2.2.1 7
    have a1 : Ax K M0 M1 o P (uW (uP S (dropN since S.2.1.length S.2.1 (S.1 (cur S)) 0).1) (cur S) (dropN since S.2.1.length S.2.1 (S.1 (cur S)) 0).2.1) :=
      ⟨h.1.kPW k1 hi f1 o1 (congrArg Prod.fst r1) (congrArg (fun r => r.2.1) r1), h.2.trans (f1.wide fun q hq => by unfold two bk at *; omega)⟩
    have ex : x = (dropN since S.2.1.length S.2.1 (S.1 (cur S)) 0).2.2 := congrArg (fun r : List Pt × Wy × Int => r.2.2) r1
    refine s_tally (k := 7) a1 hL (by omega) (show inR (sT S 7 + x) from ⟨by omega, by omega⟩) fun M2 a2 => ⟨a2.1.1, q M2 ?_⟩
    rw [xDrop, if_pos (by rw [← e]; exact c), ← ex]
    exact a2
  · refine (s_drop (by omega) (by omega) h.1.1 hL.2.2 (hL.way hi).2 h.1.2.2.1).mono fun x M1 ⟨k1, f1, o1, r1⟩ => ⟨k1, q M1 ?_⟩
    rw [h.1.inn, h.1.way hi] at r1
    rw [xDrop, if_neg (by rw [← e]; exact c)]
    exact ⟨h.1.kNW k1 hi f1 o1 (congrArg Prod.fst r1) (congrArg (fun r => r.2.1) r1), h.2.trans (f1.wide fun q hq => by unfold two bk at *; omega)⟩
def xStartWay (S : Sr) : Sr := uW (uC (uN (uC (uC S 10 0) 11 0) []) 12 1) 0 (wStart (S.1 0))
theorem s_startWay {Q : ZMem → Prop} (hd : 2 ≤ d) (h : Ax K M0 M o P S) (hL : SrK K o) (q : ∀ M', Ax K M0 M' o P (xStartWay S) → Q M') : Cv d q6_startWay [zr o] M Q := by
  obtain ⟨d, rfl⟩ : ∃ e, d = e + 1 := ⟨d - 1, by omega⟩
  have a1 := (h.kC (k := 10) (x := 0) (by omega) (by omega)).kC (k := 11) (x := 0) (by omega) (by omega)
  have a2 : Ax K M0 (sI (sI (sI M o 10 0) o 11 0) (o + 208) 1 0) o P (uN (uC (uC S 10 0) 11 0) []) := by
    refine ⟨a1.1.kN (a1.1.1.sI _ _ _) (Fr.refl.sI ⟨by omega, by omega⟩) (a1.1.2.2.1.size (by omega) (by omega)) ?_, a1.2.sI ⟨by omega, by omega⟩⟩
    rw [gL_take a1.1.2.2.1 a1.1.2.2.1.1]; rfl
  have a3 := a2.kC (k := 12) (x := 1) (by omega) (by omega)
  refine B6_startWay o h.1.1 hL.1 ((s_currentWay a3 hL (by show 0 ≤ (0 : Int) ∧ (0 : Int) ≤ 6; omega)).pure ⟨a3.1.1, (hL.way (i := 0) (by omega)).2, ?_⟩)
  refine (s_wstart (by omega) a3.1.1 (hL.way (i := 0) (by omega)).2).mono fun M1 ⟨k1, f1, w1⟩ => ⟨k1, q M1 ?_⟩
  refine a3.kW k1 (by omega) f1 ?_
  rw [w1]
  exact congrArg wStart (a3.1.way (by omega))
end OPS
