/-! what is seen of the memory: ways, points; what stays; the specs of the small classes -/
theorem Ci.mono {d : Nat} {μ : ZMeth} {args : List ZV} {M : ZMem} {Q Q' : Int → ZMem → Prop} (h : Ci d μ args M Q) (f : ∀ x M', Q x M' → Q' x M') : Ci d μ args M Q' := by
  obtain ⟨x, M1, k, q⟩ := h
  exact ⟨x, M1, k, f _ _ q⟩
theorem Cq.mono {d : Nat} {μ : ZMeth} {args : List ZV} {M : ZMem} {Q Q' : Nat → ZMem → Prop} (h : Cq d μ args M Q) (f : ∀ x M', Q x M' → Q' x M') : Cq d μ args M Q' := by
  obtain ⟨x, M1, k, q⟩ := h
  exact ⟨x, M1, k, f _ _ q⟩
theorem Cv.mono {d : Nat} {μ : ZMeth} {args : List ZV} {M : ZMem} {Q Q' : ZMem → Prop} (h : Cv d μ args M Q) (f : ∀ M', Q M' → Q' M') : Cv d μ args M Q' := by
  obtain ⟨M1, k, q⟩ := h
  exact ⟨M1, k, f _ q⟩
theorem Ci.pure {d : Nat} {μ : ZMeth} {args : List ZV} {M : ZMem} {e : Int} {Q : Int → ZMem → Prop} (h : Ci d μ args M (fun x M' => x = e ∧ M' = M)) (k : Q e M) : Ci d μ args M Q := h.mono fun _ _ q => by rw [q.1, q.2]; exact k
theorem Cq.pure {d : Nat} {μ : ZMeth} {args : List ZV} {M : ZMem} {e : Nat} {Q : Nat → ZMem → Prop} (h : Cq d μ args M (fun x M' => x = e ∧ M' = M)) (k : Q e M) : Cq d μ args M Q := h.mono fun _ _ q => by rw [q.1, q.2]; exact k
def Fr (X : Nat → Prop) (M M' : ZMem) : Prop := ∀ a, ¬ X a → M'.1 a = M.1 a ∧ M'.2.1 a = M.2.1 a
theorem Fr.refl {X : Nat → Prop} {M : ZMem} : Fr X M M := fun _ _ => ⟨rfl, rfl⟩
theorem Fr.trans {X : Nat → Prop} {M M1 M2 : ZMem} (h : Fr X M M1) (g : Fr X M1 M2) : Fr X M M2 := fun a ha => ⟨(g a ha).1.trans (h a ha).1, (g a ha).2.trans (h a ha).2⟩
theorem Fr.wide {X Y : Nat → Prop} {M M1 : ZMem} (h : Fr X M M1) (s : ∀ a, X a → Y a) : Fr Y M M1 := fun a ha => h a fun q => ha (s a q)
theorem Fr.sI {X : Nat → Prop} {M M1 : ZMem} (h : Fr X M M1) {o k : Nat} {x : Int} (ho : X o) : Fr X M (sI M1 o k x) := fun a ha => by
  refine ⟨?_, (h a ha).2⟩
  rw [← (h a ha).1]
  funext j
  exact if_neg fun q => ha (by rw [q.1]; exact ho)
theorem Fr.sA {X : Nat → Prop} {M M1 : ZMem} (h : Fr X M M1) {o : Nat} {f : Nat → Int} (ho : X o) : Fr X M (sA M1 o f) := fun a ha => by
  refine ⟨?_, (h a ha).2⟩
  rw [← (h a ha).1]
  exact if_neg fun q => ha (by rw [q]; exact ho)
theorem Fr.sR {X : Nat → Prop} {M M1 : ZMem} (h : Fr X M M1) {o k r : Nat} (ho : X o) : Fr X M (sR M1 o k r) := fun a ha => by
  refine ⟨(h a ha).1, ?_⟩
  rw [← (h a ha).2]
  funext j
  exact if_neg fun q => ha (by rw [q.1]; exact ho)
theorem Fr.i {X : Nat → Prop} {M M1 : ZMem} (h : Fr X M M1) {a : Nat} (ha : ¬ X a) (k : Nat) : mI M1 a k = mI M a k := congrFun (h a ha).1 k
theorem Fr.r {X : Nat → Prop} {M M1 : ZMem} (h : Fr X M M1) {a : Nat} (ha : ¬ X a) (k : Nat) : mR M1 a k = mR M a k := congrFun (h a ha).2 k
def bk (o n : Nat) (a : Nat) : Prop := o ≤ a ∧ a < o + n
def tq (a n : Nat) (f : Nat → Int) : Nat → Int := fun k => if a ≤ k ∧ k < n then f k else 0
theorem tq_at {a n k : Nat} {f : Nat → Int} (h1 : a ≤ k) (h2 : k < n) : tq a n f k = f k := if_pos ⟨h1, h2⟩
theorem tq_congr {a n : Nat} {f g : Nat → Int} (h : ∀ k, a ≤ k → k < n → f k = g k) : tq a n f = tq a n g := by
  funext k
  show (if a ≤ k ∧ k < n then f k else 0) = if a ≤ k ∧ k < n then g k else 0
  by_cases q : a ≤ k ∧ k < n
  · rw [if_pos q, if_pos q]; exact h k q.1 q.2
  · rw [if_neg q, if_neg q]
def fup {α : Type} (f : Nat → α) (k : Nat) (x : α) : Nat → α := fun j => if j = k then x else f j
theorem fup_self {α : Type} {f : Nat → α} {k : Nat} {x : α} : fup f k x k = x := if_pos rfl
theorem fup_ne {α : Type} {f : Nat → α} {k j : Nat} {x : α} (h : j ≠ k) : fup f k x j = f j := if_neg h
theorem tq_fup {a n k : Nat} {f g : Nat → Int} {x : Int} (h1 : a ≤ k) (h2 : k < n) (h : ∀ j, g j = if j = k then x else f j) : tq a n g = fup (tq a n f) k x := by
  funext j
  show (if a ≤ j ∧ j < n then g j else 0) = if j = k then x else if a ≤ j ∧ j < n then f j else 0
  rw [h j]
  by_cases q : j = k
  · subst q; rw [if_pos ⟨h1, h2⟩, if_pos rfl, if_pos rfl]
  · rw [if_neg q, if_neg q]
theorem tq_out {a n k : Nat} {f g : Nat → Int} {x : Int} (h0 : ¬ (a ≤ k ∧ k < n)) (h : ∀ j, g j = if j = k then x else f j) : tq a n g = tq a n f := tq_congr fun j h1 h2 => by rw [h j, if_neg fun q => h0 (by rw [← q]; exact ⟨h1, h2⟩)]
/-- bits of a word -/
def zBit (c : Int) (i : Nat) : Bool := (Int32.ofInt c).toBitVec.getLsbD i
/-- a way: at 3, within 4, depth 5, turns 6; values; marks; rounds; what it came through -/
abbrev Wy : Type := (Nat → Int) × (Nat → Int) × (Nat → Int) × (Nat → Int) × (Nat → Bool)
def gW (M : ZMem) (o : Nat) : Wy := (tq 3 7 (mI M o), tq 0 8 (mI M (o + 1)), tq 0 7 (mI M (o + 2)), tq 0 7 (mI M (o + 3)), zBit (mI M o 7))
theorem gW_eq {M M' : ZMem} {o a : Nat} (h0 : ∀ k, 3 ≤ k → k < 8 → mI M' o k = mI M a k) (h1 : ∀ k, k < 8 → mI M' (o + 1) k = mI M (a + 1) k) (h2 : ∀ k, k < 7 → mI M' (o + 2) k = mI M (a + 2) k) (h3 : ∀ k, k < 7 → mI M' (o + 3) k = mI M (a + 3) k) : gW M' o = gW M a := by
  show (_, _, _, _, _) = (_, _, _, _, _)
  rw [tq_congr (f := mI M' o) fun k p q => h0 k p (by omega), tq_congr (f := mI M' (o + 1)) fun k _ q => h1 k q, tq_congr (f := mI M' (o + 2)) fun k _ q => h2 k q, tq_congr (f := mI M' (o + 3)) fun k _ q => h3 k q, h0 7 (by omega) (by omega)]
theorem gW_fr {X : Nat → Prop} {M M' : ZMem} {o : Nat} (h : Fr X M M') (hx : ∀ j, j < 4 → ¬ X (o + j)) : gW M' o = gW M o :=
  gW_eq (fun k _ _ => h.i (hx 0 (by omega)) k) (fun k _ => h.i (hx 1 (by omega)) k) (fun k _ => h.i (hx 2 (by omega)) k) (fun k _ => h.i (hx 3 (by omega)) k)
theorem gW_f {M : ZMem} {o k : Nat} {x : Int} (h1 : 3 ≤ k) (h2 : k < 7) : gW (sI M o k x) o = (fup (gW M o).1 k x, (gW M o).2) := by
  have e0 : tq 3 7 (mI (sI M o k x) o) = fup (tq 3 7 (mI M o)) k x := tq_fup h1 h2 fun j => by rw [mI_sI]; by_cases q : j = k <;> simp [q]
  have e7 : mI (sI M o k x) o 7 = mI M o 7 := by rw [mI_sI, if_neg (by omega)]
  have e (j : Nat) (hj : j ≠ 0) : mI (sI M o k x) (o + j) = mI M (o + j) := by funext i; rw [mI_sI, if_neg (by omega)]
  show (_, _, _, _, _) = (_, _, _, _, _)
  rw [e0, e7, e 1 (by omega), e 2 (by omega), e 3 (by omega)]
  rfl
theorem gW_c {M : ZMem} {o : Nat} {x : Int} : gW (sI M o 7 x) o = ((gW M o).1, (gW M o).2.1, (gW M o).2.2.1, (gW M o).2.2.2.1, zBit x) := by
  have e0 : tq 3 7 (mI (sI M o 7 x) o) = tq 3 7 (mI M o) := tq_out (k := 7) (x := x) (by omega) fun j => by rw [mI_sI]; by_cases q : j = 7 <;> simp [q]
  have e7 : mI (sI M o 7 x) o 7 = x := by rw [mI_sI, if_pos ⟨rfl, rfl⟩]
  have e (j : Nat) (hj : j ≠ 0) : mI (sI M o 7 x) (o + j) = mI M (o + j) := by funext i; rw [mI_sI, if_neg (by omega)]
  show (_, _, _, _, _) = (_, _, _, _, _)
  rw [e0, e7, e 1 (by omega), e 2 (by omega), e 3 (by omega)]
  rfl
theorem gW_v {M : ZMem} {o k : Nat} {x : Int} (h2 : k < 8) : gW (sI M (o + 1) k x) o = ((gW M o).1, fup (gW M o).2.1 k x, (gW M o).2.2) := by
  have e0 : tq 0 8 (mI (sI M (o + 1) k x) (o + 1)) = fup (tq 0 8 (mI M (o + 1))) k x := tq_fup (by omega) h2 fun j => by rw [mI_sI]; by_cases q : j = k <;> simp [q]
  have e (j : Nat) (hj : j ≠ 1) : mI (sI M (o + 1) k x) (o + j) = mI M (o + j) := by funext i; rw [mI_sI, if_neg (by omega)]
  have e1 : mI (sI M (o + 1) k x) o = mI M o := e 0 (by omega)
  show (_, _, _, _, _) = (_, _, _, _, _)
  rw [e0, e1, e 2 (by omega), e 3 (by omega)]
  rfl
theorem gW_m {M : ZMem} {o k : Nat} {x : Int} (h2 : k < 7) : gW (sI M (o + 2) k x) o = ((gW M o).1, (gW M o).2.1, fup (gW M o).2.2.1 k x, (gW M o).2.2.2) := by
  have e0 : tq 0 7 (mI (sI M (o + 2) k x) (o + 2)) = fup (tq 0 7 (mI M (o + 2))) k x := tq_fup (by omega) h2 fun j => by rw [mI_sI]; by_cases q : j = k <;> simp [q]
  have e (j : Nat) (hj : j ≠ 2) : mI (sI M (o + 2) k x) (o + j) = mI M (o + j) := by funext i; rw [mI_sI, if_neg (by omega)]
  have e1 : mI (sI M (o + 2) k x) o = mI M o := e 0 (by omega)
  show (_, _, _, _, _) = (_, _, _, _, _)
  rw [e0, e1, e 1 (by omega), e 3 (by omega)]
  rfl
theorem gW_r {M : ZMem} {o k : Nat} {x : Int} (h2 : k < 7) : gW (sI M (o + 3) k x) o = ((gW M o).1, (gW M o).2.1, (gW M o).2.2.1, fup (gW M o).2.2.2.1 k x, (gW M o).2.2.2.2) := by
  have e0 : tq 0 7 (mI (sI M (o + 3) k x) (o + 3)) = fup (tq 0 7 (mI M (o + 3))) k x := tq_fup (by omega) h2 fun j => by rw [mI_sI]; by_cases q : j = k <;> simp [q]
  have e (j : Nat) (hj : j ≠ 3) : mI (sI M (o + 3) k x) (o + j) = mI M (o + j) := by funext i; rw [mI_sI, if_neg (by omega)]
  have e1 : mI (sI M (o + 3) k x) o = mI M o := e 0 (by omega)
  show (_, _, _, _, _) = (_, _, _, _, _)
  rw [e0, e1, e 1 (by omega), e 2 (by omega)]
  rfl
def wSetMark (w : Wy) (l : Int) : Wy := if 0 ≤ l ∧ l < 7 then (w.1, w.2.1, fup w.2.2.1 l.toNat (w.1 5), w.2.2.2) else w
def wEnter (w : Wy) (s first l : Int) : Wy := wSetMark (fup (fup w.1 4 s) 3 first, w.2) l
def wSetRounds (w : Wy) (l n : Int) : Wy := if 0 ≤ l ∧ l < 7 then (w.1, w.2.1, w.2.2.1, fup w.2.2.2.1 l.toNat n, w.2.2.2.2) else w
def wSetValue (w : Wy) (v x : Int) : Wy := if 0 ≤ v ∧ v < 8 then (w.1, fup w.2.1 v.toNat x, w.2.2) else w
def wMarkAt (w : Wy) (l : Int) : Int := if 0 ≤ l ∧ l < 7 then w.2.2.1 l.toNat else 0
def wRoundsAt (w : Wy) (l : Int) : Int := if 0 ≤ l ∧ l < 7 then w.2.2.2.1 l.toNat else 0
def wValueOf (w : Wy) (v : Int) : Int := if 0 ≤ v ∧ v < 8 then w.2.1 v.toNat else 0
def wStart (w : Wy) : Wy := wSetMark (fup (fup (fup (fup w.1 3 0) 4 (-1)) 5 0) 6 0, fun _ => 0, w.2.2.1, w.2.2.2.1, fun _ => false) 0
def unlN (f g : Nat → Int) : Nat → Int
  | 0 => 0
  | n + 1 => unlN f g n + if f n = g n then 0 else 1
theorem unlN_le (f g : Nat → Int) : ∀ n, 0 ≤ unlN f g n ∧ unlN f g n ≤ n
  | 0 => ⟨Int.le_refl 0, Int.le_refl 0⟩
  | n + 1 => by
    have h := unlN_le f g n
    show 0 ≤ unlN f g n + (if f n = g n then 0 else 1) ∧ unlN f g n + (if f n = g n then 0 else 1) ≤ ((n + 1 : Nat) : Int)
    split <;> omega
section WAY
variable {d : Nat} {K M : ZMem}
theorem s_setMark {o : Nat} {l : Int} (hK : KW K M) (h0 : WayAt K o) : Cv d q8_setMark [zr o, zi l] M (fun M' => KW K M' ∧ Fr (bk o 4) M M' ∧ gW M' o = wSetMark (gW M o) l) := by
  refine B8_setMark o l hK h0 ⟨fun c => ⟨hK, Fr.refl, ?_⟩, fun c => ⟨fun c2 => ⟨hK, Fr.refl, ?_⟩, fun c2 => ⟨by omega, by omega, hK.sI _ _ _, Fr.refl.sI ⟨by omega, by omega⟩, ?_⟩⟩⟩
  · rw [wSetMark, if_neg (by omega)]
  · rw [wSetMark, if_neg (by omega)]
  · rw [wSetMark, if_pos (by omega), gW_m (by omega)]; rfl
theorem s_setRounds {o : Nat} {l n : Int} (hK : KW K M) (h0 : WayAt K o) : Cv d q8_setRounds [zr o, zi l, zi n] M (fun M' => KW K M' ∧ Fr (bk o 4) M M' ∧ gW M' o = wSetRounds (gW M o) l n) := by
  refine B8_setRounds o l n hK h0 ⟨fun c => ⟨hK, Fr.refl, ?_⟩, fun c => ⟨fun c2 => ⟨hK, Fr.refl, ?_⟩, fun c2 => ⟨by omega, by omega, hK.sI _ _ _, Fr.refl.sI ⟨by omega, by omega⟩, ?_⟩⟩⟩
  · rw [wSetRounds, if_neg (by omega)]
  · rw [wSetRounds, if_neg (by omega)]
  · rw [wSetRounds, if_pos (by omega), gW_r (by omega)]
theorem s_setValue {o : Nat} {l n : Int} (hK : KW K M) (h0 : WayAt K o) : Cv d q8_setValue [zr o, zi l, zi n] M (fun M' => KW K M' ∧ Fr (bk o 4) M M' ∧ gW M' o = wSetValue (gW M o) l n) := by
  refine B8_setValue o l n hK h0 ⟨fun c => ⟨hK, Fr.refl, ?_⟩, fun c => ⟨fun c2 => ⟨hK, Fr.refl, ?_⟩, fun c2 => ⟨by omega, by omega, hK.sI _ _ _, Fr.refl.sI ⟨by omega, by omega⟩, ?_⟩⟩⟩
  · rw [wSetValue, if_neg (by omega)]
  · rw [wSetValue, if_neg (by omega)]
  · rw [wSetValue, if_pos (by omega), gW_v (by omega)]
theorem s_markAt {o : Nat} {l : Int} (hK : KW K M) (h0 : WayAt K o) : Ci d q8_markAt [zr o, zi l] M (fun x M' => x = wMarkAt (gW M o) l ∧ M' = M) := by
  refine B8_markAt o l hK h0 ⟨fun c => ⟨?_, rfl⟩, fun c => ⟨fun c2 => ⟨?_, rfl⟩, fun c2 => ⟨by omega, by omega, ?_, rfl⟩⟩⟩
  · rw [wMarkAt, if_neg (by omega)]
  · rw [wMarkAt, if_neg (by omega)]
  · rw [wMarkAt, if_pos (by omega)]; exact (tq_at (by omega) (by omega)).symm
theorem s_roundsAt {o : Nat} {l : Int} (hK : KW K M) (h0 : WayAt K o) : Ci d q8_roundsAt [zr o, zi l] M (fun x M' => x = wRoundsAt (gW M o) l ∧ M' = M) := by
  refine B8_roundsAt o l hK h0 ⟨fun c => ⟨?_, rfl⟩, fun c => ⟨fun c2 => ⟨?_, rfl⟩, fun c2 => ⟨by omega, by omega, ?_, rfl⟩⟩⟩
  · rw [wRoundsAt, if_neg (by omega)]
  · rw [wRoundsAt, if_neg (by omega)]
  · rw [wRoundsAt, if_pos (by omega)]; exact (tq_at (by omega) (by omega)).symm
theorem s_valueOf {o : Nat} {l : Int} (hK : KW K M) (h0 : WayAt K o) : Ci d q8_valueOf [zr o, zi l] M (fun x M' => x = wValueOf (gW M o) l ∧ M' = M) := by
  refine B8_valueOf o l hK h0 ⟨fun c => ⟨?_, rfl⟩, fun c => ⟨fun c2 => ⟨?_, rfl⟩, fun c2 => ⟨by omega, by omega, ?_, rfl⟩⟩⟩
  · rw [wValueOf, if_neg (by omega)]
  · rw [wValueOf, if_neg (by omega)]
  · rw [wValueOf, if_pos (by omega)]; exact (tq_at (by omega) (by omega)).symm
theorem s_enter {o : Nat} {s f l : Int} (hd : 1 ≤ d) (hK : KW K M) (h0 : WayAt K o) : Cv d q8_enter [zr o, zi s, zi f, zi l] M (fun M' => KW K M' ∧ Fr (bk o 4) M M' ∧ gW M' o = wEnter (gW M o) s f l) := by
  obtain ⟨d, rfl⟩ : ∃ e, d = e + 1 := ⟨d - 1, by omega⟩
  refine B8_enter o s f l hK h0 ((s_setMark ((hK.sI _ _ _).sI _ _ _) h0).mono fun M' q => ⟨q.1, q.1, ?_, ?_⟩)
  · exact ((Fr.refl.sI ⟨by omega, by omega⟩).sI ⟨by omega, by omega⟩).trans q.2.1
  · rw [q.2.2, gW_f (by omega) (by omega), gW_f (by omega) (by omega)]; rfl
theorem s_wbecome {o a : Nat} (hoa : o + 4 ≤ a ∨ a + 4 ≤ o) (hK : KW K M) (h0 : WayAt K o) (h1 : WayAt K a) : Cv d q8_become [zr o, zr a] M (fun M' => KW K M' ∧ Fr (bk o 4) M M' ∧ gW M' o = gW M a) := by
  have n0 : ¬ a = o := by omega
  have n1 (i : Nat) (h : i < 4) : ¬ a = o + i := by omega
  have n2 (i : Nat) (h : i < 4) : ¬ a + i = o := by omega
  have n3 (i j : Nat) (h : i < 4) (g : j < 4) : ¬ a + i = o + j := by omega
  have r1 := n1 1 (by omega)
  have r2 := n1 2 (by omega)
  have r3 := n1 3 (by omega)
  have t1 := n2 1 (by omega)
  have t2 := n2 2 (by omega)
  have t3 := n2 3 (by omega)
  have u12 := n3 2 1 (by omega) (by omega)
  have u13 := n3 3 1 (by omega) (by omega)
  have u23 := n3 3 2 (by omega) (by omega)
  refine B8_become o a hK h0 h1 ⟨hK, ?_, gW_eq (fun k p q => ?_) (fun k q => ?_) (fun k q => ?_) (fun k q => ?_)⟩
  · exact (((((((((Fr.refl.sA ⟨by omega, by omega⟩).sA ⟨by omega, by omega⟩).sA ⟨by omega, by omega⟩).sI ⟨by omega, by omega⟩).sI ⟨by omega, by omega⟩).sI ⟨by omega, by omega⟩).sI ⟨by omega, by omega⟩).sI ⟨by omega, by omega⟩))
  · obtain rfl | rfl | rfl | rfl | rfl : k = 3 ∨ k = 4 ∨ k = 5 ∨ k = 6 ∨ k = 7 := by omega
    all_goals simp [mI_sI, mI_sA, n0, r1, r2, r3]
  · simp [mI_sI, mI_sA, zCpy, q]
  · simp [mI_sI, mI_sA, zCpy, q, n0, r1, u12, t2]
  · simp [mI_sI, mI_sA, zCpy, q, n0, r1, u12, u13, u23, t3]
end WAY
