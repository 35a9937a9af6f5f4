/-! a way's begin, how two ways differ; points: copies, rows, what goes -/
theorem zBit_0 (i : Nat) : zBit 0 i = false := by
  show (Int32.ofInt 0).toBitVec.getLsbD i = false
  have : (Int32.ofInt 0).toBitVec = 0#32 := by decide
  rw [this]
  exact BitVec.getLsbD_zero
section WAY2
variable {d : Nat} {K : ZMem}
theorem s_wstart_loop {o : Nat} {w : Wy} {M0 : ZMem} {Q : ZMem → Prop} (h0 : WayAt K o) (fin : ∀ M, KW K M → Fr (bk o 4) M0 M → gW M o = wStart w → Q M) : ∀ (j n : Nat) (M : ZMem), n + j = 8 → KW K M → Fr (bk o 4) M0 M → (gW M o).1 = w.1 → (gW M o).2.2.1 = w.2.2.1 → (gW M o).2.2.2.1 = w.2.2.2.1 → (∀ k, k < n → mI M (o + 1) k = 0) → Xv (d + 1) q8_start 2 [some (zr o), some (zi n)] [] M Q
  | 0, n, M, e, hK, hF, h1, h2, h3, h4 => by
    obtain rfl : n = 8 := by omega
    refine B8_start_2 o (8 : Nat) hK h0 ⟨fun _ => ?_, fun c => absurd (by decide) c⟩
    refine (s_setMark (l := 0) (M := sI (sI (sI (sI (sI M o 3 0) o 4 (-1)) o 5 0) o 6 0) o 7 0) hK h0).mono fun M' q => ⟨q.1, fin M' q.1 ?_ ?_⟩
    · exact (((((hF.sI ⟨by omega, by omega⟩).sI ⟨by omega, by omega⟩).sI ⟨by omega, by omega⟩).sI ⟨by omega, by omega⟩).sI ⟨by omega, by omega⟩).trans q.2.1
    · rw [q.2.2, gW_c, gW_f (by omega) (by omega), gW_f (by omega) (by omega), gW_f (by omega) (by omega), gW_f (by omega) (by omega), wStart, h1]
      have e1 : (gW M o).2.1 = fun _ => 0 := by
        funext k
        show (if 0 ≤ k ∧ k < 8 then mI M (o + 1) k else 0) = 0
        split
        · exact h4 k (by omega)
        · rfl
      have e2 : zBit 0 = fun _ => false := funext zBit_0
      rw [e2]
      show wSetMark (_, (gW M o).2.1, (gW M o).2.2.1, (gW M o).2.2.2.1, _) 0 = _
      rw [e1, h2, h3]
  | j + 1, n, M, e, hK, hF, h1, h2, h3, h4 => by
    refine B8_start_2 o (n : Int) hK h0 ⟨fun c => absurd c (by omega), fun c => ⟨by omega, by omega, ⟨by omega, by omega⟩, ?_⟩⟩
    rw [Int.toNat_natCast]
    refine s_wstart_loop h0 fin j (n + 1) (sI M (o + 1) n 0) (by omega) hK (hF.sI ⟨by omega, by omega⟩) ?_ ?_ ?_ fun k hk => ?_
    · rw [gW_v (by omega)]; exact h1
    · rw [gW_v (by omega)]; exact h2
    · rw [gW_v (by omega)]; exact h3
    · rw [mI_sI]
      split
      · rfl
      · exact h4 k (by omega)
theorem s_wstart {M : ZMem} {o : Nat} (hd : 1 ≤ d) (hK : KW K M) (h0 : WayAt K o) : Cv d q8_start [zr o] M (fun M' => KW K M' ∧ Fr (bk o 4) M M' ∧ gW M' o = wStart (gW M o)) := by
  obtain ⟨d, rfl⟩ : ∃ e, d = e + 1 := ⟨d - 1, by omega⟩
  exact B8_start o hK h0 (s_wstart_loop (w := gW M o) h0 (fun M1 a b c => ⟨a, b, c⟩) 8 0 M rfl hK Fr.refl rfl rfl rfl fun k hk => absurd hk (by omega))
theorem s_unlike_loop {M : ZMem} {o a : Nat} {Q : Int → ZMem → Prop} (hK : KW K M) (h0 : WayAt K o) (h1 : WayAt K a) (fin : Q (unlN (gW M o).2.1 (gW M a).2.1 8) M) : ∀ (j n : Nat), n + j = 8 → Xi (d + 1) q8_unlikeValues 4 [some (zr o), some (zr a), some (zi (unlN (gW M o).2.1 (gW M a).2.1 n)), some (zi n)] [] M Q
  | 0, n, e => by
    obtain rfl : n = 8 := by omega
    exact B8_unlikeValues_4 o a _ (8 : Nat) hK h0 h1 ⟨fun _ => fin, fun c => absurd (by decide) c⟩
  | j + 1, n, e => by
    have hb := unlN_le (gW M o).2.1 (gW M a).2.1 n
    have ih := s_unlike_loop hK h0 h1 fin j (n + 1) (by omega)
    refine B8_unlikeValues_4 o a _ (n : Int) hK h0 h1 ⟨fun c => absurd c (by omega), fun c => (s_valueOf hK h0).pure ⟨hK, (s_valueOf hK h1).pure ⟨hK, fun c2 => ⟨⟨by omega, by omega⟩, ⟨by omega, by omega⟩, ?_⟩, fun c2 => ⟨⟨by omega, by omega⟩, ⟨by omega, by omega⟩, ?_⟩⟩⟩⟩
    · rw [wValueOf, wValueOf, if_pos (by omega), if_pos (by omega), Int.toNat_natCast] at c2
      rw [unlN, if_pos c2] at ih
      exact ih
    · rw [wValueOf, wValueOf, if_pos (by omega), if_pos (by omega), Int.toNat_natCast] at c2
      rw [unlN, if_neg c2] at ih
      exact ih
theorem s_unlike {M : ZMem} {o a : Nat} (hd : 1 ≤ d) (hK : KW K M) (h0 : WayAt K o) (h1 : WayAt K a) : Ci d q8_unlikeValues [zr o, zr a] M (fun x M' => x = unlN (gW M o).2.1 (gW M a).2.1 8 ∧ M' = M) := by
  obtain ⟨d, rfl⟩ : ∃ e, d = e + 1 := ⟨d - 1, by omega⟩
  exact B8_unlikeValues o a hK h0 h1 (s_unlike_loop hK h0 h1 ⟨rfl, rfl⟩ 8 0 rfl)
end WAY2
/-- a point: its maker, what is among, 2 low 3 choices 4 taken 5 price -/
abbrev Pt : Type := Wy × (Nat → Int) × (Nat → Int)
def gP (M : ZMem) (q : Nat) : Pt := (gW M (q + 1), tq 0 6 (mI M (q + 5)), tq 2 6 (mI M q))
theorem gP_fr {X : Nat → Prop} {M M' : ZMem} {q : Nat} (h : Fr X M M') (hx : ∀ j, j < 6 → ¬ X (q + j)) : gP M' q = gP M q := by
  show (_, _, _) = (_, _, _)
  rw [gW_fr h (fun j hj => by rw [Nat.add_assoc]; exact hx (1 + j) (by omega)), tq_congr (fun k _ _ => h.i (hx 5 (by omega)) k), tq_congr (f := mI M' q) (fun k _ _ => h.i (a := q) (hx 0 (by omega)) k)]
theorem gP_f {M : ZMem} {q k : Nat} {x : Int} (h1 : 2 ≤ k) (h2 : k < 6) : gP (sI M q k x) q = ((gP M q).1, (gP M q).2.1, fup (gP M q).2.2 k x) := by
  have e0 : tq 2 6 (mI (sI M q k x) q) = fup (tq 2 6 (mI M q)) k x := tq_fup h1 h2 fun j => by rw [mI_sI]; by_cases q : j = k <;> simp [q]
  have e5 : mI (sI M q k x) (q + 5) = mI M (q + 5) := by funext i; rw [mI_sI, if_neg (by omega)]
  have ew : gW (sI M q k x) (q + 1) = gW M (q + 1) := gW_fr (X := bk q 1) (Fr.refl.sI ⟨by omega, by omega⟩) fun j hj c => by unfold bk at c; omega
  show (_, _, _) = (_, _, _)
  rw [e0, e5, ew]; rfl
theorem gP_a {M : ZMem} {q k : Nat} {x : Int} (h2 : k < 6) : gP (sI M (q + 5) k x) q = ((gP M q).1, fup (gP M q).2.1 k x, (gP M q).2.2) := by
  have e0 : tq 0 6 (mI (sI M (q + 5) k x) (q + 5)) = fup (tq 0 6 (mI M (q + 5))) k x := tq_fup (by omega) h2 fun j => by rw [mI_sI]; by_cases q : j = k <;> simp [q]
  have e5 : mI (sI M (q + 5) k x) q = mI M q := by funext i; rw [mI_sI, if_neg (by omega)]
  have ew : gW (sI M (q + 5) k x) (q + 1) = gW M (q + 1) := gW_fr (X := bk (q + 5) 1) (Fr.refl.sI ⟨by omega, by omega⟩) fun j hj c => by unfold bk at c; omega
  show (_, _, _) = (_, _, _)
  rw [e0, e5, ew]; rfl
theorem gP_w {X : Nat → Prop} {M M' : ZMem} {q : Nat} (h : Fr X M M') (h0 : ¬ X q) (h5 : ¬ X (q + 5)) : gP M' q = (gW M' (q + 1), (gP M q).2) := by
  show (_, _, _) = (_, _, _)
  rw [tq_congr (f := mI M' (q + 5)) (fun k _ _ => h.i h5 k), tq_congr (f := mI M' q) (fun k _ _ => h.i h0 k)]
section POINT
variable {d : Nat} {K M : ZMem}
theorem s_left {q : Nat} (hK : KW K M) (h0 : PointAt K q) (hr : inR ((gP M q).2.2 3 - (gP M q).2.2 4)) : Ci d q2_left [zr q] M (fun x M' => x = (gP M q).2.2 3 - (gP M q).2.2 4 ∧ M' = M) :=
  B2_left q hK h0 ⟨hr, rfl, rfl⟩
theorem s_amongAt {q : Nat} {i : Int} (hK : KW K M) (h0 : PointAt K q) : Ci d q2_amongAt [zr q, zi i] M (fun x M' => x = (if 0 ≤ i ∧ i < 6 then (gP M q).2.1 i.toNat else 0) ∧ M' = M) := by
  refine B2_amongAt q i hK h0 ⟨fun c => ⟨?_, rfl⟩, fun c => ⟨fun c2 => ⟨?_, rfl⟩, fun c2 => ⟨by omega, by omega, ?_, rfl⟩⟩⟩
  · rw [if_neg (by omega)]
  · rw [if_neg (by omega)]
  · rw [if_pos (by omega)]; exact (tq_at (by omega) (by omega)).symm
def pWeight (p : Pt) (s : Int) : Int := if s = 2 ∨ s = 3 then p.2.2 5 else if s = 4 then p.1.1 6 + (if 0 < p.2.2 4 then 1 else 0) else 0
theorem s_weight {q : Nat} {i : Int} (hK : KW K M) (h0 : PointAt K q) (hr : inR ((gP M q).1.1 6 + 0) ∧ inR ((gP M q).1.1 6 + 1)) : Ci d q2_weight [zr q, zi i] M (fun x M' => x = pWeight (gP M q) i ∧ M' = M) := by
  refine B2_weight q i hK h0 ⟨fun c => ⟨?_, rfl⟩, fun c => ⟨fun c2 => ⟨fun c3 => ⟨?_, rfl⟩, fun c3 => ⟨fun c4 => ⟨hr.1, ?_, rfl⟩, fun c4 => ⟨hr.2, ?_, rfl⟩⟩⟩, fun c2 => ⟨?_, rfl⟩⟩⟩
  · rw [pWeight, if_pos (by omega)]; rfl
  · rw [pWeight, if_neg (by omega), if_neg (by omega)]
  · rw [pWeight, if_neg (by omega), if_pos (by omega), if_neg (show ¬ 0 < (gP M q).2.2 4 from show ¬ 0 < mI M q 4 by omega)]; rfl
  · rw [pWeight, if_neg (by omega), if_pos (by omega), if_pos (show 0 < (gP M q).2.2 4 from show 0 < mI M q 4 by omega)]; rfl
  · rw [pWeight, if_pos (by omega)]; rfl
def pTell (p : Pt) (w : Int) : Int := if w = 0 then p.1.1 5 else if w = 1 then p.1.1 6 else if w = 2 then p.2.2 5 else if w = 3 then p.2.2 3 - p.2.2 4 else wValueOf p.1 (w - 4)
end POINT
