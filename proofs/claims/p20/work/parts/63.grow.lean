/-! making objects: what a making leaves as it was; the layout of what is made stays -/
section GROW
variable {M0 M M' M2 : ZMem} {o n w : Nat}
/-- M' came of M by makings, and by references of o -/
def Gx (M M' : ZMem) (o n w : Nat) : Prop := mz M' = mz M + n ∧ mw M' = mw M + w ∧ (∀ a, a ≤ mz M → mS M' a = mS M a) ∧ (∀ a, a ≤ mz M → a ≠ o → mR M' a = mR M a) ∧ (∀ a, a ≤ mz M → mI M' a = mI M a)
/-- what is new has no numbers but 0 -/
def Nz (M M' : ZMem) : Prop := ∀ a j, mz M < a → a ≤ mz M' → mI M' a j = 0
theorem Gx.refl : Gx M M o 0 0 := ⟨rfl, rfl, fun _ _ => rfl, fun _ _ _ => rfl, fun _ _ => rfl⟩
theorem Nz.refl : Nz M M := fun a j h1 h2 => absurd h1 (by omega)
theorem Gx.trans {o2 n2 w2 : Nat} (h : Gx M0 M o n w) (h2 : Gx M M' o2 n2 w2) (ho : o2 = o ∨ mz M0 < o2) : Gx M0 M' o (n + n2) (w + w2) := by
  obtain ⟨z1, y1, s1, r1, i1⟩ := h
  obtain ⟨z2, y2, s2, r2, i2⟩ := h2
  refine ⟨by omega, by omega, fun a ha => (s2 a (by omega)).trans (s1 a ha), fun a ha hne => (r2 a (by omega) (by omega)).trans (r1 a ha hne), fun a ha => (i2 a (by omega)).trans (i1 a ha)⟩
theorem Nz.trans {o2 n2 w2 : Nat} (h : Nz M0 M) (g : Gx M M' o2 n2 w2) (h2 : Nz M M') : Nz M0 M' := fun a j h1 h3 => by
  by_cases c : a ≤ mz M
  · rw [g.2.2.2.2 a c]; exact h a j h1 c
  · exact h2 a j (by omega) h3
theorem gx_new {sh : Nat × Nat} {k : Nat} : Gx M (zNew M sh k) o 1 k := by
  refine ⟨mz_new _ _ _, mw_new _ _ _, fun a ha => by rw [mS_new, if_neg (by omega)], fun a ha _ => funext fun j => by rw [mR_new, if_neg (by omega)], fun a ha => funext fun j => by rw [mI_new, if_neg (by omega)]⟩
theorem nz_new {sh : Nat × Nat} {k : Nat} : Nz M (zNew M sh k) := fun a j h1 h2 => by
  rw [mz_new] at h2
  rw [mI_new, if_pos (by omega)]
theorem gx_put {k x : Nat} : Gx M (sR M o k x) o 0 0 := by
  refine ⟨rfl, rfl, fun a _ => rfl, fun a _ ha => funext fun j => by rw [mR_sR, if_neg (fun q => ha q.1)], fun a _ => rfl⟩
/-- one field of o is filled with what was made -/
def Blk (M M' : ZMem) (o k c w x : Nat) : Prop := Gx M M' o c w ∧ mR M' o k = x ∧ ∀ j, j ≠ k → mR M' o j = mR M o j
theorem blk_put {k : Nat} {sh : Nat × Nat} {N c w o2 : Nat} (ho : o ≤ mz M) (g : Gx (zNew M sh N) M2 o2 c w) (h2 : mz M < o2) : Blk M (sR M2 o k (mz M + 1)) o k (1 + c) (N + w) (mz M + 1) := by
  have g1 : Gx M M2 o (1 + c) (N + w) := gx_new.trans g (Or.inr h2)
  refine ⟨g1.trans gx_put (Or.inl rfl), by rw [mR_sR, if_pos ⟨rfl, rfl⟩], fun j hj => ?_⟩
  rw [mR_sR, if_neg (fun q => hj q.2), g.2.2.2.1 o (by rw [mz_new]; omega) (by omega), mR_new, if_neg (by omega)]
theorem nz_put {k x : Nat} (h : Nz M M2) : Nz M (sR M2 o k x) := h
theorem blk_arr {k t m : Nat} (ho : o ≤ mz M) : Blk M (sR (zNew M (t, m) m) o k (mz M + 1)) o k 1 m (mz M + 1) ∧ mS (sR (zNew M (t, m) m) o k (mz M + 1)) (mz M + 1) = (t, m) ∧ Nz M (sR (zNew M (t, m) m) o k (mz M + 1)) :=
  ⟨blk_put (o2 := mz M + 1) (c := 0) (w := 0) ho Gx.refl (by omega), by rw [mS_sR, mS_new, if_pos rfl], nz_put nz_new⟩
theorem blk_obj {k : Nat} {sh : Nat × Nat} {N c w : Nat} (ho : o ≤ mz M) (g : Gx (zNew M sh N) M2 (mz M + 1) c w) (z : Nz (zNew M sh N) M2) : Blk M (sR M2 o k (mz M + 1)) o k (1 + c) (N + w) (mz M + 1) ∧ Nz M (sR M2 o k (mz M + 1)) :=
  ⟨blk_put ho g (by omega), nz_put (nz_new.trans g z)⟩
/-- cells from lo up to hi have their layout still -/
def Sm (lo hi : Nat) (M M' : ZMem) : Prop := ∀ a, lo ≤ a → a < hi → mS M' a = mS M a ∧ mR M' a = mR M a
theorem Gx.sm {lo hi : Nat} (g : Gx M M' o n w) (h : hi ≤ mz M + 1) (h2 : o < lo ∨ hi ≤ o) : Sm lo hi M M' := fun a h3 h4 => ⟨g.2.2.1 a (by omega), g.2.2.2.1 a (by omega) (by omega)⟩
theorem sm_put {lo hi k x : Nat} (h2 : o < lo ∨ hi ≤ o) : Sm lo hi M (sR M o k x) := fun a h3 h4 => ⟨rfl, funext fun j => by rw [mR_sR, if_neg (by omega)]⟩
theorem Sm.sub {lo hi lo' hi' : Nat} (h : Sm lo hi M M') (h1 : lo ≤ lo') (h2 : hi' ≤ hi) : Sm lo' hi' M M' := fun a h3 h4 => h a (by omega) (by omega)
theorem WayAt.keep (h : WayAt M o) (s : Sm o (o + 4) M M') : WayAt M' o := by
  unfold WayAt at *
  rw [(s o (by omega) (by omega)).1, (s o (by omega) (by omega)).2, (s (o + 1) (by omega) (by omega)).1, (s (o + 2) (by omega) (by omega)).1, (s (o + 3) (by omega) (by omega)).1]
  exact h
theorem PointAt.keep (h : PointAt M o) (s : Sm o (o + 6) M M') : PointAt M' o := by
  obtain ⟨h1, h2, h3, h4, h5⟩ := h
  refine ⟨?_, ?_, ?_, ?_, h5.keep (s.sub (by omega) (by omega))⟩
  · rw [(s o (by omega) (by omega)).1]; exact h1
  · rw [(s o (by omega) (by omega)).2]; exact h2
  · rw [(s o (by omega) (by omega)).2]; exact h3
  · rw [(s (o + 5) (by omega) (by omega)).1]; exact h4
theorem FormulasAt.keep (h : FormulasAt M o) (s : Sm o (o + 4) M M') : FormulasAt M' o := by
  unfold FormulasAt at *
  rw [(s o (by omega) (by omega)).1, (s o (by omega) (by omega)).2, (s (o + 1) (by omega) (by omega)).1, (s (o + 2) (by omega) (by omega)).1, (s (o + 3) (by omega) (by omega)).1]
  exact h
theorem ProgramAt.keep (h : ProgramAt M o) (s : Sm o (o + 17) M M') : ProgramAt M' o := by
  obtain ⟨h0, r0, r1, r2, r3, r4, r5, r6, r7, r8, r9, s1, s2, s3, s4, s5, s6, s7, s8, f1, f2⟩ := h
  unfold ProgramAt
  rw [(s o (by omega) (by omega)).1, (s o (by omega) (by omega)).2, (s (o + 1) (by omega) (by omega)).1, (s (o + 2) (by omega) (by omega)).1, (s (o + 3) (by omega) (by omega)).1, (s (o + 4) (by omega) (by omega)).1, (s (o + 5) (by omega) (by omega)).1, (s (o + 6) (by omega) (by omega)).1, (s (o + 7) (by omega) (by omega)).1, (s (o + 8) (by omega) (by omega)).1]
  exact ⟨h0, r0, r1, r2, r3, r4, r5, r6, r7, r8, r9, s1, s2, s3, s4, s5, s6, s7, s8, f1.keep (s.sub (by omega) (by omega)), f2.keep (s.sub (by omega) (by omega))⟩
theorem AnswersAt.keep (h : AnswersAt M o) (s : Sm o (o + 2) M M') : AnswersAt M' o := by
  unfold AnswersAt at *
  rw [(s o (by omega) (by omega)).1, (s o (by omega) (by omega)).2, (s (o + 1) (by omega) (by omega)).1]
  exact h
theorem TapeAt.keep (h : TapeAt M o) (s : Sm o (o + 2) M M') : TapeAt M' o := by
  unfold TapeAt at *
  rw [(s o (by omega) (by omega)).1, (s o (by omega) (by omega)).2, (s (o + 1) (by omega) (by omega)).1]
  exact h
/-- a row of points as it is made -/
def PsF (M : ZMem) (p : Nat) : Prop := PsK M p ∧ ∀ j, j < 31 → mR M (p + 1) j = p + 2 + 6 * j
theorem PsF.keep (h : PsF M o) (s : Sm o (o + 188) M M') : PsF M' o := by
  obtain ⟨⟨⟨h1, h2, h3⟩, h4⟩, h5⟩ := h
  refine ⟨⟨⟨?_, ?_, ?_⟩, fun j hj => (h4 j hj).keep (s.sub (by omega) (by omega))⟩, fun j hj => ?_⟩
  · rw [(s o (by omega) (by omega)).1]; exact h1
  · rw [(s o (by omega) (by omega)).2]; exact h2
  · rw [(s (o + 1) (by omega) (by omega)).1]; exact h3
  · rw [(s (o + 1) (by omega) (by omega)).2]; exact h5 j hj
/-- a search as it is made -/
def SrF (M : ZMem) (o : Nat) : Prop := SearchAt M o ∧ PsF M (o + 20) ∧ PsF M (o + 208)
theorem SrF.keep (h : SrF M o) (s : Sm o (o + 427) M M') : SrF M' o := by
  obtain ⟨⟨h0, r0, r1, r2, r3, r4, r5, r6, s1, s2, s3, p, a, p1, p2, w⟩, f1, f2⟩ := h
  have g1 := f1.keep (s.sub (by omega) (by omega))
  have g2 := f2.keep (s.sub (by omega) (by omega))
  refine ⟨?_, g1, g2⟩
  unfold SearchAt
  rw [(s o (by omega) (by omega)).1, (s o (by omega) (by omega)).2, (s (o + 396) (by omega) (by omega)).1, (s (o + 425) (by omega) (by omega)).1, (s (o + 426) (by omega) (by omega)).1, (s (o + 396) (by omega) (by omega)).2]
  exact ⟨h0, r0, r1, r2, r3, r4, r5, r6, s1, s2, s3, p.keep (s.sub (by omega) (by omega)), a.keep (s.sub (by omega) (by omega)), g1.1.1, g2.1.1, fun i hi => ⟨(w i hi).1, (w i hi).2.keep (s.sub (by omega) (by omega))⟩⟩
theorem ReaderAt.keep (h : ReaderAt M 5) (s : Sm 3 25 M M') : ReaderAt M' 5 := by
  obtain ⟨h0, r0, r1, r2, r3, s1, s2, t, p⟩ := h
  unfold ReaderAt
  rw [(s 5 (by omega) (by omega)).1, (s 5 (by omega) (by omega)).2, (s (5 + 1) (by omega) (by omega)).1, (s (5 + 2) (by omega) (by omega)).1]
  exact ⟨h0, r0, r1, r2, r3, s1, s2, t.keep (s.sub (by omega) (by omega)), p.keep (s.sub (by omega) (by omega))⟩
theorem TopAt.keep (h : TopAt M 2) (s : Sm 2 2230 M M') : TopAt M' 2 := by
  obtain ⟨h0, r0, r1, r2, r3, r4, t, rd, s1, s2, th, w⟩ := h
  have kS : ∀ o, 27 ≤ o → o + 427 ≤ 2230 → SearchAt M o → SearchAt M' o := fun o h1 h2 h => by
    obtain ⟨h0, r0, r1, r2, r3, r4, r5, r6, s1, s2, s3, p, a, p1, p2, w⟩ := h
    unfold SearchAt PointsAt at *
    rw [(s o (by omega) (by omega)).1, (s o (by omega) (by omega)).2, (s (o + 396) (by omega) (by omega)).1, (s (o + 425) (by omega) (by omega)).1, (s (o + 426) (by omega) (by omega)).1, (s (o + 396) (by omega) (by omega)).2, (s (o + 20) (by omega) (by omega)).1, (s (o + 20) (by omega) (by omega)).2, (s (o + 20 + 1) (by omega) (by omega)).1, (s (o + 208) (by omega) (by omega)).1, (s (o + 208) (by omega) (by omega)).2, (s (o + 208 + 1) (by omega) (by omega)).1]
    exact ⟨h0, r0, r1, r2, r3, r4, r5, r6, s1, s2, s3, p.keep (s.sub (by omega) (by omega)), a.keep (s.sub (by omega) (by omega)), p1, p2, fun i hi => ⟨(w i hi).1, (w i hi).2.keep (s.sub (by omega) (by omega))⟩⟩
  unfold TopAt
  rw [(s 2 (by omega) (by omega)).1, (s 2 (by omega) (by omega)).2, (s 25 (by omega) (by omega)).1, (s 26 (by omega) (by omega)).1, (s 25 (by omega) (by omega)).2, (s 26 (by omega) (by omega)).2]
  exact ⟨h0, r0, r1, r2, r3, r4, t.keep (s.sub (by omega) (by omega)), rd.keep (s.sub (by omega) (by omega)), s1, s2, kS _ (by omega) (by omega) th, fun i hi => ⟨(w i hi).1, (w i hi).2.1.keep (s.sub (by omega) (by omega)), (w i hi).2.2.1, kS _ (by omega) (by omega) (w i hi).2.2.2⟩⟩
end GROW
