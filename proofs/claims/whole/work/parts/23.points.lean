/-! rows of points: a copy, a row, what goes -/
/-- the layout of a row of points; its state: how many, and which cells its rows are -/
def PsK (K : ZMem) (p : Nat) : Prop := PointsAt K p ∧ ∀ j, j < 31 → PointAt K (p + 2 + 6 * j)
def PsOK (M : ZMem) (p : Nat) : Prop := 0 ≤ mI M p 1 ∧ mI M p 1 ≤ 31 ∧ (∀ i, i < 31 → ∃ j, j < 31 ∧ mR M (p + 1) i = p + 2 + 6 * j) ∧ ∀ i j, i < 31 → j < 31 → mR M (p + 1) i = mR M (p + 1) j → i = j
def gL (M : ZMem) (p : Nat) : List Pt := (List.range (mI M p 1).toNat).map fun i => gP M (mR M (p + 1) i)
theorem gL_len {M : ZMem} {p : Nat} : (gL M p).length = (mI M p 1).toNat := by rw [gL, List.length_map, List.length_range]
theorem gL_get {M : ZMem} {p i : Nat} (h : i < (mI M p 1).toNat) : (gL M p)[i]? = some (gP M (mR M (p + 1) i)) := by rw [gL, List.getElem?_map, List.getElem?_range h]; rfl
theorem gL_ext {M M' : ZMem} {p p' : Nat} (hn : (mI M' p' 1).toNat = (mI M p 1).toNat) (h : ∀ i, i < (mI M p 1).toNat → gP M' (mR M' (p' + 1) i) = gP M (mR M (p + 1) i)) : gL M' p' = gL M p := by
  unfold gL
  rw [hn]
  exact List.map_congr_left fun i hi => h i (List.mem_range.mp hi)
theorem PsOK.row {M : ZMem} {p i : Nat} (h : PsOK M p) (hi : i < 31) : p + 2 ≤ mR M (p + 1) i ∧ mR M (p + 1) i + 6 ≤ p + 188 := by
  obtain ⟨j, hj, e⟩ := h.2.2.1 i hi
  omega
theorem PsOK.at {K M : ZMem} {p i : Nat} (h : PsOK M p) (hp : PsK K p) (hi : i < 31) : PointAt K (mR M (p + 1) i) := by
  obtain ⟨j, hj, e⟩ := h.2.2.1 i hi
  rw [e]
  exact hp.2 j hj
theorem PsOK.sep {M : ZMem} {p i j : Nat} (h : PsOK M p) (hi : i < 31) (hj : j < 31) (hn : i ≠ j) : mR M (p + 1) i + 6 ≤ mR M (p + 1) j ∨ mR M (p + 1) j + 6 ≤ mR M (p + 1) i := by
  obtain ⟨a, ha, e⟩ := h.2.2.1 i hi
  obtain ⟨b, hb, g⟩ := h.2.2.1 j hj
  have : a ≠ b := fun q => hn (h.2.2.2 i j hi hj (by rw [e, g, q]))
  omega
theorem PsOK.fr {X : Nat → Prop} {M M' : ZMem} {p : Nat} (h : PsOK M p) (hF : Fr X M M') (hx : ∀ j, j < 2 → ¬ X (p + j)) : PsOK M' p := by
  have e1 : mI M' p 1 = mI M p 1 := hF.i (a := p) (hx 0 (by omega)) 1
  have e2 : mR M' (p + 1) = mR M (p + 1) := funext fun k => hF.r (hx 1 (by omega)) k
  unfold PsOK
  rw [e1, e2]
  exact h
theorem gL_fr {X : Nat → Prop} {M M' : ZMem} {p : Nat} (h : PsOK M p) (hF : Fr X M M') (hx : ∀ j, j < 188 → ¬ X (p + j)) : gL M' p = gL M p := by
  have e1 : mI M' p 1 = mI M p 1 := hF.i (a := p) (hx 0 (by omega)) 1
  refine gL_ext (by rw [e1]) fun i hi => ?_
  have hb := h.2.1
  have hr := h.row (i := i) (by omega)
  rw [hF.r (hx 1 (by omega))]
  refine gP_fr hF fun j hj => ?_
  have := hx (mR M (p + 1) i - p + j) (by omega)
  rwa [show p + (mR M (p + 1) i - p + j) = mR M (p + 1) i + j by omega] at this
section POINTS
variable {d : Nat} {K M : ZMem}
theorem s_spare {p : Nat} (hK : KW K M) (h0 : PsK K p) (h : PsOK M p) (hn : mI M p 1 < 31) : Cq d q3_spare [zr p] M (fun x M' => x = mR M (p + 1) (mI M p 1).toNat ∧ M' = M) := by
  have h1 := h.1
  exact B3_spare p hK h0.1 ⟨fun c => absurd c (by omega), fun _ => ⟨fun c => absurd c (by omega), fun _ => ⟨by omega, by omega, rfl, rfl⟩⟩⟩
theorem s_openAt {p : Nat} {i : Int} (hK : KW K M) (h0 : PsK K p) (h : PsOK M p) : Cq d q3_openAt [zr p, zi i] M (fun x M' => x = (if 0 ≤ i ∧ i < mI M p 1 then mR M (p + 1) i.toNat else 0) ∧ M' = M) := by
  have h1 := h.1
  have h2 := h.2.1
  refine B3_openAt p i hK h0.1 ⟨fun c => ⟨?_, rfl⟩, fun _ => ⟨fun c => ⟨?_, rfl⟩, fun _ => ⟨fun c => ⟨?_, rfl⟩, fun _ => ⟨by omega, by omega, ?_, rfl⟩⟩⟩⟩
  · rw [if_neg (by omega)]
  · rw [if_neg (by omega)]
  · rw [if_neg (by omega)]
  · rw [if_pos (by omega)]
theorem s_pbecome {o a : Nat} (hd : 1 ≤ d) (hoa : o + 6 ≤ a ∨ a + 6 ≤ o) (hK : KW K M) (h0 : PointAt K o) (h1 : PointAt K a) : Cv d q2_become [zr o, zr a] M (fun M' => KW K M' ∧ Fr (bk o 6) M M' ∧ gP M' o = gP M a) := by
  obtain ⟨d, rfl⟩ : ∃ e, d = e + 1 := ⟨d - 1, by omega⟩
  refine B2_become o a hK h0 h1 ((s_wbecome (by omega) hK h0.2.2.2.2 h1.2.2.2.2).mono fun M1 ⟨k1, f1, w1⟩ => ⟨k1, k1, ?_, ?_⟩)
  · have f1' : Fr (bk o 6) M M1 := f1.wide fun a q => by unfold bk at *; omega
    exact ((((f1'.sA ⟨by omega, by omega⟩).sI ⟨by omega, by omega⟩).sI ⟨by omega, by omega⟩).sI ⟨by omega, by omega⟩).sI ⟨by omega, by omega⟩
  · have n0 : ¬ a = o := by omega
    have n5 : ¬ a = o + 5 := by omega
    have o5 : ¬ o = o + 5 := by omega
    have fa (k : Nat) : mI M1 a k = mI M a k := f1.i (fun q => by unfold bk at q; omega) k
    have fa5 (k : Nat) : mI M1 (a + 5) k = mI M (a + 5) k := f1.i (fun q => by unfold bk at q; omega) k
    have F : ∀ (g : Nat → Int) (x2 x3 x4 x5 : Int), Fr (fun q => q = o ∨ q = o + 5) M1 (sI (sI (sI (sI (sA M1 (o + 5) g) o 2 x2) o 3 x3) o 4 x4) o 5 x5) := fun g x2 x3 x4 x5 => ((((Fr.refl.sA (Or.inr rfl)).sI (Or.inl rfl)).sI (Or.inl rfl)).sI (Or.inl rfl)).sI (Or.inl rfl)
    show (_, _, _) = (_, _, _)
    rw [gW_fr (F _ _ _ _ _) (fun j hj q => by omega), w1]
    refine congrArg _ (congr (congrArg _ (tq_congr fun k _ hk => ?_)) (tq_congr fun k hk hk2 => ?_))
    · simp [mI_sI, mI_sA, zCpy, hk, fa5]
    · obtain rfl | rfl | rfl | rfl : k = 2 ∨ k = 3 ∨ k = 4 ∨ k = 5 := by omega
      all_goals simp [mI_sI, mI_sA, n0, n5, o5, fa]
theorem s_psbecome_loop {p a : Nat} {M0 : ZMem} {Q : ZMem → Prop} (hpa : p + 188 ≤ a ∨ a + 188 ≤ p) (h0 : PsK K p) (h1 : PsK K a) (ha : PsOK M0 a) (fin : ∀ M, KW K M → Fr (bk p 188) M0 M → PsOK M p → mI M p 1 = mI M0 a 1 → gL M p = gL M0 a → Q M) : ∀ (j n : Nat) (M : ZMem), n + j = (mI M0 a 1).toNat → KW K M → Fr (bk p 188) M0 M → PsOK M p → mI M p 1 = mI M0 a 1 → (∀ i, i < n → gP M (mR M (p + 1) i) = gP M0 (mR M0 (a + 1) i)) → Xv (d + 2) q3_become 10 [some (zr p), some (zr a), some (zi n)] [] M Q
  | 0, n, M, e, hK, hF, hp, hn, hg => by
    have a1 := ha.1
    have a2 := ha.2.1
    refine B3_become_10 p a n hK h0.1 h1.1 ⟨fun _ => ?_, fun c => absurd c (by rw [hn]; omega)⟩
    exact fin M hK hF hp hn (gL_ext (by rw [hn]) fun i hi => hg i (by omega))
  | j + 1, n, M, e, hK, hF, hp, hn, hg => by
    have a1 := ha.1
    have a2 := ha.2.1
    have hn31 : n < 31 := by omega
    have ea : mR M (a + 1) n = mR M0 (a + 1) n := hF.r (fun q => by unfold bk at q; omega) n
    have ra := ha.row hn31
    have rp := hp.row hn31
    refine B3_become_10 p a n hK h0.1 h1.1 ⟨fun c => absurd c (by rw [hn]; omega), fun _ => ⟨fun c => absurd c (by omega), fun _ => ⟨by omega, by omega, by omega, by omega, ?_, ?_⟩⟩⟩
    · rw [Int.toNat_natCast]; exact hp.at h0 hn31
    rw [Int.toNat_natCast, ea]
    refine (s_pbecome (by omega) (by omega) hK (hp.at h0 hn31) (ha.at h1 hn31)).mono fun M1 ⟨k1, f1, w1⟩ => ⟨k1, ⟨by omega, by omega⟩, ?_⟩
    have o1 : PsOK M1 p := hp.fr f1 fun j hj q => by unfold bk at q; omega
    have e1 : mI M1 p 1 = mI M p 1 := f1.i (fun q => by unfold bk at q; omega) 1
    have er (i : Nat) : mR M1 (p + 1) i = mR M (p + 1) i := f1.r (fun q => by unfold bk at q; omega) i
    refine s_psbecome_loop hpa h0 h1 ha fin j (n + 1) M1 (by omega) k1 (hF.trans (f1.wide fun q hq => by unfold bk at *; omega)) o1 (by rw [e1, hn]) fun i hi => ?_
    rw [er]
    by_cases hin : i = n
    · subst hin
      rw [w1]
      exact gP_fr hF fun j hj q => by unfold bk at q; omega
    · have rs := hp.sep (i := i) (j := n) (by omega) hn31 hin
      rw [gP_fr f1 (fun j hj q => by unfold bk at q; omega)]
      exact hg i (by omega)
theorem s_psbecome {p a : Nat} (hd : 2 ≤ d) (hpa : p + 188 ≤ a ∨ a + 188 ≤ p) (hK : KW K M) (h0 : PsK K p) (h1 : PsK K a) (hp : PsOK M p) (ha : PsOK M a) : Cv d q3_become [zr p, zr a] M (fun M' => KW K M' ∧ Fr (bk p 188) M M' ∧ PsOK M' p ∧ mI M' p 1 = mI M a 1 ∧ gL M' p = gL M a) := by
  obtain ⟨d, rfl⟩ : ∃ e, d = e + 2 := ⟨d - 2, by omega⟩
  refine B3_become p a hK h0.1 h1.1 (s_psbecome_loop hpa h0 h1 ha (fun M1 a b c e f => ⟨a, b, c, e, f⟩) (mI M a 1).toNat 0 (sI M p 1 (mI M a 1)) (by omega) hK (Fr.refl.sI ⟨by omega, by omega⟩) ?_ (by rw [mI_sI, if_pos ⟨rfl, rfl⟩]) fun i hi => absurd hi (by omega))
  refine ⟨?_, ?_, hp.2.2⟩
  · rw [mI_sI, if_pos ⟨rfl, rfl⟩]; exact ha.1
  · rw [mI_sI, if_pos ⟨rfl, rfl⟩]; exact ha.2.1
end POINTS
