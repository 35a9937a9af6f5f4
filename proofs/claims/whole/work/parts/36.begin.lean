/-! a search begins anew; a search becomes another -/
def xZero (S : Sr) (st : Int) : Sr := ((fun i => S.1 i), [], S.2.2.1, S.2.2.2.1, (fun _ => 0), ((sQ S).1, 0), fup (fup (fup S.2.2.2.2.2.2 8 st) 7 1) 9 0)
def xStart (S : Sr) (st : Int) : Sr := xStartWay (xZero S st)
def xBecome (S S' : Sr) : Sr := uC S' 13 (sC S 13)
def cpD (M : ZMem) (o a : Nat) : ZMem := (sI (sI (sI (sI (sI (sI (cpM (cpM M (a + 425) (o + 425) 7) (a + 426) (o + 426) 9) o 7 (mI (cpM (cpM M (a + 425) (o + 425) 7) (a + 426) (o + 426) 9) a 7)) o 8 (mI (sI (cpM (cpM M (a + 425) (o + 425) 7) (a + 426) (o + 426) 9) o 7 (mI (cpM (cpM M (a + 425) (o + 425) 7) (a + 426) (o + 426) 9) a 7)) a 8)) o 9 (mI (sI (sI (cpM (cpM M (a + 425) (o + 425) 7) (a + 426) (o + 426) 9) o 7 (mI (cpM (cpM M (a + 425) (o + 425) 7) (a + 426) (o + 426) 9) a 7)) o 8 (mI (sI (cpM (cpM M (a + 425) (o + 425) 7) (a + 426) (o + 426) 9) o 7 (mI (cpM (cpM M (a + 425) (o + 425) 7) (a + 426) (o + 426) 9) a 7)) a 8)) a 9)) o 10 (mI (sI (sI (sI (cpM (cpM M (a + 425) (o + 425) 7) (a + 426) (o + 426) 9) o 7 (mI (cpM (cpM M (a + 425) (o + 425) 7) (a + 426) (o + 426) 9) a 7)) o 8 (mI (sI (cpM (cpM M (a + 425) (o + 425) 7) (a + 426) (o + 426) 9) o 7 (mI (cpM (cpM M (a + 425) (o + 425) 7) (a + 426) (o + 426) 9) a 7)) a 8)) o 9 (mI (sI (sI (cpM (cpM M (a + 425) (o + 425) 7) (a + 426) (o + 426) 9) o 7 (mI (cpM (cpM M (a + 425) (o + 425) 7) (a + 426) (o + 426) 9) a 7)) o 8 (mI (sI (cpM (cpM M (a + 425) (o + 425) 7) (a + 426) (o + 426) 9) o 7 (mI (cpM (cpM M (a + 425) (o + 425) 7) (a + 426) (o + 426) 9) a 7)) a 8)) a 9)) a 10)) o 11 (mI (sI (sI (sI (sI (cpM (cpM M (a + 425) (o + 425) 7) (a + 426) (o + 426) 9) o 7 (mI (cpM (cpM M (a + 425) (o + 425) 7) (a + 426) (o + 426) 9) a 7)) o 8 (mI (sI (cpM (cpM M (a + 425) (o + 425) 7) (a + 426) (o + 426) 9) o 7 (mI (cpM (cpM M (a + 425) (o + 425) 7) (a + 426) (o + 426) 9) a 7)) a 8)) o 9 (mI (sI (sI (cpM (cpM M (a + 425) (o + 425) 7) (a + 426) (o + 426) 9) o 7 (mI (cpM (cpM M (a + 425) (o + 425) 7) (a + 426) (o + 426) 9) a 7)) o 8 (mI (sI (cpM (cpM M (a + 425) (o + 425) 7) (a + 426) (o + 426) 9) o 7 (mI (cpM (cpM M (a + 425) (o + 425) 7) (a + 426) (o + 426) 9) a 7)) a 8)) a 9)) o 10 (mI (sI (sI (sI (cpM (cpM M (a + 425) (o + 425) 7) (a + 426) (o + 426) 9) o 7 (mI (cpM (cpM M (a + 425) (o + 425) 7) (a + 426) (o + 426) 9) a 7)) o 8 (mI (sI (cpM (cpM M (a + 425) (o + 425) 7) (a + 426) (o + 426) 9) o 7 (mI (cpM (cpM M (a + 425) (o + 425) 7) (a + 426) (o + 426) 9) a 7)) a 8)) o 9 (mI (sI (sI (cpM (cpM M (a + 425) (o + 425) 7) (a + 426) (o + 426) 9) o 7 (mI (cpM (cpM M (a + 425) (o + 425) 7) (a + 426) (o + 426) 9) a 7)) o 8 (mI (sI (cpM (cpM M (a + 425) (o + 425) 7) (a + 426) (o + 426) 9) o 7 (mI (cpM (cpM M (a + 425) (o + 425) 7) (a + 426) (o + 426) 9) a 7)) a 8)) a 9)) a 10)) a 11)) o 12 (mI (sI (sI (sI (sI (sI (cpM (cpM M (a + 425) (o + 425) 7) (a + 426) (o + 426) 9) o 7 (mI (cpM (cpM M (a + 425) (o + 425) 7) (a + 426) (o + 426) 9) a 7)) o 8 (mI (sI (cpM (cpM M (a + 425) (o + 425) 7) (a + 426) (o + 426) 9) o 7 (mI (cpM (cpM M (a + 425) (o + 425) 7) (a + 426) (o + 426) 9) a 7)) a 8)) o 9 (mI (sI (sI (cpM (cpM M (a + 425) (o + 425) 7) (a + 426) (o + 426) 9) o 7 (mI (cpM (cpM M (a + 425) (o + 425) 7) (a + 426) (o + 426) 9) a 7)) o 8 (mI (sI (cpM (cpM M (a + 425) (o + 425) 7) (a + 426) (o + 426) 9) o 7 (mI (cpM (cpM M (a + 425) (o + 425) 7) (a + 426) (o + 426) 9) a 7)) a 8)) a 9)) o 10 (mI (sI (sI (sI (cpM (cpM M (a + 425) (o + 425) 7) (a + 426) (o + 426) 9) o 7 (mI (cpM (cpM M (a + 425) (o + 425) 7) (a + 426) (o + 426) 9) a 7)) o 8 (mI (sI (cpM (cpM M (a + 425) (o + 425) 7) (a + 426) (o + 426) 9) o 7 (mI (cpM (cpM M (a + 425) (o + 425) 7) (a + 426) (o + 426) 9) a 7)) a 8)) o 9 (mI (sI (sI (cpM (cpM M (a + 425) (o + 425) 7) (a + 426) (o + 426) 9) o 7 (mI (cpM (cpM M (a + 425) (o + 425) 7) (a + 426) (o + 426) 9) a 7)) o 8 (mI (sI (cpM (cpM M (a + 425) (o + 425) 7) (a + 426) (o + 426) 9) o 7 (mI (cpM (cpM M (a + 425) (o + 425) 7) (a + 426) (o + 426) 9) a 7)) a 8)) a 9)) a 10)) o 11 (mI (sI (sI (sI (sI (cpM (cpM M (a + 425) (o + 425) 7) (a + 426) (o + 426) 9) o 7 (mI (cpM (cpM M (a + 425) (o + 425) 7) (a + 426) (o + 426) 9) a 7)) o 8 (mI (sI (cpM (cpM M (a + 425) (o + 425) 7) (a + 426) (o + 426) 9) o 7 (mI (cpM (cpM M (a + 425) (o + 425) 7) (a + 426) (o + 426) 9) a 7)) a 8)) o 9 (mI (sI (sI (cpM (cpM M (a + 425) (o + 425) 7) (a + 426) (o + 426) 9) o 7 (mI (cpM (cpM M (a + 425) (o + 425) 7) (a + 426) (o + 426) 9) a 7)) o 8 (mI (sI (cpM (cpM M (a + 425) (o + 425) 7) (a + 426) (o + 426) 9) o 7 (mI (cpM (cpM M (a + 425) (o + 425) 7) (a + 426) (o + 426) 9) a 7)) a 8)) a 9)) o 10 (mI (sI (sI (sI (cpM (cpM M (a + 425) (o + 425) 7) (a + 426) (o + 426) 9) o 7 (mI (cpM (cpM M (a + 425) (o + 425) 7) (a + 426) (o + 426) 9) a 7)) o 8 (mI (sI (cpM (cpM M (a + 425) (o + 425) 7) (a + 426) (o + 426) 9) o 7 (mI (cpM (cpM M (a + 425) (o + 425) 7) (a + 426) (o + 426) 9) a 7)) a 8)) o 9 (mI (sI (sI (cpM (cpM M (a + 425) (o + 425) 7) (a + 426) (o + 426) 9) o 7 (mI (cpM (cpM M (a + 425) (o + 425) 7) (a + 426) (o + 426) 9) a 7)) o 8 (mI (sI (cpM (cpM M (a + 425) (o + 425) 7) (a + 426) (o + 426) 9) o 7 (mI (cpM (cpM M (a + 425) (o + 425) 7) (a + 426) (o + 426) 9) a 7)) a 8)) a 9)) a 10)) a 11)) a 12))
section BEGIN
variable {d : Nat} {K M0 M M' : ZMem} {o a : Nat} {P P' : Pg} {S S' : Sr}
theorem cpD_fr : Fr (fun q => q = o ∨ q = o + 425 ∨ q = o + 426) M (cpD M o a) := (((((((Fr.refl.cp (Or.inr (Or.inl rfl))).cp (Or.inr (Or.inr rfl))).sI (Or.inl rfl)).sI (Or.inl rfl)).sI (Or.inl rfl)).sI (Or.inl rfl)).sI (Or.inl rfl)).sI (Or.inl rfl)
theorem cpD_sc (hoa : o + 427 ≤ a ∨ a + 427 ≤ o) {k : Nat} (h1 : 7 ≤ k) (h2 : k < 13) : mI (cpD M o a) o k = mI M a k := by
  unfold cpD
  obtain rfl | rfl | rfl | rfl | rfl | rfl : k = 7 ∨ k = 8 ∨ k = 9 ∨ k = 10 ∨ k = 11 ∨ k = 12 := by omega
  · rw [mI_sI_ne (by omega), mI_sI_ne (by omega), mI_sI_ne (by omega), mI_sI_ne (by omega), mI_sI_ne (by omega), mI_sI_eq, mI_cp_ne (by omega), mI_cp_ne (by omega)]
  · rw [mI_sI_ne (by omega), mI_sI_ne (by omega), mI_sI_ne (by omega), mI_sI_ne (by omega), mI_sI_eq, mI_sI_ne (by omega), mI_cp_ne (by omega), mI_cp_ne (by omega)]
  · rw [mI_sI_ne (by omega), mI_sI_ne (by omega), mI_sI_ne (by omega), mI_sI_eq, mI_sI_ne (by omega), mI_sI_ne (by omega), mI_cp_ne (by omega), mI_cp_ne (by omega)]
  · rw [mI_sI_ne (by omega), mI_sI_ne (by omega), mI_sI_eq, mI_sI_ne (by omega), mI_sI_ne (by omega), mI_sI_ne (by omega), mI_cp_ne (by omega), mI_cp_ne (by omega)]
  · rw [mI_sI_ne (by omega), mI_sI_eq, mI_sI_ne (by omega), mI_sI_ne (by omega), mI_sI_ne (by omega), mI_sI_ne (by omega), mI_cp_ne (by omega), mI_cp_ne (by omega)]
  · rw [mI_sI_eq, mI_sI_ne (by omega), mI_sI_ne (by omega), mI_sI_ne (by omega), mI_sI_ne (by omega), mI_sI_ne (by omega), mI_cp_ne (by omega), mI_cp_ne (by omega)]
theorem cpD_13 : mI (cpD M o a) o 13 = mI M o 13 := by
  unfold cpD
  rw [mI_sI_ne (by omega), mI_sI_ne (by omega), mI_sI_ne (by omega), mI_sI_ne (by omega), mI_sI_ne (by omega), mI_sI_ne (by omega), mI_cp_ne (by omega), mI_cp_ne (by omega)]
theorem cpD_b (hoa : o + 427 ≤ a ∨ a + 427 ≤ o) {k : Nat} (h : k < 7) : mI (cpD M o a) (o + 425) k = mI M (a + 425) k := by
  unfold cpD
  rw [mI_sI_ne (by omega), mI_sI_ne (by omega), mI_sI_ne (by omega), mI_sI_ne (by omega), mI_sI_ne (by omega), mI_sI_ne (by omega), mI_cp_ne (by omega), mI_cp_eq h]
theorem cpD_t (hoa : o + 427 ≤ a ∨ a + 427 ≤ o) {k : Nat} (h : k < 9) : mI (cpD M o a) (o + 426) k = mI M (a + 426) k := by
  unfold cpD
  rw [mI_sI_ne (by omega), mI_sI_ne (by omega), mI_sI_ne (by omega), mI_sI_ne (by omega), mI_sI_ne (by omega), mI_sI_ne (by omega), mI_cp_eq h, mI_cp_ne (by omega)]
theorem At.frame {X : Nat → Prop} (h : At K M o P S) (hK : KW K M') (F : Fr X M M') (hx : ∀ j, j < 427 → ¬ X (o + j)) : At K M' o P S := by
  refine ⟨hK, h.2.1.fr F fun j hj => by rw [Nat.add_assoc]; exact hx _ (by omega), h.2.2.1.fr F fun j hj => by rw [Nat.add_assoc]; exact hx _ (by omega), by rw [gG_fr F fun j hj => by rw [Nat.add_assoc]; exact hx _ (by omega)]; exact h.2.2.2.1, ?_⟩
  rw [← h.2.2.2.2]
  show (_, _, _, _, _, _, _) = (_, _, _, _, _, _, _)
  rw [gL_fr h.2.1 F fun j hj => by rw [Nat.add_assoc]; exact hx _ (by omega), gL_fr h.2.2.1 F fun j hj => by rw [Nat.add_assoc]; exact hx _ (by omega), gA_fr F fun j hj => by rw [Nat.add_assoc]; exact hx _ (by omega)]
  rw [show mI M' (o + 425) = mI M (o + 425) from funext fun j => F.i (hx 425 (by omega)) j, show mI M' (o + 426) = mI M (o + 426) from funext fun j => F.i (hx 426 (by omega)) j, show mI M' o = mI M o from funext fun j => F.i (hx 0 (by omega)) j]
  congr 1
  exact ways_fr fun i hi => gW_fr F fun j hj => by rw [show o + 397 + 4 * i + j = o + (397 + 4 * i + j) by omega]; exact hx _ (by omega)
theorem s_become_loop {Q : ZMem → Prop} (hoa : o + 427 ≤ a ∨ a + 427 ≤ o) (hL : SrK K o) (hLa : SrK K a) (ha : At K M0 a P' S') (ho : mI M0 o 13 = sC S 13) (hb : sC S' 10 = 0 ∨ sC S' 10 = 1) (hb2 : sC S' 12 = 0 ∨ sC S' 12 = 1) (q : ∀ M', Ax K M0 M' o P' (xBecome S S') → Q M') : ∀ (j n : Nat) (M : ZMem), n + j = 7 → KW K M → Fr (bk o 427) M0 M → mI M o 13 = sC S 13 → PsOK M (o + 20) → PsOK M (o + 208) → gG M (o + 1) = P' → gL M (o + 20) = S'.2.1 → gL M (o + 208) = S'.2.2.1 → gA M (o + 18) = sQ S' → (∀ i, i < n → gW M (o + 397 + 4 * i) = S'.1 i) → Xv (d + 1) q6_become 46 [some (zr o), some (zr a), some (zi n)] [] M Q
  | 0, n, M, e, hK, F, h13, hp, hn, hg, hl1, hl2, hA, hw => by
    obtain rfl : n = 7 := by omega
    have haM : At K M a P' S' := ha.frame hK F fun j hj q => by unfold bk at q; omega
    have ec (k : Nat) (h1 : 7 ≤ k) (h2 : k < 14) : mI M a k = sC S' k := haM.c h1 h2
    refine B6_become_46 o a (7 : Nat) hK hL.1 hLa.1 ⟨fun _ => ?_, fun c => absurd (by decide) c⟩
    show ((mI (sI (sI (sI (cpM (cpM M (a + 425) (o + 425) 7) (a + 426) (o + 426) 9) o 7 (mI (cpM (cpM M (a + 425) (o + 425) 7) (a + 426) (o + 426) 9) a 7)) o 8 (mI (sI (cpM (cpM M (a + 425) (o + 425) 7) (a + 426) (o + 426) 9) o 7 (mI (cpM (cpM M (a + 425) (o + 425) 7) (a + 426) (o + 426) 9) a 7)) a 8)) o 9 (mI (sI (sI (cpM (cpM M (a + 425) (o + 425) 7) (a + 426) (o + 426) 9) o 7 (mI (cpM (cpM M (a + 425) (o + 425) 7) (a + 426) (o + 426) 9) a 7)) o 8 (mI (sI (cpM (cpM M (a + 425) (o + 425) 7) (a + 426) (o + 426) 9) o 7 (mI (cpM (cpM M (a + 425) (o + 425) 7) (a + 426) (o + 426) 9) a 7)) a 8)) a 9)) a 10) = 0 ∨ (mI (sI (sI (sI (cpM (cpM M (a + 425) (o + 425) 7) (a + 426) (o + 426) 9) o 7 (mI (cpM (cpM M (a + 425) (o + 425) 7) (a + 426) (o + 426) 9) a 7)) o 8 (mI (sI (cpM (cpM M (a + 425) (o + 425) 7) (a + 426) (o + 426) 9) o 7 (mI (cpM (cpM M (a + 425) (o + 425) 7) (a + 426) (o + 426) 9) a 7)) a 8)) o 9 (mI (sI (sI (cpM (cpM M (a + 425) (o + 425) 7) (a + 426) (o + 426) 9) o 7 (mI (cpM (cpM M (a + 425) (o + 425) 7) (a + 426) (o + 426) 9) a 7)) o 8 (mI (sI (cpM (cpM M (a + 425) (o + 425) 7) (a + 426) (o + 426) 9) o 7 (mI (cpM (cpM M (a + 425) (o + 425) 7) (a + 426) (o + 426) 9) a 7)) a 8)) a 9)) a 10) = 1) ∧ ((mI (sI (sI (sI (sI (sI (cpM (cpM M (a + 425) (o + 425) 7) (a + 426) (o + 426) 9) o 7 (mI (cpM (cpM M (a + 425) (o + 425) 7) (a + 426) (o + 426) 9) a 7)) o 8 (mI (sI (cpM (cpM M (a + 425) (o + 425) 7) (a + 426) (o + 426) 9) o 7 (mI (cpM (cpM M (a + 425) (o + 425) 7) (a + 426) (o + 426) 9) a 7)) a 8)) o 9 (mI (sI (sI (cpM (cpM M (a + 425) (o + 425) 7) (a + 426) (o + 426) 9) o 7 (mI (cpM (cpM M (a + 425) (o + 425) 7) (a + 426) (o + 426) 9) a 7)) o 8 (mI (sI (cpM (cpM M (a + 425) (o + 425) 7) (a + 426) (o + 426) 9) o 7 (mI (cpM (cpM M (a + 425) (o + 425) 7) (a + 426) (o + 426) 9) a 7)) a 8)) a 9)) o 10 (mI (sI (sI (sI (cpM (cpM M (a + 425) (o + 425) 7) (a + 426) (o + 426) 9) o 7 (mI (cpM (cpM M (a + 425) (o + 425) 7) (a + 426) (o + 426) 9) a 7)) o 8 (mI (sI (cpM (cpM M (a + 425) (o + 425) 7) (a + 426) (o + 426) 9) o 7 (mI (cpM (cpM M (a + 425) (o + 425) 7) (a + 426) (o + 426) 9) a 7)) a 8)) o 9 (mI (sI (sI (cpM (cpM M (a + 425) (o + 425) 7) (a + 426) (o + 426) 9) o 7 (mI (cpM (cpM M (a + 425) (o + 425) 7) (a + 426) (o + 426) 9) a 7)) o 8 (mI (sI (cpM (cpM M (a + 425) (o + 425) 7) (a + 426) (o + 426) 9) o 7 (mI (cpM (cpM M (a + 425) (o + 425) 7) (a + 426) (o + 426) 9) a 7)) a 8)) a 9)) a 10)) o 11 (mI (sI (sI (sI (sI (cpM (cpM M (a + 425) (o + 425) 7) (a + 426) (o + 426) 9) o 7 (mI (cpM (cpM M (a + 425) (o + 425) 7) (a + 426) (o + 426) 9) a 7)) o 8 (mI (sI (cpM (cpM M (a + 425) (o + 425) 7) (a + 426) (o + 426) 9) o 7 (mI (cpM (cpM M (a + 425) (o + 425) 7) (a + 426) (o + 426) 9) a 7)) a 8)) o 9 (mI (sI (sI (cpM (cpM M (a + 425) (o + 425) 7) (a + 426) (o + 426) 9) o 7 (mI (cpM (cpM M (a + 425) (o + 425) 7) (a + 426) (o + 426) 9) a 7)) o 8 (mI (sI (cpM (cpM M (a + 425) (o + 425) 7) (a + 426) (o + 426) 9) o 7 (mI (cpM (cpM M (a + 425) (o + 425) 7) (a + 426) (o + 426) 9) a 7)) a 8)) a 9)) o 10 (mI (sI (sI (sI (cpM (cpM M (a + 425) (o + 425) 7) (a + 426) (o + 426) 9) o 7 (mI (cpM (cpM M (a + 425) (o + 425) 7) (a + 426) (o + 426) 9) a 7)) o 8 (mI (sI (cpM (cpM M (a + 425) (o + 425) 7) (a + 426) (o + 426) 9) o 7 (mI (cpM (cpM M (a + 425) (o + 425) 7) (a + 426) (o + 426) 9) a 7)) a 8)) o 9 (mI (sI (sI (cpM (cpM M (a + 425) (o + 425) 7) (a + 426) (o + 426) 9) o 7 (mI (cpM (cpM M (a + 425) (o + 425) 7) (a + 426) (o + 426) 9) a 7)) o 8 (mI (sI (cpM (cpM M (a + 425) (o + 425) 7) (a + 426) (o + 426) 9) o 7 (mI (cpM (cpM M (a + 425) (o + 425) 7) (a + 426) (o + 426) 9) a 7)) a 8)) a 9)) a 10)) a 11)) a 12) = 0 ∨ (mI (sI (sI (sI (sI (sI (cpM (cpM M (a + 425) (o + 425) 7) (a + 426) (o + 426) 9) o 7 (mI (cpM (cpM M (a + 425) (o + 425) 7) (a + 426) (o + 426) 9) a 7)) o 8 (mI (sI (cpM (cpM M (a + 425) (o + 425) 7) (a + 426) (o + 426) 9) o 7 (mI (cpM (cpM M (a + 425) (o + 425) 7) (a + 426) (o + 426) 9) a 7)) a 8)) o 9 (mI (sI (sI (cpM (cpM M (a + 425) (o + 425) 7) (a + 426) (o + 426) 9) o 7 (mI (cpM (cpM M (a + 425) (o + 425) 7) (a + 426) (o + 426) 9) a 7)) o 8 (mI (sI (cpM (cpM M (a + 425) (o + 425) 7) (a + 426) (o + 426) 9) o 7 (mI (cpM (cpM M (a + 425) (o + 425) 7) (a + 426) (o + 426) 9) a 7)) a 8)) a 9)) o 10 (mI (sI (sI (sI (cpM (cpM M (a + 425) (o + 425) 7) (a + 426) (o + 426) 9) o 7 (mI (cpM (cpM M (a + 425) (o + 425) 7) (a + 426) (o + 426) 9) a 7)) o 8 (mI (sI (cpM (cpM M (a + 425) (o + 425) 7) (a + 426) (o + 426) 9) o 7 (mI (cpM (cpM M (a + 425) (o + 425) 7) (a + 426) (o + 426) 9) a 7)) a 8)) o 9 (mI (sI (sI (cpM (cpM M (a + 425) (o + 425) 7) (a + 426) (o + 426) 9) o 7 (mI (cpM (cpM M (a + 425) (o + 425) 7) (a + 426) (o + 426) 9) a 7)) o 8 (mI (sI (cpM (cpM M (a + 425) (o + 425) 7) (a + 426) (o + 426) 9) o 7 (mI (cpM (cpM M (a + 425) (o + 425) 7) (a + 426) (o + 426) 9) a 7)) a 8)) a 9)) a 10)) o 11 (mI (sI (sI (sI (sI (cpM (cpM M (a + 425) (o + 425) 7) (a + 426) (o + 426) 9) o 7 (mI (cpM (cpM M (a + 425) (o + 425) 7) (a + 426) (o + 426) 9) a 7)) o 8 (mI (sI (cpM (cpM M (a + 425) (o + 425) 7) (a + 426) (o + 426) 9) o 7 (mI (cpM (cpM M (a + 425) (o + 425) 7) (a + 426) (o + 426) 9) a 7)) a 8)) o 9 (mI (sI (sI (cpM (cpM M (a + 425) (o + 425) 7) (a + 426) (o + 426) 9) o 7 (mI (cpM (cpM M (a + 425) (o + 425) 7) (a + 426) (o + 426) 9) a 7)) o 8 (mI (sI (cpM (cpM M (a + 425) (o + 425) 7) (a + 426) (o + 426) 9) o 7 (mI (cpM (cpM M (a + 425) (o + 425) 7) (a + 426) (o + 426) 9) a 7)) a 8)) a 9)) o 10 (mI (sI (sI (sI (cpM (cpM M (a + 425) (o + 425) 7) (a + 426) (o + 426) 9) o 7 (mI (cpM (cpM M (a + 425) (o + 425) 7) (a + 426) (o + 426) 9) a 7)) o 8 (mI (sI (cpM (cpM M (a + 425) (o + 425) 7) (a + 426) (o + 426) 9) o 7 (mI (cpM (cpM M (a + 425) (o + 425) 7) (a + 426) (o + 426) 9) a 7)) a 8)) o 9 (mI (sI (sI (cpM (cpM M (a + 425) (o + 425) 7) (a + 426) (o + 426) 9) o 7 (mI (cpM (cpM M (a + 425) (o + 425) 7) (a + 426) (o + 426) 9) a 7)) o 8 (mI (sI (cpM (cpM M (a + 425) (o + 425) 7) (a + 426) (o + 426) 9) o 7 (mI (cpM (cpM M (a + 425) (o + 425) 7) (a + 426) (o + 426) 9) a 7)) a 8)) a 9)) a 10)) a 11)) a 12) = 1) ∧ Q (cpD M o a)
    have F9 : mI (sI (sI (sI (cpM (cpM M (a + 425) (o + 425) 7) (a + 426) (o + 426) 9) o 7 (mI (cpM (cpM M (a + 425) (o + 425) 7) (a + 426) (o + 426) 9) a 7)) o 8 (mI (sI (cpM (cpM M (a + 425) (o + 425) 7) (a + 426) (o + 426) 9) o 7 (mI (cpM (cpM M (a + 425) (o + 425) 7) (a + 426) (o + 426) 9) a 7)) a 8)) o 9 (mI (sI (sI (cpM (cpM M (a + 425) (o + 425) 7) (a + 426) (o + 426) 9) o 7 (mI (cpM (cpM M (a + 425) (o + 425) 7) (a + 426) (o + 426) 9) a 7)) o 8 (mI (sI (cpM (cpM M (a + 425) (o + 425) 7) (a + 426) (o + 426) 9) o 7 (mI (cpM (cpM M (a + 425) (o + 425) 7) (a + 426) (o + 426) 9) a 7)) a 8)) a 9)) a 10 = mI M a 10 := by rw [mI_sI_ne (by omega), mI_sI_ne (by omega), mI_sI_ne (by omega), mI_cp_ne (by omega), mI_cp_ne (by omega)]
    have F11 : mI (sI (sI (sI (sI (sI (cpM (cpM M (a + 425) (o + 425) 7) (a + 426) (o + 426) 9) o 7 (mI (cpM (cpM M (a + 425) (o + 425) 7) (a + 426) (o + 426) 9) a 7)) o 8 (mI (sI (cpM (cpM M (a + 425) (o + 425) 7) (a + 426) (o + 426) 9) o 7 (mI (cpM (cpM M (a + 425) (o + 425) 7) (a + 426) (o + 426) 9) a 7)) a 8)) o 9 (mI (sI (sI (cpM (cpM M (a + 425) (o + 425) 7) (a + 426) (o + 426) 9) o 7 (mI (cpM (cpM M (a + 425) (o + 425) 7) (a + 426) (o + 426) 9) a 7)) o 8 (mI (sI (cpM (cpM M (a + 425) (o + 425) 7) (a + 426) (o + 426) 9) o 7 (mI (cpM (cpM M (a + 425) (o + 425) 7) (a + 426) (o + 426) 9) a 7)) a 8)) a 9)) o 10 (mI (sI (sI (sI (cpM (cpM M (a + 425) (o + 425) 7) (a + 426) (o + 426) 9) o 7 (mI (cpM (cpM M (a + 425) (o + 425) 7) (a + 426) (o + 426) 9) a 7)) o 8 (mI (sI (cpM (cpM M (a + 425) (o + 425) 7) (a + 426) (o + 426) 9) o 7 (mI (cpM (cpM M (a + 425) (o + 425) 7) (a + 426) (o + 426) 9) a 7)) a 8)) o 9 (mI (sI (sI (cpM (cpM M (a + 425) (o + 425) 7) (a + 426) (o + 426) 9) o 7 (mI (cpM (cpM M (a + 425) (o + 425) 7) (a + 426) (o + 426) 9) a 7)) o 8 (mI (sI (cpM (cpM M (a + 425) (o + 425) 7) (a + 426) (o + 426) 9) o 7 (mI (cpM (cpM M (a + 425) (o + 425) 7) (a + 426) (o + 426) 9) a 7)) a 8)) a 9)) a 10)) o 11 (mI (sI (sI (sI (sI (cpM (cpM M (a + 425) (o + 425) 7) (a + 426) (o + 426) 9) o 7 (mI (cpM (cpM M (a + 425) (o + 425) 7) (a + 426) (o + 426) 9) a 7)) o 8 (mI (sI (cpM (cpM M (a + 425) (o + 425) 7) (a + 426) (o + 426) 9) o 7 (mI (cpM (cpM M (a + 425) (o + 425) 7) (a + 426) (o + 426) 9) a 7)) a 8)) o 9 (mI (sI (sI (cpM (cpM M (a + 425) (o + 425) 7) (a + 426) (o + 426) 9) o 7 (mI (cpM (cpM M (a + 425) (o + 425) 7) (a + 426) (o + 426) 9) a 7)) o 8 (mI (sI (cpM (cpM M (a + 425) (o + 425) 7) (a + 426) (o + 426) 9) o 7 (mI (cpM (cpM M (a + 425) (o + 425) 7) (a + 426) (o + 426) 9) a 7)) a 8)) a 9)) o 10 (mI (sI (sI (sI (cpM (cpM M (a + 425) (o + 425) 7) (a + 426) (o + 426) 9) o 7 (mI (cpM (cpM M (a + 425) (o + 425) 7) (a + 426) (o + 426) 9) a 7)) o 8 (mI (sI (cpM (cpM M (a + 425) (o + 425) 7) (a + 426) (o + 426) 9) o 7 (mI (cpM (cpM M (a + 425) (o + 425) 7) (a + 426) (o + 426) 9) a 7)) a 8)) o 9 (mI (sI (sI (cpM (cpM M (a + 425) (o + 425) 7) (a + 426) (o + 426) 9) o 7 (mI (cpM (cpM M (a + 425) (o + 425) 7) (a + 426) (o + 426) 9) a 7)) o 8 (mI (sI (cpM (cpM M (a + 425) (o + 425) 7) (a + 426) (o + 426) 9) o 7 (mI (cpM (cpM M (a + 425) (o + 425) 7) (a + 426) (o + 426) 9) a 7)) a 8)) a 9)) a 10)) a 11)) a 12 = mI M a 12 := by rw [mI_sI_ne (by omega), mI_sI_ne (by omega), mI_sI_ne (by omega), mI_sI_ne (by omega), mI_sI_ne (by omega), mI_cp_ne (by omega), mI_cp_ne (by omega)]
    have FD := cpD_fr (M := M) (o := o) (a := a)
    refine ⟨by rw [F9, ec 10 (by omega) (by omega)]; exact hb, by rw [F11, ec 12 (by omega) (by omega)]; exact hb2, q _ ⟨⟨hK, hp.fr FD fun j hj q => by omega, hn.fr FD fun j hj q => by omega, by rw [gG_fr FD fun j hj q => by omega]; exact hg, ?_⟩, F.trans (FD.wide fun q hq => by unfold bk; omega)⟩⟩
    have e1 : tq 0 7 (mI (cpD M o a) (o + 425)) = S'.2.2.2.1 := by
      rw [← haM.2.2.2.2]
      exact tq_congr fun k _ hk => cpD_b hoa hk
    have e2 : tq 0 9 (mI (cpD M o a) (o + 426)) = S'.2.2.2.2.1 := by
      rw [← haM.2.2.2.2]
      exact tq_congr fun k _ hk => cpD_t hoa hk
    have e3 : tq 7 14 (mI (cpD M o a) o) = fup S'.2.2.2.2.2.2 13 (sC S 13) := by
      rw [← haM.2.2.2.2, ← h13]
      funext k
      show (if 7 ≤ k ∧ k < 14 then mI (cpD M o a) o k else 0) = if k = 13 then mI M o 13 else if 7 ≤ k ∧ k < 14 then mI M a k else 0
      by_cases c1 : k = 13
      · subst c1; rw [if_pos (by omega), if_pos rfl, cpD_13]
      · rw [if_neg c1]
        by_cases c2 : 7 ≤ k ∧ k < 14
        · rw [if_pos c2, if_pos c2, cpD_sc hoa c2.1 (by omega)]
        · rw [if_neg c2, if_neg c2]
    show (_, _, _, _, _, _, _) = (_, _, _, _, _, _, _)
    rw [e1, e2, e3, gL_fr hp FD fun j hj q => by omega, gL_fr hn FD fun j hj q => by omega, gA_fr FD fun j hj q => by omega, hl1, hl2, hA]
    congr 1
    funext i
    by_cases hi : i < 7
    · rw [if_pos hi, gW_fr FD fun j hj q => by omega]
      exact hw i hi
    · rw [if_neg hi, ← haM.2.2.2.2]
      exact (if_neg hi).symm
  | j + 1, n, M, e, hK, F, h13, hp, hn, hg, hl1, hl2, hA, hw => by
    have haM : At K M a P' S' := ha.frame hK F fun j hj q => by unfold bk at q; omega
    have er : mR M (o + 396) n = o + 397 + 4 * n := by
      have hs : mS K (o + 396) = (5, 7) := hL.1.2.2.2.2.2.2.2.2.1
      rw [hK.2.2.2 _ _ (by rw [hs]; decide)]
      exact (hL.way (by omega)).1
    have er2 : mR M (a + 396) n = a + 397 + 4 * n := by
      have hs : mS K (a + 396) = (5, 7) := hLa.1.2.2.2.2.2.2.2.2.1
      rw [hK.2.2.2 _ _ (by rw [hs]; decide)]
      exact (hLa.way (by omega)).1
    have hw1 := (hL.way (i := n) (by omega)).2
    refine B6_become_46 o a (n : Int) hK hL.1 hLa.1 ⟨fun c => absurd c (by omega), fun _ => ⟨by omega, by omega, by omega, by omega, ?_⟩⟩
    rw [Int.toNat_natCast, er, er2]
    refine ⟨hw1, (s_wbecome (by omega) hK hw1 (hLa.way (i := n) (by omega)).2).mono fun M1 ⟨k1, f1, g1⟩ => ⟨k1, ⟨by omega, by omega⟩, ?_⟩⟩
    rw [haM.way (by omega)] at g1
    have f2 : Fr (bk (o + 397) 28) M M1 := f1.wide fun q hq => by unfold bk at *; omega
    refine s_become_loop hoa hL hLa ha ho hb hb2 q j (n + 1) M1 (by omega) k1 (F.trans (f1.wide fun q hq => by unfold bk at *; omega)) ?_ (hp.fr f2 fun j hj q => by unfold bk at q; omega) (hn.fr f2 fun j hj q => by unfold bk at q; omega) ?_ ?_ ?_ ?_ fun i hi => ?_
    · rw [f2.i (fun q => by unfold bk at q; omega), h13]
    · rw [gG_fr f2 fun j hj q => by unfold bk at q; omega]; exact hg
    · rw [gL_fr hp f2 fun j hj q => by unfold bk at q; omega]; exact hl1
    · rw [gL_fr hn f2 fun j hj q => by unfold bk at q; omega]; exact hl2
    · rw [gA_fr f2 fun j hj q => by unfold bk at q; omega]; exact hA
    · by_cases c : i = n
      · subst c; exact g1
      · rw [gW_fr f1 fun j hj q => by unfold bk at q; omega]; exact hw i (by omega)
theorem s_sbecome {Q : ZMem → Prop} (hd : 3 ≤ d) (hoa : o + 427 ≤ a ∨ a + 427 ≤ o) (hL : SrK K o) (hLa : SrK K a) (h : At K M o P S) (ha : At K M a P' S') (hb : sC S' 10 = 0 ∨ sC S' 10 = 1) (hb2 : sC S' 12 = 0 ∨ sC S' 12 = 1) (q : ∀ M', Ax K M M' o P' (xBecome S S') → Q M') : Cv d q6_become [zr o, zr a] M Q := by
  obtain ⟨d, rfl⟩ : ∃ e, d = e + 1 := ⟨d - 1, by omega⟩
  have h13 : mI M o 13 = sC S 13 := h.c (by omega) (by omega)
  refine B6_become o a h.1 hL.1 hLa.1 ((s_gbecome (by omega) (by omega) h.1 hL.prog hLa.prog).mono fun M1 ⟨k1, f1, g1⟩ => ⟨k1, (s_abecome (by omega) k1 hL.ans hLa.ans).mono fun M2 ⟨k2, f2, g2⟩ => ⟨k2, ?_⟩⟩)
  have F2 : Fr (bk o 427) M M2 := (f1.wide fun q hq => by unfold bk at *; omega).trans (f2.wide fun q hq => by unfold bk at *; omega)
  have F2' : Fr (bk (o + 1) 19) M M2 := (f1.wide fun q hq => by unfold bk at *; omega).trans (f2.wide fun q hq => by unfold bk at *; omega)
  have a2 : At K M2 a P' S' := ha.frame k2 F2 fun j hj q => by unfold bk at q; omega
  have p2 := h.2.1.fr F2' fun j hj q => by unfold bk at q; omega
  have n2 := h.2.2.1.fr F2' fun j hj q => by unfold bk at q; omega
  refine (s_psbecome (by omega) (by omega) k2 hL.2.1 hLa.2.1 p2 a2.2.1).mono fun M3 ⟨k3, f3, p3, _, l3⟩ => ⟨k3, ?_⟩
  have F3 : Fr (bk o 427) M M3 := F2.trans (f3.wide fun q hq => by unfold bk at *; omega)
  have a3 : At K M3 a P' S' := ha.frame k3 F3 fun j hj q => by unfold bk at q; omega
  have n3 := n2.fr f3 fun j hj q => by unfold bk at q; omega
  refine (s_psbecome (by omega) (by omega) k3 hL.2.2 hLa.2.2 n3 a3.2.2.1).mono fun M4 ⟨k4, f4, p4, _, l4⟩ => ⟨k4, ?_⟩
  have F4 : Fr (bk o 427) M M4 := F3.trans (f4.wide fun q hq => by unfold bk at *; omega)
  refine s_become_loop hoa hL hLa ha h13 hb hb2 q 7 0 M4 rfl k4 F4 ?_ (p3.fr f4 fun j hj q => by unfold bk at q; omega) p4 ?_ ?_ ?_ ?_ fun i hi => absurd hi (by omega)
  · rw [f4.i (fun q => by unfold bk at q; omega), f3.i (fun q => by unfold bk at q; omega), F2'.i (fun q => by unfold bk at q; omega), h13]
  · rw [gG_fr f4 fun j hj q => by unfold bk at q; omega, gG_fr f3 fun j hj q => by unfold bk at q; omega, gG_fr f2 fun j hj q => by unfold bk at q; omega, g1]
    exact ha.2.2.2.1
  · rw [gL_fr p3 f4 fun j hj q => by unfold bk at q; omega, l3]
    exact a2.pts
  · rw [l4]
    exact a3.inn
  · rw [gA_fr f4 fun j hj q => by unfold bk at q; omega, gA_fr f3 fun j hj q => by unfold bk at q; omega, g2, gA_fr f1 fun j hj q => by unfold bk at q; omega]
    exact ha.ans
theorem s_start_loop {M0 : ZMem} {st : Int} {Q : ZMem → Prop} (hd : 2 ≤ d) (hL : SrK K o) (q : ∀ M', Ax K M0 M' o P (xStart S st) → Q M') : ∀ (j n : Nat) (M : ZMem) (T : Nat → Int), n + j = 9 → (∀ k, k < n ∨ 9 ≤ k → T k = 0) → Ax K M0 M o P ((fun i => S.1 i), [], S.2.2.1, S.2.2.2.1, T, ((sQ S).1, 0), fup (fup S.2.2.2.2.2.2 8 st) 7 1) → Xv (d + 1) q6_start 36 [some (zr o), none, none, some (zi n)] [] M Q
  | 0, n, M, T, e, hT, h => by
    obtain rfl : n = 9 := by omega
    refine B6_start_36 o (9 : Nat) h.1.1 hL.1 ⟨fun _ => ?_, fun c => absurd (by decide) c⟩
    have e0 : T = fun _ => 0 := funext fun k => hT k (by omega)
    subst e0
    exact s_startWay hd (h.kC (k := 9) (x := 0) (by omega) (by omega)) hL fun M1 a1 => ⟨a1.1.1, q M1 a1⟩
  | j + 1, n, M, T, e, hT, h => by
    refine B6_start_36 o (n : Int) h.1.1 hL.1 ⟨fun c => absurd c (by omega), fun _ => ⟨by omega, by omega, ⟨by omega, by omega⟩, ?_⟩⟩
    rw [Int.toNat_natCast]
    refine s_start_loop hd hL q j (n + 1) _ (fup T n 0) (by omega) (fun k hk => ?_) (h.kT (k := n) (x := 0) (by omega))
    by_cases c : k = n
    · subst c; exact fup_self
    · rw [fup_ne c]; exact hT k (by omega)
theorem s_sstart {g : Nat} {st : Int} {Q : ZMem → Prop} (hd : 3 ≤ d) (hog : o + 427 ≤ g ∨ g + 17 ≤ o) (hL : SrK K o) (hG : ProgramAt K g) (h : At K M o P S) (q : ∀ M', Ax K M M' o (gG M g) (xStart S st) → Q M') : Cv d q6_start [zr o, zr g, zi st] M Q := by
  obtain ⟨d, rfl⟩ : ∃ e, d = e + 1 := ⟨d - 1, by omega⟩
  refine B6_start o g st h.1 hL.1 hG ((s_gbecome (by omega) (by omega) h.1 hL.prog hG).mono fun M1 ⟨k1, f1, g1⟩ => ⟨k1, ?_⟩)
  have a1 : Ax K M M1 o (gG M g) S := by
    refine ⟨⟨k1, h.2.1.fr f1 fun j hj q => by unfold bk at q; omega, h.2.2.1.fr f1 fun j hj q => by unfold bk at q; omega, g1, ?_⟩, f1.wide fun q hq => by unfold bk at *; omega⟩
    rw [← h.2.2.2.2]
    show (_, _, _, _, _, _, _) = (_, _, _, _, _, _, _)
    rw [gL_fr h.2.1 f1 fun j hj q => by unfold bk at q; omega, gL_fr h.2.2.1 f1 fun j hj q => by unfold bk at q; omega, gA_fr f1 fun j hj q => by unfold bk at q; omega]
    rw [show mI M1 (o + 425) = mI M (o + 425) from funext fun j => f1.i (fun q => by unfold bk at q; omega) j, show mI M1 (o + 426) = mI M (o + 426) from funext fun j => f1.i (fun q => by unfold bk at q; omega) j, show mI M1 o = mI M o from funext fun j => f1.i (fun q => by unfold bk at q; omega) j]
    congr 1
    exact ways_fr fun i hi => gW_fr f1 fun l hl q => by unfold bk at q; omega
  have a2 := (a1.kC (k := 8) (x := st) (by omega) (by omega)).kC (k := 7) (x := 1) (by omega) (by omega)
  have a3 := a2.kA (a := ((sQ S).1, 0)) (M' := sI (sI (sI M1 o 8 st) o 7 1) (o + 18) 1 0) (a2.1.1.sI _ _ _) (Fr.refl.sI ⟨by omega, by omega⟩) ?_
  · have a4 : Ax K M (sI (sI (sI (sI M1 o 8 st) o 7 1) (o + 18) 1 0) (o + 20) 1 0) o (gG M g) (uP (uA (uC (uC S 8 st) 7 1) ((sQ S).1, 0)) []) := by
      refine ⟨a3.1.kP (a3.1.1.sI _ _ _) (Fr.refl.sI ⟨by omega, by omega⟩) (a3.1.2.1.size (by omega) (by omega)) ?_, a3.2.sI ⟨by omega, by omega⟩⟩
      rw [gL_take a3.1.2.1 a3.1.2.1.1]; rfl
    refine s_start_loop (S := S) (by omega) hL q 9 0 _ (uP (uA (uC (uC S 8 st) 7 1) ((sQ S).1, 0)) []).2.2.2.2.1 rfl (fun k hk => ?_) a4
    have hk : 9 ≤ k := by omega
    show S.2.2.2.2.1 k = 0
    rw [← h.2.2.2.2]
    exact if_neg (by omega)
  · have := a2.1.ans
    show (_, _) = (_, _)
    rw [mI_sI_eq]
    congr 1
    rw [← show gA (sI (sI M1 o 8 st) o 7 1) (o + 18) = sQ S from this]
    exact tq_congr fun k _ _ => mI_sI_ne (by omega)
theorem s_mayTake (h : At K M o P S) (hL : SrK K o) : Ci d q6_mayTake [zr o] M (fun x M' => x = (if sC S 7 = 1 ∧ sC S 11 = 0 ∧ sC S 12 = 0 ∧ S.2.1 ≠ [] then 1 else 0) ∧ M' = M) := by
  have e7 : mI M o 7 = sC S 7 := h.c (by omega) (by omega)
  have e11 : mI M o 11 = sC S 11 := h.c (by omega) (by omega)
  have e12 : mI M o 12 = sC S 12 := h.c (by omega) (by omega)
  have ep := h.plen
  refine B6_mayTake o h.1 hL.1 ?_
  rw [e7, e11, e12, ep]
  refine ⟨fun c => ⟨?_, rfl⟩, fun c => ⟨fun c2 => ⟨?_, rfl⟩, fun c2 => ⟨fun c3 => ⟨?_, rfl⟩, fun c3 => ⟨fun c4 => ⟨?_, rfl⟩, fun c4 => ⟨?_, rfl⟩⟩⟩⟩⟩
  · rw [if_neg (fun q => c q.1)]
  · rw [if_neg (fun q => c2 q.2.1)]
  · rw [if_neg (fun q => c3 q.2.2.1)]
  · rw [if_neg (fun q => q.2.2.2 (List.length_eq_zero_iff.mp (by omega)))]
  · rw [if_pos ⟨by omega, by omega, by omega, fun q => c4 (by rw [q]; decide)⟩]
end BEGIN
