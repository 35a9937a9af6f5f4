/-! a search begins anew; a search becomes another -/
def xZero (S : Sr) (st : Int) : Sr := ((fun i => S.1 i), [], S.2.2.1, S.2.2.2.1, (fun _ => 0), ((sQ S).1, 0), fup (fup (fup S.2.2.2.2.2.2 8 st) 7 1) 9 0)
def xStart (S : Sr) (st : Int) : Sr := xStartWay (xZero S st)
def xBecome (S S' : Sr) : Sr := uC S' 13 (sC S 13)
def cpD (M : ZMem) (o a : Nat) : ZMem := (sI (sI (sI (sI (sI (sI (cpM (cpM M (a + 425) (o + 425) 7) (a + 426) (o + 426) 9) o 7 (mI (cpM (cpM M (a + 425) (o + 425) 7) (a + 426) (o + 426) 9) a 7)) o 8 (mI (sI (cpM (cpM M (a + 425) (o + 425) 7) (a + 426) (o + 426) 9) o 7 (mI (cpM (cpM M (a + 425) (o + 425) 7) (a + 426) (o + 426) 9) a 7)) a 8)) o 9 (mI (sI (sI (cpM (cpM M (a + 425) (o + 425) 7) (a + 426) (o + 426) 9) o 7 (mI (cpM (cpM M (a + 425) (o + 425) 7) (a + 426) (o + 426) 9) a 7)) o 8 (mI (sI (cpM (cpM M (a + 425) (o + 425) 7) (a + 426) (o + 426) 9) o 7 (mI (cpM (cpM M (a + 425) (o + 425) 7) (a + 426) (o + 426) 9) a 7)) a 8)) a 9)) o 10 (mI (sI (sI (sI (cpM (cpM M (a + 425) (o + 425) 7) (a + 426) (o + 426) 9) o 7 (mI (cpM (cpM M (a + 425) (o + 425) 7) (a + 426) (o + 426) 9) a 7)) o 8 (mI (sI (cpM (cpM M (a + 425) (o + 425) 7) (a + 426) (o + 426) 9) o 7 (mI (cpM (cpM M (a + 425) (o + 425) 7) (a + 426) (o + 426) 9) a 7)) a 8)) o 9 (mI (sI (sI (cpM (cpM M (a + 425) (o + 425) 7) (a + 426) (o + 426) 9) o 7 (mI (cpM (cpM M (a + 425) (o + 425) 7) (a + 426) (o + 426) 9) a 7)) o 8 (mI (sI (cpM (cpM M (a + 425) (o + 425) 7) (a + 426) (o + 426) 9) o 7 (mI (cpM (cpM M (a + 425) (o + 425) 7) (a + 426) (o + 426) 9) a 7)) a 8)) a 9)) a 10)) o 11 (mI (sI (sI (sI (sI (cpM (cpM M (a + 425) (o + 425) 7) (a + 426) (o + 426) 9) o 7 (mI (cpM (cpM M (a + 425) (o + 425) 7) (a + 426) (o + 426) 9) a 7)) o 8 (mI (sI (cpM (cpM M (a + 425) (o + 425) 7) (a + 426) (o + 426) 9) o 7 (mI (cpM (cpM M (a + 425) (o + 425) 7) (a + 426) (o + 426) 9) a 7)) a 8)) o 9 (mI (sI (sI (cpM (cpM M (a + 425) (o + 425) 7) (a + 426) (o + 426) 9) o 7 (mI (cpM (cpM M (a + 425) (o + 425) 7) (a + 426) (o + 426) 9) a 7)) o 8 (mI (sI (cpM (cpM M (a + 425) (o + 425) 7) (a + 426) (o + 426) 9) o 7 (mI (cpM (cpM M (a + 425) (o + 425) 7) (a + 426) (o + 426) 9) a 7)) a 8)) a 9)) o 10 (mI (sI (sI (sI (cpM (cpM M (a + 425) (o + 425) 7) (a + 426) (o + 426) 9) o 7 (mI (cpM (cpM M (a + 425) (o + 425) 7) (a + 426) (o + 426) 9) a 7)) o 8 (mI (sI (cpM (cpM M (a + 425) (o + 425) 7) (a + 426) (o + 426) 9) o 7 (mI (cpM (cpM M (a + 425) (o + 425) 7) (a + 426) (o + 426) 9) a 7)) a 8)) o 9 (mI (sI (sI (cpM (cpM M (a + 425) (o + 425) 7) (a + 426) (o + 426) 9) o 7 (mI (cpM (cpM M (a + 425) (o + 425) 7) (a + 426) (o + 426) 9) a 7)) o 8 (mI (sI (cpM (cpM M (a + 425) (o + 425) 7) (a + 426) (o + 426) 9) o 7 (mI (cpM (cpM M (a + 425) (o + 425) 7) (a + 426) (o + 426) 9) a 7)) a 8)) a 9)) a 10)) a 11)) o 12 (mI (sI (sI (sI (sI (sI (cpM (cpM M (a + 425) (o + 425) 7) (a + 426) (o + 426) 9) o 7 (mI (cpM (cpM M (a + 425) (o + 425) 7) (a + 426) (o + 426) 9) a 7)) o 8 (mI (sI (cpM (cpM M (a + 425) (o + 425) 7) (a + 426) (o + 426) 9) o 7 (mI (cpM (cpM M (a + 425) (o + 425) 7) (a + 426) (o + 426) 9) a 7)) a 8)) o 9 (mI (sI (sI (cpM (cpM M (a + 425) (o + 425) 7) (a + 426) (o + 426) 9) o 7 (mI (cpM (cpM M (a + 425) (o + 425) 7) (a + 426) (o + 426) 9) a 7)) o 8 (mI (sI (cpM (cpM M (a + 425) (o + 425) 7) (a + 426) (o + 426) 9) o 7 (mI (cpM (cpM M (a + 425) (o + 425) 7) (a + 426) (o + 426) 9) a 7)) a 8)) a 9)) o 10 (mI (sI (sI (sI (cpM (cpM M (a + 425) (o + 425) 7) (a + 426) (o + 426) 9) o 7 (mI (cpM (cpM M (a + 425) (o + 425) 7) (a + 426) (o + 426) 9) a 7)) o 8 (mI (sI (cpM (cpM M (a + 425) (o + 425) 7) (a + 426) (o + 426) 9) o 7 (mI (cpM (cpM M (a + 425) (o + 425) 7) (a + 426) (o + 426) 9) a 7)) a 8)) o 9 (mI (sI (sI (cpM (cpM M (a + 425) (o + 425) 7) (a + 426) (o + 426) 9) o 7 (mI (cpM (cpM M (a + 425) (o + 425) 7) (a + 426) (o + 426) 9) a 7)) o 8 (mI (sI (cpM (cpM M (a + 425) (o + 425) 7) (a + 426) (o + 426) 9) o 7 (mI (cpM (cpM M (a + 425) (o + 425) 7) (a + 426) (o + 426) 9) a 7)) a 8)) a 9)) a 10)) o 11 (mI (sI (sI (sI (sI (cpM (cpM M (a + 425) (o + 425) 7) (a + 426) (o + 426) 9) o 7 (mI (cpM (cpM M (a + 425) (o + 425) 7) (a + 426) (o + 426) 9) a 7)) o 8 (mI (sI (cpM (cpM M (a + 425) (o + 425) 7) (a + 426) (o + 426) 9) o 7 (mI (cpM (cpM M (a + 425) (o + 425) 7) (a + 426) (o + 426) 9) a 7)) a 8)) o 9 (mI (sI (sI (cpM (cpM M (a + 425) (o + 425) 7) (a + 426) (o + 426) 9) o 7 (mI (cpM (cpM M (a + 425) (o + 425) 7) (a + 426) (o + 426) 9) a 7)) o 8 (mI (sI (cpM (cpM M (a + 425) (o + 425) 7) (a + 426) (o + 426) 9) o 7 (mI (cpM (cpM M (a + 425) (o + 425) 7) (a + 426) (o + 426) 9) a 7)) a 8)) a 9)) o 10 (mI (sI (sI (sI (cpM (cpM M (a + 425) (o + 425) 7) (a + 426) (o + 426) 9) o 7 (mI (cpM (cpM M (a + 425) (o + 425) 7) (a + 426) (o + 426) 9) a 7)) o 8 (mI (sI (cpM (cpM M (a + 425) (o + 425) 7) (a + 426) (o + 426) 9) o 7 (mI (cpM (cpM M (a + 425) (o + 425) 7) (a + 426) (o + 426) 9) a 7)) a 8)) o 9 (mI (sI (sI (cpM (cpM M (a + 425) (o + 425) 7) (a + 426) (o + 426) 9) o 7 (mI (cpM (cpM M (a + 425) (o + 425) 7) (a + 426) (o + 426) 9) a 7)) o 8 (mI (sI (cpM (cpM M (a + 425) (o + 425) 7) (a + 426) (o + 426) 9) o 7 (mI (cpM (cpM M (a + 425) (o + 425) 7) (a + 426) (o + 426) 9) a 7)) a 8)) a 9)) a 10)) a 11)) a 12))
section BEGIN
variable {d : Nat} {K M0 M M' : ZMem} {o a : Nat} {P P' : Pg} {S S' : Sr}
theorem cpD_fr : Fr (fun q => q = o ∨ q = o + 425 ∨ q = o + 426) M (cpD M o a) := (((((((Fr.refl.cp (Or.inr (Or.inl rfl))).cp (Or.inr (Or.inr rfl))).sI (Or.inl rfl)).sI (Or.inl rfl)).sI (Or.inl rfl)).sI (Or.inl rfl)).sI (Or.inl rfl)).sI (Or.inl rfl)
theorem cpD_sc (hoa : o + 427 ≤ a ∨ a + 427 ≤ o) {k : Nat} (h1 : 7 ≤ k) (h2 : k < 13) : mI (cpD M o a) o k = mI M a k := by
  unfold cpD
  obtain rfl | rfl | rfl | rfl | rfl | rfl : k = 7 ∨ k = 8 ∨ k = 9 ∨ k = 10 ∨ k = 11 ∨ k = 12 := by omega
  · rw [mI_sI_ne (by omega), mI_sI_ne (by omega), mI_sI_ne (by omega), mI_sI_ne (by omega), mI_sI_ne (by omega), mI_sI_eq, mI_cp_ne (by omega), mI_cp_ne (by omega)]
  · rw [mI_sI_ne (by omega), mI_sI_ne (by omega), mI_sI_ne (by omega), mI_sI_ne (by omega), mI_sI_eq, mI_sI_ne (by omega), mI_cp_ne (by omega), mI_cp_ne (by omega)]
  · rw [mI_sI_ne (by omega), mI_sI_ne (by omega), mI_sI_ne (by omega), mI_sI_eq, mI_sI_ne (by omega), mI_sI_ne (by omega), mI_cp_ne (by omega), mI_cp_ne (by omega)]
  · rw [mI_sI_ne (by omega), mI_sI_ne (by omega), mI_sI_eq, mI_sI_ne (by omega), mI_sI_ne (by omega), mI_sI_ne (by omega), mI_cp_ne (by omega), mI_cp_ne (by omega)]
  · rw [mI_sI_ne (by omega), mI_sI_eq, mI_sI_ne (by omega), mI_sI_ne (by omega), mI_sI_ne (by omega), mI_sI_ne (by omega), mI_cp_ne (by omega), mI_cp_ne (by omega)]
  · rw [mI_sI_eq, mI_sI_ne (by omega), mI_sI_ne (by omega), mI_sI_ne (by omega), mI_sI_ne (by omega), mI_sI_ne (by omega), mI_cp_ne (by omega), mI_cp_ne (by omega)]
theorem cpD_13 : mI (cpD M o a) o 13 = mI M o 13 := by
  unfold cpD
  rw [mI_sI_ne (by omega), mI_sI_ne (by omega), mI_sI_ne (by omega), mI_sI_ne (by omega), mI_sI_ne (by omega), mI_sI_ne (by omega), mI_cp_ne (by omega), mI_cp_ne (by omega)]
theorem cpD_b (hoa : o + 427 ≤ a ∨ a + 427 ≤ o) {k : Nat} (h : k < 7) : mI (cpD M o a) (o + 425) k = mI M (a + 425) k := by
  unfold cpD
  rw [mI_sI_ne (by omega), mI_sI_ne (by omega), mI_sI_ne (by omega), mI_sI_ne (by omega), mI_sI_ne (by omega), mI_sI_ne (by omega), mI_cp_ne (by omega), mI_cp_eq h]
theorem cpD_t (hoa : o + 427 ≤ a ∨ a + 427 ≤ o) {k : Nat} (h : k < 9) : mI (cpD M o a) (o + 426) k = mI M (a + 426) k := by
  unfold cpD
  rw [mI_sI_ne (by omega), mI_sI_ne (by omega), mI_sI_ne (by omega), mI_sI_ne (by omega), mI_sI_ne (by omega), mI_sI_ne (by omega), mI_cp_eq h, mI_cp_ne (by omega)]
theorem At.frame {X : Nat → Prop} (h : At K M o P S) (hK : KW K M') (F : Fr X M M') (hx : ∀ j, j < 427 → ¬ X (o + j)) : At K M' o P S := by
  refine ⟨hK, h.2.1.fr F fun j hj => by rw [Nat.add_assoc]; exact hx _ (by omega), h.2.2.1.fr F fun j hj => by rw [Nat.add_assoc]; exact hx _ (by omega), by rw [gG_fr F fun j hj => by rw [Nat.add_assoc]; exact hx _ (by omega)]; exact h.2.2.2.1, ?_⟩
  rw [← h.2.2.2.2]
  show (_, _, _, _, _, _, _) = (_, _, _, _, _, _, _)
  rw [gL_fr h.2.1 F fun j hj => by rw [Nat.add_assoc]; exact hx _ (by omega), gL_fr h.2.2.1 F fun j hj => by rw [Nat.add_assoc]; exact hx _ (by omega), gA_fr F fun j hj => by rw [Nat.add_assoc]; exact hx _ (by omega)]
  rw [show mI M' (o + 425) = mI M (o + 425) from funext fun j => F.i (hx 425 (by omega)) j, show mI M' (o + 426) = mI M (o + 426) from funext fun j => F.i (hx 426 (by omega)) j, show mI M' o = mI M o from funext fun j => F.i (hx 0 (by omega)) j]
  congr 1
  exact ways_fr fun i hi => gW_fr F fun j hj => by rw [show o + 397 + 4 * i + j = o + (397 + 4 * i + j) by omega]; exact hx _ (by omega)
theorem s_start_loop {M0 : ZMem} {st : Int} {Q : ZMem → Prop} (hd : 2 ≤ d) (hL : SrK K o) (q : ∀ M', Ax K M0 M' o P (xStart S st) → Q M') : ∀ (j n : Nat) (M : ZMem) (T : Nat → Int), n + j = 9 → (∀ k, k < n ∨ 9 ≤ k → T k = 0) → Ax K M0 M o P ((fun i => S.1 i), [], S.2.2.1, S.2.2.2.1, T, ((sQ S).1, 0), fup (fup S.2.2.2.2.2.2 8 st) 7 1) → Xv (d + 1) q6_start 36 [some (zr o), none, none, some (zi n)] [] M Q
  | 0, n, M, T, e, hT, h => by
    obtain rfl : n = 9 := by omega
    refine B6_start_36 o (9 : Nat) h.1.1 hL.1 ⟨fun _ => ?_, fun c => absurd (by decide) c⟩
    have e0 : T = fun _ => 0 := funext fun k => hT k (by omega)
    subst e0
    exact s_startWay hd (h.kC (k := 9) (x := 0) (by omega) (by omega)) hL fun M1 a1 => ⟨a1.1.1, q M1 a1⟩
  | j + 1, n, M, T, e, hT, h => by
    refine B6_start_36 o (n : Int) h.1.1 hL.1 ⟨fun c => absurd c (by omega), fun _ => ⟨by omega, by omega, ⟨by omega, by omega⟩, ?_⟩⟩
    rw [Int.toNat_natCast]
    refine s_start_loop hd hL q j (n + 1) _ (fup T n 0) (by omega) (fun k hk => ?_) (h.kT (k := n) (x := 0) (by omega))
    by_cases c : k = n
    · subst c; exact fup_self
    · rw [fup_ne c]; exact hT k (by omega)
theorem s_sstart {g : Nat} {st : Int} {Q : ZMem → Prop} (hd : 3 ≤ d) (hog : o + 427 ≤ g ∨ g + 17 ≤ o) (hL : SrK K o) (hG : ProgramAt K g) (h : At K M o P S) (q : ∀ M', Ax K M M' o (gG M g) (xStart S st) → Q M') : Cv d q6_start [zr o, zr g, zi st] M Q := by
  obtain ⟨d, rfl⟩ : ∃ e, d = e + 1 := ⟨d - 1, by omega⟩
  refine B6_start o g st h.1 hL.1 hG ((s_gbecome (by omega) (by omega) h.1 hL.prog hG).mono fun M1 ⟨k1, f1, g1⟩ => ⟨k1, ?_⟩)
  have a1 : Ax K M M1 o (gG M g) S := by
    refine ⟨⟨k1, h.2.1.fr f1 fun j hj q => by unfold bk at q; omega, h.2.2.1.fr f1 fun j hj q => by unfold bk at q; omega, g1, ?_⟩, f1.wide fun q hq => by unfold bk at *; omega⟩
    rw [← h.2.2.2.2]
    show (_, _, _, _, _, _, _) = (_, _, _, _, _, _, _)
    rw [gL_fr h.2.1 f1 fun j hj q => by unfold bk at q; omega, gL_fr h.2.2.1 f1 fun j hj q => by unfold bk at q; omega, gA_fr f1 fun j hj q => by unfold bk at q; omega]
    rw [show mI M1 (o + 425) = mI M (o + 425) from funext fun j => f1.i (fun q => by unfold bk at q; omega) j, show mI M1 (o + 426) = mI M (o + 426) from funext fun j => f1.i (fun q => by unfold bk at q; omega) j, show mI M1 o = mI M o from funext fun j => f1.i (fun q => by unfold bk at q; omega) j]
    congr 1
    exact ways_fr fun i hi => gW_fr f1 fun l hl q => by unfold bk at q; omega
  have a2 := (a1.kC (k := 8) (x := st) (by omega) (by omega)).kC (k := 7) (x := 1) (by omega) (by omega)
  have a3 := a2.kA (a := ((sQ S).1, 0)) (M' := sI (sI (sI M1 o 8 st) o 7 1) (o + 18) 1 0) (a2.1.1.sI _ _ _) (Fr.refl.sI ⟨by omega, by omega⟩) ?_
  · have a4 : Ax K M (sI (sI (sI (sI M1 o 8 st) o 7 1) (o + 18) 1 0) (o + 20) 1 0) o (gG M g) (uP (uA (uC (uC S 8 st) 7 1) ((sQ S).1, 0)) []) := by
      refine ⟨a3.1.kP (a3.1.1.sI _ _ _) (Fr.refl.sI ⟨by omega, by omega⟩) (a3.1.2.1.size (by omega) (by omega)) ?_, a3.2.sI ⟨by omega, by omega⟩⟩
      rw [gL_take a3.1.2.1 a3.1.2.1.1]; rfl
    refine s_start_loop (S := S) (by omega) hL q 9 0 _ (uP (uA (uC (uC S 8 st) 7 1) ((sQ S).1, 0)) []).2.2.2.2.1 rfl (fun k hk => ?_) a4
    have hk : 9 ≤ k := by omega
    show S.2.2.2.2.1 k = 0
    rw [← h.2.2.2.2]
    exact if_neg (by omega)
  · have := a2.1.ans
    show (_, _) = (_, _)
    rw [mI_sI_eq]
    congr 1
    rw [← show gA (sI (sI M1 o 8 st) o 7 1) (o + 18) = sQ S from this]
    exact tq_congr fun k _ _ => mI_sI_ne (by omega)
theorem s_mayTake (h : At K M o P S) (hL : SrK K o) : Ci d q6_mayTake [zr o] M (fun x M' => x = (if sC S 7 = 1 ∧ sC S 11 = 0 ∧ sC S 12 = 0 ∧ S.2.1 ≠ [] then 1 else 0) ∧ M' = M) := by
  have e7 : mI M o 7 = sC S 7 := h.c (by omega) (by omega)
  have e11 : mI M o 11 = sC S 11 := h.c (by omega) (by omega)
  have e12 : mI M o 12 = sC S 12 := h.c (by omega) (by omega)
  have ep := h.plen
  refine B6_mayTake o h.1 hL.1 ?_
  rw [e7, e11, e12, ep]
  refine ⟨fun c => ⟨?_, rfl⟩, fun c => ⟨fun c2 => ⟨?_, rfl⟩, fun c2 => ⟨fun c3 => ⟨?_, rfl⟩, fun c3 => ⟨fun c4 => ⟨?_, rfl⟩, fun c4 => ⟨?_, rfl⟩⟩⟩⟩⟩
  · rw [if_neg (fun q => c q.1)]
  · rw [if_neg (fun q => c2 q.2.1)]
  · rw [if_neg (fun q => c3 q.2.2.1)]
  · rw [if_neg (fun q => q.2.2.2 (List.length_eq_zero_iff.mp (by omega)))]
  · rw [if_pos ⟨by omega, by omega, by omega, fun q => c4 (by rw [q]; decide)⟩]
end BEGIN
