/-! a point goes; all that a way came through go -/
def wWithout (w : Wy) (i : Nat) : Wy := (w.1, w.2.1, w.2.2.1, w.2.2.2.1, cWithout w.2.2.2.2 i)
def pWithout (i : Nat) (p : Pt) : Pt := (wWithout p.1 i, p.2)
def rmL (l : List Pt) (i : Nat) : List Pt := (l.eraseIdx i).map (pWithout i)
def two (p a : Nat) (q : Nat) : Prop := bk p 188 q ∨ bk a 4 q
section REMOVE
variable {d : Nat} {K : ZMem}
theorem s_withoutBit {M : ZMem} {c : Int} {i : Nat} (hi : i < 31) (hK : KW K M) : Ci d q3_withoutBit [zi c, zi i] M (fun x M' => x = zOr (zAnd c (zShl 1 i - 1)) (zShl (zShr c ((i : Int) + 1)) i) ∧ M' = M) := by
  have h : 0 ≤ zShl 1 (i : Int) - 1 ∧ zShl 1 (i : Int) - 1 ≤ 2147483647 := zb_inR ⟨i, hi⟩
  exact B3_withoutBit c i hK ⟨⟨by have := h.1; omega, h.2⟩, ⟨by omega, by omega⟩, rfl, rfl⟩
theorem s_remove2 {p a i : Nat} {M1 : ZMem} {Q : ZMem → Prop} (hi : i < 31) (hpa : p + 188 ≤ a ∨ a + 4 ≤ p) (h0 : PsK K p) (h2 : WayAt K a) (hp : PsOK M1 p) (fin : ∀ M, KW K M → Fr (two p a) M1 M → PsOK M p → mI M p 1 = mI M1 p 1 → gL M p = (gL M1 p).map (pWithout i) → gW M a = wWithout (gW M1 a) i → Q M) : ∀ (j k : Nat) (M : ZMem), k + j = (mI M1 p 1).toNat → KW K M → Fr (bk p 188) M1 M → mI M p 1 = mI M1 p 1 → (∀ x, mR M (p + 1) x = mR M1 (p + 1) x) → (∀ x, x < (mI M1 p 1).toNat → gP M (mR M1 (p + 1) x) = if x < k then pWithout i (gP M1 (mR M1 (p + 1) x)) else gP M1 (mR M1 (p + 1) x)) → Xv (d + 1) q3_remove 91 [some (zr p), some (zi i), some (zr a), none, some (zi k)] [] M Q
  | 0, k, M, e, hK, hF, hn, hr, hg => by
    have p1 := hp.1
    have p2 := hp.2.1
    have hpM : PsOK M p := by
      unfold PsOK
      rw [hn, funext hr]
      exact hp
    refine B3_remove_91 p i a k hK h0.1 h2 ⟨fun _ => (s_withoutBit hi hK).pure ⟨hK, ?_⟩, fun c => absurd c (by rw [hn]; omega)⟩
    have F2 : Fr (bk a 4) M (sI M a 7 (zOr (zAnd (mI M a 7) (zShl 1 i - 1)) (zShl (zShr (mI M a 7) ((i : Int) + 1)) i))) := Fr.refl.sI ⟨by omega, by omega⟩
    refine fin _ (hK.sI _ _ _) ?_ (hpM.fr F2 fun j hj q => by unfold bk at q; omega) ?_ ?_ ?_
    · exact (hF.wide fun q hq => Or.inl hq).trans (F2.wide fun q hq => Or.inr hq)
    · rw [F2.i (fun q => by unfold bk at q; omega), hn]
    · rw [gL_fr hpM F2 (fun j hj q => by unfold bk at q; omega)]
      unfold gL
      rw [hn, List.map_map]
      refine List.map_congr_left fun x hx => ?_
      have hx := List.mem_range.mp hx
      rw [hr, hg x hx, if_pos (by omega)]
      rfl
    · rw [gW_c, zBit_without hi]
      have : gW M a = gW M1 a := gW_fr hF fun j hj q => by unfold bk at q; omega
      rw [this]
      have e7 : mI M a 7 = mI M1 a 7 := hF.i (fun q => by unfold bk at q; omega) 7
      rw [e7]
      rfl
  | j + 1, k, M, e, hK, hF, hn, hr, hg => by
    have p1 := hp.1
    have p2 := hp.2.1
    have hpM : PsOK M p := by
      unfold PsOK
      rw [hn, funext hr]
      exact hp
    have hk : k < 31 := by omega
    have hrow := hp.row hk
    have hat : PointAt K (mR M (p + 1) k) := hpM.at h0 hk
    refine B3_remove_91 p i a k hK h0.1 h2 ⟨fun c => absurd c (by rw [hn]; omega), fun _ => ⟨by omega, by omega, by rw [Int.toNat_natCast]; exact hat, by omega, by omega, by rw [Int.toNat_natCast]; exact hat, (s_withoutBit hi hK).pure ⟨hK, ⟨by omega, by omega⟩, ?_⟩⟩⟩
    rw [Int.toNat_natCast, hr]
    have F2 (x : Int) : Fr (bk (mR M1 (p + 1) k + 1) 1) M (sI M (mR M1 (p + 1) k + 1) 7 x) := Fr.refl.sI ⟨by omega, by omega⟩
    refine s_remove2 hi hpa h0 h2 hp fin j (k + 1) _ (by omega) (hK.sI _ _ _) (hF.sI ⟨by omega, by omega⟩) ?_ (fun x => by rw [mR_sI, hr]) fun x hx => ?_
    · rw [mI_sI, if_neg (by omega), hn]
    · by_cases q : x = k
      · subst q
        rw [gP_w (F2 _) (fun q => by unfold bk at q; omega) (fun q => by unfold bk at q; omega), gW_c, zBit_without hi, if_pos (by omega), hg x hx, if_neg (by omega)]
        have : gW M (mR M1 (p + 1) x + 1) = gW M1 (mR M1 (p + 1) x + 1) := congrArg Prod.fst ((hg x hx).trans (if_neg (by omega)))
        have e7 : zBit (mI M (mR M1 (p + 1) x + 1) 7) = zBit (mI M1 (mR M1 (p + 1) x + 1) 7) := congrArg (fun w : Wy => w.2.2.2.2) this
        rw [this, e7]
        rfl
      · have rs := hp.sep (i := x) (j := k) (by omega) hk q
        rw [gP_fr (F2 _) (fun j hj q => by unfold bk at q; omega), hg x hx]
        by_cases q2 : x < k
        · rw [if_pos q2, if_pos (by omega)]
        · rw [if_neg q2, if_neg (by omega)]
def phi (i n j : Nat) : Nat := if j < i then j else if j + 1 < n then j + 1 else if j + 1 = n then i else j
theorem s_remove1 {p a i : Nat} {M0 : ZMem} {Q : ZMem → Prop} (hpa : p + 188 ≤ a ∨ a + 4 ≤ p) (h0 : PsK K p) (h2 : WayAt K a) (hp : PsOK M0 p) (hi : i < (mI M0 p 1).toNat) (fin : ∀ M, KW K M → Fr (two p a) M0 M → PsOK M p → mI M p 1 = mI M0 p 1 - 1 → gL M p = rmL (gL M0 p) i → gW M a = wWithout (gW M0 a) i → Q M) : ∀ (j k : Nat) (M : ZMem), k + j + 1 = (mI M0 p 1).toNat → i ≤ k → KW K M → Fr (bk p 188) M0 M → (∀ b, mI M b = mI M0 b) → (∀ x, mR M (p + 1) x = if x < i then mR M0 (p + 1) x else if x < k then mR M0 (p + 1) (x + 1) else mR M0 (p + 1) x) → Xv (d + 1) q3_remove 35 [some (zr p), some (zi i), some (zr a), some (zr (mR M0 (p + 1) i)), some (zi k)] [] M Q
  | 0, k, M, e, hik, hK, hF, hI, hr => by
    have p1 := hp.1
    have p2 := hp.2.1
    have es : mI M p 1 = mI M0 p 1 := congrFun (hI p) 1
    have e1 : mI (sI M p 1 (mI M p 1 - 1)) p 1 = mI M0 p 1 - 1 := by rw [mI_sI, if_pos ⟨rfl, rfl⟩, es]
    refine B3_remove_35 p i a _ k hK h0.1 h2 ⟨⟨by omega, by omega⟩, fun _ => ⟨by rw [es]; exact ⟨by omega, by omega⟩, hp.at h0 (by omega), by rw [e1]; omega, by rw [e1]; omega, ?_⟩, fun c => absurd c (by rw [es]; omega)⟩
    rw [e1, show (mI M0 p 1 - 1).toNat = k by omega, es]
    have hr1 : ∀ x, mR (sR (sI M p 1 (mI M0 p 1 - 1)) (p + 1) k (mR M0 (p + 1) i)) (p + 1) x = mR M0 (p + 1) (phi i (mI M0 p 1).toNat x) := fun x => by
      rw [mR_sR, mR_sI, hr]
      unfold phi
      by_cases c1 : x = k
      · rw [if_pos ⟨rfl, c1⟩, if_neg (by omega), if_neg (by omega), if_pos (by omega)]
      · rw [if_neg (by omega)]
        by_cases c2 : x < i
        · rw [if_pos c2, if_pos c2]
        · rw [if_neg c2, if_neg c2]
          by_cases c3 : x < k
          · rw [if_pos c3, if_pos (by omega)]
          · rw [if_neg c3, if_neg (by omega), if_neg (by omega)]
    have hn1 : mI (sR (sI M p 1 (mI M0 p 1 - 1)) (p + 1) k (mR M0 (p + 1) i)) p 1 = mI M0 p 1 - 1 := by rw [mI_sR, mI_sI, if_pos ⟨rfl, rfl⟩]
    have hF1 : Fr (bk p 188) M0 (sR (sI M p 1 (mI M0 p 1 - 1)) (p + 1) k (mR M0 (p + 1) i)) := (hF.sI ⟨by omega, by omega⟩).sR ⟨by omega, by omega⟩
    have hph : ∀ x, x < 31 → phi i (mI M0 p 1).toNat x < 31 := fun x hx => by unfold phi; split <;> (try split) <;> (try split) <;> omega
    have hp1 : PsOK (sR (sI M p 1 (mI M0 p 1 - 1)) (p + 1) k (mR M0 (p + 1) i)) p := by
      refine ⟨by rw [hn1]; omega, by rw [hn1]; omega, fun x hx => ?_, fun x y hx hy hxy => ?_⟩
      · rw [hr1]; exact hp.2.2.1 _ (hph x hx)
      · rw [hr1, hr1] at hxy
        have := hp.2.2.2 _ _ (hph x hx) (hph y hy) hxy
        unfold phi at this
        split at this <;> (try split at this) <;> (try split at this) <;> (try split at this) <;> (try split at this) <;> (try split at this) <;> omega
    have hgp : ∀ q, p + 2 ≤ q → gP (sR (sI M p 1 (mI M0 p 1 - 1)) (p + 1) k (mR M0 (p + 1) i)) q = gP M0 q := fun q hq => by
      have F3 : Fr (fun b => b = p ∨ b = p + 1) M (sR (sI M p 1 (mI M0 p 1 - 1)) (p + 1) k (mR M0 (p + 1) i)) := (Fr.refl.sI (Or.inl rfl)).sR (Or.inr rfl)
      rw [gP_fr F3 fun j hj c => by omega]
      unfold gP gW
      simp only [hI]
    refine s_remove2 (M1 := sR (sI M p 1 (mI M0 p 1 - 1)) (p + 1) k (mR M0 (p + 1) i)) (by omega) hpa h0 h2 hp1 (fun M2 k2 f2 o2 n2 g2 w2 => ?_) k 0 _ (by rw [hn1]; omega) (KW.sR hK _ _ _ (by rw [h0.1.2.2])) Fr.refl rfl (fun x => rfl) fun x hx => by rw [if_neg (by omega)]
    refine fin M2 k2 ((hF1.wide fun q hq => Or.inl hq).trans f2) o2 (by rw [n2, hn1]) ?_ ?_
    · rw [g2]
      unfold rmL
      congr 1
      apply List.ext_getElem?
      intro x
      rw [List.getElem?_eraseIdx]
      by_cases hx : x < (mI M0 p 1).toNat - 1
      · rw [gL_get (by rw [hn1]; omega), hr1]
        have hrow := hp.row (i := phi i (mI M0 p 1).toNat x) (hph x (by omega))
        rw [hgp _ hrow.1]
        unfold phi
        by_cases c2 : x < i
        · rw [if_pos c2, if_pos c2, gL_get (by omega)]
        · rw [if_neg c2, if_neg c2, if_pos (by omega), gL_get (by omega)]
      · rw [List.getElem?_eq_none (by rw [gL_len, hn1]; omega)]
        by_cases c2 : x < i
        · omega
        · rw [if_neg c2, List.getElem?_eq_none (by rw [gL_len]; omega)]
    · rw [w2, gW_fr hF1 fun j hj q => by unfold bk at q; omega]
  | j + 1, k, M, e, hik, hK, hF, hI, hr => by
    have p1 := hp.1
    have p2 := hp.2.1
    have es : mI M p 1 = mI M0 p 1 := congrFun (hI p) 1
    have ek : mR M (p + 1) (k + 1) = mR M0 (p + 1) (k + 1) := by rw [hr, if_neg (by omega), if_neg (by omega)]
    refine B3_remove_35 p i a _ k hK h0.1 h2 ⟨⟨by omega, by omega⟩, fun c => absurd c (by rw [es]; omega), fun _ => ⟨⟨by omega, by omega⟩, by omega, by omega, ?_, by omega, by omega, ⟨by omega, by omega⟩, ?_⟩⟩
    · rw [show ((k : Int) + 1).toNat = k + 1 by omega, ek]; exact hp.at h0 (by omega)
    · rw [show ((k : Int) + 1).toNat = k + 1 by omega, ek, Int.toNat_natCast]
      refine s_remove1 hpa h0 h2 hp hi fin j (k + 1) _ (by omega) (by omega) (KW.sR hK _ _ _ (by rw [h0.1.2.2])) (hF.sR ⟨by omega, by omega⟩) (fun b => by funext x; rw [mI_sR, hI]) fun x => ?_
      rw [mR_sR, hr]
      by_cases c1 : x = k
      · subst c1; rw [if_pos ⟨rfl, rfl⟩, if_neg (by omega), if_pos (by omega)]
      · rw [if_neg (by omega)]
        by_cases c2 : x < i
        · rw [if_pos c2, if_pos c2]
        · rw [if_neg c2, if_neg c2]
          by_cases c3 : x < k
          · rw [if_pos c3, if_pos (by omega)]
          · rw [if_neg c3, if_neg (by omega)]
theorem s_remove {M : ZMem} {p a i : Nat} (hd : 1 ≤ d) (hpa : p + 188 ≤ a ∨ a + 4 ≤ p) (hK : KW K M) (h0 : PsK K p) (h2 : WayAt K a) (hp : PsOK M p) (hi : i < (mI M p 1).toNat) : Cv d q3_remove [zr p, zi i, zr a] M (fun M' => KW K M' ∧ Fr (two p a) M M' ∧ PsOK M' p ∧ mI M' p 1 = mI M p 1 - 1 ∧ gL M' p = rmL (gL M p) i ∧ gW M' a = wWithout (gW M a) i) := by
  obtain ⟨d, rfl⟩ : ∃ e, d = e + 1 := ⟨d - 1, by omega⟩
  have p1 := hp.1
  have p2 := hp.2.1
  refine B3_remove p i a hK h0.1 h2 ⟨fun c => absurd c (by omega), fun _ => ⟨fun c => absurd c (by omega), fun _ => ⟨fun _ => ⟨by omega, by omega, ?_⟩, fun c => absurd c (by omega)⟩⟩⟩
  rw [Int.toNat_natCast]
  refine s_remove1 hpa h0 h2 hp hi (fun M1 a b c e f g => ⟨a, b, c, e, f, g⟩) ((mI M p 1).toNat - 1 - i) i M (by omega) (by omega) hK Fr.refl (fun _ => rfl) fun x => ?_
  by_cases c2 : x < i
  · rw [if_pos c2]
  · rw [if_neg c2, if_neg (by omega)]
/-- what is left when all below a place that the way came through since a depth went -/
def dropN (since : Int) : Nat → List Pt → Wy → Int → List Pt × Wy × Int
  | 0, l, w, g => (l, w, g)
  | n + 1, l, w, g => if w.2.2.2.2 n = true ∧ since ≤ ((l[n]?.map (fun q => q.1.1 5)).getD 0) then dropN since n (rmL l n) (wWithout w n) (g + 1) else dropN since n l w g
theorem s_drop_loop {p a : Nat} {since : Int} {M0 : ZMem} {Q : Int → ZMem → Prop} {R : List Pt × Wy × Int} (hpa : p + 188 ≤ a ∨ a + 4 ≤ p) (h0 : PsK K p) (h2 : WayAt K a) (fin : ∀ M, KW K M → Fr (two p a) M0 M → PsOK M p → gL M p = R.1 → gW M a = R.2.1 → Q R.2.2 M) : ∀ (n : Nat) (g : Int) (M : ZMem), n ≤ (mI M p 1).toNat → 0 ≤ g → g + n ≤ 100 → KW K M → Fr (two p a) M0 M → PsOK M p → dropN since n (gL M p) (gW M a) g = R → Xi (d + 2) q3_drop 10 [some (zr p), some (zr a), some (zi since), some (zi g), some (zi ((n : Int) - 1)), none, none] [] M Q
  | 0, g, M, hn, g0, g1, hK, hF, hp, hR => by
    refine B3_drop_10 p a since g _ hK h0.1 h2 ⟨fun _ => ?_, fun c => absurd (by omega) c⟩
    subst hR
    exact fin M hK hF hp rfl rfl
  | n + 1, g, M, hn, g0, g1, hK, hF, hp, hR => by
    have p1 := hp.1
    have p2 := hp.2.1
    have ih := s_drop_loop (since := since) hpa h0 h2 fin n
    have hrow := hp.row (i := n) (by omega)
    have hget := gL_get (M := M) (p := p) (i := n) (by omega)
    rw [dropN, hget] at hR
    have nx : ∀ (g : Int) (M : ZMem), Xi (d + 2) q3_drop 10 [some (zr p), some (zr a), some (zi since), some (zi g), some (zi ((n : Int) - 1)), none, none] [] M Q → inR ((n : Int) + (-1)) ∧ Xi (d + 2) q3_drop 10 [some (zr p), some (zr a), some (zi since), some (zi g), some (zi ((n : Int) + (-1))), none, none] [] M Q := fun g M h => ⟨⟨by omega, by omega⟩, by rw [show (n : Int) + (-1) = (n : Int) - 1 by omega]; exact h⟩
    have e1 : (((n + 1 : Nat) : Int) - 1) = (n : Int) := by omega
    refine B3_drop_10 p a since g _ hK h0.1 h2 ⟨fun c => absurd c (by omega), fun _ => (s_openAt hK h0 hp).pure ⟨hK, ?_⟩⟩
    rw [if_pos (by omega), e1, Int.toNat_natCast]
    refine ⟨fun c => ?_, fun c => ?_⟩
    · have hb : ¬ zBit (mI M a 7) n = true := fun q => c ((zBit_test (by omega)).mpr q)
      rw [if_neg (fun q => hb q.1)] at hR
      exact ⟨fun _ => nx g M (ih g M (by omega) g0 (by omega) hK hF hp hR), fun _ => nx g M (ih g M (by omega) g0 (by omega) hK hF hp hR)⟩
    · have hb : zBit (mI M a 7) n = true := (zBit_test (by omega)).mp (Decidable.not_not.mp c)
      refine ⟨fun c2 => absurd c2 (by omega), fun _ => ⟨hp.at h0 (by omega), fun c3 => ?_, fun c3 => ?_⟩⟩
      · rw [if_neg (fun q => by have q2 : since ≤ mI M (mR M (p + 1) n + 1) 5 := q.2; omega)] at hR
        exact nx g M (ih g M (by omega) g0 (by omega) hK hF hp hR)
      · rw [if_pos ⟨hb, show since ≤ mI M (mR M (p + 1) n + 1) 5 by omega⟩] at hR
        refine (s_remove (by omega) hpa hK h0 h2 hp (i := n) (by omega)).mono fun M1 ⟨k1, f1, o1, n1, l1, w1⟩ => ⟨k1, ⟨by omega, by omega⟩, nx (g + 1) M1 (ih (g + 1) M1 (by omega) (by omega) (by omega) k1 (hF.trans f1) o1 ?_)⟩
        rw [l1, w1]
        exact hR
theorem s_drop {M : ZMem} {p a : Nat} {since : Int} (hd : 2 ≤ d) (hpa : p + 188 ≤ a ∨ a + 4 ≤ p) (hK : KW K M) (h0 : PsK K p) (h2 : WayAt K a) (hp : PsOK M p) : Ci d q3_drop [zr p, zr a, zi since] M (fun x M' => KW K M' ∧ Fr (two p a) M M' ∧ PsOK M' p ∧ (gL M' p, gW M' a, x) = dropN since (gL M p).length (gL M p) (gW M a) 0) := by
  obtain ⟨d, rfl⟩ : ∃ e, d = e + 2 := ⟨d - 2, by omega⟩
  have p1 := hp.1
  have p2 := hp.2.1
  have hl : (gL M p).length = (mI M p 1).toNat := gL_len
  refine B3_drop p a since hK h0.1 h2 ⟨⟨by omega, by omega⟩, ?_⟩
  have e : mI M p 1 - 1 = (((gL M p).length : Nat) : Int) - 1 := by omega
  rw [e]
  exact s_drop_loop (R := dropN since (gL M p).length (gL M p) (gW M a) 0) hpa h0 h2 (fun M1 a b c e f => ⟨a, b, c, by rw [e, f]⟩) _ 0 M (by omega) (by omega) (by omega) hK Fr.refl hp rfl
end REMOVE
