/-! the law's strategies, one behind the other; its end -/
def DnX (K M : ZMem) (c : Nm) (k : Nat) : Prop := ∃ P S st, SrA K M k P S ∧ Dn c st S
section STRAT
variable {q : Nat × (Nat → Int)} {d : Nat} {K K' M M' : ZMem} {c : Nm} {n0 : Nat} {N w : Int}
theorem DnX.keep {X : Nat → Prop} {k : Nat} (h : DnX K M c k) (hK : KW K' M') (F : Fr X M M') (hx : ∀ j, j < 427 → ¬ X (44 + 444 * k + j)) : DnX K' M' c k := by
  obtain ⟨P, S, st, h1, h2⟩ := h
  exact ⟨P, S, st, h1.frame2 hK F hx, h2⟩
theorem DnX.idl {k : Nat} (h : DnX K M c k) : Idl K M k := by
  obtain ⟨P, S, st, h1, S1, e, h2, -⟩ := h
  refine ⟨P, S, h1, ?_, ?_⟩
  · rw [e]; exact h2.1.1
  · have : sC S 13 = sC S1 13 := by rw [e]; rfl
    rw [this]
    exact h2.1.2.2.1
theorem DnX.use {k : Nat} (h : DnX K M c k) : ∃ P S, SrA K M k P S ∧ sC S 7 = 2 ∧ aOK (sQ S) ∧ (sQ S).2 = ((AL c).length : Int) ∧ (aL (sQ S)).Perm (AL c) := by
  obtain ⟨P, S, st, h1, h2⟩ := h
  refine ⟨P, S, h1, h2.c7, h2.ok, h2.n, ?_⟩
  obtain ⟨S1, e, -, -, f2, -⟩ := h2
  have : sQ S = sQ S1 := by rw [e]; rfl
  rw [this]
  exact f2.1
theorem law_end (hL : LK K n0) (hn0 : 2233 ≤ n0 ∧ n0 ≤ 2300) (hq : ∀ j, inR (q.2 j)) (hq1 : q.1 ≤ 260) (hB : NmB c) (hd : 7 ≤ d) (hN : N = ((AL c).length : Int)) (hK : KW K M) (h0 : DnX K M c 0) (h1 : DnX K M c 1) (h2 : DnX K M c 2) (h3 : DnX K M c 3) : XL q (d + 1) 1376 [none, some (zr 2), none, none, none, none, none, none, none, none, none, none, some (zi N), none, none, none, none, none, none, none, none, none, none, none] [] M := by
  have hT := hL.1
  have hSr := hL.sr
  have h54 := AL_len hB
  obtain ⟨P0, S0, a0, b0, o0, n0', p0⟩ := h0.use
  obtain ⟨P1, S1, a1, b1, o1, n1, p1⟩ := h1.use
  obtain ⟨P2, S2, a2, b2, o2, n2, p2⟩ := h2.use
  obtain ⟨P3, S3, a3, b3, o3, n3, p3⟩ := h3.use
  have s01 := shared_all o0 o1 (p0.trans p1.symm)
  have s23 := shared_all o2 o3 (p2.trans p3.symm)
  have d0 := aDiff_le (sQ S0) (sQ S0).2.toNat
  have e0 := diff_dn o0
  have e3 := diff_dn o3
  have e03 : dn (aL (sQ S0)) = dn (aL (sQ S3)) := dn_perm (p0.trans p3.symm)
  refine BL_1376 _ hq hq1 hK hT (c_common (k := 0) (k2 := 1) hT hSr (by omega) (by decide) (by decide) a0 a1 (by omega) (by omega) ⟨by omega, by omega⟩ ⟨by omega, by omega⟩ ⟨hK, fun c => ?_, fun _ => c_common (k := 2) (k2 := 3) hT hSr (by omega) (by decide) (by decide) a2 a3 (by omega) (by omega) ⟨by omega, by omega⟩ ⟨by omega, by omega⟩ ⟨hK, fun c => ?_, fun _ => c_unlike (k := 0) hT hSr (by omega) (by decide) a0 (by omega) ⟨by omega, by omega⟩ ⟨hK, fun c => ?_, fun _ => c_unlike (k := 0) hT hSr (by omega) (by decide) a0 (by omega) ⟨by omega, by omega⟩ ⟨hK, c_unlike (k := 3) hT hSr (by omega) (by decide) a3 (by omega) ⟨by omega, by omega⟩ ⟨hK, fun c => ?_, fun _ => ?_⟩⟩⟩⟩⟩)
  · rw [s01] at c; omega
  · rw [s23] at c; omega
  · omega
  · rw [e0, e3, e03] at c; exact c rfl
  · rw [hK.2.1, hK.2.2.1]
    have m1 := hL.2.2.1
    have m2 := hL.2.2.2.1
    exact ⟨by omega, by omega⟩
theorem zAnd3 : ∀ st : Nat, st < 6 → zAnd (st : Int) 3 = ((st % 4 : Nat) : Int) := fun st h => by
  obtain rfl | rfl | rfl | rfl | rfl | rfl : st = 0 ∨ st = 1 ∨ st = 2 ∨ st = 3 ∨ st = 4 ∨ st = 5 := by omega
  all_goals decide +kernel
theorem law_strat (hq : ∀ j, inR (q.2 j)) (hq1 : q.1 ≤ 260) (hB : NmB c) (hd : 7 ≤ d) (hN : N = ((AL c).length : Int)) (hw : w = ((((List.range' 0 (nmQ c - nmP c + 1).toNat).map fun k : Nat => 3 * (nmP c + k + 3).toNat).sum : Nat) : Int)) : ∀ (r st : Nat) (K M : ZMem), st + r = 6 → LK K (2233 + st) → Rd K M c → Ar M (AL c) → (∀ k, k < 4 → k < st → DnX K M c k) → XL q (d + 1) 670 (LC c N w st) [] M
  | 0, st, K, M, e, hL, h, hA, hX => by
    have hT := hL.1
    have h9 := hL.2.2.2.2.2.1 (by omega)
    have h10 := hL.2.2.2.2.2.2.1 (by omega)
    have h11 := hL.2.2.2.2.2.2.2 (by omega)
    exact BL_670 _ _ _ _ _ hq hq1 h.1 hT h9 h10 h11 ⟨fun _ => law_end hL ⟨by omega, by omega⟩ hq hq1 hB hd hN h.1 (hX 0 (by decide) (by omega)) (hX 1 (by decide) (by omega)) (hX 2 (by decide) (by omega)) (hX 3 (by decide) (by omega)), fun c => absurd (by omega) c⟩
  | r + 1, st, K, M, e, hL, h, hA, hX => by
    have hT := hL.1
    have hSr := hL.sr
    have h9 := hL.2.2.2.2.2.1 (by omega)
    have h10 := hL.2.2.2.2.2.2.1 (by omega)
    have h11 := hL.2.2.2.2.2.2.2 (by omega)
    have h54 := AL_len hB
    have hK := h.1
    have hk : st % 4 < 4 := Nat.mod_lt _ (by decide)
    refine BL_670 _ _ _ _ _ hq hq1 hK hT h9 h10 h11 ⟨fun c => absurd c (by omega), fun _ => ?_⟩
    rw [zAnd3 st (by omega)]
    have hkm : st % 4 = st ∨ (4 ≤ st ∧ st % 4 = st - 4) := by omega
    generalize st % 4 = k at *
    obtain ⟨P0, S0, z1, z2, z3⟩ := h.2.2.2.1 k hk
    have hP := h.2.1
    refine BL_683 _ _ _ _ _ _ hq hq1 hK hT h9 h10 h11 (c_begin hT hSr (by omega) hk z1 (by omega) h.2.2.1 fun M1 a1 F1 => ⟨a1.1, fun c => absurd rfl c, fun _ => c_of0 hT (by omega) hk a1 ⟨a1.1, fun c => absurd rfl c, fun _ => c_next hT hSr (by omega) hk a1 (by show (1 : Int) ≠ 0; decide) (by show (1 : Int) ≠ 0; decide) ⟨a1.1, fun _ => ?_, fun c => absurd rfl c⟩⟩⟩)
    have hI : Iv c st (xStart S0 st) := Iv_start (w := S0.1 0) hB (z2 0) (fun i => by
      show wB (if i = 0 then wStart (S0.1 0) else S0.1 i)
      split
      · exact (Shp_start (c := c) (z2 0)).1.2.2.1
      · exact z2 i) rfl rfl rfl rfl rfl rfl rfl rfl rfl z3 rfl (fun _ => rfl)
    refine BL_721 _ _ _ _ _ _ hq hq1 a1.1 hT h9 h10 h11 ?_
    refine law_go (M0 := M) (P := gG M 27) hL (by omega) hq hq1 hB hP hd hk hN (fun M2 S2 stp a2 hD hsp F2 => ?_) 60 0 M1 (xStart S0 st) 0 rfl a1 (Or.inl hI) (Int.le_refl 0) F1
    have R2 : Rd K M2 c := by
      refine ⟨a2.1, by rw [gG_fr F2 fun j hj q => by unfold bk at q; omega]; exact h.2.1, by rw [F2.i (by unfold bk; omega)]; exact h.2.2.1, fun k' hk' => ?_, fun j hj => by rw [F2.i (by unfold bk; omega)]; exact h.2.2.2.2 j hj⟩
      by_cases ck : k' = k
      · subst ck
        exact DnX.idl (c := c) ⟨_, _, _, a2, hD⟩
      · exact (h.2.2.2.1 k' hk').keep a2.1 F2 fun j hj q => by unfold bk at q; omega
    have A2 : Ar M2 (AL c) := hA.keep F2 fun a b1 b2 q => by unfold bk at q; omega
    refine BL_935 _ _ _ _ _ _ _ _ hq hq1 a2.1 hT h9 h10 h11 ?_
    have zm : mz M2 = 2233 + st := a2.1.2.1.trans hL.2.2.1
    have hL' := hL.new (m := 400) (sh := (6, 400)) (by omega) (by decide) (fun c => absurd c (by omega)) (fun c => absurd c (by omega))
    have hK3 : KW (zNew K (6, 400) 400) (zNew M2 (6, 400) 400) := KW_new a2.1
    have F3 := Fr_new (M := M2) (sh := (6, 400)) (m := 400)
    have a3 : SrA (zNew K (6, 400) 400) (zNew M2 (6, 400) 400) k (gG M 27) S2 := a2.frame2 hK3 F3 fun j hj c => by omega
    have A3 : Ar (zNew M2 (6, 400) 400) (AL c) := A2.keep F3 fun a b1 b2 c => by omega
    have hsn : mS (zNew K (6, 400) 400) (mz M2 + 1) = (6, 400) := by rw [mS_new, if_pos (by rw [a2.1.2.1])]
    have hz : ∀ j, mI (zNew M2 (6, 400) 400) (mz M2 + 1) j = 0 := fun j => by rw [mI_new, if_pos rfl]
    have hT' := hL'.1
    have h9' := hL'.2.2.2.2.2.1 (by omega)
    have h10' := hL'.2.2.2.2.2.2.1 (by omega)
    have h11' := hL'.2.2.2.2.2.2.2 (by omega)
    have hpm : (aL (sQ S2)).Perm (AL c) := by
      obtain ⟨Sx, ex, -, -, fx, -⟩ := id hD
      have : sQ S2 = sQ Sx := by rw [ex]; rfl
      rw [this]; exact fx.1
    refine BL_942 _ _ _ _ _ _ _ _ _ hq hq1 hK3 hT' h9' h10' h11' hsn ?_
    refine seen_loop (M0 := zNew M2 (6, 400) 400) hL' (by omega) hsn (by omega) hq hq1 hB hd hk hN hD (fun M4 a4 A4 F4 => ?_) (AL c).length 0 _ (by omega) a3 A3 Fr.refl (by rw [uns_all hz]; exact hpm.symm) (fun _ j hj => ⟨fun c => absurd (hz j) c, fun c => absurd c (Nat.not_lt_zero _)⟩)
    have hn := hD.n
    have c7 := hD.c7
    have F34 : Fr (fun a => a = mz M2 + 1) M2 M4 := F3.trans F4
    have R4 : Rd (zNew K (6, 400) 400) M4 c := R2.keep a4.1 F34 fun a b1 b2 c => by omega
    refine BL_1134 _ _ _ _ _ _ _ _ hq hq1 a4.1 hT' h9' h10' h11' (c_answer hT' hL'.sr (by omega) hk a4 (by omega) (by omega) (by decide) (fun c => absurd c (by omega)) (fun _ => ⟨a4.1, fun c => absurd rfl c, fun _ => c_of hT' hL'.sr (by omega) hk a4 (by omega) (by decide) ⟨a4.1, fun _ => ?_, fun c => absurd hsp c⟩⟩))
    refine BL_1163 _ _ _ _ _ _ _ hq hq1 a4.1 hT' h9' h10' h11' ?_
    refine law_ord hL' (by omega) hq hq1 hB hd hk hN hD a4 (law_nums hL' (by omega) hq hq1 hB hd hk hN (by omega) hw hD a4 ?_) (AL c).length 1 (by omega) (by decide)
    refine BL_1370 _ _ _ _ _ hq hq1 a4.1 hT' h9' h10' h11' ⟨⟨by omega, by omega⟩, ?_⟩
    refine law_strat hq hq1 hB hd hN hw r (st + 1) _ M4 (by omega) hL' R4 A4 fun k' hk' hlt => ?_
    by_cases ck : k' = k
    · subst ck
      exact ⟨_, _, _, a4, hD⟩
    · exact ((hX k' hk' (by omega)).keep a2.1 F2 fun j hj q => by unfold bk at q; omega).keep a4.1 F34 fun j hj q => by omega
end STRAT
