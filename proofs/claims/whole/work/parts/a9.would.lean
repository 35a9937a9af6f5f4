/-! would on both sides -/
section WOULDS
variable {K M : ZMem}
/-- what is told of a thought -/
def wo (c n15 n0 n4 : Int) : Int := if c = 0 then n15 else if c = 1 then (if n0 = 2 then 1 else 0) else n4
theorem would_end {d : Nat} {c : Int} {P : Pg} {S : Sr} {Q : Int → ZMem → Prop} (hA : At K M 1803 P S) (hL : SrK K 1803) (q : Q (wo c (sQ S).2 (sC S 7) (sT S 2)) M) : (c ≠ 0 → ((c ≠ 1 → (Ci d q6_tell [zr 1803, zi 2] M (fun x M1 => KW K M1 ∧ Q x M1))) ∧ (¬ (c ≠ 1) → (((mI M 1803 7) ≠ 2 → (Q 0 M)) ∧ (¬ ((mI M 1803 7) ≠ 2) → (Q 1 M)))))) ∧ (¬ (c ≠ 0) → (Q (mI M 1821 1) M)) := by
  have e7 : mI M 1803 7 = sC S 7 := hA.c (by decide) (by decide)
  have ea := hA.an2
  unfold wo at q
  refine ⟨fun c0 => ⟨fun c1 => ?_, fun c1 => ⟨fun c2 => ?_, fun c2 => ?_⟩⟩, fun c0 => ?_⟩
  · rw [if_neg c0, if_neg c1] at q
    exact (s_tell ⟨hA, Fr.refl⟩ hL).pure ⟨hA.1, q⟩
  · rw [if_neg c0, if_pos (Decidable.not_not.mp c1), if_neg (by rw [← e7]; exact c2)] at q
    exact q
  · rw [if_neg c0, if_pos (Decidable.not_not.mp c1), if_pos (by rw [← e7]; exact Decidable.not_not.mp c2)] at q
    exact q
  · rw [if_pos (Decidable.not_not.mp c0)] at q
    rw [show mI M 1821 1 = (sQ S).2 from ea]
    exact q
theorem would_rend {c : Int} {M0 : ZMem} {s lv : Nat} {b : Int} {U : Tr} {Q : Int → ZMem → Prop} (rm : RM K M0 M s lv b U) (q : Q (wo c (U.1 15) (U.1 0) (U.1 4)) M) : (c ≠ 0 → ((c ≠ 1 → ((inR ((mI M 2230 16) + 4)) ∧ (0 ≤ ((mI M 2230 16) + 4)) ∧ (((mI M 2230 16) + 4) < 19245) ∧ Q (mI M 2239 ((mI M 2230 16) + 4).toNat) M)) ∧ (¬ (c ≠ 1) → ((inR ((mI M 2230 16) + 0)) ∧ (0 ≤ ((mI M 2230 16) + 0)) ∧ (((mI M 2230 16) + 0) < 19245) ∧ (((mI M 2239 ((mI M 2230 16) + 0).toNat) ≠ 2 → (Q 0 M)) ∧ (¬ ((mI M 2239 ((mI M 2230 16) + 0).toNat) ≠ 2) → (Q 1 M))))))) ∧ (¬ (c ≠ 0) → ((inR ((mI M 2230 16) + 15)) ∧ (0 ≤ ((mI M 2230 16) + 15)) ∧ (((mI M 2230 16) + 15) < 19245) ∧ Q (mI M 2239 ((mI M 2230 16) + 15).toNat) M)) := by
  have r16 := rm.2.1
  have hs := rm.2.2.2.2.2.2.1
  have t0 : mI M 2239 ((mI M 2230 16) + 0).toNat = U.1 0 := rm.sc (k := 0) (by rw [r16]; rfl) (by decide)
  have t4 : mI M 2239 ((mI M 2230 16) + 4).toNat = U.1 4 := rm.sc (k := 4) (by rw [r16]; rfl) (by decide)
  have t15 : mI M 2239 ((mI M 2230 16) + 15).toNat = U.1 15 := rm.sc (k := 15) (by rw [r16]; rfl) (by decide)
  rw [t0, t4, t15]
  unfold wo at q
  refine ⟨fun c0 => ⟨fun c1 => ⟨⟨by omega, by omega⟩, by omega, by omega, ?_⟩, fun c1 => ⟨⟨by omega, by omega⟩, by omega, by omega, fun c2 => ?_, fun c2 => ?_⟩⟩, fun c0 => ⟨⟨by omega, by omega⟩, by omega, by omega, ?_⟩⟩
  · rw [if_neg c0, if_neg c1] at q; exact q
  · rw [if_neg c0, if_pos (Decidable.not_not.mp c1), if_neg c2] at q; exact q
  · rw [if_neg c0, if_pos (Decidable.not_not.mp c1), if_pos (Decidable.not_not.mp c2)] at q; exact q
  · rw [if_pos (Decidable.not_not.mp c0)] at q; exact q
theorem FrM.before {M0 M1 M2 : ZMem} {s : Nat} (h1 : FrM M0 M1 s) (h2 : FrM M1 M2 s) : FrM M0 M2 s :=
  ⟨h1.1.trans h2.1, fun j hj => (h2.2.1 j hj).trans (h1.2.1 j hj), fun j hj => (h2.2.2 j hj).trans (h1.2.2 j hj)⟩
theorem both_would {d i : Nat} {a b c : Int} (hTop : TopAt K 2) (hM : ModelAt K 2230) (hSr : ∀ k, k < 4 → SrK K (44 + 444 * k)) (hTh : SrK K 1803) (hd : 200 ≤ d) (hi : i < 512) (h : LaR K M i) : Both K d q9_would q10_would [zi a, zi b, zi c] i M := by
  obtain ⟨d, rfl⟩ : ∃ e, d = e + 1 := ⟨d - 1, by omega⟩
  have hK := h.1
  have yes : (1 : Int) ≠ 0 := by decide
  by_cases ha : 0 ≤ a ∧ a ≤ 3
  · obtain ⟨k, rfl⟩ : ∃ k : Nat, a = k := ⟨a.toNat, by omega⟩
    have hk : k < 4 := by omega
    obtain ⟨T, hT, ⟨P, S, hAt, hLS⟩, mk, ⟨P', S0, t1, t2⟩, _⟩ := h.srch hi hk
    obtain ⟨hnone, hLB⟩ := hLS.none
    have hSA : SearchAt K (44 + 444 * k) := (hTop.2.2.2.2.2.2.2.2.2.2.2 k hk).2.2.2
    have e7 : mI M (44 + 444 * k) 7 = sC S 7 := hAt.c (by decide) (by decide)
    have bad : ¬ ((1 ≤ b ∧ b ≤ 500) ∧ (0 ≤ c ∧ c ≤ 2)) → Ci (d + 1) q10_would [zr 2230, zi k, zi b, zi c] M (fun y M2 => KW K M2 ∧ -2001 = y ∧ LaR K M2 (i + 1)) := fun q => B10_would k b c hK hM (n_isSearch (by omega) hK hk ⟨hK, fun q => absurd q yes, fun _ => ⟨fun q1 => ⟨fun q2 => absurd ⟨q1, q2⟩ q, fun _ => ⟨hK, rfl, h.up⟩⟩, fun _ => ⟨hK, rfl, h.up⟩⟩⟩)
    refine B9_would k b c hK hTop (c_searchAt hTop hK hk ⟨hK, fun c => absurd c (by omega), fun _ => ⟨fun q => ⟨hK, bad (by omega)⟩, fun b1 => ⟨fun q => ⟨hK, bad (by omega)⟩, fun b2 => ⟨fun q => ⟨hK, bad (by omega)⟩, fun c1 => ⟨fun c2 => ⟨hSA, fun q4 => ?_, fun q4 => ?_⟩, fun q => ⟨hK, bad (by omega)⟩⟩⟩⟩⟩⟩)
    · rw [e7] at q4
      have hB := hLB q4
      have hu := hB.u0
      have hn := hB.nums.1.1
      have b14 := hLS.1.2.2
      have h61 := hLS.h61
      have hn0 : mI M 2239 (3849 * k) ≠ 0 := fun q => q4 (hnone.mp q)
      have hLK : LaK K M k T (2000 * i) := ⟨P, S, hAt, hLS⟩
      obtain ⟨U, hU⟩ : ∃ U, vT (mI M 2239) (3849 * k) = U := ⟨_, rfl⟩
      rw [hU] at hB hu hn b14
      -- what holds when the thought is over
      have fin : ∀ (N M3 : ZMem) (lv : Nat) (b' : Int) (U' : Tr), Fr (bk 1803 427) M N → RM K N M3 (3849 * 4) lv b' U' → (∃ P S, At K N 1803 P S ∧ (0 ≤ sC S 13 ∧ sC S 13 ≤ 2000)) → LaR K M3 (i + 1) := fun N M3 lv b' U' F rm ⟨P2, S2, w1, w2⟩ => by
        obtain ⟨m1, m2, m3, m4, m5, m6, m7, m8, m9⟩ := rm
        have r39 : ∀ j, j < 15396 → mI M3 2239 j = mI M 2239 j := fun j hj => (m9.2.1 j (by omega)).trans (F.i (by unfold bk; omega) j)
        have Fs : Fr (fun q => bk 1803 427 q ∨ (q = 2230 ∨ q = 2239 ∨ q = 2240)) M M3 := (F.wide fun q hq => Or.inl hq).trans (m9.1.wide fun q hq => Or.inr hq)
        refine mk M3 m1 (Fs.wide fun q hq => Or.inr hq) (fun j hj => (m9.2.2 j hj).trans (F.i (by unfold bk; omega) j)) (fun j _ hj => r39 j hj) ?_ ⟨P2, S2, w1.frame m1 m9.1 fun j hj q => by omega, w2⟩
        exact hLK.keep m1 Fs (fun j hj q => by unfold bk at q; omega) (fun j j1 j2 => r39 j (by omega)) (fun f j f1 f2 _ => Fs.i (by unfold bk; omega) j) (Nat.le_refl _) (by omega)
      -- the reference
      have ref : ∀ (x : Int) (N : ZMem), KW K N → Fr (bk 1803 427) M N → (∀ M3, RM K N M3 (3849 * 4) (U.1 13).toNat (mI N 2230 18) U → (U.1 0 ≠ 1 → x = wo c (U.1 15) (U.1 0) (U.1 4) ∧ LaR K M3 (i + 1)) ∧ (U.1 0 = 1 → Ci d q10_goesAll [zr 2230, zi b] M3 (fun y M4 => ∃ (U' : Tr) (lv : Nat) (b' : Int), RM K N M4 (3849 * 4) lv b' U' ∧ x = wo c (U'.1 15) (U'.1 0) (U'.1 4) ∧ LaR K M4 (i + 1)))) → Ci (d + 1) q10_would [zr 2230, zi k, zi b, zi c] N (fun y M2 => KW K M2 ∧ x = y ∧ LaR K M2 (i + 1)) := fun x N kN F hx => by
        have r39 : mI N 2239 = mI M 2239 := funext fun j => F.i (by unfold bk; omega) j
        have hn1 : mI N 2239 (3849 * k) ≠ 0 := by rw [r39]; exact hn0
        have F2 : Fr (fun q => q = 2239) N (sA N 2239 (zCpy (mI N 2239) (mI N 2239) (3849 * (k : Int)).toNat 15396 3849)) := Fr.refl.sA rfl
        have k2 : KW K (sA N 2239 (zCpy (mI N 2239) (mI N 2239) (3849 * (k : Int)).toNat 15396 3849)) := kN.sA _ _
        have g2 : ∀ j, mI (sA N 2239 (zCpy (mI N 2239) (mI N 2239) (3849 * (k : Int)).toNat 15396 3849)) 2239 j = if 15396 ≤ j ∧ j < 15396 + 3849 then mI M 2239 (3849 * k + (j - 15396)) else mI M 2239 j := fun j => by
          show (if 2239 = 2239 then zCpy (mI N 2239) (mI N 2239) (3849 * (k : Int)).toNat 15396 3849 else mI N 2239) j = _
          rw [if_pos rfl, r39, show (3849 * (k : Int)).toNat = 3849 * k by omega]
          rfl
        refine B10_would k b c kN hM (n_isSearch (by omega) kN hk ⟨kN, fun q => absurd q yes, fun _ => ⟨fun _ => ⟨fun _ => n_isNone hM kN hk ⟨kN, fun _ => ⟨⟨by omega, by omega⟩, by omega, by omega, ?_⟩, fun q => absurd (if_neg hn1) q⟩, fun q => absurd ⟨by omega, c2⟩ q⟩, fun q => absurd ⟨by omega, by omega⟩ q⟩⟩)
        generalize sA N 2239 (zCpy (mI N 2239) (mI N 2239) (3849 * (k : Int)).toNat 15396 3849) = N2 at *
        have hU2 : vT (mI N2 2239) (3849 * 4) = U := by
          rw [← hU]
          exact vT_shift (fun j hj => by rw [g2, if_pos (by omega), show 3849 * 4 + j - 15396 = j by omega]) h61
        refine n_choosesSearch (k := 4) hM k2 (by decide) (by omega) hU2 b14 (by omega) fun M3 rm _ => ⟨rm.1, ?_⟩
        have rm3 : RM K N M3 (3849 * 4) (U.1 13).toNat (mI N 2230 18) U := by
          obtain ⟨m1, m2, m3, m4, m5, m6, m7, m8, m9⟩ := rm
          refine ⟨m1, m2, m3, m4.trans (F2.i (by decide) 18), m5, m6, m7, m8, FrM.before ⟨F2.wide fun q hq => Or.inr (Or.inl hq), fun j hj => ?_, fun j hj => F2.i (by decide) j⟩ m9⟩
          rw [g2, if_neg (by omega), r39]
        have r16 := rm3.2.1
        have t0 : mI M3 2239 ((mI M3 2230 16) + 0).toNat = U.1 0 := rm3.sc (k := 0) (by rw [r16]; rfl) (by decide)
        obtain ⟨h1, h2⟩ := hx M3 rm3
        refine ⟨⟨by omega, by omega⟩, by omega, by omega, fun q => ?_, fun q => ?_⟩
        · rw [t0] at q
          obtain ⟨ex, hL⟩ := h1 q
          exact would_rend (Q := fun y M2 => KW K M2 ∧ x = y ∧ LaR K M2 (i + 1)) rm3 ⟨rm3.1, ex, hL⟩
        · rw [t0] at q
          exact (h2 (Decidable.not_not.mp q)).mono fun y M4 ⟨U', lv, b', rm4, ex, hL⟩ => ⟨rm4.1, would_rend (Q := fun y M2 => KW K M2 ∧ x = y ∧ LaR K M2 (i + 1)) rm4 ⟨rm4.1, ex, hL⟩⟩
      refine s_sbecome (by omega) (by omega) hTh (hSr k hk) t1 hAt hLS.1.1.2.1 hLS.1.1.2.2 fun M1 a1 => ⟨a1.1.1, ?_⟩
      have a7 : mI M1 1803 7 = sC S 7 := a1.1.c (by decide) (by decide)
      have v12 : V12 (xBecome S0 S) := hLS.1.1.2.2
      have hB2 : LaB M1 P (xBecome S0 S) U T (2000 * i) := (hB.keep (fun f j f1 f2 _ => a1.2.i (by unfold bk; omega) j) (Nat.le_refl _) (Int.le_refl _)).b12 t2 (by omega)
      have s7 : sC (xBecome S0 S) 7 = sC S 7 := rfl
      have s2 : sT (xBecome S0 S) 2 = sT S 2 := rfl
      have s13 : sC (xBecome S0 S) 13 = sC S0 13 := rfl
      refine ⟨fun q5 => ?_, fun q5 => ?_⟩
      · rw [a7] at q5
        refine would_end a1.1 hTh ⟨a1.1.1, ref _ M1 a1.1.1 a1.2 fun M3 rm => ⟨fun _ => ⟨?_, fin _ _ _ _ _ a1.2 rm ⟨_, _, a1.1, by rw [s13]; exact t2⟩⟩, fun q => absurd (hu.1.symm.trans q) q5⟩⟩
        rw [hu.2.2.2.2.2.1, hu.1, hn]
        rfl
      · have c7 : sC S 7 = 1 := by rw [← a7]; exact Decidable.not_not.mp q5
        obtain ⟨σ, root, price, D, hX, hDB, hst, hor⟩ := hB2
        have hRS := (hor.resolve_right fun q => by omega).2
        have hb := hRS.bd
        have h13 : (U.1 13).toNat = cur (xBecome S0 S) := by
          have := hRS.sb.2.2.2.2.2.2.1
          have e : U.1 13 = (cur (xBecome S0 S) : Int) := hb.2.2.2.2.2.2.2.2.2
          omega
        have h15 := hb.2.2.2.2.2.2.2.2.1
        refine run_all (s := 3849 * 4) hM hTh (by omega) (by omega) hX (by omega) hDB hRS c7 v12 (by omega) (by omega) a1.1 fun x S' M2 a2 z12 z2 z3 z4 hq1 z5 => ⟨a2.1.1, ?_⟩
        have F12 : Fr (bk 1803 427) M M2 := a1.2.trans a2.2
        refine would_end a2.1 hTh ⟨a2.1.1, ref _ M2 a2.1.1 F12 fun M3 rm => ⟨fun q => absurd (hu.1.trans c7) q, fun _ => ?_⟩⟩
        rw [h13] at rm
        refine r_goesAll (Z := fun M4 U' => ∃ D', RM K M2 M4 (3849 * 4) (cur S') (sC S' 13) U' ∧ Re P σ root price D' x S' U') hM (by omega) rm h15 (fun d' M2 l2 Q' hd' hl0 hl1 hRM fin => z5 d' M2 l2 Q' hd' hl0 hl1 hRM fun M3 U' D' r1 r2 => fin M3 U' ⟨D', r1, r2⟩) fun M4 U' ⟨D', rm4, re⟩ => ⟨U', _, _, rm4, ?_, ?_⟩
        · have g0 : U'.1 0 = sC S' 7 ∧ U'.1 4 = sT S' 2 := by
            by_cases w : x ≤ 2
            · have r := (re.2.1 w).2.1
              exact ⟨r.1, r.2.2.1⟩
            · have r := (re.2.2 (by omega)).2.1
              exact ⟨r.1, r.2.2.1⟩
          rw [re.q15.1, g0.1, g0.2]
        · have F4 : Fr (fun q => bk 1803 427 q ∨ (q = 2230 ∨ q = 2239 ∨ q = 2240)) M1 M4 := (a2.2.wide fun q hq => Or.inl hq).trans (rm4.2.2.2.2.2.2.2.2.1.wide fun q hq => Or.inr hq)
          have hX4 : PX M4 P σ root price (T * 260) := hX.keep fun f j f1 f2 _ => F4.i (by unfold bk; omega) j
          have hl := LaS_run (i := i) hX4 (show b ≤ 2000 by omega) (by rw [s2]; exact hst) z2 z3 z4 z12 re rm4.2.2.2.2.2.1
          exact fin _ _ _ _ _ F12 rm4 ⟨_, _, a2.1, hl.1.2.1⟩
    · rw [e7] at q4
      have hn0 : mI M 2239 (3849 * k) = 0 := hnone.mpr (Decidable.not_not.mp q4)
      exact ⟨hK, B10_would k b c hK hM (n_isSearch (by omega) hK hk ⟨hK, fun q => absurd q yes, fun _ => ⟨fun _ => ⟨fun _ => n_isNone hM hK hk ⟨hK, fun q => absurd q (by rw [if_pos hn0]; decide), fun _ => ⟨hK, rfl, h.up⟩⟩, fun q => absurd ⟨by omega, c2⟩ q⟩, fun q => absurd ⟨by omega, by omega⟩ q⟩⟩)⟩
  · exact B9_would a b c hK hTop (c_searchAt_no hTop hK ha ⟨hK, fun _ => ⟨hK, B10_would a b c hK hM (n_isSearch_no (by omega) hK ha ⟨hK, fun _ => ⟨hK, rfl, h.up⟩, fun c => absurd rfl c⟩)⟩, fun c => absurd rfl c⟩)
end WOULDS
