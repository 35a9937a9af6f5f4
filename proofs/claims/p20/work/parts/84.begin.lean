/-! the law from its first instruction -/
section LAWBEGIN
variable {q : Nat × (Nat → Int)}
def zM0 : ZMem := (fun _ _ => 0, fun _ _ => 0, fun _ => (0, 0), 1, 0)
theorem KW_rfl {K : ZMem} : KW K K := ⟨rfl, rfl, rfl, fun _ _ _ => rfl⟩
set_option maxHeartbeats 4000000 in
theorem law_mid {K M : ZMem} {c : Nm} {sg : Int} (hq : ∀ j, inR (q.2 j)) (hq1 : q.1 ≤ 260) (hL : LK K 2230) (hB : NmB c) (hsg : (0 ≤ sg ∧ sg ≤ 3) ∧ nmS c = sgc sg) (h0 : Ta K M [] 0) (hD : DI (gG M 8)) (hBs : Bs K M (nmL c)) : XL q (7 + 1) 97 (LA c sg) [] M := by
  have hT := hL.1
  have h5 := hL.2.2.2.2.1 (by decide)
  refine law_text hT (by decide) hq hq1 h5 hB hsg h0 hBs.2 fun M1 h1 F1 => ?_
  refine law_prog hT (by decide) hq hq1 h5 hB hsg h1 (by rw [gG_fr F1 fun j hj q => by omega]; exact hD) (hBs.keep h1.1 F1 fun q q1 q2 => by omega) fun M2 r2 => ?_
  have z2 : mz M2 = 2230 := r2.1.2.1.trans hL.2.2.1
  have L3 := hL.new (m := 400) (sh := (1, 400)) (by decide) (by decide) (fun c => absurd c (by decide)) (fun _ => rfl)
  have K3 : KW (zNew K (1, 400) 400) (zNew M2 (1, 400) 400) := KW_new r2.1
  have R3 : Rd (zNew K (1, 400) 400) (zNew M2 (1, 400) 400) c := r2.keep K3 Fr_new fun q q1 q2 => by omega
  refine BL_485 _ _ _ _ _ hq hq1 r2.1 hT h5 ?_
  rw [show mz M2 + 1 = 2231 by omega]
  generalize zNew M2 (1, 400) 400 = M3 at *
  generalize zNew K (1, 400) 400 = KA at *
  have z3 : mz M3 = 2231 := K3.2.1.trans L3.2.2.1
  have L4 := L3.new (m := 400) (sh := (1, 400)) (by decide) (by decide) (fun c => absurd c (by decide)) (fun _ => rfl)
  have K4 : KW (zNew KA (1, 400) 400) (zNew M3 (1, 400) 400) := KW_new K3
  have R4 : Rd (zNew KA (1, 400) 400) (zNew M3 (1, 400) 400) c := R3.keep K4 Fr_new fun q q1 q2 => by omega
  refine BL_492 _ _ _ _ _ hq hq1 K3 L3.1 (L3.2.2.2.2.1 (by decide)) (L3.2.2.2.2.2.1 (by decide)) ?_
  rw [show mz M3 + 1 = 2232 by omega]
  generalize zNew M3 (1, 400) 400 = M4 at *
  generalize zNew KA (1, 400) 400 = KB at *
  have z4 : mz M4 = 2232 := K4.2.1.trans L4.2.2.1
  have L5 := L4.new (m := 400) (sh := (1, 400)) (by decide) (by decide) (fun c => absurd c (by decide)) (fun _ => rfl)
  have K5 : KW (zNew KB (1, 400) 400) (zNew M4 (1, 400) 400) := KW_new K4
  have R5 : Rd (zNew KB (1, 400) 400) (zNew M4 (1, 400) 400) c := R4.keep K5 Fr_new fun q q1 q2 => by omega
  refine BL_499 _ _ _ _ _ hq hq1 K4 L4.1 (L4.2.2.2.2.1 (by decide)) (L4.2.2.2.2.2.1 (by decide)) (L4.2.2.2.2.2.2.1 (by decide)) ?_
  rw [show mz M4 + 1 = 2233 by omega]
  generalize zNew M4 (1, 400) 400 = M5 at *
  generalize zNew KB (1, 400) 400 = KC at *
  have L5 : LK KC 2233 := L5
  refine BL_506 _ _ _ _ _ hq hq1 K5 L5.1 (L5.2.2.2.2.1 (by decide)) (L5.2.2.2.2.2.1 (by decide)) (L5.2.2.2.2.2.2.1 (by decide)) (L5.2.2.2.2.2.2.2 (by decide)) ?_
  obtain ⟨b1, b2, -⟩ := id hB
  have := rd_x (d := 7) L5 hq hq1 hB hsg (nmQ c - nmP c + 1).toNat 0 M5 [] 0 (Nat.zero_add _) R5 (fun i t h => by cases h) (by show 0 + 18 * (nmQ c - nmP c + 1).toNat ≤ 100; omega) (by omega) fun M' l' e h' hA' => ?_
  · rw [show nmP c + ((0 : Nat) : Int) = nmP c by omega] at this
    exact this
  · have e : l' = AL c := e
    subst e
    refine BL_667 _ _ _ _ hq hq1 h'.1 L5.1 (L5.2.2.2.2.2.1 (by decide)) (L5.2.2.2.2.2.2.1 (by decide)) (L5.2.2.2.2.2.2.2 (by decide)) ?_
    exact law_strat hq hq1 hB (by decide) rfl (Int.zero_add _) 6 0 KC M' rfl L5 h' hA' fun k hk hlt => absurd hlt (Nat.not_lt_zero _)
theorem first_Idl {K : ZMem} (h : Z0 K) (hs : ∀ k, k < 4 → SrF K (44 + 444 * k)) {k : Nat} (hk : k < 4) : Idl K K k := by
  have c0 := first_sC h (o := 44 + 444 * k) (by omega) (by omega)
  refine ⟨_, _, first_at h (by omega) (by omega) (hs k hk), fun i => ?_, by rw [c0]; decide, by rw [c0]; decide⟩
  show wB (if i < 7 then gW K (44 + 444 * k + 397 + 4 * i) else w0)
  split
  · exact z0_wB h (by omega) (by omega)
  · exact ⟨fun _ => by show (-999 : Int) ≤ 0 ∧ (0 : Int) ≤ 999; decide, by show (0 : Int) ≤ 0 ∧ (0 : Int) ≤ 100000000; decide, by show (0 : Int) ≤ 0 ∧ (0 : Int) ≤ 100000000; decide, fun _ => by show (-10 : Int) ≤ 0 ∧ (0 : Int) ≤ 1000; decide⟩
set_option maxHeartbeats 4000000 in
theorem law_row {K : ZMem} {c0 : Int} (hq : ∀ j, inR (q.2 j)) (hq1 : q.1 ≤ 260) (hL : LK K 2230) (hc : c0 = scell q 0) (hD : DI (gG K 8)) (hi : ∀ k, k < 4 → Idl K K k) (h3 : mI K 3 1 = 0) : XL q (7 + 1) 38 [some (zr 1), some (zr 2), some (zi c0), some (zi (zShr c0 1 % 4 - 3)), some (zi (zShr c0 1 % 4 - 3 + zShr c0 4 % 5 - 1)), some (zr 2230), none, none, none, none, none, none, none, none, none, none, none, none, none, none, none, none, none, none] [] K := by
  have hT := hL.1
  have h5 := hL.2.2.2.2.1 (by decide)
  refine BL_38 _ _ _ hq hq1 KW_rfl hT h5 ?_
  refine BL_41 _ _ _ 0 hq hq1 KW_rfl hT h5 ⟨fun c => absurd c (by decide), fun _ => ⟨⟨by decide, by decide⟩, ⟨by decide, by decide⟩, zShr_nn (by decide), by decide, by decide, ⟨by decide, by decide⟩, ?_⟩⟩
  have k1 := KW.sI (K := K) (M := K) KW_rfl 2230 (0 : Int).toNat (zShr c0 (7 + 3 * 0) % 9)
  refine BL_41 _ _ _ (0 + 1) hq hq1 k1 hT h5 ⟨fun c => absurd c (by decide), fun _ => ⟨⟨by decide, by decide⟩, ⟨by decide, by decide⟩, zShr_nn (by decide), by decide, by decide, ⟨by decide, by decide⟩, ?_⟩⟩
  have k2 := KW.sI k1 2230 (0 + 1 : Int).toNat (zShr c0 (7 + 3 * (0 + 1)) % 9)
  refine BL_41 _ _ _ (0 + 1 + 1) hq hq1 k2 hT h5 ⟨fun c => absurd c (by decide), fun _ => ⟨⟨by decide, by decide⟩, ⟨by decide, by decide⟩, zShr_nn (by decide), by decide, by decide, ⟨by decide, by decide⟩, ?_⟩⟩
  have k3 := KW.sI k2 2230 (0 + 1 + 1 : Int).toNat (zShr c0 (7 + 3 * (0 + 1 + 1)) % 9)
  have n0 : 0 ≤ zShr c0 (7 + 3 * 0) % 9 ∧ zShr c0 (7 + 3 * 0) % 9 ≤ 8 := by omega
  have n1 : 0 ≤ zShr c0 (7 + 3 * (0 + 1)) % 9 ∧ zShr c0 (7 + 3 * (0 + 1)) % 9 ≤ 8 := by omega
  have n2 : 0 ≤ zShr c0 (7 + 3 * (0 + 1 + 1)) % 9 ∧ zShr c0 (7 + 3 * (0 + 1 + 1)) % 9 ≤ 8 := by omega
  have m1 : 0 ≤ zShr c0 1 % 4 ∧ zShr c0 1 % 4 ≤ 3 := by omega
  have m4 : 0 ≤ zShr c0 4 % 5 ∧ zShr c0 4 % 5 ≤ 4 := by omega
  have m16 : 0 ≤ zShr c0 16 % 5 ∧ zShr c0 16 % 5 ≤ 4 := by omega
  have m19 : 0 ≤ zShr c0 19 % 9 ∧ zShr c0 19 % 9 ≤ 8 := by omega
  have m23 : 0 ≤ zShr c0 23 % 4 ∧ zShr c0 23 % 4 ≤ 3 := by omega
  have w16 : 0 ≤ zShr c0 16 := zShr_nn (by decide)
  have w19 : 0 ≤ zShr c0 19 := zShr_nn (by decide)
  have w23 : 0 ≤ zShr c0 23 := zShr_nn (by decide)
  refine BL_41 _ _ _ (0 + 1 + 1 + 1) hq hq1 k3 hT h5 ⟨fun _ => ?_, fun c => absurd (by decide) c⟩
  refine BL_70 _ _ _ hq hq1 k3 hT h5 ⟨w16, w19, ⟨by omega, by omega⟩, w23, ?_⟩
  generalize zShr c0 (7 + 3 * 0) % 9 = v0 at *
  generalize zShr c0 (7 + 3 * (0 + 1)) % 9 = v1 at *
  generalize zShr c0 (7 + 3 * (0 + 1 + 1)) % 9 = v2 at *
  generalize zShr c0 1 % 4 = p at *
  generalize zShr c0 4 % 5 = r at *
  generalize zShr c0 16 % 5 = u at *
  generalize zShr c0 19 % 9 = v at *
  generalize zShr c0 23 % 4 = sg at *
  have F : Fr (fun a => a = 2230) K (sI (sI (sI K 2230 (0 : Int).toNat v0) 2230 (0 + 1 : Int).toNat v1) 2230 (0 + 1 + 1 : Int).toNat v2) := fun a ha => by
    have ha : a ≠ 2230 := ha
    refine ⟨funext fun j => ?_, rfl⟩
    show mI _ a j = mI K a j
    rw [mI_sI, if_neg (fun q => ha q.1), mI_sI, if_neg (fun q => ha q.1), mI_sI, if_neg (fun q => ha q.1)]
  have e : ∀ j, mI (sI (sI (sI K 2230 (0 : Int).toNat v0) 2230 (0 + 1 : Int).toNat v1) 2230 (0 + 1 + 1 : Int).toNat v2) 2230 j = if j = 2 then v2 else if j = 1 then v1 else if j = 0 then v0 else mI K 2230 j := fun j => by
    rw [mI_sI, mI_sI, mI_sI]
    simp only [true_and]
    rfl
  generalize sI (sI (sI K 2230 (0 : Int).toNat v0) 2230 (0 + 1 : Int).toNat v1) 2230 (0 + 1 + 1 : Int).toNat v2 = M at *
  refine law_mid (c := (p - 3, p - 3 + r - 1, u, v - 4, sgc sg, fun k => if k = 2 then v2 else if k = 1 then v1 else v0)) hq hq1 hL ?_ ⟨m23, rfl⟩ ⟨k3, ?_, fun j hj => absurd hj (Nat.not_lt_zero _), Nat.le_refl _⟩ ?_ ⟨fun k hk => (hi k hk).keep k3 F fun j hj => by omega, fun j hj => ?_⟩
  · refine ⟨?_, ?_, m16, ?_, fun k => ?_⟩
    · show -3 ≤ p - 3 ∧ p - 3 ≤ 0
      omega
    · show p - 3 - 1 ≤ p - 3 + r - 1 ∧ p - 3 + r - 1 ≤ p - 3 + 3
      omega
    · show -4 ≤ v - 4 ∧ v - 4 ≤ 4
      omega
    · show 0 ≤ (if k = 2 then v2 else if k = 1 then v1 else v0) ∧ (if k = 2 then v2 else if k = 1 then v1 else v0) ≤ 8
      split
      · exact n2
      · split
        · exact n1
        · exact n0
  · rw [F.i (by decide)]; exact h3
  · rw [gG_fr F fun j hj => by omega]; exact hD
  · show mI M 2230 j = if j = 2 then v2 else if j = 1 then v1 else v0
    rw [e]
    by_cases c2 : j = 2
    · rw [if_pos c2, if_pos c2]
    · rw [if_neg c2, if_neg c2]
      by_cases c1 : j = 1
      · rw [if_pos c1, if_pos c1]
      · rw [if_neg c1, if_neg c1, if_pos (by omega)]
set_option maxHeartbeats 4000000 in
theorem law_begin (hq : ∀ j, inR (q.2 j)) (hq1 : q.1 ≤ 260) : XL q (7 + 1) 0 [some (zr 1), none, none, none, none, none, none, none, none, none, none, none, none, none, none, none, none, none, none, none, none, none, none, none] [] zM0 := by
  refine XL.up (pc' := 3) (fun _ _ k => x_new cf9 lcL_8 ni9 nz9 dXL_law_0 k) ?_
  refine XL.up (pc' := 4) (fun _ _ k => x_dupR dXL_law_3 k) ?_
  obtain ⟨Ma, c1, g1, n1, t1, s1, h1⟩ := i9_init (d := 3) (M := zNew zM0 (19, 0) 5) rfl rfl (by decide)
  refine XL.up (pc' := 7) (st' := [zr 2]) (fun _ _ k => x_callI (as := []) k9_init (z_in 55 (by decide +kernel) rfl) (by decide) dXL_law_4 rfl (by decide) (zs8 rfl) c1 k) ?_
  refine XL.up (pc' := 8) (L' := [some (zr 1), some (zr 2), none, none, none, none, none, none, none, none, none, none, none, none, none, none, none, none, none, none, none, none, none, none]) (fun _ _ k => x_astore_n dXL_law_7 rfl (by decide) rfl k) ?_
  have hz : mz Ma = 2229 := g1.1
  have hw : mw Ma = 32791 := g1.2.1
  have L0 : LK Ma 2229 := ⟨t1, s1, hz, by omega, fun c => absurd c (by decide), fun c => absurd c (by decide), fun c => absurd c (by decide), fun c => absurd c (by decide)⟩
  have L1 := L0.new (m := 3) (sh := (1, 3)) (by decide) (by decide) (fun _ => rfl) (fun c => absurd c (by decide))
  have z0 : Z0 Ma := fun a j a1 a2 => n1 a j (show 2 < a by omega) (by omega)
  have F := Fr_new (M := Ma) (sh := (1, 3)) (m := 3)
  have m1 : 0 ≤ zShr (scell q 0) 1 := zShr_nn (by decide)
  have m4 : 0 ≤ zShr (scell q 0) 4 := zShr_nn (by decide)
  refine BL_8 hq hq1 KW_rfl t1 ⟨⟨by decide, by decide⟩, m1, ⟨by omega, by omega⟩, m4, ⟨by omega, by omega⟩, ⟨by omega, by omega⟩, ?_⟩
  rw [hz]
  refine law_row hq hq1 L1 rfl ?_ (fun k hk => (first_Idl z0 s1 hk).keep KW_rfl F fun j hj => by omega) ?_
  · rw [gG_fr F fun j hj => by omega]
    exact z0_DI z0
  · rw [F.i (by omega)]
    exact z0 3 1 (by decide) (by decide)
end LAWBEGIN
