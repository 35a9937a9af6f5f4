/-! the constructors of a reader and of the whole -/
set_option maxHeartbeats 4000000 in
theorem i5_init {d : Nat} {M : ZMem} {o : Nat} (ho : o = mz M) (s0_0 : (mS M o).1 = 15) (h1 : 2 ≤ o) (h5 : o = 5) (ht : TapeAt M 3) : Cv (d + 2) q5_init [zr o, zr 3] M (fun M' => Gx M M' o 19 1454 ∧ Nz M M' ∧ ReaderAt M' 5) := by
  refine Cv.of rfl rfl (Nat.le_of_ble_eq_true rfl) (fun w hw x e => by subst e; simp at hw) (L := [some (zr o), some (zr 3)]) rfl ?_
  have z0 : mz M = o + 0 := ho.symm
  have G0 : Gx M M o 0 0 := Gx.refl
  have Z0 : Nz M M := Nz.refl
  refine Xv.up (pc' := 1) (fun _ _ k => x_aload_n dX5_init_0 rfl rfl k) ?_
  refine Xv.up (pc' := 4) (fun _ _ k => x_objInit lo5_3 h1 dX5_init_1 (zs8 rfl) k) ?_
  refine Xv.up (pc' := 5) (fun _ _ k => x_aload_n dX5_init_4 rfl rfl k) ?_
  refine Xv.up (pc' := 6) (fun _ _ k => x_aload_n dX5_init_5 rfl rfl k) ?_
  refine Xv.up (pc' := 9) (fun _ _ k => x_putF lf5_9 (fun C T N h => by have h : some (RX5, TX5, 8) = some (C, T, N) := h; cases h; exact ⟨z_in 152 (by decide +kernel) rfl, rfl⟩) rfl rfl rfl (by omega) dX5_init_6 (s0_0) k) ?_
  have b1 : Gx M (sR M o 0 3) o 0 0 ∧ mR (sR M o 0 3) o 0 = 3 := ⟨gx_put, by rw [mR_sR, if_pos ⟨rfl, rfl⟩]⟩
  have n1 : Nz M (sR M o 0 3) := fun a j q1 q2 => absurd q2 (by show ¬ a ≤ mz M; omega)
  have ht1 : TapeAt (sR M o 0 3) 3 := ht.keep (sm_put (by omega))
  generalize sR M o 0 3 = M1 at *
  have z1 : mz M1 = o + 0 := b1.1.1.trans (congrArg (· + 0) z0)
  have s0_1 : (mS M1 o).1 = 15 := by rw [b1.1.2.2.1 o (q_le z0)]; exact s0_0
  have r1 : mR M1 o 0 = 3 := b1.2
  have G1 := G0.trans b1.1 (Or.inl rfl)
  have Z1 := Z0.trans b1.1 n1
  refine Xv.up (pc' := 10) (fun _ _ k => x_aload_n dX5_init_9 rfl rfl k) ?_
  refine Xv.up (pc' := 12) (fun _ _ k => x_bipush dX5_init_10 (show inR 6 from ⟨by decide, by decide⟩) (by decide) k) ?_
  refine Xv.up (pc' := 14) (fun _ _ k => x_newarray (n := 6) dX5_init_12 (by decide) k) ?_
  refine Xv.up (pc' := 17) (fun _ _ k => x_putF lf5_15 (fun C T N h => by have h : some (RX5, TX5, 8) = some (C, T, N) := h; cases h; exact ⟨z_in 153 (by decide +kernel) rfl, rfl⟩) rfl rfl rfl (q_2 z1 h1) dX5_init_14 (by rw [mS_new, if_neg (q_ne z1)]; exact s0_1) k) ?_
  obtain ⟨b2, s2, n2⟩ := blk_arr (M := M1) (o := o) (k := 1) (t := 1) (m := 6) (q_le z1)
  generalize sR (zNew M1 (1, 6) 6) o 1 (mz M1 + 1) = M2 at *
  have z2 : mz M2 = o + 1 := b2.1.1.trans (congrArg (· + 1) z1)
  have s0_2 : (mS M2 o).1 = 15 := by rw [b2.1.2.2.1 o (q_le z1)]; exact s0_1
  have r2 : mR M2 o 1 = o + 1 := b2.2.1.trans (congrArg (· + 1) z1)
  rw [show mz M1 + 1 = o + 1 from congrArg (· + 1) z1] at s2
  have G2 := G1.trans b2.1 (Or.inl rfl)
  have Z2 := Z1.trans b2.1 n2
  refine Xv.up (pc' := 18) (fun _ _ k => x_aload_n dX5_init_17 rfl rfl k) ?_
  refine Xv.up (pc' := 20) (fun _ _ k => x_bipush dX5_init_18 (show inR 7 from ⟨by decide, by decide⟩) (by decide) k) ?_
  refine Xv.up (pc' := 22) (fun _ _ k => x_newarray (n := 7) dX5_init_20 (by decide) k) ?_
  refine Xv.up (pc' := 25) (fun _ _ k => x_putF lf5_19 (fun C T N h => by have h : some (RX5, TX5, 8) = some (C, T, N) := h; cases h; exact ⟨z_in 154 (by decide +kernel) rfl, rfl⟩) rfl rfl rfl (q_2 z2 h1) dX5_init_22 (by rw [mS_new, if_neg (q_ne z2)]; exact s0_2) k) ?_
  obtain ⟨b3, s3, n3⟩ := blk_arr (M := M2) (o := o) (k := 2) (t := 1) (m := 7) (q_le z2)
  generalize sR (zNew M2 (1, 7) 7) o 2 (mz M2 + 1) = M3 at *
  have z3 : mz M3 = o + 2 := b3.1.1.trans (congrArg (· + 1) z2)
  have s0_3 : (mS M3 o).1 = 15 := by rw [b3.1.2.2.1 o (q_le z2)]; exact s0_2
  have r3 : mR M3 o 2 = o + 2 := b3.2.1.trans (congrArg (· + 1) z2)
  rw [show mz M2 + 1 = o + 2 from congrArg (· + 1) z2] at s3
  have G3 := G2.trans b3.1 (Or.inl rfl)
  have Z3 := Z2.trans b3.1 n3
  refine Xv.up (pc' := 26) (fun _ _ k => x_aload_n dX5_init_25 rfl rfl k) ?_
  refine Xv.up (pc' := 29) (fun _ _ k => x_new cf4 lc5_22 ni4 nz4 dX5_init_26 k) ?_
  refine Xv.up (pc' := 30) (fun _ _ k => x_dupR dX5_init_29 k) ?_
  obtain ⟨N4, c4, g4, m4, l4⟩ := i4_init (d := d) (M := zNew M3 (14, 0) 11) (o := mz M3 + 1) (mz_new _ _ _).symm (by rw [mS_new, if_pos rfl]) (q_2 z3 h1)
  refine Xv.up (pc' := 33) (fun _ _ k => x_callI (as := []) k4_init (z_in 85 (by decide +kernel) rfl) (q_2 z3 h1) dX5_init_30 rfl (by decide) (zs8 rfl) c4 k) ?_
  refine Xv.up (pc' := 36) (fun _ _ k => x_putF lf5_25 (fun C T N h => by have h : some (RX5, TX5, 8) = some (C, T, N) := h; cases h; exact ⟨z_in 155 (by decide +kernel) rfl, rfl⟩) rfl rfl rfl (q_2 z3 h1) dX5_init_33 (by rw [g4.2.2.1 o (by rw [mz_new]; exact Nat.le_succ_of_le (q_le z3)), mS_new, if_neg (q_ne z3)]; exact s0_3) k) ?_
  obtain ⟨b4, n4⟩ := blk_obj (M := M3) (o := o) (k := 3) (q_le z3) g4 m4
  have l4 := l4.keep (sm_put (o := o) (k := 3) (x := mz M3 + 1) (Or.inl (q_lt z3)))
  generalize sR N4 o 3 (mz M3 + 1) = M4 at *
  clear c4 g4 m4
  have z4 : mz M4 = o + 19 := b4.1.1.trans (congrArg (· + 17) z3)
  have s0_4 : (mS M4 o).1 = 15 := by rw [b4.1.2.2.1 o (q_le z3)]; exact s0_3
  have r4 : mR M4 o 3 = o + 3 := b4.2.1.trans (congrArg (· + 1) z3)
  rw [show mz M3 + 1 = o + 3 from congrArg (· + 1) z3] at l4
  have G4 := G3.trans b4.1 (Or.inl rfl)
  have Z4 := Z3.trans b4.1 n4
  have T := (((ht1.keep (b2.1.sm (by omega) (Or.inr (by omega)))).keep (b3.1.sm (by omega) (Or.inr (by omega)))).keep (b4.1.sm (by omega) (Or.inr (by omega))))
  have q0 := ((b4.2.2 0 (by decide)).trans ((b3.2.2 0 (by decide)).trans ((b2.2.2 0 (by decide)).trans r1)))
  have q1 := ((b4.2.2 1 (by decide)).trans ((b3.2.2 1 (by decide)).trans r2))
  have q2 := ((b4.2.2 2 (by decide)).trans r3)
  have q3 := r4
  have q4 := ((b4.1.2.2.1 (o + 1) (q_le2 z3 (by decide))).trans ((b3.1.2.2.1 (o + 1) (q_le2 z2 (by decide))).trans s2))
  have q5 := ((b4.1.2.2.1 (o + 2) (q_le2 z3 (by decide))).trans s3)
  have q6 := T
  have q7 := l4
  subst h5
  exact Xv.ret ⟨dX5_init_36, rfl⟩ ⟨G4.is rfl rfl, Z4, s0_4, q0, q1, q2, q3, q4, q5, q6, q7⟩
def W9 (M2 M : ZMem) (n : Nat) : Prop := Gx M2 M 2 (2 + 444 * n) (8 + 6521 * n) ∧ Nz M2 M ∧ (mS M 2).1 = 19 ∧ mR M 2 0 = 3 ∧ mR M 2 1 = 5 ∧ mR M 2 2 = 25 ∧ mR M 2 3 = 26 ∧ mS M 25 = (2, 4) ∧ mS M 26 = (3, 4) ∧ ∀ j, j < n → mR M 25 j = 27 + 444 * j ∧ ProgramAt M (27 + 444 * j) ∧ mR M 26 j = 44 + 444 * j ∧ SrF M (44 + 444 * j)
set_option maxHeartbeats 4000000 in
theorem i9_loop {d : Nat} {M2 : ZMem} {Q : ZMem → Prop} (hz : mz M2 = 2 + 22) (fin : ∀ M', W9 M2 M' 4 → Xv (d + 4) q9_init 85 [some (zr 2), some (zi 4)] [] M' Q) : ∀ (j n : Nat) (M : ZMem) (x : Int), n + j = 4 → x = n → W9 M2 M n → Xv (d + 4) q9_init 48 [some (zr 2), some (zi x)] [] M Q
  | 0, n, M, x, e, hx, h => by
    obtain rfl : n = 4 := by omega
    obtain rfl : x = 4 := by omega
    refine Xv.up (pc' := 49) (fun _ _ k => x_iload_n dX9_init_48 rfl rfl k) ?_
    refine Xv.up (pc' := 50) (fun _ _ k => x_iconst dX9_init_49 (show inR 4 from ⟨by decide, by decide⟩) k) ?_
    exact Xv.br (tgt := 85) (pc' := 53) ((4 : Int) ≤ 4) (fun _ _ kt kf => x_icmp_ge dX9_init_50 rfl kt kf) (fun _ => fin M h) (fun c => absurd (by omega) c)
  | j + 1, n, M, x, e, hx, ⟨G, Z, s0, r0, r1, r2, r3, s1, s2, p⟩ => by
    have hm := G.1
    refine Xv.up (pc' := 49) (fun _ _ k => x_iload_n dX9_init_48 rfl rfl k) ?_
    refine Xv.up (pc' := 50) (fun _ _ k => x_iconst dX9_init_49 (show inR 4 from ⟨by decide, by decide⟩) k) ?_
    refine Xv.br (tgt := 85) (pc' := 53) (4 ≤ x) (fun _ _ kt kf => x_icmp_ge dX9_init_50 rfl kt kf) (fun c => absurd c (by omega)) (fun _ => ?_)
    refine Xv.up (pc' := 54) (fun _ _ k => x_aload_n dX9_init_53 rfl rfl k) ?_
    refine Xv.up (pc' := 57) (st' := [zr 25]) (fun _ _ k => x_getR lf9_27 rfl dX9_init_54 s0 (by rw [r2]; exact k)) ?_
    refine Xv.up (pc' := 58) (fun _ _ k => x_iload_n dX9_init_57 rfl rfl k) ?_
    refine Xv.up (pc' := 61) (fun _ _ k => x_new cf4 lc9_25 ni4 nz4 dX9_init_58 k) ?_
    refine Xv.up (pc' := 62) (fun _ _ k => x_dupR dX9_init_61 k) ?_
    obtain ⟨N, c1, g1, m1, l1⟩ := i4_init (d := d + 2) (M := zNew M (14, 0) 11) (o := mz M + 1) (mz_new _ _ _).symm (by rw [mS_new, if_pos rfl]) (by omega)
    refine Xv.up (pc' := 65) (fun _ _ k => x_callI (as := []) k4_init (z_in 182 (by decide +kernel) rfl) (by omega) dX9_init_62 rfl (by decide) (zs8 rfl) c1 k) ?_
    have sN : mS N 25 = (2, 4) := by rw [g1.2.2.1 25 (by rw [mz_new]; omega), mS_new, if_neg (by omega)]; exact s1
    refine Xv.up (pc' := 66) (fun _ _ k => x_aastore dX9_init_65 sN (by decide) l1.1 (by omega) (by omega) k) ?_
    rw [show x.toNat = n by omega]
    obtain ⟨b1, n1⟩ := blk_obj (M := M) (o := 25) (k := n) (by omega) g1 m1
    have l1 := l1.keep (sm_put (o := 25) (k := n) (x := mz M + 1) (by omega))
    generalize sR N 25 n (mz M + 1) = M3 at *
    rw [show mz M + 1 = 27 + 444 * n by omega] at l1
    have z3 := b1.1.1
    have t0 : (mS M3 2).1 = 19 := by rw [b1.1.2.2.1 2 (by omega)]; exact s0
    have tr : mR M3 2 = mR M 2 := b1.1.2.2.2.1 2 (by omega) (by omega)
    have t1 : mS M3 25 = (2, 4) := by rw [b1.1.2.2.1 25 (by omega)]; exact s1
    have t2 : mS M3 26 = (3, 4) := by rw [b1.1.2.2.1 26 (by omega)]; exact s2
    refine Xv.up (pc' := 67) (fun _ _ k => x_aload_n dX9_init_66 rfl rfl k) ?_
    refine Xv.up (pc' := 70) (st' := [zr 26]) (fun _ _ k => x_getR lf9_33 rfl dX9_init_67 t0 (by rw [tr, r3]; exact k)) ?_
    refine Xv.up (pc' := 71) (fun _ _ k => x_iload_n dX9_init_70 rfl rfl k) ?_
    refine Xv.up (pc' := 74) (fun _ _ k => x_new cf6 lc9_31 ni6 nz6 dX9_init_71 k) ?_
    refine Xv.up (pc' := 75) (fun _ _ k => x_dupR dX9_init_74 k) ?_
    obtain ⟨N2, c2, g2, m2, l2⟩ := i6_init (d := d) (M := zNew M3 (16, 0) 14) (o := mz M3 + 1) (mz_new _ _ _).symm (by rw [mS_new, if_pos rfl]) (by omega)
    refine Xv.up (pc' := 78) (fun _ _ k => x_callI (as := []) k6_init (z_in 184 (by decide +kernel) rfl) (by omega) dX9_init_75 rfl (by decide) (zs8 rfl) c2 k) ?_
    have sN2 : mS N2 26 = (3, 4) := by rw [g2.2.2.1 26 (by rw [mz_new]; omega), mS_new, if_neg (by omega)]; exact t2
    refine Xv.up (pc' := 79) (fun _ _ k => x_aastore dX9_init_78 sN2 (by decide) l2.1.1 (by omega) (by omega) k) ?_
    rw [show x.toNat = n by omega]
    obtain ⟨b2, n2⟩ := blk_obj (M := M3) (o := 26) (k := n) (by omega) g2 m2
    have l2 := l2.keep (sm_put (o := 26) (k := n) (x := mz M3 + 1) (by omega))
    generalize sR N2 26 n (mz M3 + 1) = M4 at *
    rw [show mz M3 + 1 = 44 + 444 * n by omega] at l2
    have z4 := b2.1.1
    have tr2 : mR M4 2 = mR M 2 := (b2.1.2.2.2.1 2 (by omega) (by omega)).trans tr
    refine Xv.up (pc' := 82) (fun _ _ k => x_iinc dX9_init_79 rfl ⟨by omega, by omega⟩ (by decide) rfl k) ?_
    refine Xv.up (pc' := 48) (fun _ _ k => x_goto dX9_init_82 rfl k) ?_
    refine i9_loop hz fin j (n + 1) M4 (x + 1) (by omega) (by omega) ⟨((G.trans b1.1 (Or.inr (by omega))).trans b2.1 (Or.inr (by omega))).is (by omega) (by omega), (Z.trans b1.1 n1).trans b2.1 n2, ?_, by rw [tr2]; exact r0, by rw [tr2]; exact r1, by rw [tr2]; exact r2, by rw [tr2]; exact r3, ?_, ?_, fun i hi => ?_⟩
    · rw [b2.1.2.2.1 2 (by omega)]; exact t0
    · rw [b2.1.2.2.1 25 (by omega)]; exact t1
    · rw [b2.1.2.2.1 26 (by omega)]; exact t2
    · rw [b2.1.2.2.2.1 25 (by omega) (by omega)]
      by_cases q : i = n
      · subst q
        exact ⟨by rw [b1.2.1]; omega, l1.keep (b2.1.sm (by omega) (by omega)), by rw [b2.2.1]; omega, l2⟩
      · obtain ⟨p1, p2, p3, p4⟩ := p i (by omega)
        exact ⟨by rw [b1.2.2 i q]; exact p1, (p2.keep (b1.1.sm (by omega) (by omega))).keep (b2.1.sm (by omega) (by omega)), by rw [b2.2.2 i q, b1.1.2.2.2.1 26 (by omega) (by omega)]; exact p3, (p4.keep (b1.1.sm (by omega) (by omega))).keep (b2.1.sm (by omega) (by omega))⟩
set_option maxHeartbeats 4000000 in
theorem i9_init {d : Nat} {M : ZMem} (ho : 2 = mz M) (s0_0 : (mS M 2).1 = 19) (h1 : 2 ≤ 2) : Cv (d + 4) q9_init [zr 2] M (fun M' => Gx M M' 2 2227 32786 ∧ Nz M M' ∧ TopAt M' 2 ∧ (∀ k, k < 4 → SrF M' (44 + 444 * k)) ∧ SrF M' 1803) := by
  refine Cv.of rfl rfl (Nat.le_of_ble_eq_true rfl) (fun w hw x e => by subst e; simp at hw) (L := [some (zr 2), none]) rfl ?_
  have z0 : mz M = 2 + 0 := ho.symm
  have G0 : Gx M M 2 0 0 := Gx.refl
  have Z0 : Nz M M := Nz.refl
  refine Xv.up (pc' := 1) (fun _ _ k => x_aload_n dX9_init_0 rfl rfl k) ?_
  refine Xv.up (pc' := 4) (fun _ _ k => x_objInit lo9_1 h1 dX9_init_1 (zs8 rfl) k) ?_
  refine Xv.up (pc' := 5) (fun _ _ k => x_aload_n dX9_init_4 rfl rfl k) ?_
  refine Xv.up (pc' := 8) (fun _ _ k => x_new cf7 lc9_7 ni7 nz7 dX9_init_5 k) ?_
  refine Xv.up (pc' := 9) (fun _ _ k => x_dupR dX9_init_8 k) ?_
  obtain ⟨N1, c1, g1, m1, l1⟩ := i7_init (d := (d + 3)) (M := zNew M (17, 0) 2) (o := mz M + 1) (mz_new _ _ _).symm (by rw [mS_new, if_pos rfl]) (q_2 z0 h1)
  refine Xv.up (pc' := 12) (fun _ _ k => x_callI (as := []) k7_init (z_in 63 (by decide +kernel) rfl) (q_2 z0 h1) dX9_init_9 rfl (by decide) (zs8 rfl) c1 k) ?_
  refine Xv.up (pc' := 15) (fun _ _ k => x_putF lf9_10 (fun C T N h => by have h : some (RX9, TX9, 5) = some (C, T, N) := h; cases h; exact ⟨z_in 341 (by decide +kernel) rfl, rfl⟩) rfl rfl rfl (q_2 z0 h1) dX9_init_12 (by rw [g1.2.2.1 2 (by rw [mz_new]; exact Nat.le_succ_of_le (q_le z0)), mS_new, if_neg (q_ne z0)]; exact s0_0) k) ?_
  obtain ⟨b1, n1⟩ := blk_obj (M := M) (o := 2) (k := 0) (q_le z0) g1 m1
  have l1 := l1.keep (sm_put (o := 2) (k := 0) (x := mz M + 1) (Or.inl (q_lt z0)))
  generalize sR N1 2 0 (mz M + 1) = M1 at *
  clear c1 g1 m1
  have z1 : mz M1 = 2 + 2 := b1.1.1.trans (congrArg (· + 2) z0)
  have s0_1 : (mS M1 2).1 = 19 := by rw [b1.1.2.2.1 2 (q_le z0)]; exact s0_0
  have r1 : mR M1 2 0 = 2 + 1 := b1.2.1.trans (congrArg (· + 1) z0)
  rw [show mz M + 1 = 2 + 1 from congrArg (· + 1) z0] at l1
  have G1 := G0.trans b1.1 (Or.inl rfl)
  have Z1 := Z0.trans b1.1 n1
  have R0 : mR M1 2 0 = 3 := r1
  have T3 : TapeAt M1 3 := l1
  have T3n : TapeAt (zNew M1 (15, 0) 8) 3 := T3.keep ((gx_new (o := 0)).sm (by omega) (Or.inl (by omega)))
  refine Xv.up (pc' := 16) (fun _ _ k => x_aload_n dX9_init_15 rfl rfl k) ?_
  refine Xv.up (pc' := 19) (fun _ _ k => x_new cf5 lc9_16 ni5 nz5 dX9_init_16 k) ?_
  refine Xv.up (pc' := 20) (fun _ _ k => x_dupR dX9_init_19 k) ?_
  refine Xv.up (pc' := 21) (fun _ _ k => x_aload_n dX9_init_20 rfl rfl k) ?_
  refine Xv.up (pc' := 24) (st' := [zr 3, zr (mz M1 + 1), zr (mz M1 + 1), zr 2]) (fun _ _ k => x_getR lf9_10 rfl dX9_init_21 (by rw [mS_new, if_neg (by omega)]; exact s0_1) (by rw [mR_new, if_neg (by omega), R0]; exact k)) ?_
  obtain ⟨N2, c2, g2, m2, l2⟩ := i5_init (d := (d + 1)) (M := zNew M1 (15, 0) 8) (o := mz M1 + 1) (mz_new _ _ _).symm (by rw [mS_new, if_pos rfl]) (q_2 z1 h1) (congrArg (· + 1) z1) T3n
  refine Xv.up (pc' := 27) (fun _ _ k => x_callI (as := [zr 3]) k5_init (z_in 79 (by decide +kernel) rfl) (q_2 z1 h1) dX9_init_24 rfl (by decide) (zs8 rfl) c2 k) ?_
  refine Xv.up (pc' := 30) (fun _ _ k => x_putF lf9_21 (fun C T N h => by have h : some (RX9, TX9, 5) = some (C, T, N) := h; cases h; exact ⟨z_in 342 (by decide +kernel) rfl, rfl⟩) rfl rfl rfl (q_2 z1 h1) dX9_init_27 (by rw [g2.2.2.1 2 (by rw [mz_new]; exact Nat.le_succ_of_le (q_le z1)), mS_new, if_neg (q_ne z1)]; exact s0_1) k) ?_
  obtain ⟨b2, n2⟩ := blk_obj (M := M1) (o := 2) (k := 1) (q_le z1) g2 m2
  have e2 : mz M1 + 1 = 5 := by omega
  have l2 := (l2 : ReaderAt N2 5).keep (sm_put (o := 2) (k := 1) (x := mz M1 + 1) (by omega))
  generalize sR N2 2 1 (mz M1 + 1) = M2 at *
  clear c2 g2 m2
  have z2 : mz M2 = 2 + 22 := b2.1.1.trans (congrArg (· + 20) z1)
  have s0_2 : (mS M2 2).1 = 19 := by rw [b2.1.2.2.1 2 (q_le z1)]; exact s0_1
  have r2 : mR M2 2 1 = 2 + 3 := b2.2.1.trans (congrArg (· + 1) z1)
  have G2 := G1.trans b2.1 (Or.inl rfl)
  have Z2 := Z1.trans b2.1 n2
  refine Xv.up (pc' := 31) (fun _ _ k => x_aload_n dX9_init_30 rfl rfl k) ?_
  refine Xv.up (pc' := 32) (fun _ _ k => x_iconst dX9_init_31 (show inR 4 from ⟨by decide, by decide⟩) k) ?_
  refine Xv.up (pc' := 35) (fun _ _ k => x_anewarray (n := 4) (t := 2) (by decide) (fun cA => rfl) lc9_25 zao4 dX9_init_32 (by decide) k) ?_
  refine Xv.up (pc' := 38) (fun _ _ k => x_putF lf9_27 (fun C T N h => by have h : some (RX9, TX9, 5) = some (C, T, N) := h; cases h; exact ⟨z_in 343 (by decide +kernel) rfl, rfl⟩) rfl rfl rfl (q_2 z2 h1) dX9_init_35 (by rw [mS_new, if_neg (q_ne z2)]; exact s0_2) k) ?_
  obtain ⟨b3, s3, n3⟩ := blk_arr (M := M2) (o := 2) (k := 2) (t := 2) (m := 4) (q_le z2)
  generalize sR (zNew M2 (2, 4) 4) 2 2 (mz M2 + 1) = M3 at *
  have z3 : mz M3 = 2 + 23 := b3.1.1.trans (congrArg (· + 1) z2)
  have s0_3 : (mS M3 2).1 = 19 := by rw [b3.1.2.2.1 2 (q_le z2)]; exact s0_2
  have r3 : mR M3 2 2 = 2 + 23 := b3.2.1.trans (congrArg (· + 1) z2)
  rw [show mz M2 + 1 = 2 + 23 from congrArg (· + 1) z2] at s3
  have G3 := G2.trans b3.1 (Or.inl rfl)
  have Z3 := Z2.trans b3.1 n3
  refine Xv.up (pc' := 39) (fun _ _ k => x_aload_n dX9_init_38 rfl rfl k) ?_
  refine Xv.up (pc' := 40) (fun _ _ k => x_iconst dX9_init_39 (show inR 4 from ⟨by decide, by decide⟩) k) ?_
  refine Xv.up (pc' := 43) (fun _ _ k => x_anewarray (n := 4) (t := 3) (by decide) (fun cA => rfl) lc9_31 zao6 dX9_init_40 (by decide) k) ?_
  refine Xv.up (pc' := 46) (fun _ _ k => x_putF lf9_33 (fun C T N h => by have h : some (RX9, TX9, 5) = some (C, T, N) := h; cases h; exact ⟨z_in 344 (by decide +kernel) rfl, rfl⟩) rfl rfl rfl (q_2 z3 h1) dX9_init_43 (by rw [mS_new, if_neg (q_ne z3)]; exact s0_3) k) ?_
  obtain ⟨b4, s4, n4⟩ := blk_arr (M := M3) (o := 2) (k := 3) (t := 3) (m := 4) (q_le z3)
  generalize sR (zNew M3 (3, 4) 4) 2 3 (mz M3 + 1) = M4 at *
  have z4 : mz M4 = 2 + 24 := b4.1.1.trans (congrArg (· + 1) z3)
  have s0_4 : (mS M4 2).1 = 19 := by rw [b4.1.2.2.1 2 (q_le z3)]; exact s0_3
  have r4 : mR M4 2 3 = 2 + 24 := b4.2.1.trans (congrArg (· + 1) z3)
  rw [show mz M3 + 1 = 2 + 24 from congrArg (· + 1) z3] at s4
  have G4 := G3.trans b4.1 (Or.inl rfl)
  have Z4 := Z3.trans b4.1 n4
  refine Xv.up (pc' := 47) (fun _ _ k => x_iconst dX9_init_46 (show inR 0 from ⟨by decide, by decide⟩) k) ?_
  refine Xv.up (pc' := 48) (fun _ _ k => x_istore_n dX9_init_47 rfl (by decide) rfl k) ?_
  have F0 : mR M4 2 0 = 3 := ((b4.2.2 0 (by decide)).trans ((b3.2.2 0 (by decide)).trans ((b2.2.2 0 (by decide)).trans r1)))
  have F1 : mR M4 2 1 = 5 := ((b4.2.2 1 (by decide)).trans ((b3.2.2 1 (by decide)).trans r2))
  have F2 : mR M4 2 2 = 25 := ((b4.2.2 2 (by decide)).trans r3)
  have F3 : mR M4 2 3 = 26 := r4
  have F4 : mS M4 25 = (2, 4) := ((b4.1.2.2.1 (2 + 23) (q_le2 z3 (by decide))).trans s3)
  have F5 : mS M4 26 = (3, 4) := s4
  refine i9_loop z2 (fun M5 w5 => ?_) 4 0 M4 0 rfl rfl ⟨(b3.1.trans b4.1 (Or.inl rfl)).is rfl rfl, n3.trans b4.1 n4, s0_4, F0, F1, F2, F3, F4, F5, fun j hj => absurd hj (by omega)⟩
  obtain ⟨b5, n5, s0_5, E0, E1, E2, E3, E4, E5, w⟩ := w5
  have z5 : mz M5 = 2 + 1800 := b5.1.trans (congrArg (· + 1778) z2)
  have G5 := G2.trans b5 (Or.inl rfl)
  have Z5 := Z2.trans b5 n5
  refine Xv.up (pc' := 86) (fun _ _ k => x_aload_n dX9_init_85 rfl rfl k) ?_
  refine Xv.up (pc' := 89) (fun _ _ k => x_new cf6 lc9_31 ni6 nz6 dX9_init_86 k) ?_
  refine Xv.up (pc' := 90) (fun _ _ k => x_dupR dX9_init_89 k) ?_
  obtain ⟨N6, c6, g6, m6, l6⟩ := i6_init (d := d) (M := zNew M5 (16, 0) 14) (o := mz M5 + 1) (mz_new _ _ _).symm (by rw [mS_new, if_pos rfl]) (q_2 z5 h1)
  refine Xv.up (pc' := 93) (fun _ _ k => x_callI (as := []) k6_init (z_in 184 (by decide +kernel) rfl) (q_2 z5 h1) dX9_init_90 rfl (by decide) (zs8 rfl) c6 k) ?_
  refine Xv.up (pc' := 96) (fun _ _ k => x_putF lf9_39 (fun C T N h => by have h : some (RX9, TX9, 5) = some (C, T, N) := h; cases h; exact ⟨z_in 345 (by decide +kernel) rfl, rfl⟩) rfl rfl rfl (q_2 z5 h1) dX9_init_93 (by rw [g6.2.2.1 2 (by rw [mz_new]; exact Nat.le_succ_of_le (q_le z5)), mS_new, if_neg (q_ne z5)]; exact s0_5) k) ?_
  obtain ⟨b6, n6⟩ := blk_obj (M := M5) (o := 2) (k := 4) (q_le z5) g6 m6
  have l6 := l6.keep (sm_put (o := 2) (k := 4) (x := mz M5 + 1) (Or.inl (q_lt z5)))
  generalize sR N6 2 4 (mz M5 + 1) = M6 at *
  clear c6 g6 m6
  have z6 : mz M6 = 2 + 2227 := b6.1.1.trans (congrArg (· + 427) z5)
  have s0_6 : (mS M6 2).1 = 19 := by rw [b6.1.2.2.1 2 (q_le z5)]; exact s0_5
  have r6 : mR M6 2 4 = 2 + 1801 := b6.2.1.trans (congrArg (· + 1) z5)
  rw [show mz M5 + 1 = 2 + 1801 from congrArg (· + 1) z5] at l6
  have G6 := G5.trans b6.1 (Or.inl rfl)
  have Z6 := Z5.trans b6.1 n6
  have T2 : TapeAt M2 3 := T3.keep (b2.1.sm (by omega) (Or.inl (by omega)))
  have T6 := (T2.keep (b5.sm (by omega) (Or.inl (by omega)))).keep (b6.1.sm (by omega) (Or.inl (by omega)))
  have l6 : SrF M6 1803 := l6
  have Rd := (l2.keep (b5.sm (by omega) (Or.inl (by omega)))).keep (b6.1.sm (by omega) (Or.inl (by omega)))
  refine Xv.ret ⟨dX9_init_96, rfl⟩ ⟨G6.is rfl rfl, Z6, ⟨s0_6, (b6.2.2 0 (by decide)).trans E0, (b6.2.2 1 (by decide)).trans E1, (b6.2.2 2 (by decide)).trans E2, (b6.2.2 3 (by decide)).trans E3, r6, T6, Rd, (b6.1.2.2.1 25 (by omega)).trans E4, (b6.1.2.2.1 26 (by omega)).trans E5, l6.1, fun i hi => ?_⟩, fun i hi => (w i hi).2.2.2.keep (b6.1.sm (by omega) (by omega)), l6⟩
  obtain ⟨w1, w2, w3, w4⟩ := w i hi
  rw [b6.1.2.2.2.1 25 (by omega) (by omega), b6.1.2.2.2.1 26 (by omega) (by omega)]
  exact ⟨w1, w2.keep (b6.1.sm (by omega) (by omega)), w3, (w4.keep (b6.1.sm (by omega) (by omega))).1⟩
