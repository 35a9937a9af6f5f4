/-! the constructor of the reference -/
theorem blk_root {M : ZMem} {o k : Nat} (ho : o ≤ mz M) : Blk M (sR (sI (sI (sI (sI (zNew M (1, 4) 4) (mz M + 1) (Int.toNat 0) (-1)) (mz M + 1) (Int.toNat 1) (-1)) (mz M + 1) (Int.toNat 2) (-1)) (mz M + 1) (Int.toNat 3) (-1)) o k (mz M + 1)) o k 1 4 (mz M + 1) ∧ mS (sR (sI (sI (sI (sI (zNew M (1, 4) 4) (mz M + 1) (Int.toNat 0) (-1)) (mz M + 1) (Int.toNat 1) (-1)) (mz M + 1) (Int.toNat 2) (-1)) (mz M + 1) (Int.toNat 3) (-1)) o k (mz M + 1)) (mz M + 1) = (1, 4) ∧ ∀ j, j < 4 → mI (sR (sI (sI (sI (sI (zNew M (1, 4) 4) (mz M + 1) (Int.toNat 0) (-1)) (mz M + 1) (Int.toNat 1) (-1)) (mz M + 1) (Int.toNat 2) (-1)) (mz M + 1) (Int.toNat 3) (-1)) o k (mz M + 1)) (mz M + 1) j = -1 := by
  have h := (blk_arr (M := M) (o := o) (k := k) (t := 1) (m := 4) ho)
  obtain ⟨⟨⟨z, y, s, r, i⟩, r1, r2⟩, s1, _⟩ := h
  refine ⟨⟨⟨z, y, s, r, fun a ha => funext fun j => ?_⟩, r1, r2⟩, s1, fun j hj => ?_⟩
  · rw [mI_sR, mI_sI, if_neg (by omega), mI_sI, if_neg (by omega), mI_sI, if_neg (by omega), mI_sI, if_neg (by omega), mI_new, if_neg (by omega)]
  · rw [mI_sR, mI_sI, mI_sI, mI_sI, mI_sI]
    obtain rfl | rfl | rfl | rfl : j = 0 ∨ j = 1 ∨ j = 2 ∨ j = 3 := by omega
    · rw [if_neg (fun q => absurd q.2 (by decide)), if_neg (fun q => absurd q.2 (by decide)), if_neg (fun q => absurd q.2 (by decide)), if_pos ⟨rfl, rfl⟩]
    · rw [if_neg (fun q => absurd q.2 (by decide)), if_neg (fun q => absurd q.2 (by decide)), if_pos ⟨rfl, rfl⟩]
    · rw [if_neg (fun q => absurd q.2 (by decide)), if_pos ⟨rfl, rfl⟩]
    · rw [if_pos ⟨rfl, rfl⟩]
set_option maxHeartbeats 4000000 in
theorem i10_init {d : Nat} {M : ZMem} {o : Nat} (ho : o = mz M) (s0_0 : (mS M o).1 = 20) (h1 : 2 ≤ o) : Cv d q10_init [zr o] M (fun M' => Gx M M' o 10 370409 ∧ ModelAt M' o ∧ (∀ j, j < 4 → mI M' (o + 7) j = -1) ∧ ∀ j, mI M' (o + 9) j = 0) := by
  refine Cv.of rfl rfl (Nat.le_of_ble_eq_true rfl) (fun w hw x e => by subst e; simp at hw) (L := [some (zr o)]) rfl ?_
  have z0 : mz M = o + 0 := ho.symm
  have G0 : Gx M M o 0 0 := Gx.refl
  refine Xv.up (pc' := 1) (fun _ _ k => x_aload_n dX10_init_0 rfl rfl k) ?_
  refine Xv.up (pc' := 4) (fun _ _ k => x_objInit lo10_3 h1 dX10_init_1 (zs8 rfl) k) ?_
  refine Xv.up (pc' := 5) (fun _ _ k => x_aload_n dX10_init_4 rfl rfl k) ?_
  refine Xv.up (pc' := 8) (fun _ _ k => x_sipush dX10_init_5 (show inR 150 from ⟨by decide, by decide⟩) (by decide) k) ?_
  refine Xv.up (pc' := 10) (fun _ _ k => x_newarray (n := 150) dX10_init_8 (by decide) k) ?_
  refine Xv.up (pc' := 13) (fun _ _ k => x_putF lf10_9 (fun C T N h => by have h : some (RX10, TX10, 21) = some (C, T, N) := h; cases h; exact ⟨z_in 948 (by decide +kernel) rfl, rfl⟩) rfl rfl rfl (q_2 z0 h1) dX10_init_10 (by rw [mS_new, if_neg (q_ne z0)]; exact s0_0) k) ?_
  obtain ⟨b1, s1, n1⟩ := blk_arr (M := M) (o := o) (k := 0) (t := 1) (m := 150) (q_le z0)
  generalize sR (zNew M (1, 150) 150) o 0 (mz M + 1) = M1 at *
  have z1 : mz M1 = o + 1 := b1.1.1.trans (congrArg (· + 1) z0)
  have s0_1 : (mS M1 o).1 = 20 := by rw [b1.1.2.2.1 o (q_le z0)]; exact s0_0
  have r1 : mR M1 o 0 = o + 1 := b1.2.1.trans (congrArg (· + 1) z0)
  rw [show mz M + 1 = o + 1 from congrArg (· + 1) z0] at s1
  have G1 := G0.trans b1.1 (Or.inl rfl)
  refine Xv.up (pc' := 14) (fun _ _ k => x_aload_n dX10_init_13 rfl rfl k) ?_
  refine Xv.up (pc' := 16) (fun _ _ k => x_ldc li10_13 dX10_init_14 (show inR 70200 from ⟨by decide, by decide⟩) rfl k) ?_
  refine Xv.up (pc' := 18) (fun _ _ k => x_newarray (n := 70200) dX10_init_16 (by decide) k) ?_
  refine Xv.up (pc' := 21) (fun _ _ k => x_putF lf10_14 (fun C T N h => by have h : some (RX10, TX10, 21) = some (C, T, N) := h; cases h; exact ⟨z_in 956 (by decide +kernel) rfl, rfl⟩) rfl rfl rfl (q_2 z1 h1) dX10_init_18 (by rw [mS_new, if_neg (q_ne z1)]; exact s0_1) k) ?_
  obtain ⟨b2, s2, n2⟩ := blk_arr (M := M1) (o := o) (k := 8) (t := 1) (m := 70200) (q_le z1)
  generalize sR (zNew M1 (1, 70200) 70200) o 8 (mz M1 + 1) = M2 at *
  have z2 : mz M2 = o + 2 := b2.1.1.trans (congrArg (· + 1) z1)
  have s0_2 : (mS M2 o).1 = 20 := by rw [b2.1.2.2.1 o (q_le z1)]; exact s0_1
  have r2 : mR M2 o 8 = o + 2 := b2.2.1.trans (congrArg (· + 1) z1)
  rw [show mz M1 + 1 = o + 2 from congrArg (· + 1) z1] at s2
  have G2 := G1.trans b2.1 (Or.inl rfl)
  refine Xv.up (pc' := 22) (fun _ _ k => x_aload_n dX10_init_21 rfl rfl k) ?_
  refine Xv.up (pc' := 24) (fun _ _ k => x_ldc li10_13 dX10_init_22 (show inR 70200 from ⟨by decide, by decide⟩) rfl k) ?_
  refine Xv.up (pc' := 26) (fun _ _ k => x_newarray (n := 70200) dX10_init_24 (by decide) k) ?_
  refine Xv.up (pc' := 29) (fun _ _ k => x_putF lf10_17 (fun C T N h => by have h : some (RX10, TX10, 21) = some (C, T, N) := h; cases h; exact ⟨z_in 957 (by decide +kernel) rfl, rfl⟩) rfl rfl rfl (q_2 z2 h1) dX10_init_26 (by rw [mS_new, if_neg (q_ne z2)]; exact s0_2) k) ?_
  obtain ⟨b3, s3, n3⟩ := blk_arr (M := M2) (o := o) (k := 9) (t := 1) (m := 70200) (q_le z2)
  generalize sR (zNew M2 (1, 70200) 70200) o 9 (mz M2 + 1) = M3 at *
  have z3 : mz M3 = o + 3 := b3.1.1.trans (congrArg (· + 1) z2)
  have s0_3 : (mS M3 o).1 = 20 := by rw [b3.1.2.2.1 o (q_le z2)]; exact s0_2
  have r3 : mR M3 o 9 = o + 3 := b3.2.1.trans (congrArg (· + 1) z2)
  rw [show mz M2 + 1 = o + 3 from congrArg (· + 1) z2] at s3
  have G3 := G2.trans b3.1 (Or.inl rfl)
  refine Xv.up (pc' := 30) (fun _ _ k => x_aload_n dX10_init_29 rfl rfl k) ?_
  refine Xv.up (pc' := 32) (fun _ _ k => x_ldc li10_13 dX10_init_30 (show inR 70200 from ⟨by decide, by decide⟩) rfl k) ?_
  refine Xv.up (pc' := 34) (fun _ _ k => x_newarray (n := 70200) dX10_init_32 (by decide) k) ?_
  refine Xv.up (pc' := 37) (fun _ _ k => x_putF lf10_20 (fun C T N h => by have h : some (RX10, TX10, 21) = some (C, T, N) := h; cases h; exact ⟨z_in 958 (by decide +kernel) rfl, rfl⟩) rfl rfl rfl (q_2 z3 h1) dX10_init_34 (by rw [mS_new, if_neg (q_ne z3)]; exact s0_3) k) ?_
  obtain ⟨b4, s4, n4⟩ := blk_arr (M := M3) (o := o) (k := 10) (t := 1) (m := 70200) (q_le z3)
  generalize sR (zNew M3 (1, 70200) 70200) o 10 (mz M3 + 1) = M4 at *
  have z4 : mz M4 = o + 4 := b4.1.1.trans (congrArg (· + 1) z3)
  have s0_4 : (mS M4 o).1 = 20 := by rw [b4.1.2.2.1 o (q_le z3)]; exact s0_3
  have r4 : mR M4 o 10 = o + 4 := b4.2.1.trans (congrArg (· + 1) z3)
  rw [show mz M3 + 1 = o + 4 from congrArg (· + 1) z3] at s4
  have G4 := G3.trans b4.1 (Or.inl rfl)
  refine Xv.up (pc' := 38) (fun _ _ k => x_aload_n dX10_init_37 rfl rfl k) ?_
  refine Xv.up (pc' := 40) (fun _ _ k => x_ldc li10_13 dX10_init_38 (show inR 70200 from ⟨by decide, by decide⟩) rfl k) ?_
  refine Xv.up (pc' := 42) (fun _ _ k => x_newarray (n := 70200) dX10_init_40 (by decide) k) ?_
  refine Xv.up (pc' := 45) (fun _ _ k => x_putF lf10_23 (fun C T N h => by have h : some (RX10, TX10, 21) = some (C, T, N) := h; cases h; exact ⟨z_in 959 (by decide +kernel) rfl, rfl⟩) rfl rfl rfl (q_2 z4 h1) dX10_init_42 (by rw [mS_new, if_neg (q_ne z4)]; exact s0_4) k) ?_
  obtain ⟨b5, s5, n5⟩ := blk_arr (M := M4) (o := o) (k := 11) (t := 1) (m := 70200) (q_le z4)
  generalize sR (zNew M4 (1, 70200) 70200) o 11 (mz M4 + 1) = M5 at *
  have z5 : mz M5 = o + 5 := b5.1.1.trans (congrArg (· + 1) z4)
  have s0_5 : (mS M5 o).1 = 20 := by rw [b5.1.2.2.1 o (q_le z4)]; exact s0_4
  have r5 : mR M5 o 11 = o + 5 := b5.2.1.trans (congrArg (· + 1) z4)
  rw [show mz M4 + 1 = o + 5 from congrArg (· + 1) z4] at s5
  have G5 := G4.trans b5.1 (Or.inl rfl)
  refine Xv.up (pc' := 46) (fun _ _ k => x_aload_n dX10_init_45 rfl rfl k) ?_
  refine Xv.up (pc' := 48) (fun _ _ k => x_ldc li10_13 dX10_init_46 (show inR 70200 from ⟨by decide, by decide⟩) rfl k) ?_
  refine Xv.up (pc' := 50) (fun _ _ k => x_newarray (n := 70200) dX10_init_48 (by decide) k) ?_
  refine Xv.up (pc' := 53) (fun _ _ k => x_putF lf10_26 (fun C T N h => by have h : some (RX10, TX10, 21) = some (C, T, N) := h; cases h; exact ⟨z_in 960 (by decide +kernel) rfl, rfl⟩) rfl rfl rfl (q_2 z5 h1) dX10_init_50 (by rw [mS_new, if_neg (q_ne z5)]; exact s0_5) k) ?_
  obtain ⟨b6, s6, n6⟩ := blk_arr (M := M5) (o := o) (k := 12) (t := 1) (m := 70200) (q_le z5)
  generalize sR (zNew M5 (1, 70200) 70200) o 12 (mz M5 + 1) = M6 at *
  have z6 : mz M6 = o + 6 := b6.1.1.trans (congrArg (· + 1) z5)
  have s0_6 : (mS M6 o).1 = 20 := by rw [b6.1.2.2.1 o (q_le z5)]; exact s0_5
  have r6 : mR M6 o 12 = o + 6 := b6.2.1.trans (congrArg (· + 1) z5)
  rw [show mz M5 + 1 = o + 6 from congrArg (· + 1) z5] at s6
  have G6 := G5.trans b6.1 (Or.inl rfl)
  refine Xv.up (pc' := 54) (fun _ _ k => x_aload_n dX10_init_53 rfl rfl k) ?_
  refine Xv.up (pc' := 55) (fun _ _ k => x_iconst dX10_init_54 (show inR 4 from ⟨by decide, by decide⟩) k) ?_
  refine Xv.up (pc' := 57) (fun _ _ k => x_newarray (n := 4) dX10_init_55 (by decide) k) ?_
  refine Xv.up (pc' := 58) (fun _ _ k => x_dupR dX10_init_57 k) ?_
  refine Xv.up (pc' := 59) (fun _ _ k => x_iconst dX10_init_58 (show inR 0 from ⟨by decide, by decide⟩) k) ?_
  refine Xv.up (pc' := 60) (fun _ _ k => x_iconst dX10_init_59 (show inR (-1) from ⟨by decide, by decide⟩) k) ?_
  refine Xv.up (pc' := 61) (fun _ _ k => x_iastore (i := 0) (x := -1) (n := 4) dX10_init_60 (by rw [mS_new, if_pos rfl]) (by decide) (by decide) k) ?_
  refine Xv.up (pc' := 62) (fun _ _ k => x_dupR dX10_init_61 k) ?_
  refine Xv.up (pc' := 63) (fun _ _ k => x_iconst dX10_init_62 (show inR 1 from ⟨by decide, by decide⟩) k) ?_
  refine Xv.up (pc' := 64) (fun _ _ k => x_iconst dX10_init_63 (show inR (-1) from ⟨by decide, by decide⟩) k) ?_
  refine Xv.up (pc' := 65) (fun _ _ k => x_iastore (i := 1) (x := -1) (n := 4) dX10_init_64 (by rw [mS_sI, mS_new, if_pos rfl]) (by decide) (by decide) k) ?_
  refine Xv.up (pc' := 66) (fun _ _ k => x_dupR dX10_init_65 k) ?_
  refine Xv.up (pc' := 67) (fun _ _ k => x_iconst dX10_init_66 (show inR 2 from ⟨by decide, by decide⟩) k) ?_
  refine Xv.up (pc' := 68) (fun _ _ k => x_iconst dX10_init_67 (show inR (-1) from ⟨by decide, by decide⟩) k) ?_
  refine Xv.up (pc' := 69) (fun _ _ k => x_iastore (i := 2) (x := -1) (n := 4) dX10_init_68 (by rw [mS_sI, mS_sI, mS_new, if_pos rfl]) (by decide) (by decide) k) ?_
  refine Xv.up (pc' := 70) (fun _ _ k => x_dupR dX10_init_69 k) ?_
  refine Xv.up (pc' := 71) (fun _ _ k => x_iconst dX10_init_70 (show inR 3 from ⟨by decide, by decide⟩) k) ?_
  refine Xv.up (pc' := 72) (fun _ _ k => x_iconst dX10_init_71 (show inR (-1) from ⟨by decide, by decide⟩) k) ?_
  refine Xv.up (pc' := 73) (fun _ _ k => x_iastore (i := 3) (x := -1) (n := 4) dX10_init_72 (by rw [mS_sI, mS_sI, mS_sI, mS_new, if_pos rfl]) (by decide) (by decide) k) ?_
  refine Xv.up (pc' := 76) (fun _ _ k => x_putF lf10_29 (fun C T N h => by have h : some (RX10, TX10, 21) = some (C, T, N) := h; cases h; exact ⟨z_in 961 (by decide +kernel) rfl, rfl⟩) rfl rfl rfl (q_2 z6 h1) dX10_init_73 (by rw [mS_sI, mS_sI, mS_sI, mS_sI, mS_new, if_neg (q_ne z6)]; exact s0_6) k) ?_
  obtain ⟨b7, s7, n7⟩ := blk_root (M := M6) (o := o) (k := 13) (q_le z6)
  generalize sR (sI (sI (sI (sI (zNew M6 (1, 4) 4) (mz M6 + 1) (Int.toNat 0) (-1)) (mz M6 + 1) (Int.toNat 1) (-1)) (mz M6 + 1) (Int.toNat 2) (-1)) (mz M6 + 1) (Int.toNat 3) (-1)) o 13 (mz M6 + 1) = M7 at *
  have z7 : mz M7 = o + 7 := b7.1.1.trans (congrArg (· + 1) z6)
  have s0_7 : (mS M7 o).1 = 20 := by rw [b7.1.2.2.1 o (q_le z6)]; exact s0_6
  have r7 : mR M7 o 13 = o + 7 := b7.2.1.trans (congrArg (· + 1) z6)
  rw [show mz M6 + 1 = o + 7 from congrArg (· + 1) z6] at s7
  have G7 := G6.trans b7.1 (Or.inl rfl)
  rw [show mz M6 + 1 = o + 7 from congrArg (· + 1) z6] at n7
  refine Xv.up (pc' := 77) (fun _ _ k => x_aload_n dX10_init_76 rfl rfl k) ?_
  refine Xv.up (pc' := 78) (fun _ _ k => x_iconst dX10_init_77 (show inR 4 from ⟨by decide, by decide⟩) k) ?_
  refine Xv.up (pc' := 80) (fun _ _ k => x_newarray (n := 4) dX10_init_78 (by decide) k) ?_
  refine Xv.up (pc' := 81) (fun _ _ k => x_dupR dX10_init_80 k) ?_
  refine Xv.up (pc' := 82) (fun _ _ k => x_iconst dX10_init_81 (show inR 0 from ⟨by decide, by decide⟩) k) ?_
  refine Xv.up (pc' := 83) (fun _ _ k => x_iconst dX10_init_82 (show inR (-1) from ⟨by decide, by decide⟩) k) ?_
  refine Xv.up (pc' := 84) (fun _ _ k => x_iastore (i := 0) (x := -1) (n := 4) dX10_init_83 (by rw [mS_new, if_pos rfl]) (by decide) (by decide) k) ?_
  refine Xv.up (pc' := 85) (fun _ _ k => x_dupR dX10_init_84 k) ?_
  refine Xv.up (pc' := 86) (fun _ _ k => x_iconst dX10_init_85 (show inR 1 from ⟨by decide, by decide⟩) k) ?_
  refine Xv.up (pc' := 87) (fun _ _ k => x_iconst dX10_init_86 (show inR (-1) from ⟨by decide, by decide⟩) k) ?_
  refine Xv.up (pc' := 88) (fun _ _ k => x_iastore (i := 1) (x := -1) (n := 4) dX10_init_87 (by rw [mS_sI, mS_new, if_pos rfl]) (by decide) (by decide) k) ?_
  refine Xv.up (pc' := 89) (fun _ _ k => x_dupR dX10_init_88 k) ?_
  refine Xv.up (pc' := 90) (fun _ _ k => x_iconst dX10_init_89 (show inR 2 from ⟨by decide, by decide⟩) k) ?_
  refine Xv.up (pc' := 91) (fun _ _ k => x_iconst dX10_init_90 (show inR (-1) from ⟨by decide, by decide⟩) k) ?_
  refine Xv.up (pc' := 92) (fun _ _ k => x_iastore (i := 2) (x := -1) (n := 4) dX10_init_91 (by rw [mS_sI, mS_sI, mS_new, if_pos rfl]) (by decide) (by decide) k) ?_
  refine Xv.up (pc' := 93) (fun _ _ k => x_dupR dX10_init_92 k) ?_
  refine Xv.up (pc' := 94) (fun _ _ k => x_iconst dX10_init_93 (show inR 3 from ⟨by decide, by decide⟩) k) ?_
  refine Xv.up (pc' := 95) (fun _ _ k => x_iconst dX10_init_94 (show inR (-1) from ⟨by decide, by decide⟩) k) ?_
  refine Xv.up (pc' := 96) (fun _ _ k => x_iastore (i := 3) (x := -1) (n := 4) dX10_init_95 (by rw [mS_sI, mS_sI, mS_sI, mS_new, if_pos rfl]) (by decide) (by decide) k) ?_
  refine Xv.up (pc' := 99) (fun _ _ k => x_putF lf10_32 (fun C T N h => by have h : some (RX10, TX10, 21) = some (C, T, N) := h; cases h; exact ⟨z_in 962 (by decide +kernel) rfl, rfl⟩) rfl rfl rfl (q_2 z7 h1) dX10_init_96 (by rw [mS_sI, mS_sI, mS_sI, mS_sI, mS_new, if_neg (q_ne z7)]; exact s0_7) k) ?_
  obtain ⟨b8, s8, n8⟩ := blk_root (M := M7) (o := o) (k := 14) (q_le z7)
  generalize sR (sI (sI (sI (sI (zNew M7 (1, 4) 4) (mz M7 + 1) (Int.toNat 0) (-1)) (mz M7 + 1) (Int.toNat 1) (-1)) (mz M7 + 1) (Int.toNat 2) (-1)) (mz M7 + 1) (Int.toNat 3) (-1)) o 14 (mz M7 + 1) = M8 at *
  have z8 : mz M8 = o + 8 := b8.1.1.trans (congrArg (· + 1) z7)
  have s0_8 : (mS M8 o).1 = 20 := by rw [b8.1.2.2.1 o (q_le z7)]; exact s0_7
  have r8 : mR M8 o 14 = o + 8 := b8.2.1.trans (congrArg (· + 1) z7)
  rw [show mz M7 + 1 = o + 8 from congrArg (· + 1) z7] at s8
  have G8 := G7.trans b8.1 (Or.inl rfl)
  rw [show mz M7 + 1 = o + 8 from congrArg (· + 1) z7] at n8
  refine Xv.up (pc' := 100) (fun _ _ k => x_aload_n dX10_init_99 rfl rfl k) ?_
  refine Xv.up (pc' := 103) (fun _ _ k => x_sipush dX10_init_100 (show inR 19245 from ⟨by decide, by decide⟩) (by decide) k) ?_
  refine Xv.up (pc' := 105) (fun _ _ k => x_newarray (n := 19245) dX10_init_103 (by decide) k) ?_
  refine Xv.up (pc' := 108) (fun _ _ k => x_putF lf10_35 (fun C T N h => by have h : some (RX10, TX10, 21) = some (C, T, N) := h; cases h; exact ⟨z_in 963 (by decide +kernel) rfl, rfl⟩) rfl rfl rfl (q_2 z8 h1) dX10_init_105 (by rw [mS_new, if_neg (q_ne z8)]; exact s0_8) k) ?_
  obtain ⟨b9, s9, n9⟩ := blk_arr (M := M8) (o := o) (k := 15) (t := 1) (m := 19245) (q_le z8)
  generalize sR (zNew M8 (1, 19245) 19245) o 15 (mz M8 + 1) = M9 at *
  have z9 : mz M9 = o + 9 := b9.1.1.trans (congrArg (· + 1) z8)
  have s0_9 : (mS M9 o).1 = 20 := by rw [b9.1.2.2.1 o (q_le z8)]; exact s0_8
  have r9 : mR M9 o 15 = o + 9 := b9.2.1.trans (congrArg (· + 1) z8)
  rw [show mz M8 + 1 = o + 9 from congrArg (· + 1) z8] at s9
  have G9 := G8.trans b9.1 (Or.inl rfl)
  refine Xv.up (pc' := 109) (fun _ _ k => x_aload_n dX10_init_108 rfl rfl k) ?_
  refine Xv.up (pc' := 111) (fun _ _ k => x_bipush dX10_init_109 (show inR 6 from ⟨by decide, by decide⟩) (by decide) k) ?_
  refine Xv.up (pc' := 113) (fun _ _ k => x_newarray (n := 6) dX10_init_111 (by decide) k) ?_
  refine Xv.up (pc' := 116) (fun _ _ k => x_putF lf10_38 (fun C T N h => by have h : some (RX10, TX10, 21) = some (C, T, N) := h; cases h; exact ⟨z_in 968 (by decide +kernel) rfl, rfl⟩) rfl rfl rfl (q_2 z9 h1) dX10_init_113 (by rw [mS_new, if_neg (q_ne z9)]; exact s0_9) k) ?_
  obtain ⟨b10, s10, n10⟩ := blk_arr (M := M9) (o := o) (k := 20) (t := 1) (m := 6) (q_le z9)
  generalize sR (zNew M9 (1, 6) 6) o 20 (mz M9 + 1) = M10 at *
  have z10 : mz M10 = o + 10 := b10.1.1.trans (congrArg (· + 1) z9)
  have s0_10 : (mS M10 o).1 = 20 := by rw [b10.1.2.2.1 o (q_le z9)]; exact s0_9
  have r10 : mR M10 o 20 = o + 10 := b10.2.1.trans (congrArg (· + 1) z9)
  rw [show mz M9 + 1 = o + 10 from congrArg (· + 1) z9] at s10
  have G10 := G9.trans b10.1 (Or.inl rfl)
  have I7 : ∀ j, j < 4 → mI M10 (o + 7) j = -1 := fun j hj => ((congrFun (b10.1.2.2.2.2 (o + 7) (q_le2 z9 (by decide))) j).trans ((congrFun (b9.1.2.2.2.2 (o + 7) (q_le2 z8 (by decide))) j).trans ((congrFun (b8.1.2.2.2.2 (o + 7) (q_le2 z7 (by decide))) j).trans (n7 j hj))))
  have N9 : ∀ j, mI M9 (o + 9) j = 0 := fun j => n9 (o + 9) j (by rw [z8]; exact Nat.lt_succ_self _) (by rw [z9]; exact Nat.le_refl _)
  have I9 : ∀ j, mI M10 (o + 9) j = 0 := fun j => ((congrFun (b10.1.2.2.2.2 (o + 9) (q_le2 z9 (by decide))) j).trans (N9 j))
  have f0 := ((b10.2.2 0 (by decide)).trans ((b9.2.2 0 (by decide)).trans ((b8.2.2 0 (by decide)).trans ((b7.2.2 0 (by decide)).trans ((b6.2.2 0 (by decide)).trans ((b5.2.2 0 (by decide)).trans ((b4.2.2 0 (by decide)).trans ((b3.2.2 0 (by decide)).trans ((b2.2.2 0 (by decide)).trans r1)))))))))
  have f1 := ((b10.2.2 8 (by decide)).trans ((b9.2.2 8 (by decide)).trans ((b8.2.2 8 (by decide)).trans ((b7.2.2 8 (by decide)).trans ((b6.2.2 8 (by decide)).trans ((b5.2.2 8 (by decide)).trans ((b4.2.2 8 (by decide)).trans ((b3.2.2 8 (by decide)).trans r2))))))))
  have f2 := ((b10.2.2 9 (by decide)).trans ((b9.2.2 9 (by decide)).trans ((b8.2.2 9 (by decide)).trans ((b7.2.2 9 (by decide)).trans ((b6.2.2 9 (by decide)).trans ((b5.2.2 9 (by decide)).trans ((b4.2.2 9 (by decide)).trans r3)))))))
  have f3 := ((b10.2.2 10 (by decide)).trans ((b9.2.2 10 (by decide)).trans ((b8.2.2 10 (by decide)).trans ((b7.2.2 10 (by decide)).trans ((b6.2.2 10 (by decide)).trans ((b5.2.2 10 (by decide)).trans r4))))))
  have f4 := ((b10.2.2 11 (by decide)).trans ((b9.2.2 11 (by decide)).trans ((b8.2.2 11 (by decide)).trans ((b7.2.2 11 (by decide)).trans ((b6.2.2 11 (by decide)).trans r5)))))
  have f5 := ((b10.2.2 12 (by decide)).trans ((b9.2.2 12 (by decide)).trans ((b8.2.2 12 (by decide)).trans ((b7.2.2 12 (by decide)).trans r6))))
  have f6 := ((b10.2.2 13 (by decide)).trans ((b9.2.2 13 (by decide)).trans ((b8.2.2 13 (by decide)).trans r7)))
  have f7 := ((b10.2.2 14 (by decide)).trans ((b9.2.2 14 (by decide)).trans r8))
  have f8 := ((b10.2.2 15 (by decide)).trans r9)
  have f9 := r10
  have f10 := ((b10.1.2.2.1 (o + 1) (q_le2 z9 (by decide))).trans ((b9.1.2.2.1 (o + 1) (q_le2 z8 (by decide))).trans ((b8.1.2.2.1 (o + 1) (q_le2 z7 (by decide))).trans ((b7.1.2.2.1 (o + 1) (q_le2 z6 (by decide))).trans ((b6.1.2.2.1 (o + 1) (q_le2 z5 (by decide))).trans ((b5.1.2.2.1 (o + 1) (q_le2 z4 (by decide))).trans ((b4.1.2.2.1 (o + 1) (q_le2 z3 (by decide))).trans ((b3.1.2.2.1 (o + 1) (q_le2 z2 (by decide))).trans ((b2.1.2.2.1 (o + 1) (q_le2 z1 (by decide))).trans s1)))))))))
  have f11 := ((b10.1.2.2.1 (o + 2) (q_le2 z9 (by decide))).trans ((b9.1.2.2.1 (o + 2) (q_le2 z8 (by decide))).trans ((b8.1.2.2.1 (o + 2) (q_le2 z7 (by decide))).trans ((b7.1.2.2.1 (o + 2) (q_le2 z6 (by decide))).trans ((b6.1.2.2.1 (o + 2) (q_le2 z5 (by decide))).trans ((b5.1.2.2.1 (o + 2) (q_le2 z4 (by decide))).trans ((b4.1.2.2.1 (o + 2) (q_le2 z3 (by decide))).trans ((b3.1.2.2.1 (o + 2) (q_le2 z2 (by decide))).trans s2))))))))
  have f12 := ((b10.1.2.2.1 (o + 3) (q_le2 z9 (by decide))).trans ((b9.1.2.2.1 (o + 3) (q_le2 z8 (by decide))).trans ((b8.1.2.2.1 (o + 3) (q_le2 z7 (by decide))).trans ((b7.1.2.2.1 (o + 3) (q_le2 z6 (by decide))).trans ((b6.1.2.2.1 (o + 3) (q_le2 z5 (by decide))).trans ((b5.1.2.2.1 (o + 3) (q_le2 z4 (by decide))).trans ((b4.1.2.2.1 (o + 3) (q_le2 z3 (by decide))).trans s3)))))))
  have f13 := ((b10.1.2.2.1 (o + 4) (q_le2 z9 (by decide))).trans ((b9.1.2.2.1 (o + 4) (q_le2 z8 (by decide))).trans ((b8.1.2.2.1 (o + 4) (q_le2 z7 (by decide))).trans ((b7.1.2.2.1 (o + 4) (q_le2 z6 (by decide))).trans ((b6.1.2.2.1 (o + 4) (q_le2 z5 (by decide))).trans ((b5.1.2.2.1 (o + 4) (q_le2 z4 (by decide))).trans s4))))))
  have f14 := ((b10.1.2.2.1 (o + 5) (q_le2 z9 (by decide))).trans ((b9.1.2.2.1 (o + 5) (q_le2 z8 (by decide))).trans ((b8.1.2.2.1 (o + 5) (q_le2 z7 (by decide))).trans ((b7.1.2.2.1 (o + 5) (q_le2 z6 (by decide))).trans ((b6.1.2.2.1 (o + 5) (q_le2 z5 (by decide))).trans s5)))))
  have f15 := ((b10.1.2.2.1 (o + 6) (q_le2 z9 (by decide))).trans ((b9.1.2.2.1 (o + 6) (q_le2 z8 (by decide))).trans ((b8.1.2.2.1 (o + 6) (q_le2 z7 (by decide))).trans ((b7.1.2.2.1 (o + 6) (q_le2 z6 (by decide))).trans s6))))
  have f16 := ((b10.1.2.2.1 (o + 7) (q_le2 z9 (by decide))).trans ((b9.1.2.2.1 (o + 7) (q_le2 z8 (by decide))).trans ((b8.1.2.2.1 (o + 7) (q_le2 z7 (by decide))).trans s7)))
  have f17 := ((b10.1.2.2.1 (o + 8) (q_le2 z9 (by decide))).trans ((b9.1.2.2.1 (o + 8) (q_le2 z8 (by decide))).trans s8))
  have f18 := ((b10.1.2.2.1 (o + 9) (q_le2 z9 (by decide))).trans s9)
  have f19 := s10
  exact Xv.ret ⟨dX10_init_116, rfl⟩ ⟨G10.is rfl (by decide), ⟨s0_10, f0, f1, f2, f3, f4, f5, f6, f7, f8, f9, f10, f11, f12, f13, f14, f15, f16, f17, f18, f19⟩, I7, I9⟩
