/-! the constructors without loops -/
theorem q_2 {z o a : Nat} (z1 : z = o + a) (h : 2 ≤ o) : 2 ≤ z + 1 := by omega
theorem q_le {z o a : Nat} (z1 : z = o + a) : o ≤ z := by omega
theorem q_lt {z o a : Nat} (z1 : z = o + a) : o < z + 1 := by omega
theorem q_ne {z o a : Nat} (z1 : z = o + a) : ¬ o = z + 1 := by omega
theorem q_le2 {z o a b : Nat} (z1 : z = o + a) (h : b ≤ a) : o + b ≤ z := by omega
theorem q_hi {z o a b c : Nat} (z1 : z = o + a) (h : b + c ≤ a + 1) : o + b + c ≤ z + 1 := by omega
set_option maxHeartbeats 4000000 in
theorem i8_init {d : Nat} {M : ZMem} {o : Nat} (ho : o = mz M) (s0_0 : (mS M o).1 = 18) (h1 : 2 ≤ o) : Cv d q8_init [zr o] M (fun M' => Gx M M' o 3 22 ∧ Nz M M' ∧ WayAt M' (o)) := by
  refine Cv.of rfl rfl (Nat.le_of_ble_eq_true rfl) (fun w hw x e => by subst e; simp at hw) (L := [some (zr o)]) rfl ?_
  have z0 : mz M = o + 0 := ho.symm
  have G0 : Gx M M o 0 0 := Gx.refl
  have Z0 : Nz M M := Nz.refl
  refine Xv.up (pc' := 1) (fun _ _ k => x_aload_n dX8_init_0 rfl rfl k) ?_
  refine Xv.up (pc' := 4) (fun _ _ k => x_objInit lo8_3 h1 dX8_init_1 (zs8 rfl) k) ?_
  refine Xv.up (pc' := 5) (fun _ _ k => x_aload_n dX8_init_4 rfl rfl k) ?_
  refine Xv.up (pc' := 7) (fun _ _ k => x_bipush dX8_init_5 (show inR 8 from ⟨by decide, by decide⟩) (by decide) k) ?_
  refine Xv.up (pc' := 9) (fun _ _ k => x_newarray (n := 8) dX8_init_7 (by decide) k) ?_
  refine Xv.up (pc' := 12) (fun _ _ k => x_putF lf8_9 (fun C T N h => by have h : some (RX8, TX8, 8) = some (C, T, N) := h; cases h; exact ⟨z_in 224 (by decide +kernel) rfl, rfl⟩) rfl rfl rfl (q_2 z0 h1) dX8_init_9 (by rw [mS_new, if_neg (q_ne z0)]; exact s0_0) k) ?_
  obtain ⟨b1, s1, n1⟩ := blk_arr (M := M) (o := o) (k := 0) (t := 1) (m := 8) (q_le z0)
  generalize sR (zNew M (1, 8) 8) o 0 (mz M + 1) = M1 at *
  have z1 : mz M1 = o + 1 := b1.1.1.trans (congrArg (· + 1) z0)
  have s0_1 : (mS M1 o).1 = 18 := by rw [b1.1.2.2.1 o (q_le z0)]; exact s0_0
  have r1 : mR M1 o 0 = o + 1 := b1.2.1.trans (congrArg (· + 1) z0)
  rw [show mz M + 1 = o + 1 from congrArg (· + 1) z0] at s1
  have G1 := G0.trans b1.1 (Or.inl rfl)
  have Z1 := Z0.trans b1.1 n1
  refine Xv.up (pc' := 13) (fun _ _ k => x_aload_n dX8_init_12 rfl rfl k) ?_
  refine Xv.up (pc' := 15) (fun _ _ k => x_bipush dX8_init_13 (show inR 7 from ⟨by decide, by decide⟩) (by decide) k) ?_
  refine Xv.up (pc' := 17) (fun _ _ k => x_newarray (n := 7) dX8_init_15 (by decide) k) ?_
  refine Xv.up (pc' := 20) (fun _ _ k => x_putF lf8_15 (fun C T N h => by have h : some (RX8, TX8, 8) = some (C, T, N) := h; cases h; exact ⟨z_in 226 (by decide +kernel) rfl, rfl⟩) rfl rfl rfl (q_2 z1 h1) dX8_init_17 (by rw [mS_new, if_neg (q_ne z1)]; exact s0_1) k) ?_
  obtain ⟨b2, s2, n2⟩ := blk_arr (M := M1) (o := o) (k := 1) (t := 1) (m := 7) (q_le z1)
  generalize sR (zNew M1 (1, 7) 7) o 1 (mz M1 + 1) = M2 at *
  have z2 : mz M2 = o + 2 := b2.1.1.trans (congrArg (· + 1) z1)
  have s0_2 : (mS M2 o).1 = 18 := by rw [b2.1.2.2.1 o (q_le z1)]; exact s0_1
  have r2 : mR M2 o 1 = o + 2 := b2.2.1.trans (congrArg (· + 1) z1)
  rw [show mz M1 + 1 = o + 2 from congrArg (· + 1) z1] at s2
  have G2 := G1.trans b2.1 (Or.inl rfl)
  have Z2 := Z1.trans b2.1 n2
  refine Xv.up (pc' := 21) (fun _ _ k => x_aload_n dX8_init_20 rfl rfl k) ?_
  refine Xv.up (pc' := 23) (fun _ _ k => x_bipush dX8_init_21 (show inR 7 from ⟨by decide, by decide⟩) (by decide) k) ?_
  refine Xv.up (pc' := 25) (fun _ _ k => x_newarray (n := 7) dX8_init_23 (by decide) k) ?_
  refine Xv.up (pc' := 28) (fun _ _ k => x_putF lf8_18 (fun C T N h => by have h : some (RX8, TX8, 8) = some (C, T, N) := h; cases h; exact ⟨z_in 227 (by decide +kernel) rfl, rfl⟩) rfl rfl rfl (q_2 z2 h1) dX8_init_25 (by rw [mS_new, if_neg (q_ne z2)]; exact s0_2) k) ?_
  obtain ⟨b3, s3, n3⟩ := blk_arr (M := M2) (o := o) (k := 2) (t := 1) (m := 7) (q_le z2)
  generalize sR (zNew M2 (1, 7) 7) o 2 (mz M2 + 1) = M3 at *
  have z3 : mz M3 = o + 3 := b3.1.1.trans (congrArg (· + 1) z2)
  have s0_3 : (mS M3 o).1 = 18 := by rw [b3.1.2.2.1 o (q_le z2)]; exact s0_2
  have r3 : mR M3 o 2 = o + 3 := b3.2.1.trans (congrArg (· + 1) z2)
  rw [show mz M2 + 1 = o + 3 from congrArg (· + 1) z2] at s3
  have G3 := G2.trans b3.1 (Or.inl rfl)
  have Z3 := Z2.trans b3.1 n3
  exact Xv.ret ⟨dX8_init_28, rfl⟩ ⟨G3, Z3, s0_3, ((b3.2.2 0 (by decide)).trans ((b2.2.2 0 (by decide)).trans r1)), ((b3.2.2 1 (by decide)).trans r2), r3, ((b3.1.2.2.1 (o + 1) (q_le2 z2 (by decide))).trans ((b2.1.2.2.1 (o + 1) (q_le2 z1 (by decide))).trans s1)), ((b3.1.2.2.1 (o + 2) (q_le2 z2 (by decide))).trans s2), s3⟩
set_option maxHeartbeats 4000000 in
theorem i2_init {d : Nat} {M : ZMem} {o : Nat} (ho : o = mz M) (s0_0 : (mS M o).1 = 12) (h1 : 2 ≤ o) : Cv (d + 1) q2_init [zr o] M (fun M' => Gx M M' o 5 36 ∧ Nz M M' ∧ PointAt M' (o)) := by
  refine Cv.of rfl rfl (Nat.le_of_ble_eq_true rfl) (fun w hw x e => by subst e; simp at hw) (L := [some (zr o)]) rfl ?_
  have z0 : mz M = o + 0 := ho.symm
  have G0 : Gx M M o 0 0 := Gx.refl
  have Z0 : Nz M M := Nz.refl
  refine Xv.up (pc' := 1) (fun _ _ k => x_aload_n dX2_init_0 rfl rfl k) ?_
  refine Xv.up (pc' := 4) (fun _ _ k => x_objInit lo2_3 h1 dX2_init_1 (zs8 rfl) k) ?_
  refine Xv.up (pc' := 5) (fun _ _ k => x_aload_n dX2_init_4 rfl rfl k) ?_
  refine Xv.up (pc' := 8) (fun _ _ k => x_new cf8 lc2_9 ni8 nz8 dX2_init_5 k) ?_
  refine Xv.up (pc' := 9) (fun _ _ k => x_dupR dX2_init_8 k) ?_
  obtain ⟨N1, c1, g1, m1, l1⟩ := i8_init (d := d) (M := zNew M (18, 0) 8) (o := mz M + 1) (mz_new _ _ _).symm (by rw [mS_new, if_pos rfl]) (q_2 z0 h1)
  refine Xv.up (pc' := 12) (fun _ _ k => x_callI (as := []) k8_init (z_in 220 (by decide +kernel) rfl) (q_2 z0 h1) dX2_init_9 rfl (by decide) (zs8 rfl) c1 k) ?_
  refine Xv.up (pc' := 15) (fun _ _ k => x_putF lf2_12 (fun C T N h => by have h : some (RX2, TX2, 6) = some (C, T, N) := h; cases h; exact ⟨z_in 260 (by decide +kernel) rfl, rfl⟩) rfl rfl rfl (q_2 z0 h1) dX2_init_12 (by rw [g1.2.2.1 o (by rw [mz_new]; exact Nat.le_succ_of_le (q_le z0)), mS_new, if_neg (q_ne z0)]; exact s0_0) k) ?_
  obtain ⟨b1, n1⟩ := blk_obj (M := M) (o := o) (k := 0) (q_le z0) g1 m1
  have l1 := l1.keep (sm_put (o := o) (k := 0) (x := mz M + 1) (Or.inl (q_lt z0)))
  generalize sR N1 o 0 (mz M + 1) = M1 at *
  clear c1 g1 m1
  have z1 : mz M1 = o + 4 := b1.1.1.trans (congrArg (· + 4) z0)
  have s0_1 : (mS M1 o).1 = 12 := by rw [b1.1.2.2.1 o (q_le z0)]; exact s0_0
  have r1 : mR M1 o 0 = o + 1 := b1.2.1.trans (congrArg (· + 1) z0)
  rw [show mz M + 1 = o + 1 from congrArg (· + 1) z0] at l1
  have G1 := G0.trans b1.1 (Or.inl rfl)
  have Z1 := Z0.trans b1.1 n1
  refine Xv.up (pc' := 16) (fun _ _ k => x_aload_n dX2_init_15 rfl rfl k) ?_
  refine Xv.up (pc' := 18) (fun _ _ k => x_bipush dX2_init_16 (show inR 6 from ⟨by decide, by decide⟩) (by decide) k) ?_
  refine Xv.up (pc' := 20) (fun _ _ k => x_newarray (n := 6) dX2_init_18 (by decide) k) ?_
  refine Xv.up (pc' := 23) (fun _ _ k => x_putF lf2_18 (fun C T N h => by have h : some (RX2, TX2, 6) = some (C, T, N) := h; cases h; exact ⟨z_in 263 (by decide +kernel) rfl, rfl⟩) rfl rfl rfl (q_2 z1 h1) dX2_init_20 (by rw [mS_new, if_neg (q_ne z1)]; exact s0_1) k) ?_
  obtain ⟨b2, s2, n2⟩ := blk_arr (M := M1) (o := o) (k := 1) (t := 1) (m := 6) (q_le z1)
  generalize sR (zNew M1 (1, 6) 6) o 1 (mz M1 + 1) = M2 at *
  have z2 : mz M2 = o + 5 := b2.1.1.trans (congrArg (· + 1) z1)
  have s0_2 : (mS M2 o).1 = 12 := by rw [b2.1.2.2.1 o (q_le z1)]; exact s0_1
  have r2 : mR M2 o 1 = o + 5 := b2.2.1.trans (congrArg (· + 1) z1)
  rw [show mz M1 + 1 = o + 5 from congrArg (· + 1) z1] at s2
  have G2 := G1.trans b2.1 (Or.inl rfl)
  have Z2 := Z1.trans b2.1 n2
  exact Xv.ret ⟨dX2_init_23, rfl⟩ ⟨G2, Z2, s0_2, ((b2.2.2 0 (by decide)).trans r1), r2, s2, (l1.keep (b2.1.sm (q_hi z1 (by decide)) (Or.inl (Nat.lt_add_of_pos_right (by decide)))))⟩
set_option maxHeartbeats 4000000 in
theorem i1_init {d : Nat} {M : ZMem} {o : Nat} (ho : o = mz M) (s0_0 : (mS M o).1 = 11) (h1 : 2 ≤ o) : Cv d q1_init [zr o] M (fun M' => Gx M M' o 3 450 ∧ Nz M M' ∧ FormulasAt M' (o)) := by
  refine Cv.of rfl rfl (Nat.le_of_ble_eq_true rfl) (fun w hw x e => by subst e; simp at hw) (L := [some (zr o)]) rfl ?_
  have z0 : mz M = o + 0 := ho.symm
  have G0 : Gx M M o 0 0 := Gx.refl
  have Z0 : Nz M M := Nz.refl
  refine Xv.up (pc' := 1) (fun _ _ k => x_aload_n dX1_init_0 rfl rfl k) ?_
  refine Xv.up (pc' := 4) (fun _ _ k => x_objInit lo1_3 h1 dX1_init_1 (zs8 rfl) k) ?_
  refine Xv.up (pc' := 5) (fun _ _ k => x_aload_n dX1_init_4 rfl rfl k) ?_
  refine Xv.up (pc' := 8) (fun _ _ k => x_sipush dX1_init_5 (show inR 150 from ⟨by decide, by decide⟩) (by decide) k) ?_
  refine Xv.up (pc' := 10) (fun _ _ k => x_newarray (n := 150) dX1_init_8 (by decide) k) ?_
  refine Xv.up (pc' := 13) (fun _ _ k => x_putF lf1_9 (fun C T N h => by have h : some (RX1, TX1, 5) = some (C, T, N) := h; cases h; exact ⟨z_in 95 (by decide +kernel) rfl, rfl⟩) rfl rfl rfl (q_2 z0 h1) dX1_init_10 (by rw [mS_new, if_neg (q_ne z0)]; exact s0_0) k) ?_
  obtain ⟨b1, s1, n1⟩ := blk_arr (M := M) (o := o) (k := 0) (t := 1) (m := 150) (q_le z0)
  generalize sR (zNew M (1, 150) 150) o 0 (mz M + 1) = M1 at *
  have z1 : mz M1 = o + 1 := b1.1.1.trans (congrArg (· + 1) z0)
  have s0_1 : (mS M1 o).1 = 11 := by rw [b1.1.2.2.1 o (q_le z0)]; exact s0_0
  have r1 : mR M1 o 0 = o + 1 := b1.2.1.trans (congrArg (· + 1) z0)
  rw [show mz M + 1 = o + 1 from congrArg (· + 1) z0] at s1
  have G1 := G0.trans b1.1 (Or.inl rfl)
  have Z1 := Z0.trans b1.1 n1
  refine Xv.up (pc' := 14) (fun _ _ k => x_aload_n dX1_init_13 rfl rfl k) ?_
  refine Xv.up (pc' := 17) (fun _ _ k => x_sipush dX1_init_14 (show inR 150 from ⟨by decide, by decide⟩) (by decide) k) ?_
  refine Xv.up (pc' := 19) (fun _ _ k => x_newarray (n := 150) dX1_init_17 (by decide) k) ?_
  refine Xv.up (pc' := 22) (fun _ _ k => x_putF lf1_15 (fun C T N h => by have h : some (RX1, TX1, 5) = some (C, T, N) := h; cases h; exact ⟨z_in 96 (by decide +kernel) rfl, rfl⟩) rfl rfl rfl (q_2 z1 h1) dX1_init_19 (by rw [mS_new, if_neg (q_ne z1)]; exact s0_1) k) ?_
  obtain ⟨b2, s2, n2⟩ := blk_arr (M := M1) (o := o) (k := 1) (t := 1) (m := 150) (q_le z1)
  generalize sR (zNew M1 (1, 150) 150) o 1 (mz M1 + 1) = M2 at *
  have z2 : mz M2 = o + 2 := b2.1.1.trans (congrArg (· + 1) z1)
  have s0_2 : (mS M2 o).1 = 11 := by rw [b2.1.2.2.1 o (q_le z1)]; exact s0_1
  have r2 : mR M2 o 1 = o + 2 := b2.2.1.trans (congrArg (· + 1) z1)
  rw [show mz M1 + 1 = o + 2 from congrArg (· + 1) z1] at s2
  have G2 := G1.trans b2.1 (Or.inl rfl)
  have Z2 := Z1.trans b2.1 n2
  refine Xv.up (pc' := 23) (fun _ _ k => x_aload_n dX1_init_22 rfl rfl k) ?_
  refine Xv.up (pc' := 26) (fun _ _ k => x_sipush dX1_init_23 (show inR 150 from ⟨by decide, by decide⟩) (by decide) k) ?_
  refine Xv.up (pc' := 28) (fun _ _ k => x_newarray (n := 150) dX1_init_26 (by decide) k) ?_
  refine Xv.up (pc' := 31) (fun _ _ k => x_putF lf1_18 (fun C T N h => by have h : some (RX1, TX1, 5) = some (C, T, N) := h; cases h; exact ⟨z_in 97 (by decide +kernel) rfl, rfl⟩) rfl rfl rfl (q_2 z2 h1) dX1_init_28 (by rw [mS_new, if_neg (q_ne z2)]; exact s0_2) k) ?_
  obtain ⟨b3, s3, n3⟩ := blk_arr (M := M2) (o := o) (k := 2) (t := 1) (m := 150) (q_le z2)
  generalize sR (zNew M2 (1, 150) 150) o 2 (mz M2 + 1) = M3 at *
  have z3 : mz M3 = o + 3 := b3.1.1.trans (congrArg (· + 1) z2)
  have s0_3 : (mS M3 o).1 = 11 := by rw [b3.1.2.2.1 o (q_le z2)]; exact s0_2
  have r3 : mR M3 o 2 = o + 3 := b3.2.1.trans (congrArg (· + 1) z2)
  rw [show mz M2 + 1 = o + 3 from congrArg (· + 1) z2] at s3
  have G3 := G2.trans b3.1 (Or.inl rfl)
  have Z3 := Z2.trans b3.1 n3
  exact Xv.ret ⟨dX1_init_31, rfl⟩ ⟨G3, Z3, s0_3, ((b3.2.2 0 (by decide)).trans ((b2.2.2 0 (by decide)).trans r1)), ((b3.2.2 1 (by decide)).trans r2), r3, ((b3.1.2.2.1 (o + 1) (q_le2 z2 (by decide))).trans ((b2.1.2.2.1 (o + 1) (q_le2 z1 (by decide))).trans s1)), ((b3.1.2.2.1 (o + 2) (q_le2 z2 (by decide))).trans s2), s3⟩
set_option maxHeartbeats 4000000 in
theorem i4_init {d : Nat} {M : ZMem} {o : Nat} (ho : o = mz M) (s0_0 : (mS M o).1 = 14) (h1 : 2 ≤ o) : Cv (d + 1) q4_init [zr o] M (fun M' => Gx M M' o 16 1430 ∧ Nz M M' ∧ ProgramAt M' (o)) := by
  refine Cv.of rfl rfl (Nat.le_of_ble_eq_true rfl) (fun w hw x e => by subst e; simp at hw) (L := [some (zr o)]) rfl ?_
  have z0 : mz M = o + 0 := ho.symm
  have G0 : Gx M M o 0 0 := Gx.refl
  have Z0 : Nz M M := Nz.refl
  refine Xv.up (pc' := 1) (fun _ _ k => x_aload_n dX4_init_0 rfl rfl k) ?_
  refine Xv.up (pc' := 4) (fun _ _ k => x_objInit lo4_3 h1 dX4_init_1 (zs8 rfl) k) ?_
  refine Xv.up (pc' := 5) (fun _ _ k => x_aload_n dX4_init_4 rfl rfl k) ?_
  refine Xv.up (pc' := 7) (fun _ _ k => x_bipush dX4_init_5 (show inR 40 from ⟨by decide, by decide⟩) (by decide) k) ?_
  refine Xv.up (pc' := 9) (fun _ _ k => x_newarray (n := 40) dX4_init_7 (by decide) k) ?_
  refine Xv.up (pc' := 12) (fun _ _ k => x_putF lf4_9 (fun C T N h => by have h : some (RX4, TX4, 11) = some (C, T, N) := h; cases h; exact ⟨z_in 112 (by decide +kernel) rfl, rfl⟩) rfl rfl rfl (q_2 z0 h1) dX4_init_9 (by rw [mS_new, if_neg (q_ne z0)]; exact s0_0) k) ?_
  obtain ⟨b1, s1, n1⟩ := blk_arr (M := M) (o := o) (k := 0) (t := 1) (m := 40) (q_le z0)
  generalize sR (zNew M (1, 40) 40) o 0 (mz M + 1) = M1 at *
  have z1 : mz M1 = o + 1 := b1.1.1.trans (congrArg (· + 1) z0)
  have s0_1 : (mS M1 o).1 = 14 := by rw [b1.1.2.2.1 o (q_le z0)]; exact s0_0
  have r1 : mR M1 o 0 = o + 1 := b1.2.1.trans (congrArg (· + 1) z0)
  rw [show mz M + 1 = o + 1 from congrArg (· + 1) z0] at s1
  have G1 := G0.trans b1.1 (Or.inl rfl)
  have Z1 := Z0.trans b1.1 n1
  refine Xv.up (pc' := 13) (fun _ _ k => x_aload_n dX4_init_12 rfl rfl k) ?_
  refine Xv.up (pc' := 15) (fun _ _ k => x_bipush dX4_init_13 (show inR 40 from ⟨by decide, by decide⟩) (by decide) k) ?_
  refine Xv.up (pc' := 17) (fun _ _ k => x_newarray (n := 40) dX4_init_15 (by decide) k) ?_
  refine Xv.up (pc' := 20) (fun _ _ k => x_putF lf4_15 (fun C T N h => by have h : some (RX4, TX4, 11) = some (C, T, N) := h; cases h; exact ⟨z_in 113 (by decide +kernel) rfl, rfl⟩) rfl rfl rfl (q_2 z1 h1) dX4_init_17 (by rw [mS_new, if_neg (q_ne z1)]; exact s0_1) k) ?_
  obtain ⟨b2, s2, n2⟩ := blk_arr (M := M1) (o := o) (k := 1) (t := 1) (m := 40) (q_le z1)
  generalize sR (zNew M1 (1, 40) 40) o 1 (mz M1 + 1) = M2 at *
  have z2 : mz M2 = o + 2 := b2.1.1.trans (congrArg (· + 1) z1)
  have s0_2 : (mS M2 o).1 = 14 := by rw [b2.1.2.2.1 o (q_le z1)]; exact s0_1
  have r2 : mR M2 o 1 = o + 2 := b2.2.1.trans (congrArg (· + 1) z1)
  rw [show mz M1 + 1 = o + 2 from congrArg (· + 1) z1] at s2
  have G2 := G1.trans b2.1 (Or.inl rfl)
  have Z2 := Z1.trans b2.1 n2
  refine Xv.up (pc' := 21) (fun _ _ k => x_aload_n dX4_init_20 rfl rfl k) ?_
  refine Xv.up (pc' := 23) (fun _ _ k => x_bipush dX4_init_21 (show inR 40 from ⟨by decide, by decide⟩) (by decide) k) ?_
  refine Xv.up (pc' := 25) (fun _ _ k => x_newarray (n := 40) dX4_init_23 (by decide) k) ?_
  refine Xv.up (pc' := 28) (fun _ _ k => x_putF lf4_18 (fun C T N h => by have h : some (RX4, TX4, 11) = some (C, T, N) := h; cases h; exact ⟨z_in 114 (by decide +kernel) rfl, rfl⟩) rfl rfl rfl (q_2 z2 h1) dX4_init_25 (by rw [mS_new, if_neg (q_ne z2)]; exact s0_2) k) ?_
  obtain ⟨b3, s3, n3⟩ := blk_arr (M := M2) (o := o) (k := 2) (t := 1) (m := 40) (q_le z2)
  generalize sR (zNew M2 (1, 40) 40) o 2 (mz M2 + 1) = M3 at *
  have z3 : mz M3 = o + 3 := b3.1.1.trans (congrArg (· + 1) z2)
  have s0_3 : (mS M3 o).1 = 14 := by rw [b3.1.2.2.1 o (q_le z2)]; exact s0_2
  have r3 : mR M3 o 2 = o + 3 := b3.2.1.trans (congrArg (· + 1) z2)
  rw [show mz M2 + 1 = o + 3 from congrArg (· + 1) z2] at s3
  have G3 := G2.trans b3.1 (Or.inl rfl)
  have Z3 := Z2.trans b3.1 n3
  refine Xv.up (pc' := 29) (fun _ _ k => x_aload_n dX4_init_28 rfl rfl k) ?_
  refine Xv.up (pc' := 31) (fun _ _ k => x_bipush dX4_init_29 (show inR 40 from ⟨by decide, by decide⟩) (by decide) k) ?_
  refine Xv.up (pc' := 33) (fun _ _ k => x_newarray (n := 40) dX4_init_31 (by decide) k) ?_
  refine Xv.up (pc' := 36) (fun _ _ k => x_putF lf4_21 (fun C T N h => by have h : some (RX4, TX4, 11) = some (C, T, N) := h; cases h; exact ⟨z_in 115 (by decide +kernel) rfl, rfl⟩) rfl rfl rfl (q_2 z3 h1) dX4_init_33 (by rw [mS_new, if_neg (q_ne z3)]; exact s0_3) k) ?_
  obtain ⟨b4, s4, n4⟩ := blk_arr (M := M3) (o := o) (k := 3) (t := 1) (m := 40) (q_le z3)
  generalize sR (zNew M3 (1, 40) 40) o 3 (mz M3 + 1) = M4 at *
  have z4 : mz M4 = o + 4 := b4.1.1.trans (congrArg (· + 1) z3)
  have s0_4 : (mS M4 o).1 = 14 := by rw [b4.1.2.2.1 o (q_le z3)]; exact s0_3
  have r4 : mR M4 o 3 = o + 4 := b4.2.1.trans (congrArg (· + 1) z3)
  rw [show mz M3 + 1 = o + 4 from congrArg (· + 1) z3] at s4
  have G4 := G3.trans b4.1 (Or.inl rfl)
  have Z4 := Z3.trans b4.1 n4
  refine Xv.up (pc' := 37) (fun _ _ k => x_aload_n dX4_init_36 rfl rfl k) ?_
  refine Xv.up (pc' := 39) (fun _ _ k => x_bipush dX4_init_37 (show inR 40 from ⟨by decide, by decide⟩) (by decide) k) ?_
  refine Xv.up (pc' := 41) (fun _ _ k => x_newarray (n := 40) dX4_init_39 (by decide) k) ?_
  refine Xv.up (pc' := 44) (fun _ _ k => x_putF lf4_24 (fun C T N h => by have h : some (RX4, TX4, 11) = some (C, T, N) := h; cases h; exact ⟨z_in 116 (by decide +kernel) rfl, rfl⟩) rfl rfl rfl (q_2 z4 h1) dX4_init_41 (by rw [mS_new, if_neg (q_ne z4)]; exact s0_4) k) ?_
  obtain ⟨b5, s5, n5⟩ := blk_arr (M := M4) (o := o) (k := 4) (t := 1) (m := 40) (q_le z4)
  generalize sR (zNew M4 (1, 40) 40) o 4 (mz M4 + 1) = M5 at *
  have z5 : mz M5 = o + 5 := b5.1.1.trans (congrArg (· + 1) z4)
  have s0_5 : (mS M5 o).1 = 14 := by rw [b5.1.2.2.1 o (q_le z4)]; exact s0_4
  have r5 : mR M5 o 4 = o + 5 := b5.2.1.trans (congrArg (· + 1) z4)
  rw [show mz M4 + 1 = o + 5 from congrArg (· + 1) z4] at s5
  have G5 := G4.trans b5.1 (Or.inl rfl)
  have Z5 := Z4.trans b5.1 n5
  refine Xv.up (pc' := 45) (fun _ _ k => x_aload_n dX4_init_44 rfl rfl k) ?_
  refine Xv.up (pc' := 47) (fun _ _ k => x_bipush dX4_init_45 (show inR 40 from ⟨by decide, by decide⟩) (by decide) k) ?_
  refine Xv.up (pc' := 49) (fun _ _ k => x_newarray (n := 40) dX4_init_47 (by decide) k) ?_
  refine Xv.up (pc' := 52) (fun _ _ k => x_putF lf4_27 (fun C T N h => by have h : some (RX4, TX4, 11) = some (C, T, N) := h; cases h; exact ⟨z_in 117 (by decide +kernel) rfl, rfl⟩) rfl rfl rfl (q_2 z5 h1) dX4_init_49 (by rw [mS_new, if_neg (q_ne z5)]; exact s0_5) k) ?_
  obtain ⟨b6, s6, n6⟩ := blk_arr (M := M5) (o := o) (k := 5) (t := 1) (m := 40) (q_le z5)
  generalize sR (zNew M5 (1, 40) 40) o 5 (mz M5 + 1) = M6 at *
  have z6 : mz M6 = o + 6 := b6.1.1.trans (congrArg (· + 1) z5)
  have s0_6 : (mS M6 o).1 = 14 := by rw [b6.1.2.2.1 o (q_le z5)]; exact s0_5
  have r6 : mR M6 o 5 = o + 6 := b6.2.1.trans (congrArg (· + 1) z5)
  rw [show mz M5 + 1 = o + 6 from congrArg (· + 1) z5] at s6
  have G6 := G5.trans b6.1 (Or.inl rfl)
  have Z6 := Z5.trans b6.1 n6
  refine Xv.up (pc' := 53) (fun _ _ k => x_aload_n dX4_init_52 rfl rfl k) ?_
  refine Xv.up (pc' := 55) (fun _ _ k => x_bipush dX4_init_53 (show inR 40 from ⟨by decide, by decide⟩) (by decide) k) ?_
  refine Xv.up (pc' := 57) (fun _ _ k => x_newarray (n := 40) dX4_init_55 (by decide) k) ?_
  refine Xv.up (pc' := 60) (fun _ _ k => x_putF lf4_30 (fun C T N h => by have h : some (RX4, TX4, 11) = some (C, T, N) := h; cases h; exact ⟨z_in 118 (by decide +kernel) rfl, rfl⟩) rfl rfl rfl (q_2 z6 h1) dX4_init_57 (by rw [mS_new, if_neg (q_ne z6)]; exact s0_6) k) ?_
  obtain ⟨b7, s7, n7⟩ := blk_arr (M := M6) (o := o) (k := 6) (t := 1) (m := 40) (q_le z6)
  generalize sR (zNew M6 (1, 40) 40) o 6 (mz M6 + 1) = M7 at *
  have z7 : mz M7 = o + 7 := b7.1.1.trans (congrArg (· + 1) z6)
  have s0_7 : (mS M7 o).1 = 14 := by rw [b7.1.2.2.1 o (q_le z6)]; exact s0_6
  have r7 : mR M7 o 6 = o + 7 := b7.2.1.trans (congrArg (· + 1) z6)
  rw [show mz M6 + 1 = o + 7 from congrArg (· + 1) z6] at s7
  have G7 := G6.trans b7.1 (Or.inl rfl)
  have Z7 := Z6.trans b7.1 n7
  refine Xv.up (pc' := 61) (fun _ _ k => x_aload_n dX4_init_60 rfl rfl k) ?_
  refine Xv.up (pc' := 64) (fun _ _ k => x_sipush dX4_init_61 (show inR 240 from ⟨by decide, by decide⟩) (by decide) k) ?_
  refine Xv.up (pc' := 66) (fun _ _ k => x_newarray (n := 240) dX4_init_64 (by decide) k) ?_
  refine Xv.up (pc' := 69) (fun _ _ k => x_putF lf4_33 (fun C T N h => by have h : some (RX4, TX4, 11) = some (C, T, N) := h; cases h; exact ⟨z_in 119 (by decide +kernel) rfl, rfl⟩) rfl rfl rfl (q_2 z7 h1) dX4_init_66 (by rw [mS_new, if_neg (q_ne z7)]; exact s0_7) k) ?_
  obtain ⟨b8, s8, n8⟩ := blk_arr (M := M7) (o := o) (k := 7) (t := 1) (m := 240) (q_le z7)
  generalize sR (zNew M7 (1, 240) 240) o 7 (mz M7 + 1) = M8 at *
  have z8 : mz M8 = o + 8 := b8.1.1.trans (congrArg (· + 1) z7)
  have s0_8 : (mS M8 o).1 = 14 := by rw [b8.1.2.2.1 o (q_le z7)]; exact s0_7
  have r8 : mR M8 o 7 = o + 8 := b8.2.1.trans (congrArg (· + 1) z7)
  rw [show mz M7 + 1 = o + 8 from congrArg (· + 1) z7] at s8
  have G8 := G7.trans b8.1 (Or.inl rfl)
  have Z8 := Z7.trans b8.1 n8
  refine Xv.up (pc' := 70) (fun _ _ k => x_aload_n dX4_init_69 rfl rfl k) ?_
  refine Xv.up (pc' := 73) (fun _ _ k => x_new cf1 lc4_36 ni1 nz1 dX4_init_70 k) ?_
  refine Xv.up (pc' := 74) (fun _ _ k => x_dupR dX4_init_73 k) ?_
  obtain ⟨N9, c9, g9, m9, l9⟩ := i1_init (d := d) (M := zNew M8 (11, 0) 5) (o := mz M8 + 1) (mz_new _ _ _).symm (by rw [mS_new, if_pos rfl]) (q_2 z8 h1)
  refine Xv.up (pc' := 77) (fun _ _ k => x_callI (as := []) k1_init (z_in 91 (by decide +kernel) rfl) (q_2 z8 h1) dX4_init_74 rfl (by decide) (zs8 rfl) c9 k) ?_
  refine Xv.up (pc' := 80) (fun _ _ k => x_putF lf4_39 (fun C T N h => by have h : some (RX4, TX4, 11) = some (C, T, N) := h; cases h; exact ⟨z_in 120 (by decide +kernel) rfl, rfl⟩) rfl rfl rfl (q_2 z8 h1) dX4_init_77 (by rw [g9.2.2.1 o (by rw [mz_new]; exact Nat.le_succ_of_le (q_le z8)), mS_new, if_neg (q_ne z8)]; exact s0_8) k) ?_
  obtain ⟨b9, n9⟩ := blk_obj (M := M8) (o := o) (k := 8) (q_le z8) g9 m9
  have l9 := l9.keep (sm_put (o := o) (k := 8) (x := mz M8 + 1) (Or.inl (q_lt z8)))
  generalize sR N9 o 8 (mz M8 + 1) = M9 at *
  clear c9 g9 m9
  have z9 : mz M9 = o + 12 := b9.1.1.trans (congrArg (· + 4) z8)
  have s0_9 : (mS M9 o).1 = 14 := by rw [b9.1.2.2.1 o (q_le z8)]; exact s0_8
  have r9 : mR M9 o 8 = o + 9 := b9.2.1.trans (congrArg (· + 1) z8)
  rw [show mz M8 + 1 = o + 9 from congrArg (· + 1) z8] at l9
  have G9 := G8.trans b9.1 (Or.inl rfl)
  have Z9 := Z8.trans b9.1 n9
  refine Xv.up (pc' := 81) (fun _ _ k => x_aload_n dX4_init_80 rfl rfl k) ?_
  refine Xv.up (pc' := 84) (fun _ _ k => x_new cf1 lc4_36 ni1 nz1 dX4_init_81 k) ?_
  refine Xv.up (pc' := 85) (fun _ _ k => x_dupR dX4_init_84 k) ?_
  obtain ⟨N10, c10, g10, m10, l10⟩ := i1_init (d := d) (M := zNew M9 (11, 0) 5) (o := mz M9 + 1) (mz_new _ _ _).symm (by rw [mS_new, if_pos rfl]) (q_2 z9 h1)
  refine Xv.up (pc' := 88) (fun _ _ k => x_callI (as := []) k1_init (z_in 91 (by decide +kernel) rfl) (q_2 z9 h1) dX4_init_85 rfl (by decide) (zs8 rfl) c10 k) ?_
  refine Xv.up (pc' := 91) (fun _ _ k => x_putF lf4_43 (fun C T N h => by have h : some (RX4, TX4, 11) = some (C, T, N) := h; cases h; exact ⟨z_in 123 (by decide +kernel) rfl, rfl⟩) rfl rfl rfl (q_2 z9 h1) dX4_init_88 (by rw [g10.2.2.1 o (by rw [mz_new]; exact Nat.le_succ_of_le (q_le z9)), mS_new, if_neg (q_ne z9)]; exact s0_9) k) ?_
  obtain ⟨b10, n10⟩ := blk_obj (M := M9) (o := o) (k := 9) (q_le z9) g10 m10
  have l10 := l10.keep (sm_put (o := o) (k := 9) (x := mz M9 + 1) (Or.inl (q_lt z9)))
  generalize sR N10 o 9 (mz M9 + 1) = M10 at *
  clear c10 g10 m10
  have z10 : mz M10 = o + 16 := b10.1.1.trans (congrArg (· + 4) z9)
  have s0_10 : (mS M10 o).1 = 14 := by rw [b10.1.2.2.1 o (q_le z9)]; exact s0_9
  have r10 : mR M10 o 9 = o + 13 := b10.2.1.trans (congrArg (· + 1) z9)
  rw [show mz M9 + 1 = o + 13 from congrArg (· + 1) z9] at l10
  have G10 := G9.trans b10.1 (Or.inl rfl)
  have Z10 := Z9.trans b10.1 n10
  exact Xv.ret ⟨dX4_init_91, rfl⟩ ⟨G10, Z10, s0_10, ((b10.2.2 0 (by decide)).trans ((b9.2.2 0 (by decide)).trans ((b8.2.2 0 (by decide)).trans ((b7.2.2 0 (by decide)).trans ((b6.2.2 0 (by decide)).trans ((b5.2.2 0 (by decide)).trans ((b4.2.2 0 (by decide)).trans ((b3.2.2 0 (by decide)).trans ((b2.2.2 0 (by decide)).trans r1))))))))), ((b10.2.2 1 (by decide)).trans ((b9.2.2 1 (by decide)).trans ((b8.2.2 1 (by decide)).trans ((b7.2.2 1 (by decide)).trans ((b6.2.2 1 (by decide)).trans ((b5.2.2 1 (by decide)).trans ((b4.2.2 1 (by decide)).trans ((b3.2.2 1 (by decide)).trans r2)))))))), ((b10.2.2 2 (by decide)).trans ((b9.2.2 2 (by decide)).trans ((b8.2.2 2 (by decide)).trans ((b7.2.2 2 (by decide)).trans ((b6.2.2 2 (by decide)).trans ((b5.2.2 2 (by decide)).trans ((b4.2.2 2 (by decide)).trans r3))))))), ((b10.2.2 3 (by decide)).trans ((b9.2.2 3 (by decide)).trans ((b8.2.2 3 (by decide)).trans ((b7.2.2 3 (by decide)).trans ((b6.2.2 3 (by decide)).trans ((b5.2.2 3 (by decide)).trans r4)))))), ((b10.2.2 4 (by decide)).trans ((b9.2.2 4 (by decide)).trans ((b8.2.2 4 (by decide)).trans ((b7.2.2 4 (by decide)).trans ((b6.2.2 4 (by decide)).trans r5))))), ((b10.2.2 5 (by decide)).trans ((b9.2.2 5 (by decide)).trans ((b8.2.2 5 (by decide)).trans ((b7.2.2 5 (by decide)).trans r6)))), ((b10.2.2 6 (by decide)).trans ((b9.2.2 6 (by decide)).trans ((b8.2.2 6 (by decide)).trans r7))), ((b10.2.2 7 (by decide)).trans ((b9.2.2 7 (by decide)).trans r8)), ((b10.2.2 8 (by decide)).trans r9), r10, ((b10.1.2.2.1 (o + 1) (q_le2 z9 (by decide))).trans ((b9.1.2.2.1 (o + 1) (q_le2 z8 (by decide))).trans ((b8.1.2.2.1 (o + 1) (q_le2 z7 (by decide))).trans ((b7.1.2.2.1 (o + 1) (q_le2 z6 (by decide))).trans ((b6.1.2.2.1 (o + 1) (q_le2 z5 (by decide))).trans ((b5.1.2.2.1 (o + 1) (q_le2 z4 (by decide))).trans ((b4.1.2.2.1 (o + 1) (q_le2 z3 (by decide))).trans ((b3.1.2.2.1 (o + 1) (q_le2 z2 (by decide))).trans ((b2.1.2.2.1 (o + 1) (q_le2 z1 (by decide))).trans s1))))))))), ((b10.1.2.2.1 (o + 2) (q_le2 z9 (by decide))).trans ((b9.1.2.2.1 (o + 2) (q_le2 z8 (by decide))).trans ((b8.1.2.2.1 (o + 2) (q_le2 z7 (by decide))).trans ((b7.1.2.2.1 (o + 2) (q_le2 z6 (by decide))).trans ((b6.1.2.2.1 (o + 2) (q_le2 z5 (by decide))).trans ((b5.1.2.2.1 (o + 2) (q_le2 z4 (by decide))).trans ((b4.1.2.2.1 (o + 2) (q_le2 z3 (by decide))).trans ((b3.1.2.2.1 (o + 2) (q_le2 z2 (by decide))).trans s2)))))))), ((b10.1.2.2.1 (o + 3) (q_le2 z9 (by decide))).trans ((b9.1.2.2.1 (o + 3) (q_le2 z8 (by decide))).trans ((b8.1.2.2.1 (o + 3) (q_le2 z7 (by decide))).trans ((b7.1.2.2.1 (o + 3) (q_le2 z6 (by decide))).trans ((b6.1.2.2.1 (o + 3) (q_le2 z5 (by decide))).trans ((b5.1.2.2.1 (o + 3) (q_le2 z4 (by decide))).trans ((b4.1.2.2.1 (o + 3) (q_le2 z3 (by decide))).trans s3))))))), ((b10.1.2.2.1 (o + 4) (q_le2 z9 (by decide))).trans ((b9.1.2.2.1 (o + 4) (q_le2 z8 (by decide))).trans ((b8.1.2.2.1 (o + 4) (q_le2 z7 (by decide))).trans ((b7.1.2.2.1 (o + 4) (q_le2 z6 (by decide))).trans ((b6.1.2.2.1 (o + 4) (q_le2 z5 (by decide))).trans ((b5.1.2.2.1 (o + 4) (q_le2 z4 (by decide))).trans s4)))))), ((b10.1.2.2.1 (o + 5) (q_le2 z9 (by decide))).trans ((b9.1.2.2.1 (o + 5) (q_le2 z8 (by decide))).trans ((b8.1.2.2.1 (o + 5) (q_le2 z7 (by decide))).trans ((b7.1.2.2.1 (o + 5) (q_le2 z6 (by decide))).trans ((b6.1.2.2.1 (o + 5) (q_le2 z5 (by decide))).trans s5))))), ((b10.1.2.2.1 (o + 6) (q_le2 z9 (by decide))).trans ((b9.1.2.2.1 (o + 6) (q_le2 z8 (by decide))).trans ((b8.1.2.2.1 (o + 6) (q_le2 z7 (by decide))).trans ((b7.1.2.2.1 (o + 6) (q_le2 z6 (by decide))).trans s6)))), ((b10.1.2.2.1 (o + 7) (q_le2 z9 (by decide))).trans ((b9.1.2.2.1 (o + 7) (q_le2 z8 (by decide))).trans ((b8.1.2.2.1 (o + 7) (q_le2 z7 (by decide))).trans s7))), ((b10.1.2.2.1 (o + 8) (q_le2 z9 (by decide))).trans ((b9.1.2.2.1 (o + 8) (q_le2 z8 (by decide))).trans s8)), (l9.keep (b10.1.sm (q_hi z9 (by decide)) (Or.inl (Nat.lt_add_of_pos_right (by decide))))), l10⟩
set_option maxHeartbeats 4000000 in
theorem i0_init {d : Nat} {M : ZMem} {o : Nat} (ho : o = mz M) (s0_0 : (mS M o).1 = 10) (h1 : 2 ≤ o) : Cv d q0_init [zr o] M (fun M' => Gx M M' o 1 720 ∧ Nz M M' ∧ AnswersAt M' (o)) := by
  refine Cv.of rfl rfl (Nat.le_of_ble_eq_true rfl) (fun w hw x e => by subst e; simp at hw) (L := [some (zr o)]) rfl ?_
  have z0 : mz M = o + 0 := ho.symm
  have G0 : Gx M M o 0 0 := Gx.refl
  have Z0 : Nz M M := Nz.refl
  refine Xv.up (pc' := 1) (fun _ _ k => x_aload_n dX0_init_0 rfl rfl k) ?_
  refine Xv.up (pc' := 4) (fun _ _ k => x_objInit lo0_3 h1 dX0_init_1 (zs8 rfl) k) ?_
  refine Xv.up (pc' := 5) (fun _ _ k => x_aload_n dX0_init_4 rfl rfl k) ?_
  refine Xv.up (pc' := 8) (fun _ _ k => x_sipush dX0_init_5 (show inR 720 from ⟨by decide, by decide⟩) (by decide) k) ?_
  refine Xv.up (pc' := 10) (fun _ _ k => x_newarray (n := 720) dX0_init_8 (by decide) k) ?_
  refine Xv.up (pc' := 13) (fun _ _ k => x_putF lf0_9 (fun C T N h => by have h : some (RX0, TX0, 2) = some (C, T, N) := h; cases h; exact ⟨z_in 196 (by decide +kernel) rfl, rfl⟩) rfl rfl rfl (q_2 z0 h1) dX0_init_10 (by rw [mS_new, if_neg (q_ne z0)]; exact s0_0) k) ?_
  obtain ⟨b1, s1, n1⟩ := blk_arr (M := M) (o := o) (k := 0) (t := 1) (m := 720) (q_le z0)
  generalize sR (zNew M (1, 720) 720) o 0 (mz M + 1) = M1 at *
  have z1 : mz M1 = o + 1 := b1.1.1.trans (congrArg (· + 1) z0)
  have s0_1 : (mS M1 o).1 = 10 := by rw [b1.1.2.2.1 o (q_le z0)]; exact s0_0
  have r1 : mR M1 o 0 = o + 1 := b1.2.1.trans (congrArg (· + 1) z0)
  rw [show mz M + 1 = o + 1 from congrArg (· + 1) z0] at s1
  have G1 := G0.trans b1.1 (Or.inl rfl)
  have Z1 := Z0.trans b1.1 n1
  exact Xv.ret ⟨dX0_init_13, rfl⟩ ⟨G1, Z1, s0_1, r1, s1⟩
set_option maxHeartbeats 4000000 in
theorem i7_init {d : Nat} {M : ZMem} {o : Nat} (ho : o = mz M) (s0_0 : (mS M o).1 = 17) (h1 : 2 ≤ o) : Cv d q7_init [zr o] M (fun M' => Gx M M' o 1 150 ∧ Nz M M' ∧ TapeAt M' (o)) := by
  refine Cv.of rfl rfl (Nat.le_of_ble_eq_true rfl) (fun w hw x e => by subst e; simp at hw) (L := [some (zr o)]) rfl ?_
  have z0 : mz M = o + 0 := ho.symm
  have G0 : Gx M M o 0 0 := Gx.refl
  have Z0 : Nz M M := Nz.refl
  refine Xv.up (pc' := 1) (fun _ _ k => x_aload_n dX7_init_0 rfl rfl k) ?_
  refine Xv.up (pc' := 4) (fun _ _ k => x_objInit lo7_3 h1 dX7_init_1 (zs8 rfl) k) ?_
  refine Xv.up (pc' := 5) (fun _ _ k => x_aload_n dX7_init_4 rfl rfl k) ?_
  refine Xv.up (pc' := 8) (fun _ _ k => x_sipush dX7_init_5 (show inR 150 from ⟨by decide, by decide⟩) (by decide) k) ?_
  refine Xv.up (pc' := 10) (fun _ _ k => x_newarray (n := 150) dX7_init_8 (by decide) k) ?_
  refine Xv.up (pc' := 13) (fun _ _ k => x_putF lf7_9 (fun C T N h => by have h : some (RX7, TX7, 2) = some (C, T, N) := h; cases h; exact ⟨z_in 67 (by decide +kernel) rfl, rfl⟩) rfl rfl rfl (q_2 z0 h1) dX7_init_10 (by rw [mS_new, if_neg (q_ne z0)]; exact s0_0) k) ?_
  obtain ⟨b1, s1, n1⟩ := blk_arr (M := M) (o := o) (k := 0) (t := 1) (m := 150) (q_le z0)
  generalize sR (zNew M (1, 150) 150) o 0 (mz M + 1) = M1 at *
  have z1 : mz M1 = o + 1 := b1.1.1.trans (congrArg (· + 1) z0)
  have s0_1 : (mS M1 o).1 = 17 := by rw [b1.1.2.2.1 o (q_le z0)]; exact s0_0
  have r1 : mR M1 o 0 = o + 1 := b1.2.1.trans (congrArg (· + 1) z0)
  rw [show mz M + 1 = o + 1 from congrArg (· + 1) z0] at s1
  have G1 := G0.trans b1.1 (Or.inl rfl)
  have Z1 := Z0.trans b1.1 n1
  exact Xv.ret ⟨dX7_init_13, rfl⟩ ⟨G1, Z1, s0_1, r1, s1⟩
