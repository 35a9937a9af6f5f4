/-! the constructor of a search -/
def Wl6 (Mb M : ZMem) (o n : Nat) : Prop := Gx Mb M (o + 396) (4 * n) (30 * n) ∧ Nz Mb M ∧ (mS M o).1 = 16 ∧ mR M o 4 = o + 396 ∧ mS M (o + 396) = (5, 7) ∧ ∀ j, j < n → mR M (o + 396) j = o + 397 + 4 * j ∧ WayAt M (o + 397 + 4 * j)
set_option maxHeartbeats 4000000 in
theorem i6_loop {d : Nat} {Mb : ZMem} {o : Nat} {Q : ZMem → Prop} (hz : mz Mb = o + 396) (h1 : 2 ≤ o) (fin : ∀ M', Wl6 Mb M' o 7 → Xv (d + 3) q6_init 87 [some (zr o), some (zi 7)] [] M' Q) : ∀ (j n : Nat) (M : ZMem) (x : Int), n + j = 7 → x = n → Wl6 Mb M o n → Xv (d + 3) q6_init 59 [some (zr o), some (zi x)] [] M Q
  | 0, n, M, x, e, hx, h => by
    obtain rfl : n = 7 := by omega
    obtain rfl : x = 7 := by omega
    refine Xv.up (pc' := 60) (fun _ _ k => x_iload_n dX6_init_59 rfl rfl k) ?_
    refine Xv.up (pc' := 61) (fun _ _ k => x_aload_n dX6_init_60 rfl rfl k) ?_
    refine Xv.up (pc' := 64) (st' := [zr (o + 396), zi 7]) (fun _ _ k => x_getR lf6_37 rfl dX6_init_61 h.2.2.1 (by rw [h.2.2.2.1]; exact k)) ?_
    refine Xv.up (pc' := 65) (fun _ _ k => x_alen dX6_init_64 h.2.2.2.2.1 (by decide) (by decide) k) ?_
    exact Xv.br (tgt := 87) (pc' := 68) ((7 : Int) ≤ 7) (fun _ _ kt kf => x_icmp_ge dX6_init_65 rfl kt kf) (fun _ => fin M h) (fun c => absurd (by omega) c)
  | j + 1, n, M, x, e, hx, ⟨G, Z, s0, r0, s1, p⟩ => by
    have hm := G.1
    refine Xv.up (pc' := 60) (fun _ _ k => x_iload_n dX6_init_59 rfl rfl k) ?_
    refine Xv.up (pc' := 61) (fun _ _ k => x_aload_n dX6_init_60 rfl rfl k) ?_
    refine Xv.up (pc' := 64) (st' := [zr (o + 396), zi x]) (fun _ _ k => x_getR lf6_37 rfl dX6_init_61 s0 (by rw [r0]; exact k)) ?_
    refine Xv.up (pc' := 65) (fun _ _ k => x_alen dX6_init_64 s1 (by decide) (by decide) k) ?_
    refine Xv.br (tgt := 87) (pc' := 68) (7 ≤ x) (fun _ _ kt kf => x_icmp_ge dX6_init_65 rfl kt kf) (fun c => absurd c (by omega)) (fun _ => ?_)
    refine Xv.up (pc' := 69) (fun _ _ k => x_aload_n dX6_init_68 rfl rfl k) ?_
    refine Xv.up (pc' := 72) (st' := [zr (o + 396)]) (fun _ _ k => x_getR lf6_37 rfl dX6_init_69 s0 (by rw [r0]; exact k)) ?_
    refine Xv.up (pc' := 73) (fun _ _ k => x_iload_n dX6_init_72 rfl rfl k) ?_
    refine Xv.up (pc' := 76) (fun _ _ k => x_new cf8 lc6_35 ni8 nz8 dX6_init_73 k) ?_
    refine Xv.up (pc' := 77) (fun _ _ k => x_dupR dX6_init_76 k) ?_
    obtain ⟨N, c1, g1, m1, l1⟩ := i8_init (d := d + 2) (M := zNew M (18, 0) 8) (o := mz M + 1) (mz_new _ _ _).symm (by rw [mS_new, if_pos rfl]) (by omega)
    refine Xv.up (pc' := 80) (fun _ _ k => x_callI (as := []) k8_init (z_in 295 (by decide +kernel) rfl) (by omega) dX6_init_77 rfl (by decide) (zs8 rfl) c1 k) ?_
    have sN : mS N (o + 396) = (5, 7) := by rw [g1.2.2.1 (o + 396) (by rw [mz_new]; omega), mS_new, if_neg (by omega)]; exact s1
    refine Xv.up (pc' := 81) (fun _ _ k => x_aastore dX6_init_80 sN (by decide) l1.1 (by omega) (by omega) k) ?_
    rw [show x.toNat = n by omega]
    obtain ⟨b1, n1⟩ := blk_obj (M := M) (o := o + 396) (k := n) (by omega) g1 m1
    have l1 := l1.keep (sm_put (o := o + 396) (k := n) (x := mz M + 1) (by omega))
    generalize sR N (o + 396) n (mz M + 1) = M3 at *
    rw [show mz M + 1 = o + 397 + 4 * n by omega] at l1
    refine Xv.up (pc' := 84) (fun _ _ k => x_iinc dX6_init_81 rfl ⟨by omega, by omega⟩ (by decide) rfl k) ?_
    refine Xv.up (pc' := 59) (fun _ _ k => x_goto dX6_init_84 rfl k) ?_
    refine i6_loop hz h1 fin j (n + 1) M3 (x + 1) (by omega) (by omega) ⟨(G.trans b1.1 (Or.inl rfl)).is (by omega) (by omega), Z.trans b1.1 n1, ?_, ?_, ?_, fun i hi => ?_⟩
    · rw [b1.1.2.2.1 o (by omega)]; exact s0
    · rw [b1.1.2.2.2.1 o (by omega) (by omega)]; exact r0
    · rw [b1.1.2.2.1 (o + 396) (by omega)]; exact s1
    · by_cases q : i = n
      · subst q
        exact ⟨by rw [b1.2.1]; omega, l1⟩
      · obtain ⟨p1, p2⟩ := p i (by omega)
        exact ⟨by rw [b1.2.2 i q]; exact p1, p2.keep (b1.1.sm (by omega) (by omega))⟩
set_option maxHeartbeats 4000000 in
theorem i6_init {d : Nat} {M : ZMem} {o : Nat} (ho : o = mz M) (s0_0 : (mS M o).1 = 16) (h1 : 2 ≤ o) : Cv (d + 3) q6_init [zr o] M (fun M' => Gx M M' o 426 5066 ∧ Nz M M' ∧ SrF M' (o)) := by
  refine Cv.of rfl rfl (Nat.le_of_ble_eq_true rfl) (fun w hw x e => by subst e; simp at hw) (L := [some (zr o), none]) rfl ?_
  have z0 : mz M = o + 0 := ho.symm
  have G0 : Gx M M o 0 0 := Gx.refl
  have Z0 : Nz M M := Nz.refl
  refine Xv.up (pc' := 1) (fun _ _ k => x_aload_n dX6_init_0 rfl rfl k) ?_
  refine Xv.up (pc' := 4) (fun _ _ k => x_objInit lo6_3 h1 dX6_init_1 (zs8 rfl) k) ?_
  refine Xv.up (pc' := 5) (fun _ _ k => x_aload_n dX6_init_4 rfl rfl k) ?_
  refine Xv.up (pc' := 8) (fun _ _ k => x_new cf4 lc6_9 ni4 nz4 dX6_init_5 k) ?_
  refine Xv.up (pc' := 9) (fun _ _ k => x_dupR dX6_init_8 k) ?_
  obtain ⟨N1, c1, g1, m1, l1⟩ := i4_init (d := (d + 1)) (M := zNew M (14, 0) 11) (o := mz M + 1) (mz_new _ _ _).symm (by rw [mS_new, if_pos rfl]) (q_2 z0 h1)
  refine Xv.up (pc' := 12) (fun _ _ k => x_callI (as := []) k4_init (z_in 189 (by decide +kernel) rfl) (q_2 z0 h1) dX6_init_9 rfl (by decide) (zs8 rfl) c1 k) ?_
  refine Xv.up (pc' := 15) (fun _ _ k => x_putF lf6_12 (fun C T N h => by have h : some (RX6, TX6, 14) = some (C, T, N) := h; cases h; exact ⟨z_in 296 (by decide +kernel) rfl, rfl⟩) rfl rfl rfl (q_2 z0 h1) dX6_init_12 (by rw [g1.2.2.1 o (by rw [mz_new]; exact Nat.le_succ_of_le (q_le z0)), mS_new, if_neg (q_ne z0)]; exact s0_0) k) ?_
  obtain ⟨b1, n1⟩ := blk_obj (M := M) (o := o) (k := 0) (q_le z0) g1 m1
  have l1 := l1.keep (sm_put (o := o) (k := 0) (x := mz M + 1) (Or.inl (q_lt z0)))
  generalize sR N1 o 0 (mz M + 1) = M1 at *
  clear c1 g1 m1
  have z1 : mz M1 = o + 17 := b1.1.1.trans (congrArg (· + 17) z0)
  have s0_1 : (mS M1 o).1 = 16 := by rw [b1.1.2.2.1 o (q_le z0)]; exact s0_0
  have r1 : mR M1 o 0 = o + 1 := b1.2.1.trans (congrArg (· + 1) z0)
  rw [show mz M + 1 = o + 1 from congrArg (· + 1) z0] at l1
  have G1 := G0.trans b1.1 (Or.inl rfl)
  have Z1 := Z0.trans b1.1 n1
  refine Xv.up (pc' := 16) (fun _ _ k => x_aload_n dX6_init_15 rfl rfl k) ?_
  refine Xv.up (pc' := 19) (fun _ _ k => x_new cf0 lc6_18 ni0 nz0 dX6_init_16 k) ?_
  refine Xv.up (pc' := 20) (fun _ _ k => x_dupR dX6_init_19 k) ?_
  obtain ⟨N2, c2, g2, m2, l2⟩ := i0_init (d := (d + 2)) (M := zNew M1 (10, 0) 2) (o := mz M1 + 1) (mz_new _ _ _).symm (by rw [mS_new, if_pos rfl]) (q_2 z1 h1)
  refine Xv.up (pc' := 23) (fun _ _ k => x_callI (as := []) k0_init (z_in 192 (by decide +kernel) rfl) (q_2 z1 h1) dX6_init_20 rfl (by decide) (zs8 rfl) c2 k) ?_
  refine Xv.up (pc' := 26) (fun _ _ k => x_putF lf6_21 (fun C T N h => by have h : some (RX6, TX6, 14) = some (C, T, N) := h; cases h; exact ⟨z_in 297 (by decide +kernel) rfl, rfl⟩) rfl rfl rfl (q_2 z1 h1) dX6_init_23 (by rw [g2.2.2.1 o (by rw [mz_new]; exact Nat.le_succ_of_le (q_le z1)), mS_new, if_neg (q_ne z1)]; exact s0_1) k) ?_
  obtain ⟨b2, n2⟩ := blk_obj (M := M1) (o := o) (k := 1) (q_le z1) g2 m2
  have l2 := l2.keep (sm_put (o := o) (k := 1) (x := mz M1 + 1) (Or.inl (q_lt z1)))
  generalize sR N2 o 1 (mz M1 + 1) = M2 at *
  clear c2 g2 m2
  have z2 : mz M2 = o + 19 := b2.1.1.trans (congrArg (· + 2) z1)
  have s0_2 : (mS M2 o).1 = 16 := by rw [b2.1.2.2.1 o (q_le z1)]; exact s0_1
  have r2 : mR M2 o 1 = o + 18 := b2.2.1.trans (congrArg (· + 1) z1)
  rw [show mz M1 + 1 = o + 18 from congrArg (· + 1) z1] at l2
  have G2 := G1.trans b2.1 (Or.inl rfl)
  have Z2 := Z1.trans b2.1 n2
  refine Xv.up (pc' := 27) (fun _ _ k => x_aload_n dX6_init_26 rfl rfl k) ?_
  refine Xv.up (pc' := 30) (fun _ _ k => x_new cf3 lc6_25 ni3 nz3 dX6_init_27 k) ?_
  refine Xv.up (pc' := 31) (fun _ _ k => x_dupR dX6_init_30 k) ?_
  obtain ⟨N3, c3, g3, m3, l3⟩ := i3_init (d := d) (M := zNew M2 (13, 0) 2) (o := mz M2 + 1) (mz_new _ _ _).symm (by rw [mS_new, if_pos rfl]) (q_2 z2 h1)
  refine Xv.up (pc' := 34) (fun _ _ k => x_callI (as := []) k3_init (z_in 207 (by decide +kernel) rfl) (q_2 z2 h1) dX6_init_31 rfl (by decide) (zs8 rfl) c3 k) ?_
  refine Xv.up (pc' := 37) (fun _ _ k => x_putF lf6_28 (fun C T N h => by have h : some (RX6, TX6, 14) = some (C, T, N) := h; cases h; exact ⟨z_in 299 (by decide +kernel) rfl, rfl⟩) rfl rfl rfl (q_2 z2 h1) dX6_init_34 (by rw [g3.2.2.1 o (by rw [mz_new]; exact Nat.le_succ_of_le (q_le z2)), mS_new, if_neg (q_ne z2)]; exact s0_2) k) ?_
  obtain ⟨b3, n3⟩ := blk_obj (M := M2) (o := o) (k := 2) (q_le z2) g3 m3
  have l3 := l3.keep (sm_put (o := o) (k := 2) (x := mz M2 + 1) (Or.inl (q_lt z2)))
  generalize sR N3 o 2 (mz M2 + 1) = M3 at *
  clear c3 g3 m3
  have z3 : mz M3 = o + 207 := b3.1.1.trans (congrArg (· + 188) z2)
  have s0_3 : (mS M3 o).1 = 16 := by rw [b3.1.2.2.1 o (q_le z2)]; exact s0_2
  have r3 : mR M3 o 2 = o + 20 := b3.2.1.trans (congrArg (· + 1) z2)
  rw [show mz M2 + 1 = o + 20 from congrArg (· + 1) z2] at l3
  have G3 := G2.trans b3.1 (Or.inl rfl)
  have Z3 := Z2.trans b3.1 n3
  refine Xv.up (pc' := 38) (fun _ _ k => x_aload_n dX6_init_37 rfl rfl k) ?_
  refine Xv.up (pc' := 41) (fun _ _ k => x_new cf3 lc6_25 ni3 nz3 dX6_init_38 k) ?_
  refine Xv.up (pc' := 42) (fun _ _ k => x_dupR dX6_init_41 k) ?_
  obtain ⟨N4, c4, g4, m4, l4⟩ := i3_init (d := d) (M := zNew M3 (13, 0) 2) (o := mz M3 + 1) (mz_new _ _ _).symm (by rw [mS_new, if_pos rfl]) (q_2 z3 h1)
  refine Xv.up (pc' := 45) (fun _ _ k => x_callI (as := []) k3_init (z_in 207 (by decide +kernel) rfl) (q_2 z3 h1) dX6_init_42 rfl (by decide) (zs8 rfl) c4 k) ?_
  refine Xv.up (pc' := 48) (fun _ _ k => x_putF lf6_32 (fun C T N h => by have h : some (RX6, TX6, 14) = some (C, T, N) := h; cases h; exact ⟨z_in 300 (by decide +kernel) rfl, rfl⟩) rfl rfl rfl (q_2 z3 h1) dX6_init_45 (by rw [g4.2.2.1 o (by rw [mz_new]; exact Nat.le_succ_of_le (q_le z3)), mS_new, if_neg (q_ne z3)]; exact s0_3) k) ?_
  obtain ⟨b4, n4⟩ := blk_obj (M := M3) (o := o) (k := 3) (q_le z3) g4 m4
  have l4 := l4.keep (sm_put (o := o) (k := 3) (x := mz M3 + 1) (Or.inl (q_lt z3)))
  generalize sR N4 o 3 (mz M3 + 1) = M4 at *
  clear c4 g4 m4
  have z4 : mz M4 = o + 395 := b4.1.1.trans (congrArg (· + 188) z3)
  have s0_4 : (mS M4 o).1 = 16 := by rw [b4.1.2.2.1 o (q_le z3)]; exact s0_3
  have r4 : mR M4 o 3 = o + 208 := b4.2.1.trans (congrArg (· + 1) z3)
  rw [show mz M3 + 1 = o + 208 from congrArg (· + 1) z3] at l4
  have G4 := G3.trans b4.1 (Or.inl rfl)
  have Z4 := Z3.trans b4.1 n4
  refine Xv.up (pc' := 49) (fun _ _ k => x_aload_n dX6_init_48 rfl rfl k) ?_
  refine Xv.up (pc' := 51) (fun _ _ k => x_bipush dX6_init_49 (show inR 7 from ⟨by decide, by decide⟩) (by decide) k) ?_
  refine Xv.up (pc' := 54) (fun _ _ k => x_anewarray (n := 7) (t := 5) (by decide) (fun cA => rfl) lc6_35 zao8 dX6_init_51 (by decide) k) ?_
  refine Xv.up (pc' := 57) (fun _ _ k => x_putF lf6_37 (fun C T N h => by have h : some (RX6, TX6, 14) = some (C, T, N) := h; cases h; exact ⟨z_in 301 (by decide +kernel) rfl, rfl⟩) rfl rfl rfl (q_2 z4 h1) dX6_init_54 (by rw [mS_new, if_neg (q_ne z4)]; exact s0_4) k) ?_
  obtain ⟨b5, s5, n5⟩ := blk_arr (M := M4) (o := o) (k := 4) (t := 5) (m := 7) (q_le z4)
  generalize sR (zNew M4 (5, 7) 7) o 4 (mz M4 + 1) = M5 at *
  have z5 : mz M5 = o + 396 := b5.1.1.trans (congrArg (· + 1) z4)
  have s0_5 : (mS M5 o).1 = 16 := by rw [b5.1.2.2.1 o (q_le z4)]; exact s0_4
  have r5 : mR M5 o 4 = o + 396 := b5.2.1.trans (congrArg (· + 1) z4)
  rw [show mz M4 + 1 = o + 396 from congrArg (· + 1) z4] at s5
  have G5 := G4.trans b5.1 (Or.inl rfl)
  have Z5 := Z4.trans b5.1 n5
  refine Xv.up (pc' := 58) (fun _ _ k => x_iconst dX6_init_57 (show inR 0 from ⟨by decide, by decide⟩) k) ?_
  refine Xv.up (pc' := 59) (fun _ _ k => x_istore_n dX6_init_58 rfl (by decide) rfl k) ?_
  refine i6_loop z5 h1 (fun M6 ⟨b6, n6, s0_6, r4_6, s5_6, w6⟩ => ?_) 7 0 M5 0 rfl rfl ⟨Gx.refl, Nz.refl, s0_5, r5, s5, fun j hj => absurd hj (by omega)⟩
  have z6 : mz M6 = o + 424 := by have := b6.1; omega
  have G6 : Gx M M6 o 424 _ := G5.trans b6 (Or.inr (by omega))
  have Z6 := Z5.trans b6 n6
  refine Xv.up (pc' := 88) (fun _ _ k => x_aload_n dX6_init_87 rfl rfl k) ?_
  refine Xv.up (pc' := 90) (fun _ _ k => x_bipush dX6_init_88 (show inR 7 from ⟨by decide, by decide⟩) (by decide) k) ?_
  refine Xv.up (pc' := 92) (fun _ _ k => x_newarray (n := 7) dX6_init_90 (by decide) k) ?_
  refine Xv.up (pc' := 95) (fun _ _ k => x_putF lf6_42 (fun C T N h => by have h : some (RX6, TX6, 14) = some (C, T, N) := h; cases h; exact ⟨z_in 302 (by decide +kernel) rfl, rfl⟩) rfl rfl rfl (q_2 z6 h1) dX6_init_92 (by rw [mS_new, if_neg (q_ne z6)]; exact s0_6) k) ?_
  obtain ⟨b7, s7, n7⟩ := blk_arr (M := M6) (o := o) (k := 5) (t := 1) (m := 7) (q_le z6)
  generalize sR (zNew M6 (1, 7) 7) o 5 (mz M6 + 1) = M7 at *
  have z7 : mz M7 = o + 425 := b7.1.1.trans (congrArg (· + 1) z6)
  have s0_7 : (mS M7 o).1 = 16 := by rw [b7.1.2.2.1 o (q_le z6)]; exact s0_6
  have r7 : mR M7 o 5 = o + 425 := b7.2.1.trans (congrArg (· + 1) z6)
  rw [show mz M6 + 1 = o + 425 from congrArg (· + 1) z6] at s7
  have G7 := G6.trans b7.1 (Or.inl rfl)
  have Z7 := Z6.trans b7.1 n7
  refine Xv.up (pc' := 96) (fun _ _ k => x_aload_n dX6_init_95 rfl rfl k) ?_
  refine Xv.up (pc' := 98) (fun _ _ k => x_bipush dX6_init_96 (show inR 9 from ⟨by decide, by decide⟩) (by decide) k) ?_
  refine Xv.up (pc' := 100) (fun _ _ k => x_newarray (n := 9) dX6_init_98 (by decide) k) ?_
  refine Xv.up (pc' := 103) (fun _ _ k => x_putF lf6_46 (fun C T N h => by have h : some (RX6, TX6, 14) = some (C, T, N) := h; cases h; exact ⟨z_in 303 (by decide +kernel) rfl, rfl⟩) rfl rfl rfl (q_2 z7 h1) dX6_init_100 (by rw [mS_new, if_neg (q_ne z7)]; exact s0_7) k) ?_
  obtain ⟨b8, s8, n8⟩ := blk_arr (M := M7) (o := o) (k := 6) (t := 1) (m := 9) (q_le z7)
  generalize sR (zNew M7 (1, 9) 9) o 6 (mz M7 + 1) = M8 at *
  have z8 : mz M8 = o + 426 := b8.1.1.trans (congrArg (· + 1) z7)
  have s0_8 : (mS M8 o).1 = 16 := by rw [b8.1.2.2.1 o (q_le z7)]; exact s0_7
  have r8 : mR M8 o 6 = o + 426 := b8.2.1.trans (congrArg (· + 1) z7)
  rw [show mz M7 + 1 = o + 426 from congrArg (· + 1) z7] at s8
  have G8 := G7.trans b8.1 (Or.inl rfl)
  have Z8 := Z7.trans b8.1 n8
  have pp3 : PsF M8 (o + 20) := (((((l3.keep (b4.1.sm (q_hi z3 (by decide)) (Or.inl (Nat.lt_add_of_pos_right (by decide))))).keep (b5.1.sm (q_hi z4 (by decide)) (Or.inl (Nat.lt_add_of_pos_right (by decide))))).keep (b6.sm (q_hi z5 (by decide)) (Or.inr (by omega)))).keep (b7.1.sm (q_hi z6 (by decide)) (Or.inl (Nat.lt_add_of_pos_right (by decide))))).keep (b8.1.sm (q_hi z7 (by decide)) (Or.inl (Nat.lt_add_of_pos_right (by decide)))))
  have pp4 : PsF M8 (o + 208) := ((((l4.keep (b5.1.sm (q_hi z4 (by decide)) (Or.inl (Nat.lt_add_of_pos_right (by decide))))).keep (b6.sm (q_hi z5 (by decide)) (Or.inr (by omega)))).keep (b7.1.sm (q_hi z6 (by decide)) (Or.inl (Nat.lt_add_of_pos_right (by decide))))).keep (b8.1.sm (q_hi z7 (by decide)) (Or.inl (Nat.lt_add_of_pos_right (by decide)))))
  refine Xv.ret ⟨dX6_init_103, rfl⟩ ⟨G8.is rfl rfl, Z8, ⟨s0_8, ((b8.2.2 0 (by decide)).trans ((b7.2.2 0 (by decide)).trans ((congrFun (b6.2.2.2.1 o (q_le z5) (by omega)) 0).trans ((b5.2.2 0 (by decide)).trans ((b4.2.2 0 (by decide)).trans ((b3.2.2 0 (by decide)).trans ((b2.2.2 0 (by decide)).trans r1))))))), ((b8.2.2 1 (by decide)).trans ((b7.2.2 1 (by decide)).trans ((congrFun (b6.2.2.2.1 o (q_le z5) (by omega)) 1).trans ((b5.2.2 1 (by decide)).trans ((b4.2.2 1 (by decide)).trans ((b3.2.2 1 (by decide)).trans r2)))))), ((b8.2.2 2 (by decide)).trans ((b7.2.2 2 (by decide)).trans ((congrFun (b6.2.2.2.1 o (q_le z5) (by omega)) 2).trans ((b5.2.2 2 (by decide)).trans ((b4.2.2 2 (by decide)).trans r3))))), ((b8.2.2 3 (by decide)).trans ((b7.2.2 3 (by decide)).trans ((congrFun (b6.2.2.2.1 o (q_le z5) (by omega)) 3).trans ((b5.2.2 3 (by decide)).trans r4)))), ((b8.2.2 4 (by decide)).trans ((b7.2.2 4 (by decide)).trans ((congrFun (b6.2.2.2.1 o (q_le z5) (by omega)) 4).trans r5))), ((b8.2.2 5 (by decide)).trans r7), r8, ((b8.1.2.2.1 (o + 396) (q_le2 z7 (by decide))).trans ((b7.1.2.2.1 (o + 396) (q_le2 z6 (by decide))).trans ((b6.2.2.1 (o + 396) (q_le2 z5 (by decide))).trans s5))), ((b8.1.2.2.1 (o + 425) (q_le2 z7 (by decide))).trans s7), s8, (((((((l1.keep (b2.1.sm (q_hi z1 (by decide)) (Or.inl (Nat.lt_add_of_pos_right (by decide))))).keep (b3.1.sm (q_hi z2 (by decide)) (Or.inl (Nat.lt_add_of_pos_right (by decide))))).keep (b4.1.sm (q_hi z3 (by decide)) (Or.inl (Nat.lt_add_of_pos_right (by decide))))).keep (b5.1.sm (q_hi z4 (by decide)) (Or.inl (Nat.lt_add_of_pos_right (by decide))))).keep (b6.sm (q_hi z5 (by decide)) (Or.inr (by omega)))).keep (b7.1.sm (q_hi z6 (by decide)) (Or.inl (Nat.lt_add_of_pos_right (by decide))))).keep (b8.1.sm (q_hi z7 (by decide)) (Or.inl (Nat.lt_add_of_pos_right (by decide))))), ((((((l2.keep (b3.1.sm (q_hi z2 (by decide)) (Or.inl (Nat.lt_add_of_pos_right (by decide))))).keep (b4.1.sm (q_hi z3 (by decide)) (Or.inl (Nat.lt_add_of_pos_right (by decide))))).keep (b5.1.sm (q_hi z4 (by decide)) (Or.inl (Nat.lt_add_of_pos_right (by decide))))).keep (b6.sm (q_hi z5 (by decide)) (Or.inr (by omega)))).keep (b7.1.sm (q_hi z6 (by decide)) (Or.inl (Nat.lt_add_of_pos_right (by decide))))).keep (b8.1.sm (q_hi z7 (by decide)) (Or.inl (Nat.lt_add_of_pos_right (by decide))))), pp3.1.1, pp4.1.1, fun i hi => ⟨?_, ((w6 i hi).2.keep (b7.1.sm (by omega) (by omega))).keep (b8.1.sm (by omega) (by omega))⟩⟩, pp3, pp4⟩
  rw [b8.1.2.2.2.1 (o + 396) (by omega) (by omega), b7.1.2.2.2.1 (o + 396) (by omega) (by omega)]
  exact (w6 i hi).1
