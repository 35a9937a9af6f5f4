/-! the constructor of a row of points -/
theorem Gx.is {M M' : ZMem} {o n w n' w' : Nat} (h : Gx M M' o n w) (hn : n = n') (hw : w = w') : Gx M M' o n' w' := by subst hn hw; exact h
def Pt3 (M0 M : ZMem) (o n : Nat) : Prop := Gx M0 M o (1 + 6 * n) (31 + 42 * n) ∧ Nz M0 M ∧ (mS M o).1 = 13 ∧ mR M o 0 = o + 1 ∧ mS M (o + 1) = (4, 31) ∧ ∀ j, j < n → mR M (o + 1) j = o + 2 + 6 * j ∧ PointAt M (o + 2 + 6 * j)
set_option maxHeartbeats 4000000 in
theorem i3_loop {d : Nat} {M0 : ZMem} {o : Nat} (ho : o = mz M0) (h1 : 2 ≤ o) : ∀ (j n : Nat) (M : ZMem) (x : Int), n + j = 31 → x = n → Pt3 M0 M o n → Xv (d + 2) q3_init 15 [some (zr o), some (zi x)] [] M (fun M' => Gx M0 M' o 187 1333 ∧ Nz M0 M' ∧ PsF M' o)
  | 0, n, M, x, e, hx, ⟨G, Z, s0, r0, s1, p⟩ => by
    obtain rfl : n = 31 := by omega
    refine Xv.up (pc' := 16) (fun _ _ k => x_iload_n dX3_init_15 rfl rfl k) ?_
    refine Xv.up (pc' := 17) (fun _ _ k => x_aload_n dX3_init_16 rfl rfl k) ?_
    refine Xv.up (pc' := 20) (st' := [zr (o + 1), zi x]) (fun _ _ k => x_getR lf3_11 rfl dX3_init_17 s0 (by rw [r0]; exact k)) ?_
    refine Xv.up (pc' := 21) (fun _ _ k => x_alen dX3_init_20 s1 (by decide) (by decide) k) ?_
    refine Xv.br (tgt := 43) (pc' := 24) (31 ≤ x) (fun _ _ kt kf => x_icmp_ge dX3_init_21 rfl kt kf) (fun _ => ?_) (fun c => absurd (by omega) c)
    exact Xv.ret ⟨dX3_init_43, rfl⟩ ⟨G, Z, ⟨⟨s0, r0, s1⟩, fun j hj => (p j hj).2⟩, fun j hj => (p j hj).1⟩
  | j + 1, n, M, x, e, hx, ⟨G, Z, s0, r0, s1, p⟩ => by
    have hz := G.1
    refine Xv.up (pc' := 16) (fun _ _ k => x_iload_n dX3_init_15 rfl rfl k) ?_
    refine Xv.up (pc' := 17) (fun _ _ k => x_aload_n dX3_init_16 rfl rfl k) ?_
    refine Xv.up (pc' := 20) (st' := [zr (o + 1), zi x]) (fun _ _ k => x_getR lf3_11 rfl dX3_init_17 s0 (by rw [r0]; exact k)) ?_
    refine Xv.up (pc' := 21) (fun _ _ k => x_alen dX3_init_20 s1 (by decide) (by decide) k) ?_
    refine Xv.br (tgt := 43) (pc' := 24) (31 ≤ x) (fun _ _ kt kf => x_icmp_ge dX3_init_21 rfl kt kf) (fun c => absurd c (by omega)) (fun _ => ?_)
    refine Xv.up (pc' := 25) (fun _ _ k => x_aload_n dX3_init_24 rfl rfl k) ?_
    refine Xv.up (pc' := 28) (st' := [zr (o + 1)]) (fun _ _ k => x_getR lf3_11 rfl dX3_init_25 s0 (by rw [r0]; exact k)) ?_
    refine Xv.up (pc' := 29) (fun _ _ k => x_iload_n dX3_init_28 rfl rfl k) ?_
    refine Xv.up (pc' := 32) (fun _ _ k => x_new cf2 lc3_9 ni2 nz2 dX3_init_29 k) ?_
    refine Xv.up (pc' := 33) (fun _ _ k => x_dupR dX3_init_32 k) ?_
    obtain ⟨N, c1, g1, m1, l1⟩ := i2_init (d := d) (M := zNew M (12, 0) 6) (o := mz M + 1) (mz_new _ _ _).symm (by rw [mS_new, if_pos rfl]) (by omega)
    refine Xv.up (pc' := 36) (fun _ _ k => x_callI (as := []) k2_init (z_in 214 (by decide +kernel) rfl) (by omega) dX3_init_33 rfl (by decide) (zs8 rfl) c1 k) ?_
    have sN : mS N (o + 1) = (4, 31) := by rw [g1.2.2.1 (o + 1) (by rw [mz_new]; omega), mS_new, if_neg (by omega)]; exact s1
    refine Xv.up (pc' := 37) (fun _ _ k => x_aastore dX3_init_36 sN (by decide) l1.1 (by omega) (by omega) k) ?_
    rw [show x.toNat = n by omega]
    obtain ⟨b1, n1⟩ := blk_obj (M := M) (o := o + 1) (k := n) (by omega) g1 m1
    have l1 := l1.keep (sm_put (o := o + 1) (k := n) (x := mz M + 1) (by omega))
    generalize sR N (o + 1) n (mz M + 1) = M3 at *
    rw [show mz M + 1 = o + 2 + 6 * n by omega] at l1
    refine Xv.up (pc' := 40) (fun _ _ k => x_iinc dX3_init_37 rfl ⟨by omega, by omega⟩ (by decide) rfl k) ?_
    refine Xv.up (pc' := 15) (fun _ _ k => x_goto dX3_init_40 rfl k) ?_
    refine i3_loop ho h1 j (n + 1) M3 (x + 1) (by omega) (by omega) ⟨(G.trans b1.1 (Or.inr (by omega))).is (by omega) (by omega), Z.trans b1.1 n1, ?_, ?_, ?_, fun i hi => ?_⟩
    · rw [b1.1.2.2.1 o (by omega)]; exact s0
    · rw [b1.1.2.2.2.1 o (by omega) (by omega)]; exact r0
    · rw [b1.1.2.2.1 (o + 1) (by omega)]; exact s1
    · by_cases q : i = n
      · subst q
        exact ⟨by rw [b1.2.1]; omega, l1⟩
      · obtain ⟨p1, p2⟩ := p i (by omega)
        exact ⟨by rw [b1.2.2 i q]; exact p1, p2.keep (b1.1.sm (by omega) (by omega))⟩
set_option maxHeartbeats 4000000 in
theorem i3_init {d : Nat} {M : ZMem} {o : Nat} (ho : o = mz M) (s0_0 : (mS M o).1 = 13) (h1 : 2 ≤ o) : Cv (d + 2) q3_init [zr o] M (fun M' => Gx M M' o 187 1333 ∧ Nz M M' ∧ PsF M' (o)) := by
  refine Cv.of rfl rfl (Nat.le_of_ble_eq_true rfl) (fun w hw x e => by subst e; simp at hw) (L := [some (zr o), none]) rfl ?_
  have z0 : mz M = o + 0 := ho.symm
  have G0 : Gx M M o 0 0 := Gx.refl
  have Z0 : Nz M M := Nz.refl
  refine Xv.up (pc' := 1) (fun _ _ k => x_aload_n dX3_init_0 rfl rfl k) ?_
  refine Xv.up (pc' := 4) (fun _ _ k => x_objInit lo3_3 h1 dX3_init_1 (zs8 rfl) k) ?_
  refine Xv.up (pc' := 5) (fun _ _ k => x_aload_n dX3_init_4 rfl rfl k) ?_
  refine Xv.up (pc' := 7) (fun _ _ k => x_bipush dX3_init_5 (show inR 31 from ⟨by decide, by decide⟩) (by decide) k) ?_
  refine Xv.up (pc' := 10) (fun _ _ k => x_anewarray (n := 31) (t := 4) (by decide) (fun cA => rfl) lc3_9 zao2 dX3_init_7 (by decide) k) ?_
  refine Xv.up (pc' := 13) (fun _ _ k => x_putF lf3_11 (fun C T N h => by have h : some (RX3, TX3, 2) = some (C, T, N) := h; cases h; exact ⟨z_in 285 (by decide +kernel) rfl, rfl⟩) rfl rfl rfl (q_2 z0 h1) dX3_init_10 (by rw [mS_new, if_neg (q_ne z0)]; exact s0_0) k) ?_
  obtain ⟨b1, s1, n1⟩ := blk_arr (M := M) (o := o) (k := 0) (t := 4) (m := 31) (q_le z0)
  generalize sR (zNew M (4, 31) 31) o 0 (mz M + 1) = M1 at *
  have z1 : mz M1 = o + 1 := b1.1.1.trans (congrArg (· + 1) z0)
  have s0_1 : (mS M1 o).1 = 13 := by rw [b1.1.2.2.1 o (q_le z0)]; exact s0_0
  have r1 : mR M1 o 0 = o + 1 := b1.2.1.trans (congrArg (· + 1) z0)
  rw [show mz M + 1 = o + 1 from congrArg (· + 1) z0] at s1
  have G1 := G0.trans b1.1 (Or.inl rfl)
  have Z1 := Z0.trans b1.1 n1
  refine Xv.up (pc' := 14) (fun _ _ k => x_iconst dX3_init_13 (show inR 0 from ⟨by decide, by decide⟩) k) ?_
  refine Xv.up (pc' := 15) (fun _ _ k => x_istore_n dX3_init_14 rfl (by decide) rfl k) ?_
  exact i3_loop ho h1 31 0 M1 0 rfl rfl ⟨G1.is rfl rfl, Z1, s0_1, r1, s1, fun j hj => absurd hj (by omega)⟩
