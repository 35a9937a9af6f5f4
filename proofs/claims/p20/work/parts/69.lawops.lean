/-! the law's instructions that the class has not: remainders, truth values in rows, the script, its cells -/
section LAWOPS
variable {E : ZE} {d : Nat} {μ : ZMeth} {pc : Nat} {L : List (Option ZV)} {st : List ZV} {K M : ZMem} {r : Option ZV} {M1 : ZMem}
theorem zI_div {x y : Int} (h0 : 0 ≤ x) (hx : inR x) (hy0 : 0 < y) (hy : inR y) : Int32.ofInt x / Int32.ofInt y = Int32.ofInt (x / y) := by
  rw [← Int32.ofInt_tdiv (by exact hx.1) (by exact hx.2) (by exact hy.1) (by exact hy.2), Int.tdiv_eq_ediv_of_nonneg h0]
theorem x_idivK {x y : Int} (h0 : 0 ≤ x) (hy0 : 0 < y) (hdg : decode μ.2.1 pc = .ok (.idiv, 1)) (k : Xr E d μ (pc + 1) L (zi (x / y) :: st) M r M1) : Xr E d μ pc L (zi y :: zi x :: st) M r M1 :=
  k.op (fun _ h _ => gd_cons (by
    have hx := gd_hi (gd_tl h)
    have h1 := Int.ediv_nonneg h0 (Int.le_of_lt hy0)
    have h2 := Int.ediv_le_self y h0
    exact ⟨by omega, by have := hx.2; omega⟩) (gd_tl (gd_tl h))) (fun {p l e R s m args below meth c H H0 locs cells slots D cA ad A ls b Q} hx hb _ _ hs _ _ w => by
    have hry := gd_hi hs.2.2.2.2.1
    have hrx := gd_hi (gd_tl hs.2.2.2.2.1)
    refine lv_idiv hx hb hdg (fun q => ?_) ?_
    · have := (zI_eq hry inR_0).mp q
      omega
    · rw [zI_div h0 hrx hy0 hry]
      exact w)
theorem x_iremK {x y : Int} (h0 : 0 ≤ x) (hy0 : 0 < y) (hdg : decode μ.2.1 pc = .ok (.irem, 1)) (k : Xr E d μ (pc + 1) L (zi (x % y) :: st) M r M1) : Xr E d μ pc L (zi y :: zi x :: st) M r M1 :=
  k.op (fun _ h _ => gd_cons (by
    have hy := gd_hi h
    have h1 := Int.emod_nonneg x (show y ≠ 0 by omega)
    have h2 := Int.emod_lt_of_pos x hy0
    exact ⟨by omega, by have := hy.2; omega⟩) (gd_tl (gd_tl h))) (fun {p l e R s m args below meth c H H0 locs cells slots D cA ad A ls b Q} hx hb _ _ hs _ _ w => by
    have hry := gd_hi hs.2.2.2.2.1
    have hrx := gd_hi (gd_tl hs.2.2.2.2.1)
    refine lv_irem hx hb hdg (fun q => ?_) ?_
    · have := (zI_eq hry inR_0).mp q
      omega
    · rw [zI_div h0 hrx hy0 hry, ← Int32.ofInt_mul, ← Int32.ofInt_sub, show x - x / y * y = x % y by rw [Int.emod_def, Int.mul_comm]]
      exact w)
theorem zShr_nn {x : Int} {y : Int} (h : 1 ≤ y ∧ y ≤ 31) : 0 ≤ zShr x y := by
  unfold zShr
  have e : ((Int32.ofInt y).toUInt32 &&& Int32.toUInt32 31).toNat = y.toNat := by
    obtain ⟨n, rfl⟩ : ∃ n : Nat, y = n := ⟨y.toNat, by omega⟩
    have hn : n < 32 := by omega
    have : ∀ n : Fin 32, ((Int32.ofInt ((n.val : Nat) : Int)).toUInt32 &&& Int32.toUInt32 31).toNat = n.val := by decide +kernel
    exact this ⟨n, hn⟩
  generalize (Int32.ofInt y).toUInt32 &&& Int32.toUInt32 31 = s at *
  generalize (Int32.ofInt x).toUInt32 = u
  have hs : s.toNat % 32 = s.toNat := by omega
  have h1 : (u >>> s).toNat < 2147483648 := by
    rw [UInt32.toNat_shiftRight, hs, Nat.shiftRight_eq_div_pow]
    have hu := u.toNat_lt
    have h2 : 2 ≤ 2 ^ s.toNat := by
      have : 2 ^ 1 ≤ 2 ^ s.toNat := Nat.pow_le_pow_right (by decide) (by omega)
      simpa using this
    exact (Nat.div_lt_iff_lt_mul (by omega)).mpr (by
      have : 2147483648 * 2 ≤ 2147483648 * 2 ^ s.toNat := Nat.mul_le_mul_left _ h2
      have hu' : u.toNat < 4294967296 := hu
      omega)
  generalize u >>> s = w at *
  have e2 : w.toInt32.toInt = ((w.toNat : Nat) : Int) := by
    show w.toInt32.toBitVec.toInt = _
    rw [show w.toInt32.toBitVec = w.toBitVec from rfl, BitVec.toInt_eq_toNat_of_lt (by show 2 * w.toNat < 2 ^ 32; omega)]
    rfl
  rw [e2]
  omega
theorem zE_boo {cA : Nat → ClassId} {ad : Nat → Nat} {M : ZMem} {o n : Nat} (h : mS M o = (6, n)) : zE cA ad M o = .inl (cA 5, (n, .inl (fun j => Int32.ofInt (mI M o j)))) := by
  unfold zE
  rw [h]
  rfl
theorem x_zald {o n : Nat} {i : Int} (hK : KW K M) (hdg : decode μ.2.1 pc = .ok (.baload, 1)) (hsK : mS K o = (6, n)) (h0 : 0 ≤ i) (h1 : i < n) (kk : Xr E d μ (pc + 1) L (zi (mI M o i.toNat) :: st) M r M1) : Xr E d μ pc L (zi i :: zr o :: st) M r M1 :=
  kk.op (fun hw h _ => gd_cons (hw.1 _ _) (gd_tl (gd_tl h))) (fun {p l e R s m args below meth c H H0 locs cells slots D cA ad A ls b Q} hx hb hcx _ hst _ _ w => by
    have hs : mS M o = (6, n) := by rw [hK.s]; exact hsK
    obtain ⟨hP, hD, hw, hL, hg, hgL⟩ := hst
    obtain ⟨h2, hzo⟩ := hw.2.2.1 o (by rw [hs]; show (6 : Nat) ≠ 0; decide)
    have hir : inR i := gd_hi hg
    show W _ _ _ _ _ _ _ _ _ _ _ _ _ _ _ (F0 _ pc _ (.int (Int32.ofInt i) :: zc _ (zr o) :: st.map (zc _)))
    rw [zc_ref h2]
    refine va_zald hx hb hcx.2.2.2.2.2.2.2.2.2.1 hP (o - 2) 5 (by rw [zWs_get h2 hzo, zE_boo hs]) rfl (zin hir h0 h1) hdg ?_
    rw [zI_nat hir]
    exact w)
theorem x_zast {o n : Nat} {i : Int} (hK : KW K M) (hdg : decode μ.2.1 pc = .ok (.bastore, 1)) (hsK : mS K o = (6, n)) (h0 : 0 ≤ i) (h1 : i < n) (kk : Xr E d μ (pc + 1) L st (sI M o i.toNat 1) r M1) : Xr E d μ pc L (zi 1 :: zi i :: zr o :: st) M r M1 := by
  refine ⟨kk.1, fun p l e R s m args below meth c H locs cells slots D cA ad A H0 ls b Q hcx hscr hst hS hcl hsl fin => ?_⟩
  have hs : mS M o = (6, n) := by rw [hK.s]; exact hsK
  obtain ⟨hP, hD, hw, hL, hg, hgL⟩ := hst
  obtain ⟨h2, hzo⟩ := hw.2.2.1 o (by rw [hs]; show (6 : Nat) ≠ 0; decide)
  have hxr : inR 1 := gd_hi hg
  have hir : inR i := gd_hi (gd_tl hg)
  show W _ _ _ _ _ _ _ _ _ _ _ _ _ _ _ (F0 _ pc _ (.int (Int32.ofInt 1) :: .int (Int32.ofInt i) :: zc _ (zr o) :: st.map (zc _)))
  rw [zc_ref h2]
  refine va_zast hcx.1 hcx.2.1 hcx.2.2.2.2.2.2.2.2.2.1 hP hD hS (o - 2) 5 (by rw [zWs_get h2 hzo, zE_boo hs]) rfl (zin hir h0 h1) hdg (fun H1 locs1 hP1 hD1 hS1 => ?_)
  have hset : zWs cA ad (sI M o i.toNat 1) = (zWs cA ad M).set (o - 2) (ad (o - 1), .inl (cA 5, (n, .inl (upd (fun j => Int32.ofInt (mI M o j)) (Int32.ofInt i).toNatClampNeg (vp_nar .boolean (Int32.ofInt 1)))))) := by
    refine zWs_set h2 rfl (fun a ha => zE_ne rfl (fun j => by rw [mI_sI, if_neg (fun q => ha q.1)]) (fun j => rfl)) ?_
    rw [zE_boo (n := n) (by rw [mS_sI]; exact hs), zI_nat hir, show vp_nar .boolean (Int32.ofInt 1) = Int32.ofInt 1 by decide]
    congr 4
    funext j
    rw [mI_sI]
    unfold upd
    by_cases hj : j = i.toNat
    · rw [if_pos ⟨rfl, hj⟩, if_pos hj]
    · rw [if_neg (fun q => hj q.2), if_neg hj]
  rw [← hset] at hP1 hD1
  exact kk.2 p l e R s m args below meth c H1 locs1 cells slots D cA ad A H0 ls b Q hcx hscr ⟨hP1, hD1, hw.sI o _ hxr, hL, gd_tl (gd_tl (gd_tl hg)), hgL⟩ hS1 hcl hsl fin
theorem x_newarrayB {n : Nat} (hdg : decode μ.2.1 pc = .ok (.newarray .boolean, 2)) (hn : n ≤ 100000) (k : Xr E d μ (pc + 2) L (zr (mz M + 1) :: st) (zNew M (6, n) n) r M1) : Xr E d μ pc L (zi n :: st) M r M1 := by
  refine k.mk (fun v h => List.mem_cons_of_mem _ h) (fun {p l e R s m args below meth c H H0 locs cells slots D cA ad A ls Q} hcx hst hS hc hs kk => ?_)
  obtain ⟨hx, hb, -, -, hts, hnw, hown, -, -, hK, hA, -⟩ := hcx
  have hr : inR (n : Int) := gd_hi hst.2.2.2.2.1
  refine va_newa (atype := .boolean) hx hb (hts _ zi_arrB) (ty := .boolean) rfl hK hst.1 hst.2.1 hS hA (n := Int32.ofInt n) (N' := n) (a0 := (n, .inl (fun _ => 0))) (fun cA => rfl) (fun q => by have := (zI_lt hr inR_0).mp q; omega) (by rw [zI_nat hr]; omega) (by show n * 1 ≤ 536870912; omega) hc hs hdg (fun q cA' H1 hK1 hP1 hD1 hS1 => ?_)
  have h1 := (hK1.2 6 (cA', .boolean) rfl).2
  have h2 := (hK.2 5 (cA 5, .boolean) rfl).2
  have hcA : cA' = cA 5 := Option.some.inj (h1.symm.trans h2)
  subst hcA
  have e : zE cA (fun i => if i = mz M then q else ad i) (zNew M (6, n) n) (mz M + 1) = .inl (cA 5, (n, .inl (fun _ => 0))) := by
    rw [zE_boo (n := n) (by rw [mS_new, if_pos rfl])]
    congr 4
    funext j
    rw [mI_new, if_pos rfl]; rfl
  exact kk q H1 (by rw [e]; exact hP1) (by rw [e]; exact hD1) hS1
end LAWOPS
