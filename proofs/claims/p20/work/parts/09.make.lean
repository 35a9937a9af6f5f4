/-! copies of arrays, makings -/
section ZMK
variable {E : ZE} {d : Nat} {μ : ZMeth} {pc : Nat} {L : List (Option ZV)} {st : List ZV} {M : ZMem} {r : Option ZV} {M1 : ZMem}
theorem zArgs_len : nativeFrameWords "java/lang/System" "arraycopy" 5 + 11 ≤ 39 := by decide
theorem x_copy {i a b na nb : Nat} {sp dp n : Int} (hw : Cond.methodLink μ.2.2.2.2 i arraycopyName ∈ zTb) (hdg : decode μ.2.1 pc = .ok (.invokestatic i, 3)) (ha : mS M a = (1, na)) (hb' : mS M b = (1, nb)) (h1 : 0 ≤ sp) (h2 : 0 ≤ dp) (h3 : 0 ≤ n) (h4 : sp + n ≤ na) (h5 : dp + n ≤ nb) (kk : Xr E d μ (pc + 3) L [] (sA M b (zCpy (mI M a) (mI M b) sp.toNat dp.toNat n.toNat)) r M1) : Xr E d μ pc L [zi n, zi dp, zr b, zi sp, zr a] M r M1 := by
  refine ⟨kk.1, fun p l e R s m args below meth c H locs cells slots D cA ad A H0 ls b' Q hcx hscr hst hS hcl hsl fin => ?_⟩
  obtain ⟨hP, hD, hwf, hL, hg, hgL⟩ := hst
  obtain ⟨hx, hb, hml, -, hts, hnw, hown, -, -, hK, -, hfr, hlo⟩ := id hcx
  obtain ⟨a2, haz⟩ := hwf.2.2.1 a (by rw [ha]; exact Nat.one_ne_zero)
  obtain ⟨b2, hbz⟩ := hwf.2.2.1 b (by rw [hb']; exact Nat.one_ne_zero)
  have rn : inR n := gd_hi hg
  have rd : inR dp := gd_hi (gd_tl hg)
  have rs : inR sp := gd_hi (gd_tl (gd_tl (gd_tl hg)))
  show W _ _ _ _ _ _ _ _ _ _ _ _ _ _ _ (F0 _ pc _ [.int (Int32.ofInt n), .int (Int32.ofInt dp), zc _ (zr b), .int (Int32.ofInt sp), zc _ (zr a)])
  rw [zc_ref a2, zc_ref b2]
  have nl : ∀ {x : Int}, inR x → 0 ≤ x → ¬ Int32.ofInt x < 0 := fun hr h q => by
    have := (zI_lt hr inR_0).mp q
    omega
  refine va_copyi hx hb (by rw [hml]; exact hL.1.symm) hown (hts _ hw) (hts _ za_nat) (hts _ za_sta) (hts _ za_ini) hK hP hD hS (a - 2) (b - 2) 0 0 (n0 := na) (n1 := nb) (f := fun j => Int32.ofInt (mI M a j)) (g := fun j => Int32.ofInt (mI M b j)) (c0 := cA 0) (c1 := cA 0) (ty := .int) (by rw [zWs_get a2 haz, zE_int ha]) (by rw [zWs_get b2 hbz, zE_int hb']) rfl rfl rfl (nl rs h1) (nl rd h2) (nl rn h3) (by rw [zI_nat rs, zI_nat rn]; omega) (by rw [zI_nat rd, zI_nat rn]; omega) (fun _ _ => rfl) (by omega) (by have := zArgs_len; simp; omega) hdg (fun H1 locs1 hP1 hD1 hS1 => ?_)
  rw [zI_nat rs, zI_nat rd, zI_nat rn] at hP1 hD1
  have hset : zWs cA ad (sA M b (zCpy (mI M a) (mI M b) sp.toNat dp.toNat n.toNat)) = (zWs cA ad M).set (b - 2) (ad (b - 1), .inl (cA 0, (nb, .inl (va_cpy (fun j => Int32.ofInt (mI M a j)) (fun j => Int32.ofInt (mI M b j)) sp.toNat dp.toNat n.toNat)))) := by
    refine zWs_set b2 rfl (fun q hq => zE_ne rfl (fun j => by rw [mI_sA, if_neg hq]) (fun j => rfl)) ?_
    rw [zE_int (n := nb) (by rw [mS_sA]; exact hb')]
    congr 4
    funext j
    rw [mI_sA, if_pos rfl]
    unfold zCpy va_cpy
    split <;> rfl
  rw [← hset] at hP1 hD1
  refine kk.2 p l e R s m args below meth c H1 locs1 cells slots D cA ad A H0 ls b' Q hcx hscr ⟨hP1, hD1, hwf.sA b (fun j => ?_), hL, fun v hv => (by cases hv), hgL⟩ hS1 hcl hsl fin
  unfold zCpy
  split
  · exact hwf.1 _ _
  · exact hwf.1 _ _
theorem x_max {i : Nat} {x y : Int} (hw : Cond.methodLink μ.2.2.2.2 i Lib.Math.max.name ∈ zTb) (hdg : decode μ.2.1 pc = .ok (.invokestatic i, 3)) (hst0 : ∀ ad : Nat → Nat, ((st.map (zc ad)).map fun v => v.category).sum ≤ 8) (kk : Xr E d μ (pc + 3) L (zi (if x < y then y else x) :: st) M r M1) : Xr E d μ pc L (zi y :: zi x :: st) M r M1 :=
  kk.op (fun _ h _ => gd_cons (by split; exact gd_hi h; exact gd_hi (gd_tl h)) (gd_tl (gd_tl h))) (fun {p l e R s m args below meth c H H0 locs cells slots D cA ad A ls b Q} hx hb hcx _ hst _ hcs w => by
    have hry := gd_hi hst.2.2.2.2.1
    have hrx := gd_hi (gd_tl hst.2.2.2.2.1)
    obtain ⟨-, -, hml, -, hts, hnw, hown, -, -, hK, -, hfr, hlo⟩ := hcx
    have hs0 := hst0 ad
    refine va_mmax hx hb (by rw [hml]; exact hst.2.2.2.1.1.symm) hown (hts _ hw) (hts _ zx_sta) (hts _ zx_ini) (hts _ zx_cod) (by omega) (by omega) hcs.1 hcs.2 hdg ?_
    have e : (if Int32.ofInt x < Int32.ofInt y then Int32.ofInt y else Int32.ofInt x) = Int32.ofInt (if x < y then y else x) := by
      by_cases h : x < y
      · rw [if_pos h, if_pos ((zI_lt hrx hry).mpr h)]
      · rw [if_neg h, if_neg (fun q => h ((zI_lt hrx hry).mp q))]
    rw [e]
    exact w)
/-- what the making of a cell leaves: the old ones as they were -/
theorem zo_up {ad : Nat → Nat} {z q k : Nat} (h : k ≤ z) : zo (fun i => if i = z then q else ad i) k = zo ad k := by
  cases k with
  | zero => rfl
  | succ k => show some (if k = z then q else ad k) = some (ad k); rw [if_neg (by omega)]
theorem zc_up {ad : Nat → Nat} {z q : Nat} {v : ZV} (h : gd z v) : zc (fun i => if i = z then q else ad i) v = zc ad v := by
  match v, h with
  | .inl x, _ => rfl
  | .inr (.inl k), h => show va_rf (zo _ k) = va_rf (zo ad k); rw [zo_up h]
  | .inr (.inr x), _ => rfl
theorem zc_ups {ad : Nat → Nat} {z q : Nat} {st : List ZV} (h : ∀ v ∈ st, gd z v) : st.map (zc (fun i => if i = z then q else ad i)) = st.map (zc ad) :=
  List.map_congr_left fun v hv => zc_up (h v hv)
theorem zE_up {cA : Nat → ClassId} {ad : Nat → Nat} {M : ZMem} {sh : Nat × Nat} {n q a : Nat} (hw : zWf M) (ha : a ≤ mz M) : zE cA (fun i => if i = mz M then q else ad i) (zNew M sh n) a = zE cA ad M a := by
  have hz : ∀ j, zo (fun i => if i = mz M then q else ad i) (mR M a j) = zo ad (mR M a j) := fun j => zo_up (hw.2.1 a j)
  have hI : ∀ j, mI (zNew M sh n) a j = mI M a j := fun j => by rw [mI_new, if_neg (by omega)]
  have hR : ∀ j, mR (zNew M sh n) a j = mR M a j := fun j => by rw [mR_new, if_neg (by omega)]
  have hS : mS (zNew M sh n) a = mS M a := by rw [mS_new, if_neg (by omega)]
  have hf : ∀ ci k, zc (fun i => if i = mz M then q else ad i) (zf ci (zNew M sh n) a k) = zc ad (zf ci M a k) := fun ci k => by
    unfold zf
    rw [hI, hR]
    split
    · show va_rf (zo _ (mR M a k)) = va_rf (zo ad (mR M a k)); rw [hz]
    · rfl
  unfold zE
  rw [hS]
  simp only [hI, hR, hz, hf]
theorem zWs_new {cA : Nat → ClassId} {ad : Nat → Nat} {M : ZMem} {sh : Nat × Nat} {n q : Nat} (hw : zWf M) : zWs cA (fun i => if i = mz M then q else ad i) (zNew M sh n) = zWs cA ad M ++ [(q, zE cA (fun i => if i = mz M then q else ad i) (zNew M sh n) (mz M + 1))] := by
  have h1 := hw.2.2.2
  unfold zWs
  rw [mz_new, show mz M + 1 - 1 = (mz M - 1) + 1 by omega, List.range_succ, List.map_append]
  congr 1
  · refine List.map_congr_left fun i hi => ?_
    have hi' := List.mem_range.mp hi
    rw [zE_up hw (by omega)]
    dsimp only
    rw [if_neg (by omega)]
  · show [((if mz M - 1 + 1 = mz M then q else ad (mz M - 1 + 1)), zE cA _ (zNew M sh n) (mz M - 1 + 2))] = _
    rw [if_pos (by omega), show mz M - 1 + 2 = mz M + 1 by omega]
theorem zWf.new {M : ZMem} (h : zWf M) (sh : Nat × Nat) (n : Nat) : zWf (zNew M sh n) := by
  refine ⟨fun a j => ?_, fun a j => ?_, fun a ha => ?_, ?_⟩
  · rw [mI_new]
    split
    · exact inR_0
    · exact h.1 a j
  · rw [mR_new, mz_new]
    have := h.2.1 a j
    split
    · omega
    · omega
  · rw [mS_new] at ha
    rw [mz_new]
    have h1 := h.2.2.2
    by_cases q : a = mz M + 1
    · omega
    · rw [if_neg q] at ha
      have := h.2.2.1 a ha
      omega
  · rw [mz_new]; have := h.2.2.2; omega
theorem gd_mono {z z' : Nat} {v : ZV} (h : z ≤ z') (hv : gd z v) : gd z' v := by
  match v, hv with
  | .inl x, hv => exact hv
  | .inr (.inl k), hv => exact Nat.le_trans hv h
  | .inr (.inr x), hv => exact hv
theorem zScr.up {b : Nat} {s : State} {A : Nat → Prop} {H0 : Heap} {ad ad1 : Nat → Nat} (h : zScr E b s A H0 ad) (h0 : ad1 0 = ad 0) : zScr E b s A H0 ad1 := by
  cases E with
  | none => trivial
  | some q => exact ⟨h.1, h.2.1, h.2.2.1, by rw [h0]; exact h.2.2.2.1, h.2.2.2.2⟩
theorem zL.up {ad : Nat → Nat} {z q nL : Nat} {ls : Array Slot} (hg : ∀ v, some v ∈ L → gd z v) (h : zL ad nL L ls) : zL (fun i => if i = z then q else ad i) nL L ls :=
  ⟨h.1, h.2.1, fun k v hk => by rw [zc_up (hg v (List.mem_of_getElem? hk))]; exact h.2.2 k v hk⟩
/-- a step that makes one cell -/
theorem Xr.mk {pc' n : Nat} {sh : Nat × Nat} {st0 : List ZV} (k : Xr E d μ pc' L (zr (mz M + 1) :: st0) (zNew M sh n) r M1) (hst0 : ∀ v ∈ st0, v ∈ st)
    (hW : ∀ {p : Program} {l : Launch} {e : Env} {R : Room} {s : State} {m : MethodId} {args : Array Value} {below : List Frame} {meth : Method} {c : Code} {H H0 : Heap} {locs : List Loc} {cells slots : Nat} {D : va_G} {cA : Nat → ClassId} {ad : Nat → Nat} {A : Nat → Prop} {ls : Array Slot} {Q : State → Prop}, zCx d μ p R s m args meth c D cA A H0 → zSt μ.2.2.1 D cA ad A L st M H ls → va_S A H0 H locs → cells + 1 ≤ R.cells → slots + n ≤ R.slots →
      (∀ (q : Nat) (H1 : Heap), va_P D zCl (zWs cA ad M ++ [(q, zE cA (fun i => if i = mz M then q else ad i) (zNew M sh n) (mz M + 1))]) H1 → va_D A (zWs cA ad M ++ [(q, zE cA (fun i => if i = mz M then q else ad i) (zNew M sh n) (mz M + 1))]) → va_S A H0 H1 locs → W p l e R s m args below meth c H1 locs (cells + 1) (slots + n) Q (F0 m pc' ls (.ref q :: st0.map (zc ad)))) →
      W p l e R s m args below meth c H locs cells slots Q (F0 m pc ls (st.map (zc ad)))) : Xr E d μ pc L st M r M1 := by
  have hk1 := k.1.1
  have hk2 := k.1.2
  rw [mz_new] at hk1
  rw [mw_new] at hk2
  refine ⟨⟨by omega, by omega⟩, fun p l e R s m args below meth c H locs cells slots D cA ad A H0 ls b Q hcx hscr hst hS hc hs fin => ?_⟩
  refine hW hcx hst hS (by omega) (by omega) fun q H1 hP1 hD1 hS1 => ?_
  obtain ⟨hP, hD, hw, hL, hg, hgL⟩ := hst
  rw [← zWs_new hw] at hP1 hD1
  have hw1 := hw.2.2.2
  have hgs : ∀ v ∈ st0, gd (mz M) v := fun v hv => hg v (hst0 v hv)
  have h := k.2 p l e R s m args below meth c H1 locs (cells + 1) (slots + n) D cA (fun i => if i = mz M then q else ad i) A H0 ls b Q hcx (hscr.up (by show (if 0 = mz M then q else ad 0) = ad 0; rw [if_neg (by omega)])) ⟨hP1, hD1, hw.new sh n, hL.up hgL, gd_cons (by show mz M + 1 ≤ mz (zNew M sh n); rw [mz_new]; omega) (fun v hv => gd_mono (by rw [mz_new]; omega) (hgs v hv)), fun v hv => gd_mono (by rw [mz_new]; omega) (hgL v hv)⟩ hS1 (by rw [mz_new]; omega) (by rw [mw_new]; omega) (fun pc1 ls1 ad1 H2 locs2 hr g1 g2 g3 g4 hag g5 => ?_)
  · rw [List.map_cons, zc_ups hgs] at h
    have hq : zc (fun i => if i = mz M then q else ad i) (zr (mz M + 1)) = .ref q := by
      show va_rf (some (if mz M = mz M then q else ad (mz M))) = _
      rw [if_pos rfl]; rfl
    rw [hq] at h
    exact h
  · have h2 := fin pc1 ls1 ad1 H2 locs2 hr g1 g2 g3 g4 (fun i hi => by rw [hag i (by rw [mz_new]; omega)]; rw [if_neg (by omega)]) g5
    rw [mz_new, mw_new, show cells + 1 + (mz M1 - (mz M + 1)) = cells + (mz M1 - mz M) by omega, show slots + n + (mw M1 - (mw M + n)) = slots + (mw M1 - mw M) by omega]
    exact h2
theorem x_new {i ci N : Nat} {C : String} {T : u_T} {ty : Nat → FieldType} (hcf : zCF ci C T N ty) (hl : Cond.classLink μ.2.2.2.2 i C ∈ zTb) (hi : Cond.instantiable C N ∈ zTb) (hini : Cond.initialized C ∈ zTb) (hdg : decode μ.2.1 pc = .ok (.new i, 3)) (k : Xr E d μ (pc + 3) L (zr (mz M + 1) :: st) (zNew M (10 + ci, 0) N) r M1) : Xr E d μ pc L st M r M1 := by
  refine k.mk (fun v h => h) (fun {p l e R s m args below meth c H H0 locs cells slots D cA ad A ls Q} hcx hst hS hc hs kk => ?_)
  obtain ⟨hx, hb, -, -, hts, hnw, hown, -, -, hK, hA, -⟩ := hcx
  obtain ⟨hc0, hin, hty, hnm, hN, hfl⟩ := hcf
  refine va_new (ci := ci) (fs := (List.range (zNf ci)).map (fun k => if zfr ci k = true then Value.null else Value.int 0)) (C := C) (T := T) (N := N) hx hb hts hin ty hty hown (hts _ hl) (hts _ hi) (hts _ hini) hK hst.1 hst.2.1 hS hA hc0 (fun j hj => ?_) hc hs hdg (fun q H1 hP1 hD1 hS1 => ?_)
  · unfold vp_V
    rw [List.getD_eq_getElem?_getD, List.getElem?_map, List.getElem?_range (by rw [← hN]; exact hj)]
    rcases hfl j hj with h | h
    · show _ = if zfr ci j = true then Value.null else Value.int 0
      rw [if_pos h.1, (h.2 0).2.2]
    · show _ = if zfr ci j = true then Value.null else Value.int 0
      rw [if_neg (by rw [h.1]; decide), h.2.1]
  · have e : zE cA (fun i => if i = mz M then q else ad i) (zNew M (10 + ci, 0) N) (mz M + 1) = .inr (ci, (List.range (zNf ci)).map (fun k => if zfr ci k = true then Value.null else Value.int 0)) := by
      rw [zE_obj (ci := ci) (by rw [mS_new, if_pos rfl])]
      congr 2
      refine List.map_congr_left fun j _ => ?_
      unfold zf
      rw [mR_new, if_pos rfl, mI_new, if_pos rfl]
      split <;> rfl
    exact kk q H1 (by rw [e]; exact hP1) (by rw [e]; exact hD1) hS1
theorem x_newarray {n : Nat} (hdg : decode μ.2.1 pc = .ok (.newarray .int, 2)) (hn : n ≤ 100000) (k : Xr E d μ (pc + 2) L (zr (mz M + 1) :: st) (zNew M (1, n) n) r M1) : Xr E d μ pc L (zi n :: st) M r M1 := by
  refine k.mk (fun v h => List.mem_cons_of_mem _ h) (fun {p l e R s m args below meth c H H0 locs cells slots D cA ad A ls Q} hcx hst hS hc hs kk => ?_)
  obtain ⟨hx, hb, -, -, hts, hnw, hown, -, -, hK, hA, -⟩ := hcx
  have hr : inR (n : Int) := gd_hi hst.2.2.2.2.1
  refine va_newa (atype := .int) hx hb (hts _ zi_arr) (ty := .int) rfl hK hst.1 hst.2.1 hS hA (n := Int32.ofInt n) (N' := n) (a0 := (n, .inl (fun _ => 0))) (fun cA => rfl) (fun q => by have := (zI_lt hr inR_0).mp q; omega) (by rw [zI_nat hr]; omega) (by show n * 4 ≤ 536870912; omega) hc hs hdg (fun q cA' H1 hK1 hP1 hD1 hS1 => ?_)
  have h1 := (hK1.2 6 (cA', .int) rfl).2
  have h2 := (hK.2 0 (cA 0, .int) rfl).2
  have hcA : cA' = cA 0 := Option.some.inj (h1.symm.trans h2)
  subst hcA
  have e : zE cA (fun i => if i = mz M then q else ad i) (zNew M (1, n) n) (mz M + 1) = .inl (cA 0, (n, .inl (fun _ => 0))) := by
    rw [zE_int (n := n) (by rw [mS_new, if_pos rfl])]
    congr 4
    funext j
    rw [mI_new, if_pos rfl]; rfl
  exact kk q H1 (by rw [e]; exact hP1) (by rw [e]; exact hD1) hS1
theorem x_anewarray {i n t : Nat} {C : String} (ht : t = 2 ∨ t = 3 ∨ t = 4 ∨ t = 5) (hC : ∀ cA : Nat → ClassId, (zTys cA)[t - 1]? = some (cA (t - 1), .object C)) (hl : Cond.classLink μ.2.2.2.2 i C ∈ zTb) (hov : Cond.arrayOver (.object C) ∈ lw_tbl) (hdg : decode μ.2.1 pc = .ok (.anewarray i, 3)) (hn : n ≤ 100000) (k : Xr E d μ (pc + 3) L (zr (mz M + 1) :: st) (zNew M (t, n) n) r M1) : Xr E d μ pc L (zi n :: st) M r M1 := by
  refine k.mk (fun v h => List.mem_cons_of_mem _ h) (fun {p l e R s m args below meth c H H0 locs cells slots D cA ad A ls Q} hcx hst hS hc hs kk => ?_)
  obtain ⟨hx, hb, -, -, hts, hnw, hown, -, -, hK, hA, -⟩ := hcx
  have hr : inR (n : Int) := gd_hi hst.2.2.2.2.1
  refine va_newq hx hb hown (hts _ hl) (hnw.2.2 _ hov) hK hst.1 hst.2.1 hS hA (n := Int32.ofInt n) (N' := n) (fun q => by have := (zI_lt hr inR_0).mp q; omega) (by rw [zI_nat hr]; omega) (by omega) hc hs hdg (fun q cA' H1 hK1 hP1 hD1 hS1 => ?_)
  obtain ⟨-, -, -, -, -, h1⟩ := (hK1.2 6 (cA', .object C) rfl).2
  obtain ⟨-, -, -, -, -, h2⟩ := (hK.2 (t - 1) (cA (t - 1), .object C) (hC cA)).2
  have hcA : cA' = cA (t - 1) := Option.some.inj (h1.symm.trans h2)
  subst hcA
  have e : zE cA (fun i => if i = mz M then q else ad i) (zNew M (t, n) n) (mz M + 1) = .inl (cA (t - 1), (n, .inr (.inr (.inr (.inr (fun _ => none)))))) := by
    rw [zE_ref (n := n) (t := t) (by rw [mS_new, if_pos rfl]) (by omega) (by omega)]
    congr 7
    funext j
    rw [mR_new, if_pos rfl]; rfl
  exact kk q H1 (by rw [e]; exact hP1) (by rw [e]; exact hD1) hS1
theorem x_objInit {i o : Nat} (hl : Cond.methodLink μ.2.2.2.2 i objectInit ∈ zTb) (ho : 2 ≤ o) (hdg : decode μ.2.1 pc = .ok (.invokespecial i, 3)) (hst0 : ∀ ad : Nat → Nat, ((st.map (zc ad)).map fun v => v.category).sum ≤ 8) (k : Xr E d μ (pc + 3) L st M r M1) : Xr E d μ pc L (zr o :: st) M r M1 :=
  k.op (fun _ h _ => gd_tl h) (fun {p l e R s m args below meth c H H0 locs cells slots D cA ad A ls b Q} hx hb hcx _ hst _ hcs w => by
    obtain ⟨-, -, hml, -, hts, hnw, hown, -, -, hK, -, hfr, hlo⟩ := hcx
    show W _ _ _ _ _ _ _ _ _ _ _ _ _ _ _ (F0 _ pc _ (zc _ (zr o) :: st.map (zc _)))
    rw [zc_ref ho]
    have hr := lv_room (m := m) (pc := pc) (ls := ls) (rest := .ref (ad (o - 1)) :: st.map (zc ad)) (hst0 ad)
    exact W.objInit hx hb hown (hts _ hl) (hts _ zo_ins) (hts _ zo_cod) rfl (by rw [hml]; exact hst.2.2.2.1.1) rfl hdg (by omega) (by omega) w)
end ZMK
