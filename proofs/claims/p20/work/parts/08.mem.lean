/-! fields and arrays -/
theorem zWs_get {cA : Nat → ClassId} {ad : Nat → Nat} {M : ZMem} {o : Nat} (h2 : 2 ≤ o) (hz : o ≤ mz M) : (zWs cA ad M)[o - 2]? = some (ad (o - 1), zE cA ad M o) := by
  unfold zWs
  rw [List.getElem?_map, List.getElem?_range (by omega)]
  show some (ad (o - 2 + 1), zE cA ad M (o - 2 + 2)) = _
  rw [show o - 2 + 1 = o - 1 by omega, show o - 2 + 2 = o by omega]
theorem zE_int {cA : Nat → ClassId} {ad : Nat → Nat} {M : ZMem} {o n : Nat} (h : mS M o = (1, n)) : zE cA ad M o = .inl (cA 0, (n, .inl (fun j => Int32.ofInt (mI M o j)))) := by
  unfold zE
  rw [h]
  rfl
theorem zE_ref {cA : Nat → ClassId} {ad : Nat → Nat} {M : ZMem} {o n t : Nat} (h : mS M o = (t, n)) (h1 : 2 ≤ t) (h2 : t < 6) : zE cA ad M o = .inl (cA (t - 1), (n, .inr (.inr (.inr (.inr (fun j => zo ad (mR M o j))))))) := by
  unfold zE
  rw [h]
  dsimp only
  rw [if_neg (by omega), if_neg (by omega), if_pos (by omega)]
theorem zE_obj {cA : Nat → ClassId} {ad : Nat → Nat} {M : ZMem} {o ci : Nat} (h : (mS M o).1 = 10 + ci) : zE cA ad M o = .inr (ci, (List.range (zNf ci)).map (fun k => zc ad (zf ci M o k))) := by
  unfold zE
  rw [h, if_neg (by omega), if_neg (by omega), if_neg (by omega), show 10 + ci - 10 = ci by omega]
theorem zWs_set {cA : Nat → ClassId} {ad : Nat → Nat} {M M' : ZMem} {o : Nat} {e : va_E} (h2 : 2 ≤ o) (hz : mz M' = mz M) (hne : ∀ a, a ≠ o → zE cA ad M' a = zE cA ad M a) (he : zE cA ad M' o = e) : zWs cA ad M' = (zWs cA ad M).set (o - 2) (ad (o - 1), e) := by
  refine List.ext_getElem? fun i => ?_
  unfold zWs
  rw [List.getElem?_set, List.getElem?_map, List.getElem?_map, hz, List.length_map, List.length_range]
  by_cases hi : i < mz M - 1
  · rw [List.getElem?_range hi]
    by_cases ho : o - 2 = i
    · rw [if_pos ho, if_pos (by omega)]
      show some (ad (i + 1), zE cA ad M' (i + 2)) = _
      rw [show i + 1 = o - 1 by omega, show i + 2 = o by omega, he]
    · rw [if_neg ho]
      show some (ad (i + 1), zE cA ad M' (i + 2)) = some (ad (i + 1), zE cA ad M (i + 2))
      rw [hne (i + 2) (by omega)]
  · rw [List.getElem?_eq_none (by rw [List.length_range]; omega)]
    by_cases ho : o - 2 = i
    · rw [if_pos ho, if_neg (by omega)]; rfl
    · rw [if_neg ho]; rfl
theorem zWf.sI {M : ZMem} (h : zWf M) (o k : Nat) {x : Int} (hx : inR x) : zWf (sI M o k x) := by
  refine ⟨fun a j => ?_, h.2.1, h.2.2.1, h.2.2.2⟩
  rw [mI_sI]
  by_cases q : a = o ∧ j = k
  · rw [if_pos q]; exact hx
  · rw [if_neg q]; exact h.1 a j
theorem zWf.sR {M : ZMem} (h : zWf M) (o k : Nat) {x : Nat} (hx : x ≤ mz M) : zWf (sR M o k x) := by
  refine ⟨h.1, fun a j => ?_, h.2.2.1, h.2.2.2⟩
  rw [mR_sR, mz_sR]
  by_cases q : a = o ∧ j = k
  · rw [if_pos q]; exact hx
  · rw [if_neg q]; exact h.2.1 a j
theorem zWf.sA {M : ZMem} (h : zWf M) (o : Nat) {f : Nat → Int} (hx : ∀ j, inR (f j)) : zWf (sA M o f) := by
  refine ⟨fun a j => ?_, h.2.1, h.2.2.1, h.2.2.2⟩
  rw [mI_sA]
  by_cases q : a = o
  · rw [if_pos q]; exact hx j
  · rw [if_neg q]; exact h.1 a j
theorem zc_ref {ad : Nat → Nat} {o : Nat} (h : 2 ≤ o) : zc ad (zr o) = .ref (ad (o - 1)) := by
  obtain ⟨k, rfl⟩ : ∃ k, o = k + 1 := ⟨o - 1, by omega⟩
  rfl
theorem zin {i : Int} {n : Nat} (hr : inR i) (h0 : 0 ≤ i) (h1 : i < n) : vp_in (Int32.ofInt i) n := by
  rw [vp_in_iff, zI_toInt hr]
  exact ⟨h0, h1⟩
/-- final, by the tables -/
def zFn (ci k : Nat) : Bool := match zCl[ci]? with
  | some q => (q.2.1 k).2.2.2
  | none => true
theorem zFn_at {ci k : Nat} {C : String} {T : u_T} {N : Nat} (h : zCl[ci]? = some (C, T, N)) : zFn ci k = (T k).2.2.2 := by unfold zFn; rw [h]
section ZMEM
variable {E : ZE} {d : Nat} {μ : ZMeth} {pc : Nat} {L : List (Option ZV)} {st : List ZV} {M : ZMem} {r : Option ZV} {M1 : ZMem}
theorem x_get {i ci k o : Nat} (hl : zFI μ.2.2.2.2 i ci k) (hdg : decode μ.2.1 pc = .ok (.getfield i, 3)) (ho : (mS M o).1 = 10 + ci) (kk : Xr E d μ (pc + 3) L (zf ci M o k :: st) M r M1) : Xr E d μ pc L (zr o :: st) M r M1 := by
  obtain ⟨C, T, N, ty, ⟨hc, hin, hty, hnm, hN, hfl⟩, hk, hlink⟩ := hl
  refine kk.op (fun hw h _ => gd_cons ?_ (gd_tl h)) (fun hx hb hcx _ hs _ _ w => ?_)
  · unfold zf
    split
    · exact hw.2.1 o k
    · exact hw.1 o k
  · obtain ⟨hP, hD, hw, -⟩ := hs
    obtain ⟨h2, hz⟩ := hw.2.2.1 o (by rw [ho]; omega)
    obtain ⟨-, -, -, -, hts, hnw, hown, -, -, hK, -⟩ := hcx
    show W _ _ _ _ _ _ _ _ _ _ _ _ _ _ _ (F0 _ pc _ (zc _ (zr o) :: st.map (zc _)))
    rw [zc_ref h2]
    have hv : ∀ ad : Nat → Nat, ((List.range (zNf ci)).map (fun k => zc ad (zf ci M o k)))[k]? = some (zc ad (zf ci M o k)) := fun ad => by
      rw [List.getElem?_map, List.getElem?_range (by rw [← hN]; exact hk)]
      rfl
    rcases hlink with hlink | ⟨host, hlink⟩
    · exact va_get hx hb hts hin hown hK hP (o - 2) (by rw [zWs_get h2 hz, zE_obj ho]) hc k hk (hts _ hlink) (fun _ h => h) (hv _) hdg w
    · exact va_getN hx hb hts hin hown hK hP (o - 2) (by rw [zWs_get h2 hz, zE_obj ho]) hc k hk (va_Nw.use rfl (hnw.1 _ _ _ _ _ _ hlink)) (fun _ h => h) (hv _) hdg w
theorem x_getI {i ci k o : Nat} (hl : zFI μ.2.2.2.2 i ci k) (hf : zfr ci k = false) (hdg : decode μ.2.1 pc = .ok (.getfield i, 3)) (ho : (mS M o).1 = 10 + ci) (kk : Xr E d μ (pc + 3) L (zi (mI M o k) :: st) M r M1) : Xr E d μ pc L (zr o :: st) M r M1 :=
  x_get hl hdg ho (by unfold zf; rw [hf]; exact kk)
theorem x_getR {i ci k o : Nat} (hl : zFI μ.2.2.2.2 i ci k) (hf : zfr ci k = true) (hdg : decode μ.2.1 pc = .ok (.getfield i, 3)) (ho : (mS M o).1 = 10 + ci) (kk : Xr E d μ (pc + 3) L (zr (mR M o k) :: st) M r M1) : Xr E d μ pc L (zr o :: st) M r M1 :=
  x_get hl hdg ho (by unfold zf; rw [hf]; exact kk)
theorem zfs_set {ad : Nat → Nat} {ci o k : Nat} {v : ZV} {M M' : ZMem} (hk : zf ci M' o k = v) (hne : ∀ j, j ≠ k → zf ci M' o j = zf ci M o j) (hN : k < zNf ci) : (List.range (zNf ci)).map (fun k => zc ad (zf ci M' o k)) = ((List.range (zNf ci)).map (fun k => zc ad (zf ci M o k))).set k (zc ad v) := by
  refine List.ext_getElem? fun j => ?_
  rw [List.getElem?_set, List.getElem?_map, List.getElem?_map, List.length_map, List.length_range]
  by_cases hj : k = j
  · subst hj
    rw [if_pos rfl, if_pos hN, List.getElem?_range hN]
    show some (zc ad (zf ci M' o k)) = _
    rw [hk]
  · rw [if_neg hj]
    by_cases h2 : j < zNf ci
    · rw [List.getElem?_range h2]
      show some (zc ad (zf ci M' o j)) = some (zc ad (zf ci M o j))
      rw [hne j (fun e => hj e.symm)]
    · rw [List.getElem?_eq_none (by rw [List.length_range]; omega)]; rfl
theorem zf_sI_ne {ci o k j : Nat} {x : Int} {M : ZMem} (hj : j ≠ k) : zf ci (sI M o k x) o j = zf ci M o j := by
  show (if zfr ci j = true then zr (mR M o j) else zi (if o = o ∧ j = k then x else mI M o j)) = _
  rw [if_neg (show ¬ (o = o ∧ j = k) from fun q => hj q.2)]
  rfl
theorem zf_sI_eq {ci o k : Nat} {x : Int} {M : ZMem} (hf : zfr ci k = false) : zf ci (sI M o k x) o k = zi x := by
  show (if zfr ci k = true then zr (mR M o k) else zi (if o = o ∧ k = k then x else mI M o k)) = _
  rw [if_neg (by rw [hf]; decide), if_pos ⟨rfl, rfl⟩]
theorem zf_sR_ne {ci o k j x : Nat} {M : ZMem} (hj : j ≠ k) : zf ci (sR M o k x) o j = zf ci M o j := by
  show (if zfr ci j = true then zr (if o = o ∧ j = k then x else mR M o j) else zi (mI M o j)) = _
  rw [if_neg (show ¬ (o = o ∧ j = k) from fun q => hj q.2)]
  rfl
theorem zf_sR_eq {ci o k x : Nat} {M : ZMem} (hf : zfr ci k = true) : zf ci (sR M o k x) o k = zr x := by
  show (if zfr ci k = true then zr (if o = o ∧ k = k then x else mR M o k) else zi (mI M o k)) = _
  rw [if_pos hf, if_pos ⟨rfl, rfl⟩]
theorem zE_ne {cA : Nat → ClassId} {ad : Nat → Nat} {M M' : ZMem} {a : Nat} (hS : mS M' a = mS M a) (hI : ∀ j, mI M' a j = mI M a j) (hR : ∀ j, mR M' a j = mR M a j) : zE cA ad M' a = zE cA ad M a := by
  unfold zE zf
  rw [hS]
  simp only [hI, hR]
theorem x_putI {i ci k o : Nat} {x : Int} (hl : zFI μ.2.2.2.2 i ci k) (hf : zfr ci k = false) (hfin : zFn ci k = false) (hz01 : zfb ci k = false ∨ x = 0 ∨ x = 1) (hdg : decode μ.2.1 pc = .ok (.putfield i, 3)) (ho : (mS M o).1 = 10 + ci) (kk : Xr E d μ (pc + 3) L st (sI M o k x) r M1) : Xr E d μ pc L (zi x :: zr o :: st) M r M1 := by
  obtain ⟨C, T, N, ty, ⟨hc, hin, hty, hnm, hN, hfl⟩, hk, hlink⟩ := hl
  refine ⟨kk.1, fun p l e R s m args below meth c H locs cells slots D cA ad A H0 ls b Q hcx hscr hst hS hcl hsl fin => ?_⟩
  have hcx' := hcx
  obtain ⟨hx, hb, -, -, hts, hnw, hown, -, -, hK, -⟩ := hcx'
  obtain ⟨hP, hD, hw, hL, hg, hgL⟩ := hst
  obtain ⟨h2, hzo⟩ := hw.2.2.1 o (by rw [ho]; omega)
  have hxr : inR x := gd_hi hg
  show W _ _ _ _ _ _ _ _ _ _ _ _ _ _ _ (F0 _ pc _ (.int (Int32.ofInt x) :: zc _ (zr o) :: st.map (zc _)))
  rw [zc_ref h2]
  have hx01 : zfb ci k = false ∨ Int32.ofInt x = 0 ∨ Int32.ofInt x = 1 := by
    rcases hz01 with h | h | h
    · exact Or.inl h
    · rw [h]; exact Or.inr (Or.inl rfl)
    · rw [h]; exact Or.inr (Or.inr rfl)
  obtain ⟨hn, hfit⟩ : narrow (ty k) (.int (Int32.ofInt x)) = .int (Int32.ofInt x) ∧ fits (ty k) (.int (Int32.ofInt x)) = true := by
    rcases hfl k hk with h | h
    · rw [h.1] at hf; cases hf
    · exact h.2.2 _ hx01
  have hf2 : (T k).2.2.2 = false := by rw [← zFn_at hc]; exact hfin
  have hset : zWs cA ad (sI M o k x) = (zWs cA ad M).set (o - 2) (ad (o - 1), .inr (ci, ((List.range (zNf ci)).map (fun k => zc ad (zf ci M o k))).set k (.int (Int32.ofInt x)))) := by
    refine zWs_set h2 rfl (fun a ha => zE_ne rfl (fun j => by rw [mI_sI, if_neg (fun q => ha q.1)]) (fun j => rfl)) ?_
    rw [zE_obj (ci := ci) (by rw [mS_sI]; exact ho)]
    rw [zfs_set (M := M) (v := zi x) (zf_sI_eq hf) (fun j hj => zf_sI_ne hj) (by rw [← hN]; exact hk)]
    rfl
  have go : ∀ (H1 : Heap) (locs1 : List Loc), va_P D zCl ((zWs cA ad M).set (o - 2) (ad (o - 1), .inr (ci, ((List.range (zNf ci)).map (fun k => zc ad (zf ci M o k))).set k (.int (Int32.ofInt x))))) H1 → va_D A ((zWs cA ad M).set (o - 2) (ad (o - 1), .inr (ci, ((List.range (zNf ci)).map (fun k => zc ad (zf ci M o k))).set k (.int (Int32.ofInt x))))) → va_S A H0 H1 locs1 → W p l e R s m args below meth c H1 locs1 cells slots Q (F0 m (pc + 3) ls (st.map (zc ad))) := fun H1 locs1 hP1 hD1 hS1 => by
    rw [← hset] at hP1 hD1
    exact kk.2 p l e R s m args below meth c H1 locs1 cells slots D cA ad A H0 ls b Q hcx hscr ⟨hP1, hD1, hw.sI o k hxr, hL, gd_tl (gd_tl hg), hgL⟩ hS1 hcl hsl fin
  rcases hlink with hlink | ⟨host, hlink⟩
  · exact va_put hx hb hts hin ty hty hnm hown hK hP hD hS (o - 2) (by rw [zWs_get h2 hzo, zE_obj ho]) hc k hk (hts _ hlink) (fun _ h => h) hf2 (hty k hk) hn hfit (by rw [List.length_map, List.length_range, ← hN]; exact hk) hdg go
  · exact va_putN hx hb hts hin ty hty hnm hown hK hP hD hS (o - 2) (by rw [zWs_get h2 hzo, zE_obj ho]) hc k hk (va_Nw.use rfl (hnw.1 _ _ _ _ _ _ hlink)) (fun _ h => h) hf2 (hty k hk) hn hfit (by rw [List.length_map, List.length_range, ← hN]; exact hk) hdg go
/-- a final field, in its class's own making -/
theorem x_putF {i ci k o x : Nat} (hl : zFI μ.2.2.2.2 i ci k) (hlp : ∀ C T N, zCl[ci]? = some (C, T, N) → Cond.fieldLink μ.2.2.2.2 i (T k).1 (T k).2.1 (T k).2.2.1 ∈ zTb ∧ (T k).1 = μ.2.2.2.2) (hf : zfr ci k = true) (hfin : zFn ci k = true) (hin0 : μ.1.name = "<init>") (hx2 : 2 ≤ x) (hdg : decode μ.2.1 pc = .ok (.putfield i, 3)) (ho : (mS M o).1 = 10 + ci) (kk : Xr E d μ (pc + 3) L st (sR M o k x) r M1) : Xr E d μ pc L (zr x :: zr o :: st) M r M1 := by
  obtain ⟨C, T, N, ty, ⟨hc, hin, hty, hnm, hN, hfl⟩, hk, -⟩ := hl
  obtain ⟨hlink, hdecl⟩ := hlp C T N hc
  refine ⟨kk.1, fun p l e R s m args below meth c H locs cells slots D cA ad A H0 ls b Q hcx hscr hst hS hcl hsl fin => ?_⟩
  have hcx' := hcx
  obtain ⟨hx, hb, -, -, hts, hnw, hown, -, hini, hK, -⟩ := hcx'
  obtain ⟨hP, hD, hw, hL, hg, hgL⟩ := hst
  obtain ⟨h2, hzo⟩ := hw.2.2.1 o (by rw [ho]; omega)
  have hxr : x ≤ mz M := gd_hd hg
  show W _ _ _ _ _ _ _ _ _ _ _ _ _ _ _ (F0 _ pc _ (zc _ (zr x) :: zc _ (zr o) :: st.map (zc _)))
  rw [zc_ref h2, zc_ref hx2]
  obtain ⟨hn, hfit⟩ : narrow (ty k) (.ref (ad (x - 1))) = .ref (ad (x - 1)) ∧ fits (ty k) (.ref (ad (x - 1))) = true := by
    rcases hfl k hk with h | h
    · exact ⟨(h.2 _).1, (h.2 _).2.1⟩
    · rw [h.1] at hf; cases hf
  have hf2 : (T k).2.2.2 = true := by rw [← zFn_at hc]; exact hfin
  have hset : zWs cA ad (sR M o k x) = (zWs cA ad M).set (o - 2) (ad (o - 1), .inr (ci, ((List.range (zNf ci)).map (fun k => zc ad (zf ci M o k))).set k (.ref (ad (x - 1))))) := by
    refine zWs_set h2 rfl (fun a ha => zE_ne rfl (fun j => rfl) (fun j => by rw [mR_sR, if_neg (fun q => ha q.1)])) ?_
    rw [zE_obj (ci := ci) (by rw [mS_sR]; exact ho)]
    rw [zfs_set (M := M) (v := zr x) (zf_sR_eq hf) (fun j hj => zf_sR_ne hj) (by rw [← hN]; exact hk)]
    rw [zc_ref hx2]
  refine va_putF hx hb hts hin ty hty hnm hown hK hP hD hS (o - 2) (by rw [zWs_get h2 hzo, zE_obj ho]) hc k hk (hts _ hlink) (fun _ h => h) hf2 (hini hin0) hdecl (hty k hk) hn hfit (by rw [List.length_map, List.length_range, ← hN]; exact hk) hdg (fun H1 locs1 hP1 hD1 hS1 => ?_)
  rw [← hset] at hP1 hD1
  exact kk.2 p l e R s m args below meth c H1 locs1 cells slots D cA ad A H0 ls b Q hcx hscr ⟨hP1, hD1, hw.sR o k hxr, hL, gd_tl (gd_tl hg), hgL⟩ hS1 hcl hsl fin
theorem x_iaload {o n : Nat} {i : Int} (hdg : decode μ.2.1 pc = .ok (.iaload, 1)) (hs : mS M o = (1, n)) (h0 : 0 ≤ i) (h1 : i < n) (kk : Xr E d μ (pc + 1) L (zi (mI M o i.toNat) :: st) M r M1) : Xr E d μ pc L (zi i :: zr o :: st) M r M1 :=
  kk.op (fun hw h _ => gd_cons (hw.1 _ _) (gd_tl (gd_tl h))) (fun {p l e R s m args below meth c H H0 locs cells slots D cA ad A ls b Q} hx hb hcx _ hst _ _ w => by
    obtain ⟨hP, hD, hw, hL, hg, hgL⟩ := hst
    obtain ⟨h2, hzo⟩ := hw.2.2.1 o (by rw [hs]; exact Nat.one_ne_zero)
    have hir : inR i := gd_hi hg
    show W _ _ _ _ _ _ _ _ _ _ _ _ _ _ _ (F0 _ pc _ (.int (Int32.ofInt i) :: zc _ (zr o) :: st.map (zc _)))
    rw [zc_ref h2]
    refine va_iald hx hb hcx.2.2.2.2.2.2.2.2.2.1 hP (o - 2) 0 (by rw [zWs_get h2 hzo, zE_int hs]) rfl (zin hir h0 h1) hdg ?_
    rw [zI_nat hir]
    exact w)
theorem x_iastore {o n : Nat} {i x : Int} (hdg : decode μ.2.1 pc = .ok (.iastore, 1)) (hs : mS M o = (1, n)) (h0 : 0 ≤ i) (h1 : i < n) (kk : Xr E d μ (pc + 1) L st (sI M o i.toNat x) r M1) : Xr E d μ pc L (zi x :: zi i :: zr o :: st) M r M1 := by
  refine ⟨kk.1, fun p l e R s m args below meth c H locs cells slots D cA ad A H0 ls b Q hcx hscr hst hS hcl hsl fin => ?_⟩
  obtain ⟨hP, hD, hw, hL, hg, hgL⟩ := hst
  obtain ⟨h2, hzo⟩ := hw.2.2.1 o (by rw [hs]; exact Nat.one_ne_zero)
  have hxr : inR x := gd_hi hg
  have hir : inR i := gd_hi (gd_tl hg)
  show W _ _ _ _ _ _ _ _ _ _ _ _ _ _ _ (F0 _ pc _ (.int (Int32.ofInt x) :: .int (Int32.ofInt i) :: zc _ (zr o) :: st.map (zc _)))
  rw [zc_ref h2]
  refine va_iast hcx.1 hcx.2.1 hcx.2.2.2.2.2.2.2.2.2.1 hP hD hS (o - 2) 0 (by rw [zWs_get h2 hzo, zE_int hs]) rfl (zin hir h0 h1) hdg (fun H1 locs1 hP1 hD1 hS1 => ?_)
  have hset : zWs cA ad (sI M o i.toNat x) = (zWs cA ad M).set (o - 2) (ad (o - 1), .inl (cA 0, (n, .inl (upd (fun j => Int32.ofInt (mI M o j)) (Int32.ofInt i).toNatClampNeg (Int32.ofInt x))))) := by
    refine zWs_set h2 rfl (fun a ha => zE_ne rfl (fun j => by rw [mI_sI, if_neg (fun q => ha q.1)]) (fun j => rfl)) ?_
    rw [zE_int (n := n) (by rw [mS_sI]; exact hs), zI_nat hir]
    congr 4
    funext j
    rw [mI_sI]
    unfold upd
    by_cases hj : j = i.toNat
    · rw [if_pos ⟨rfl, hj⟩, if_pos hj]
    · rw [if_neg (fun q => hj q.2), if_neg hj]
  rw [← hset] at hP1 hD1
  exact kk.2 p l e R s m args below meth c H1 locs1 cells slots D cA ad A H0 ls b Q hcx hscr ⟨hP1, hD1, hw.sI o _ hxr, hL, gd_tl (gd_tl (gd_tl hg)), hgL⟩ hS1 hcl hsl fin
theorem x_aaload {o n t : Nat} {i : Int} (hdg : decode μ.2.1 pc = .ok (.aaload, 1)) (hs : mS M o = (t, n)) (ht : t = 2 ∨ t = 3 ∨ t = 4 ∨ t = 5) (h0 : 0 ≤ i) (h1 : i < n) (kk : Xr E d μ (pc + 1) L (zr (mR M o i.toNat) :: st) M r M1) : Xr E d μ pc L (zi i :: zr o :: st) M r M1 :=
  kk.op (fun hw h _ => gd_cons (hw.2.1 _ _) (gd_tl (gd_tl h))) (fun {p l e R s m args below meth c H H0 locs cells slots D cA ad A ls b Q} hx hb hcx _ hst _ _ w => by
    obtain ⟨hP, hD, hw, hL, hg, hgL⟩ := hst
    obtain ⟨h2, hzo⟩ := hw.2.2.1 o (by rw [hs]; show t ≠ 0; omega)
    have hir : inR i := gd_hi hg
    show W _ _ _ _ _ _ _ _ _ _ _ _ _ _ _ (F0 _ pc _ (.int (Int32.ofInt i) :: zc _ (zr o) :: st.map (zc _)))
    rw [zc_ref h2]
    have hty : ∃ C, (zTys cA)[t - 1]? = some (cA (t - 1), .object C) := by
      rcases ht with rfl | rfl | rfl | rfl
      · exact ⟨_, rfl⟩
      · exact ⟨_, rfl⟩
      · exact ⟨_, rfl⟩
      · exact ⟨_, rfl⟩
    obtain ⟨C, hty⟩ := hty
    refine va_aldq hx hb hcx.2.2.2.2.2.2.2.2.2.1 hP (o - 2) (t - 1) (by rw [zWs_get h2 hzo, zE_ref hs (by omega) (by omega)]) hty (zin hir h0 h1) hdg ?_
    rw [zI_nat hir]
    exact w)
/-- the class of what an array of a kind holds -/
def zKc (t : Nat) : Nat := if t = 2 then 4 else if t = 3 then 6 else if t = 4 then 2 else 8
theorem x_aastore {o n t v : Nat} {i : Int} (hdg : decode μ.2.1 pc = .ok (.aastore, 1)) (hs : mS M o = (t, n)) (ht : t = 2 ∨ t = 3 ∨ t = 4 ∨ t = 5) (hv : (mS M v).1 = 10 + zKc t) (h0 : 0 ≤ i) (h1 : i < n) (kk : Xr E d μ (pc + 1) L st (sR M o i.toNat v) r M1) : Xr E d μ pc L (zr v :: zi i :: zr o :: st) M r M1 := by
  refine ⟨kk.1, fun p l e R s m args below meth c H locs cells slots D cA ad A H0 ls b Q hcx hscr hst hS hcl hsl fin => ?_⟩
  obtain ⟨hP, hD, hw, hL, hg, hgL⟩ := hst
  obtain ⟨h2, hzo⟩ := hw.2.2.1 o (by rw [hs]; show t ≠ 0; omega)
  obtain ⟨v2, hzv⟩ := hw.2.2.1 v (by rw [hv]; omega)
  have hir : inR i := gd_hi (gd_tl hg)
  show W _ _ _ _ _ _ _ _ _ _ _ _ _ _ _ (F0 _ pc _ (zc _ (zr v) :: .int (Int32.ofInt i) :: zc _ (zr o) :: st.map (zc _)))
  rw [zc_ref h2, zc_ref v2]
  obtain ⟨q, hc, hty⟩ : ∃ q : vw_C, zCl[zKc t]? = some q ∧ (zTys cA)[t - 1]? = some (cA (t - 1), .object q.1) := by
    rcases ht with rfl | rfl | rfl | rfl
    · exact ⟨_, rfl, rfl⟩
    · exact ⟨_, rfl, rfl⟩
    · exact ⟨_, rfl, rfl⟩
    · exact ⟨_, rfl, rfl⟩
  refine va_astq hcx.1 hcx.2.1 hcx.2.2.2.2.2.2.2.2.2.1 hP hD hS (o - 2) (t - 1) (v - 2) (zKc t) (by rw [zWs_get h2 hzo, zE_ref hs (by omega) (by omega)]) hty (by rw [zWs_get v2 hzv, zE_obj hv]) hc (zin hir h0 h1) hdg (fun H1 locs1 hP1 hD1 hS1 => ?_)
  have hset : zWs cA ad (sR M o i.toNat v) = (zWs cA ad M).set (o - 2) (ad (o - 1), .inl (cA (t - 1), (n, .inr (.inr (.inr (.inr (va_up (fun j => zo ad (mR M o j)) (Int32.ofInt i).toNatClampNeg (some (ad (v - 1)))))))))) := by
    refine zWs_set h2 rfl (fun a ha => zE_ne rfl (fun j => rfl) (fun j => by rw [mR_sR, if_neg (fun q => ha q.1)])) ?_
    rw [zE_ref (n := n) (t := t) (by rw [mS_sR]; exact hs) (by omega) (by omega), zI_nat hir]
    congr 7
    funext j
    rw [mR_sR]
    unfold va_up
    by_cases hj : j = i.toNat
    · rw [if_pos ⟨rfl, hj⟩, if_pos hj]
      obtain ⟨k, rfl⟩ : ∃ k, v = k + 1 := ⟨v - 1, by omega⟩
      rfl
    · rw [if_neg (fun q => hj q.2), if_neg hj]
  rw [← hset] at hP1 hD1
  exact kk.2 p l e R s m args below meth c H1 locs1 cells slots D cA ad A H0 ls b Q hcx hscr ⟨hP1, hD1, hw.sR o _ (gd_hd hg), hL, gd_tl (gd_tl (gd_tl hg)), hgL⟩ hS1 hcl hsl fin
theorem x_alen {o n t : Nat} (hdg : decode μ.2.1 pc = .ok (.arraylength, 1)) (hs : mS M o = (t, n)) (ht : 1 ≤ t ∧ t < 6) (hn : n < 2147483648) (kk : Xr E d μ (pc + 1) L (zi n :: st) M r M1) : Xr E d μ pc L (zr o :: st) M r M1 :=
  kk.op (fun hw h _ => gd_cons ⟨by omega, by omega⟩ (gd_tl h)) (fun {p l e R s m args below meth c H H0 locs cells slots D cA ad A ls b Q} hx hb hcx _ hst _ _ w => by
    obtain ⟨hP, hD, hw, hL, hg, hgL⟩ := hst
    obtain ⟨h2, hzo⟩ := hw.2.2.1 o (by rw [hs]; show t ≠ 0; omega)
    show W _ _ _ _ _ _ _ _ _ _ _ _ _ _ _ (F0 _ pc _ (zc _ (zr o) :: st.map (zc _)))
    rw [zc_ref h2]
    by_cases h1 : t = 1
    · subst h1
      exact va_alen hx hb hcx.2.2.2.2.2.2.2.2.2.1 hP (o - 2) 0 (x := (n, .inl (fun j => Int32.ofInt (mI M o j)))) (by rw [zWs_get h2 hzo, zE_int hs]) rfl (v := Int32.ofInt n) rfl hdg w
    · have hty : ∃ C, (zTys cA)[t - 1]? = some (cA (t - 1), .object C) := by
        rcases (show t = 2 ∨ t = 3 ∨ t = 4 ∨ t = 5 by omega) with rfl | rfl | rfl | rfl
        · exact ⟨_, rfl⟩
        · exact ⟨_, rfl⟩
        · exact ⟨_, rfl⟩
        · exact ⟨_, rfl⟩
      obtain ⟨C, hty⟩ := hty
      exact va_alen hx hb hcx.2.2.2.2.2.2.2.2.2.1 hP (o - 2) (t - 1) (x := (n, .inr (.inr (.inr (.inr (fun j => zo ad (mR M o j))))))) (by rw [zWs_get h2 hzo, zE_ref hs (by omega) (by omega)]) hty (v := Int32.ofInt n) rfl hdg w)
end ZMEM
