/-! contracts over the small machine: calls, returns, a method's begin -/
def zTs (ν : ZMeth) : List Cond := Cond.code ν.1 ν.2.1 ν.2.2.1 ν.2.2.2.1 :: zTb
def zPc (D : va_G) (cA : Nat → ClassId) (ad : Nat → Nat) (sz : Nat) (M : ZMem) (args : List ZV) : Array Value → State → Prop :=
  va_Pc (args.map (zc ad)) (fun U => U.heap.size = sz ∧ va_P D zCl (zWs cA ad M) U.heap ∧ va_K D zCl (zTys cA) U ∧ va_D (fun _ => True) (zWs cA ad M) ∧ zNw U)
def zQc (D : va_G) (cA : Nat → ClassId) (ad : Nat → Nat) (sz : Nat) (M : ZMem) (v : Option ZV) (M2 : ZMem) : Array Value → State → Outcome → State → Prop := fun _ st oc t =>
  (∃ ad1, oc = .returned (v.map (zc ad1)) ∧ va_P D zCl (zWs cA ad1 M2) t.heap ∧ va_D (va_A (zWs cA ad M) sz) (zWs cA ad1 M2) ∧ ∀ i, i < mz M → ad1 i = ad i) ∧ va_F (va_A (zWs cA ad M) sz) st t
def zRm (d : Nat) (M M2 : ZMem) : Room := { frames := d + 1, cells := mz M2 - mz M, slots := mw M2 - mw M, locals := (d + 1) * 39 }
/-- the method, from these arguments in this memory, returns v and leaves M2; d calls deep -/
def ClR (d : Nat) (ν : ZMeth) (args : List ZV) (M : ZMem) (v : Option ZV) (M2 : ZMem) : Prop :=
  (mz M ≤ mz M2 ∧ mw M ≤ mw M2) ∧ (zWf M → (∀ w ∈ args, gd (mz M) w) → (∀ l D cA ad sz, Met l ν.1 (zTs ν) (zRm d M M2) (zPc D cA ad sz M args) (fun a st o t => zQc D cA ad sz M v M2 a st o t ∧ zWf M2 ∧ ∀ w ∈ v.toList, gd (mz M2) w) (mz M2 - mz M) (mw M2 - mw M) (va_A (zWs cA ad M) sz)))
theorem zTs_good {ν : ZMeth} (h : Cond.code ν.1 ν.2.1 ν.2.2.1 ν.2.2.2.1 ∈ zTb) : GoodIn zTb (zTs ν) := fun w hw => by
  have hm : w ∈ zTb := by
    rcases List.mem_cons.mp hw with rfl | q
    · exact h
    · exact q
  exact ⟨hm, good_of_word (z_good hm)⟩
theorem zPc_blind {D : va_G} {cA : Nat → ClassId} {ad : Nat → Nat} {sz : Nat} {M : ZMem} {args : List ZV} : FrameBlind (zPc D cA ad sz M args) := fun a U g mk q =>
  ⟨q.1, q.2.1, q.2.2.1, va_K.moved (u := U) (U := U.calling g mk a) (Vm.Alike.refl U.vm) q.2.2.2.1, q.2.2.2.2.1, zNw.same rfl q.2.2.2.2.2⟩
section ZCALL
variable {E : ZE} {d : Nat} {μ : ZMeth} {pc : Nat} {L : List (Option ZV)} {st : List ZV} {M : ZMem} {r : Option ZV} {M1 : ZMem}
/-- what a call needs at its start, and what follows from its run -/
theorem Xr.call {ν : ZMeth} {args stA : List ZV} {v : Option ZV} {M2 : ZMem} (hM : ClR d ν args M v M2) (k : Xr E (d + 1) μ (pc + 3) L (v.toList ++ st) M2 r M1)
    (hargs : ∀ w, w ∈ args → w ∈ stA) (hst0 : ∀ w, w ∈ st → w ∈ stA)
    (hrun : ∀ {p : Program} {l : Launch} {e : Env} {R : Room} {s : State} {m : MethodId} {args' : Array Value} {below : List Frame} {meth : Method} {c : Code} {H H0 : Heap} {locs : List Loc} {cells slots : Nat} {D : va_G} {cA : Nat → ClassId} {ad : Nat → Nat} {A : Nat → Prop} {ls : Array Slot}, zCx (d + 1) μ p R s m args' meth c D cA A H0 → zSt μ.2.2.1 D cA ad A L stA M H ls → va_S A H0 H locs → cells + (mz M2 - mz M) ≤ R.cells → slots + (mw M2 - mw M) ≤ R.slots → (zRm d M M2).frames + 1 ≤ R.frames → 8 + (20 + 11) + (zRm d M M2).locals ≤ R.locals →
      Met l ν.1 (zTs ν) (zRm d M M2) (zPc D cA ad H.size M args) (fun a st o t => zQc D cA ad H.size M v M2 a st o t ∧ zWf M2 ∧ ∀ w ∈ v.toList, gd (mz M2) w) (mz M2 - mz M) (mw M2 - mw M) (va_A (zWs cA ad M) H.size) →
      (∀ U : State, U.heap = H → s.WarmedH U.vm → zPc D cA ad H.size M args (args.map (zc ad)).toArray U) →
      va_Run p l e R s m args' below meth c H locs cells slots (mz M2 - mz M) (mw M2 - mw M) (F0 m pc ls (stA.map (zc ad))) (st.map (zc ad)) ((fun a st o t => zQc D cA ad H.size M v M2 a st o t ∧ zWf M2 ∧ ∀ w ∈ v.toList, gd (mz M2) w) (args.map (zc ad)).toArray) (va_A (zWs cA ad M) H.size)) :
    Xr E (d + 1) μ pc L stA M r M1 := by
  have hm1 := hM.1
  have hk1 := k.1
  refine ⟨⟨by omega, by omega⟩, fun p l e R s m args' below meth c H locs cells slots D cA ad A H0 ls b Q hcx hscr hst hS hc hs fin => ?_⟩
  have hst' := hst
  obtain ⟨hP, hD, hw, hL, hg, hgL⟩ := hst'
  have hcx' := hcx
  obtain ⟨hx, hb, hml, hrt, hts, hnw, hown, hlk, hini, hK, hA, hfr, hlo⟩ := hcx'
  have hrun' := hrun (cells := cells) (slots := slots) (below := below) (l := l) (e := e) hcx hst hS (by omega) (by omega) (by show d + 1 + 1 ≤ R.frames; exact hfr) (by show 8 + (20 + 11) + (d + 1) * 39 ≤ R.locals; omega) (hM.2 hw (fun w hw' => hg w (hargs w hw')) l D cA ad H.size)
    (fun U hU hW => ⟨rfl, by rw [hU], by rw [hU]; exact hP, va_K.moved hW.alike hK, hD.weaken (fun _ _ _ _ => trivial), hnw.warm hW⟩)
  intro T hT X
  obtain ⟨v', st₀, t, T', Lc, h0, X', hLc, e1, e2, ⟨⟨⟨ad1, hv, hP1, hD1, hag⟩, hF1, hF2⟩, hw2, hg2⟩, hgo⟩ := hrun' T hT X
  have hvm : s.vm.Alike T'.vm := X'.warmed.alike
  cases hv
  rw [h0] at hF1 hF2
  rw [← e1] at hP1 hF1 hF2
  have hsub : ∀ q, va_A (zWs cA ad M) H.size q → A q := fun q hq => by
    rcases hq with ⟨i, x, hi⟩ | hq
    · exact hD.2 i (q, x) hi
    · exact hA q (Nat.le_trans hS.1 hq)
  have hSn : va_S A H0 T'.heap (locs ++ Lc) := ⟨Nat.le_trans hS.1 hF1, fun q q1 q2 => by rw [hF2 q (Nat.lt_of_lt_of_le q1 hS.1) (fun z => q2 (hsub q z))]; exact hS.2.1 q q1 q2, fun q hq => by
    rcases List.mem_append.mp hq with hq | hq
    · exact hS.2.2 q hq
    · exact hsub _ (hLc q hq)⟩
  have hconc : ∀ w, gd (mz M) w → zc ad1 w = zc ad w := fun w hw' => by
    match w, hw' with
    | .inl x, _ => rfl
    | .inr (.inl 0), _ => rfl
    | .inr (.inl (j + 1)), hw' => show va_rf (some (ad1 j)) = va_rf (some (ad j)); rw [hag j hw']
    | .inr (.inr x), _ => rfl
  have hstc : st.map (zc ad1) = st.map (zc ad) := List.map_congr_left fun w hw' => hconc w (hg w (hst0 w hw'))
  have hk := k.2 p l e R s m args' below meth c T'.heap (locs ++ Lc) (cells + (mz M2 - mz M)) (slots + (mw M2 - mw M)) D cA ad1 A H0 ls b Q hcx (hscr.up (hag 0 (by have := hw.2.2.2; omega)))
    ⟨hP1, hD1.weaken (fun j q _ hq => hsub q.1 hq), hw2, ⟨hL.1, hL.2.1, fun j w hj => by rw [hconc w (hgL w (List.mem_of_getElem? hj))]; exact hL.2.2 j w hj⟩, fun w hw' => by
      rcases List.mem_append.mp hw' with q | q
      · exact hg2 w q
      · exact gd_mono hm1.1 (hg w (hst0 w q)), fun w hw' => gd_mono hm1.1 (hgL w hw')⟩ hSn (by omega) (by omega)
    (fun pc1 ls1 ad2 H2 locs2 hr g1 g2 g3 g4 hag2 g5 => by
      have h2 := fin pc1 ls1 ad2 H2 locs2 hr g1 g2 g3 g4 (fun i hi => by rw [hag2 i (by omega), hag i hi]) g5
      rw [show cells + (mz M2 - mz M) + (mz M1 - mz M2) = cells + (mz M1 - mz M) by omega, show slots + (mw M2 - mw M) + (mw M1 - mw M2) = slots + (mw M1 - mw M) by omega]
      exact h2)
  rw [List.map_append, hstc] at hk
  obtain ⟨t2, a1, b1⟩ := hk T' rfl X'
  refine ⟨t2, hgo t2 ?_, b1⟩
  have e3 : (v.map (zc ad1)).toList = v.toList.map (zc ad1) := by cases v <;> rfl
  rw [e3]
  exact a1
theorem zsum_le {ad : Nat → Nat} (h : ∀ ad : Nat → Nat, ((st.map (zc ad)).map fun v => v.category).sum ≤ 8) {m : MethodId} {pc : Nat} {ls : Array Slot} {rest : List Value} : 2 * (F0 m pc ls rest).monitorRoom + ((st.map (zc ad)).map fun v => v.category).sum ≤ 8 := lv_room (h ad)
theorem x_callV {ν : ZMeth} {i n o : Nat} {as : List ZV} {v : Option ZV} {M2 : ZMem} (hk : zKV ν n) (hl : zML μ.2.2.2.2 i ν.1) (hdg : decode μ.2.1 pc = .ok (.invokevirtual i, 3)) (hn : as.length = n) (hml : ν.2.2.1 ≤ 20) (hst0 : ∀ ad : Nat → Nat, ((st.map (zc ad)).map fun v => v.category).sum ≤ 8) {ci : Nat} (ho : (mS M o).1 = 10 + ci) (hcl : ∃ T N, zCl[ci]? = some (ν.1.cls, T, N))
    (hM : ClR d ν (zr o :: as) M v M2) (k : Xr E (d + 1) μ (pc + 3) L (v.toList ++ st) M2 r M1) : Xr E (d + 1) μ pc L (as.reverse ++ zr o :: st) M r M1 := by
  refine Xr.call hM k (fun w hw => ?_) (fun w hw => ?_) (fun {p l e R s m args' below meth c H H0 locs cells slots D cA ad A ls} hcx hst hS hc hs hr1 hr2 hMet hpre => ?_)
  · rcases List.mem_cons.mp hw with rfl | q
    · exact List.mem_append_right _ List.mem_cons_self
    · exact List.mem_append_left _ (List.mem_reverse.mpr q)
  · exact List.mem_append_right _ (List.mem_cons_of_mem _ hw)
  obtain ⟨hP, hD, hw, hL, hg, hgL⟩ := hst
  obtain ⟨hx, hb, hmx, hrt, hts, hnw, hown, hlk, hini, hK, hA, hfr, hlo⟩ := hcx
  obtain ⟨kc, ki, ⟨kn1, kn2, kn3⟩, kin, ksel⟩ := hk
  obtain ⟨h2, hz⟩ := hw.2.2.1 o (by rw [ho]; omega)
  obtain ⟨T, N, hc0⟩ := hcl
  have hrecv := va_recv hK hP hc0 (q0 := o - 2) (by rw [zWs_get h2 hz, zE_obj ho])
  have e1 : ((as.reverse ++ zr o :: st).map (zc ad)) = (as.map (zc ad)).reverse ++ .ref (ad (o - 1)) :: st.map (zc ad) := by
    rw [List.map_append, List.map_reverse, List.map_cons, zc_ref h2]
  have e2 : ((zr o :: as).map (zc ad)).toArray = (Value.ref (ad (o - 1)) :: as.map (zc ad)).toArray := by rw [List.map_cons, zc_ref h2]
  rw [e2] at hpre ⊢
  rw [e1]
  have hlen : (as.map (zc ad)).length = n := by rw [List.length_map]; exact hn
  rcases hl with hl | ⟨host, hl⟩
  · refine va_runV (C := ν.1.cls) (Ts := zTb) ⟨hx, hb, hmx, hown, hts⟩ hMet ⟨callB_of n hts (zTs_good kc) rfl rfl rfl (hts _ ki) (hts _ hl) ⟨kn1, kn2, kn3⟩ ⟨hr1, by omega⟩, hts _ kin, hts _ ksel⟩ ⟨zPc_blind, hrecv, hpre⟩ rfl hlen hL.1 rfl (zsum_le hst0) hdg ⟨hc, hs⟩
  · refine va_runVN (C := ν.1.cls) (Ts := zTb) ⟨hx, hb, hmx, hown, hts⟩ hMet ⟨va_cnB n hts (zTs_good kc) rfl rfl rfl (hnw.2.1 _ _ _ _ hl) (hts _ ki) ⟨kn1, kn2, kn3⟩ ⟨hr1, by omega⟩, hts _ kin, hts _ ksel⟩ ⟨zPc_blind, hrecv, hpre⟩ rfl hlen hL.1 rfl (zsum_le hst0) hdg ⟨hc, hs⟩
theorem x_callS {ν : ZMeth} {i n : Nat} {as : List ZV} {v : Option ZV} {M2 : ZMem} (hk : zKS ν n) (hl : zML μ.2.2.2.2 i ν.1) (hdg : decode μ.2.1 pc = .ok (.invokestatic i, 3)) (hn : as.length = n) (hml : ν.2.2.1 ≤ 20) (hst0 : ∀ ad : Nat → Nat, ((st.map (zc ad)).map fun v => v.category).sum ≤ 8)
    (hM : ClR d ν as M v M2) (k : Xr E (d + 1) μ (pc + 3) L (v.toList ++ st) M2 r M1) : Xr E (d + 1) μ pc L (as.reverse ++ st) M r M1 := by
  refine Xr.call hM k (fun w hw => List.mem_append_left _ (List.mem_reverse.mpr hw)) (fun w hw => List.mem_append_right _ hw) (fun {p l e R s m args' below meth c H H0 locs cells slots D cA ad A ls} hcx hst hS hc hs hr1 hr2 hMet hpre => ?_)
  obtain ⟨hP, hD, hw, hL, hg, hgL⟩ := hst
  obtain ⟨hx, hb, hmx, hrt, hts, hnw, hown, hlk, hini, hK, hA, hfr, hlo⟩ := hcx
  obtain ⟨kc, ki, ⟨kn1, kn2, kn3⟩, kst⟩ := hk
  rw [show ((as.reverse ++ st).map (zc ad)) = (as.map (zc ad)).reverse ++ st.map (zc ad) by rw [List.map_append, List.map_reverse]]
  have hlen : (as.map (zc ad)).length = n := by rw [List.length_map]; exact hn
  rcases hl with hl | ⟨host, hl⟩
  · exact va_runS (Ts := zTb) ⟨hx, hb, hmx, hown, hts⟩ hMet ⟨callB_of n hts (zTs_good kc) rfl rfl rfl (hts _ ki) (hts _ hl) ⟨kn1, kn2, kn3⟩ ⟨hr1, by omega⟩, hts _ kst⟩ ⟨zPc_blind, hpre⟩ rfl hlen hL.1 rfl (zsum_le hst0) hdg ⟨hc, hs⟩
  · exact va_runSN (Ts := zTb) ⟨hx, hb, hmx, hown, hts⟩ hMet ⟨va_cnB n hts (zTs_good kc) rfl rfl rfl (hnw.2.1 _ _ _ _ hl) (hts _ ki) ⟨kn1, kn2, kn3⟩ ⟨hr1, by omega⟩, hts _ kst, trivial⟩ ⟨zPc_blind, hpre⟩ rfl hlen hL.1 rfl (zsum_le hst0) hdg ⟨hc, hs⟩
theorem x_callI {ν : ZMeth} {i n o : Nat} {as : List ZV} {M2 : ZMem} (hk : zKI ν n) (hl : Cond.methodLink μ.2.2.2.2 i ν.1 ∈ zTb) (ho2 : 2 ≤ o) (hdg : decode μ.2.1 pc = .ok (.invokespecial i, 3)) (hn : as.length = n) (hml : ν.2.2.1 ≤ 20) (hst0 : ∀ ad : Nat → Nat, ((st.map (zc ad)).map fun v => v.category).sum ≤ 8)
    (hM : ClR d ν (zr o :: as) M none M2) (k : Xr E (d + 1) μ (pc + 3) L st M2 r M1) : Xr E (d + 1) μ pc L (as.reverse ++ zr o :: st) M r M1 := by
  refine Xr.call (v := none) hM k (fun w hw => ?_) (fun w hw => ?_) (fun {p l e R s m args' below meth c H H0 locs cells slots D cA ad A ls} hcx hst hS hc hs hr1 hr2 hMet hpre => ?_)
  · rcases List.mem_cons.mp hw with rfl | q
    · exact List.mem_append_right _ List.mem_cons_self
    · exact List.mem_append_left _ (List.mem_reverse.mpr q)
  · exact List.mem_append_right _ (List.mem_cons_of_mem _ hw)
  obtain ⟨hP, hD, hw, hL, hg, hgL⟩ := hst
  obtain ⟨hx, hb, hmx, hrt, hts, hnw, hown, hlk, hini, hK, hA, hfr, hlo⟩ := hcx
  obtain ⟨kc, ki, ⟨kn1, kn2, kn3⟩, kin, knm, krt⟩ := hk
  have e1 : ((as.reverse ++ zr o :: st).map (zc ad)) = (as.map (zc ad)).reverse ++ .ref (ad (o - 1)) :: st.map (zc ad) := by
    rw [List.map_append, List.map_reverse, List.map_cons, zc_ref ho2]
  have e2 : ((zr o :: as).map (zc ad)).toArray = (Value.ref (ad (o - 1)) :: as.map (zc ad)).toArray := by rw [List.map_cons, zc_ref ho2]
  rw [e2] at hpre ⊢
  rw [e1]
  have hlen : (as.map (zc ad)).length = n := by rw [List.length_map]; exact hn
  obtain ⟨y, bts, mx, rt, ow⟩ := ν
  dsimp only at krt
  subst krt
  exact va_runI (Ts := zTb) ⟨hx, hb, hmx, hown, hts⟩ hMet ⟨callB_of n hts (zTs_good kc) rfl rfl rfl (hts _ ki) (hts _ hl) ⟨kn1, kn2, kn3⟩ ⟨hr1, by have : mx ≤ 20 := hml; omega⟩, knm, hts _ kin⟩ ⟨zPc_blind, hpre⟩ rfl hlen hL.1 rfl (zsum_le hst0) hdg ⟨hc, hs⟩
theorem x_ret {v : Option ZV} (h : zRet μ pc v) : Xr E d μ pc L v.toList M v M := by
  refine ⟨⟨Nat.le_refl _, Nat.le_refl _⟩, fun p l e R s m args below meth c H locs cells slots D cA ad A H0 ls b Q hcx hscr hst hS hc hs fin => ?_⟩
  have h2 := fin pc ls ad H locs h hst.1 hst.2.1 hst.2.2.1 hst.2.2.2.2.1 (fun _ _ => rfl) hS
  rw [Nat.sub_self, Nat.sub_self, Nat.add_zero, Nat.add_zero] at h2
  exact h2
/-- a method's contract out of its walk from the entry -/
theorem ClR.ofL {args : List ZV} {L : List (Option ZV)} {v : Option ZV} {M2 : ZMem} (hp : plainName μ.1.cls = true) (hown : μ.1.cls = μ.2.2.2.2) (hlen : ∀ ad : Nat → Nat, (lg_sl (args.map (zc ad))).length ≤ μ.2.2.1) (hL0 : ∀ (ad : Nat → Nat) (j : Nat) (w : ZV), L[j]? = some (some w) → (j, zc ad w) ∈ lv_args 0 (args.map (zc ad)) ∧ w ∈ args) (k : Xr none d μ 0 L [] M v M2) : ClR d μ args M v M2 := by
  refine ⟨k.1, fun hw hga l D cA ad sz => ?_⟩
  refine Met.ofW (cc := μ.2.1) (maxL := μ.2.2.1) (ret := μ.2.2.2.1) hp rfl ?_
  intro p e s m args' below meth c s₁ B hml hv
  obtain ⟨rfl, hsz, hP, hK, hD0, hnw⟩ := hv
  have hts := atoms_spec (ws := zTs μ) B.pre
  have hownC : s.vm.findClass μ.2.2.2.2 = some m.cls := by rw [← hown]; exact findClass_of_methodNamed B.named
  subst hsz
  have hD := hD0.self (sz := s.heap.size)
  have hl := lv_entry (args.map (zc ad)) (n := μ.2.2.1) (hlen ad)
  rw [lg_entry_eq]
  generalize (lg_sl (args.map (zc ad)) ++ List.replicate (μ.2.2.1 - (lg_sl (args.map (zc ad))).length) Slot.unset).toArray = ls at hl ⊢
  have hcx : zCx d μ p (headSpec (zTs μ) (zRm d M M2)).room s m (args.map (zc ad)).toArray meth c D cA (va_A (zWs cA ad M) s.heap.size) s.heap :=
    ⟨B.exec, B.bytes, hml, B.returns, fun w hw' => hts w (List.mem_cons_of_mem _ hw'), hnw, hownC, B.notSynchronized, fun hn => by rw [(name_of_methodNamed B.named B.method).1]; exact hn, hK, fun q hq => Or.inr hq, Nat.le_refl _, Nat.le_refl _⟩
  refine k.2 p l e _ s m _ below meth c s.heap [] 0 0 D cA ad _ s.heap ls 0 _ hcx trivial ⟨hP, hD, hw, ⟨hl.1, hl.2.1, fun j w hj => ?_⟩, fun w hw' => (by cases hw'), fun w hw' => ?_⟩ va_S.rf (by show 0 + (mz M2 - mz M) ≤ mz M2 - mz M; omega) (by show 0 + (mw M2 - mw M) ≤ mw M2 - mw M; omega) ?_
  · exact hl.2.2 _ (hL0 ad j w hj).1
  · obtain ⟨j, hj⟩ := List.getElem?_of_mem hw'
    exact hga w (hL0 ad j w hj).2
  · intro pc1 ls1 ad1 H1 locs1 hr g1 g2 g3 g4 hag hS1
    rw [Nat.zero_add, Nat.zero_add]
    have hq : ∀ t : State, t.heap = H1 → s.WarmedH t.vm → (fun a st o t => zQc D cA ad s.heap.size M v M2 a st o t ∧ zWf M2 ∧ ∀ w ∈ v.toList, gd (mz M2) w) (args.map (zc ad)).toArray s (.returned (v.map (zc ad1))) t := fun t ht hW =>
      ⟨⟨⟨ad1, rfl, by rw [ht]; exact g1, g2, hag⟩, hS1.F ht⟩, g3, g4⟩
    have hlk := B.notSynchronized
    match v, hr, hq with
    | none, hr, hq => exact W.vret (Qc := fun a st o t => zQc D cA ad s.heap.size M none M2 a st o t ∧ zWf M2 ∧ ∀ w ∈ (none : Option ZV).toList, gd (mz M2) w) B.exec B.bytes (by rw [B.returns]; exact hr.2) hq hS1.2.2 hr.1 hlk
    | some (.inl x), hr, hq =>
      rcases hr.2 with h | ⟨h, h01⟩
      · exact W.iret (Qc := fun a st o t => zQc D cA ad s.heap.size M (some (.inl x)) M2 a st o t ∧ zWf M2 ∧ ∀ w ∈ (some (.inl x) : Option ZV).toList, gd (mz M2) w) B.exec B.bytes (by rw [B.returns]; exact h) hq hS1.2.2 hr.1 hlk
      · refine W.zret (ty := .boolean) (Qc := fun a st o t => zQc D cA ad s.heap.size M (some (.inl x)) M2 a st o t ∧ zWf M2 ∧ ∀ w ∈ (some (.inl x) : Option ZV).toList, gd (mz M2) w) B.exec B.bytes (by rw [B.returns]; exact h) ?_ hq hS1.2.2 hr.1 hlk
        rcases h01 with rfl | rfl
        · decide
        · decide
    | some (.inr (.inl o)), hr, hq =>
      obtain ⟨n, h⟩ := hr.2
      exact W.aret (Qc := fun a st oc t => zQc D cA ad s.heap.size M (some (.inr (.inl o))) M2 a st oc t ∧ zWf M2 ∧ ∀ w ∈ (some (.inr (.inl o)) : Option ZV).toList, gd (mz M2) w) B.exec B.bytes (by rw [B.returns]; exact h) (Or.inl ⟨n, rfl⟩) (va_rf_or _) hq hS1.2.2 hr.1 hlk
theorem ClR.of {args : List ZV} {v : Option ZV} {M2 : ZMem} (hp : plainName μ.1.cls = true) (hown : μ.1.cls = μ.2.2.2.2) (hlen : args.length ≤ μ.2.2.1) (hnl : ∀ w ∈ args, ∀ x, w ≠ zl x) (k : Xr none d μ 0 (args.map some ++ List.replicate (μ.2.2.1 - args.length) none) [] M v M2) : ClR d μ args M v M2 := by
  have hcat : ∀ (ad : Nat → Nat), ∀ w ∈ args, (zc ad w).category = 1 := fun ad w hw' => by
    match w, hnl w hw' with
    | .inl x, _ => rfl
    | .inr (.inl x), _ => exact zc_cat ad x
    | .inr (.inr x), h => exact absurd rfl (h x)
  have hsl : ∀ (ad : Nat → Nat) (as : List ZV), (∀ w ∈ as, (zc ad w).category = 1) → (lg_sl (as.map (zc ad))).length = as.length := by
    intro ad as
    induction as with
    | nil => intro _; rfl
    | cons w as ih =>
      intro h
      have h1 := h w List.mem_cons_self
      have h2 := ih (fun w hw' => h w (List.mem_cons_of_mem _ hw'))
      simp [lg_sl, h1] at h2 ⊢
      try exact h2
      try omega
  have hla : ∀ (ad : Nat → Nat) (as : List ZV) (n : Nat), (∀ w ∈ as, (zc ad w).category = 1) → ∀ (j : Nat) (w : ZV), as[j]? = some w → (n + j, zc ad w) ∈ lv_args n (as.map (zc ad)) := by
    intro ad as
    induction as with
    | nil => intro n _ j w hj; simp at hj
    | cons a as ih =>
      intro n h j w hj
      have h1 := h a List.mem_cons_self
      cases j with
      | zero =>
        simp at hj
        subst hj
        exact List.mem_cons_self
      | succ j =>
        have h3 := ih (n + 1) (fun w hw' => h w (List.mem_cons_of_mem _ hw')) j w (by simpa using hj)
        refine List.mem_cons_of_mem _ ?_
        rw [show n + (j + 1) = n + 1 + j by omega]
        have : ¬ (zc ad a).category = 2 := by omega
        simp only [this, if_false]
        exact h3
  refine ClR.ofL hp hown (fun ad => by rw [hsl ad args (hcat ad)]; exact hlen) (fun ad j w hj => ?_) k
  have hj' : args[j]? = some w := by
    by_cases hjl : j < args.length
    · rw [List.getElem?_append_left (by rw [List.length_map]; exact hjl), List.getElem?_map] at hj
      cases ha : args[j]? with
      | none => rw [ha] at hj; cases hj
      | some a => rw [ha] at hj; cases hj; rfl
    · rw [List.getElem?_append_right (by rw [List.length_map]; omega)] at hj
      have := List.eq_of_mem_replicate (List.mem_of_getElem? hj)
      cases this
  have h1 := hla ad args 0 (hcat ad) j w hj'
  exact ⟨by simpa using h1, List.mem_of_getElem? hj'⟩
theorem zI_l {x : Int} (h : inR x) : (Int32.ofInt x).toInt64 = Int64.ofInt x := by
  apply Int64.toInt_inj.mp
  rw [Int32.toInt_toInt64, zI_toInt h, Int64.toInt_ofInt_of_le (by have := h.1; omega) (by have := h.2; omega)]
def inL (x : Int) : Prop := -9223372036854775808 ≤ x ∧ x ≤ 9223372036854775807
theorem zJ_toInt {x : Int} (h : inL x) : (Int64.ofInt x).toInt = x := Int64.toInt_ofInt_of_le h.1 (by have := h.2; omega)
theorem zJ_lt {x y : Int} (hx : inL x) (hy : inL y) : Int64.ofInt x < Int64.ofInt y ↔ x < y := by
  rw [Int64.lt_iff_toInt_lt, zJ_toInt hx, zJ_toInt hy]
theorem x_i2l {x : Int} (hdg : decode μ.2.1 pc = .ok (.i2l, 1)) (k : Xr E d μ (pc + 1) L (zl x :: st) M r M1) : Xr E d μ pc L (zi x :: st) M r M1 :=
  k.op (fun _ h _ => gd_cons (by have := gd_hi h; exact ⟨by have := this.1; omega, by have := this.2; omega⟩) (gd_tl h)) (fun hx hb _ _ hs _ _ w => lv_i2l hx hb hdg (zI_l (gd_hi hs.2.2.2.2.1)) w)
theorem x_lconst {n : Fin 2} {x : Int} (hdg : decode μ.2.1 pc = .ok (.lconst n, 1)) (hv : inL x) (he : Int64.ofNat (n : Nat) = Int64.ofInt x) (k : Xr E d μ (pc + 1) L (zl x :: st) M r M1) : Xr E d μ pc L st M r M1 :=
  k.op (fun _ h _ => gd_cons hv h) (fun hx hb _ _ hs _ _ w => lv_lconst hx hb hdg he w)
theorem x_ldc2 {i : Nat} {v : Int64} {x : Int} (hw : Cond.constantLong μ.2.2.2.2 i v ∈ zTb) (hdg : decode μ.2.1 pc = .ok (.ldc2_w i, 3)) (hv : inL x) (he : v = Int64.ofInt x) (k : Xr E d μ (pc + 3) L (zl x :: st) M r M1) : Xr E d μ pc L st M r M1 := by
  subst he
  exact k.op (fun _ h _ => gd_cons hv h) (fun hx hb hc _ _ _ _ w => lv_ldc2 hx hb hc.2.2.2.2.2.2.1 (hc.2.2.2.2.1 _ hw) hdg w)
theorem x_lload {i : Nat} {x : Int} (hdg : decode μ.2.1 pc = .ok (.lload i, 2)) (hl : L[i]? = some (some (zl x))) (k : Xr E d μ (pc + 2) L (zl x :: st) M r M1) : Xr E d μ pc L st M r M1 :=
  k.op (fun _ h g => gd_cons (g _ (List.mem_of_getElem? hl)) h) (fun hx hb _ _ hs _ _ w => lv_lload hx hb hdg (hs.2.2.2.1.2.2 _ _ hl) w)
theorem x_lload_n {i : Nat} {j : Fin 4} {x : Int} (hdg : decode μ.2.1 pc = .ok (.lload_n j, 1)) (hj : (j : Nat) = i) (hl : L[i]? = some (some (zl x))) (k : Xr E d μ (pc + 1) L (zl x :: st) M r M1) : Xr E d μ pc L st M r M1 :=
  k.op (fun _ h g => gd_cons (g _ (List.mem_of_getElem? hl)) h) (fun hx hb _ _ hs _ _ w => lv_lload_n hx hb hdg hj (hs.2.2.2.1.2.2 _ _ hl) w)
end ZCALL
