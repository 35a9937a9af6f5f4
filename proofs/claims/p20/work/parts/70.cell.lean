/-! a static method that is told the script -/
def zPcX (q : Nat × (Nat → Int)) (D : va_G) (cA : Nat → ClassId) (ad : Nat → Nat) (sz : Nat) (M : ZMem) (args : List ZV) : Array Value → State → Prop :=
  va_Pc (args.map (zc ad)) (fun U => U.heap.size = sz ∧ va_P D zCl (zWs cA ad M) U.heap ∧ va_K D zCl (zTys cA) U ∧ va_D (fun _ => True) (zWs cA ad M) ∧ zNw U ∧ ∃ b, zScr (some q) b U (va_A (zWs cA ad M) sz) U.heap ad)
def ClX (q : Nat × (Nat → Int)) (d : Nat) (ν : ZMeth) (args : List ZV) (M : ZMem) (v : Option ZV) (M2 : ZMem) : Prop :=
  (mz M ≤ mz M2 ∧ mw M ≤ mw M2) ∧ (zWf M → (∀ w ∈ args, gd (mz M) w) → (∀ l D cA ad sz, Met l ν.1 (zTs ν) (zRm d M M2) (zPcX q D cA ad sz M args) (fun a st o t => zQc D cA ad sz M v M2 a st o t ∧ zWf M2 ∧ ∀ w ∈ v.toList, gd (mz M2) w) (mz M2 - mz M) (mw M2 - mw M) (va_A (zWs cA ad M) sz)))
theorem zPcX_blind {q : Nat × (Nat → Int)} {D : va_G} {cA : Nat → ClassId} {ad : Nat → Nat} {sz : Nat} {M : ZMem} {args : List ZV} : FrameBlind (zPcX q D cA ad sz M args) := fun a U g mk h =>
  ⟨h.1, h.2.1, h.2.2.1, va_K.moved (u := U) (U := U.calling g mk a) (Vm.Alike.refl U.vm) h.2.2.2.1, h.2.2.2.2.1, zNw.same rfl h.2.2.2.2.2.1, h.2.2.2.2.2.2.choose, (va_X.moved (u := U) (U := U.calling g mk a) (Vm.Alike.refl U.vm) h.2.2.2.2.2.2.choose_spec.1), h.2.2.2.2.2.2.choose_spec.2⟩
theorem scr_at {q : Nat × (Nat → Int)} {b : Nat} {s U : State} {A : Nat → Prop} {H0 H : Heap} {locs : List Loc} {cA : Nat → ClassId} {ad : Nat → Nat} {M : ZMem} (h : zScr (some q) b s A H0 ad) (hS : va_S A H0 H locs) (hD : va_D A (zWs cA ad M)) (hW : s.WarmedH U.vm) : zScr (some q) b U (va_A (zWs cA ad M) H.size) H ad := by
  obtain ⟨h1, h2, h3, h4, h5, h6⟩ := h
  refine ⟨(va_X.moved hW.alike h1).kept (hS.2.1 b h3 h2), ?_, Nat.lt_of_lt_of_le h3 hS.1, h4, h5, h6⟩
  rintro (⟨k, e, hk⟩ | hk)
  · exact h2 (hD.2 k (b, e) hk)
  · exact absurd (Nat.lt_of_lt_of_le h3 hS.1) (Nat.not_lt.mpr hk)
section ZCALLX
variable {d : Nat} {μ : ZMeth} {pc : Nat} {L : List (Option ZV)} {st : List ZV} {M : ZMem} {r : Option ZV} {M1 : ZMem}
/-- what a call needs at its start, and what follows from its run -/
theorem Xr.callX {q : Nat × (Nat → Int)} {ν : ZMeth} {args stA : List ZV} {v : Option ZV} {M2 : ZMem} (hM : ClX q d ν args M v M2) (k : Xr (some q) (d + 1) μ (pc + 3) L (v.toList ++ st) M2 r M1)
    (hargs : ∀ w, w ∈ args → w ∈ stA) (hst0 : ∀ w, w ∈ st → w ∈ stA)
    (hrun : ∀ {p : Program} {l : Launch} {e : Env} {R : Room} {s : State} {m : MethodId} {args' : Array Value} {below : List Frame} {meth : Method} {c : Code} {H H0 : Heap} {locs : List Loc} {cells slots : Nat} {D : va_G} {cA : Nat → ClassId} {ad : Nat → Nat} {A : Nat → Prop} {ls : Array Slot}, zCx (d + 1) μ p R s m args' meth c D cA A H0 → zSt μ.2.2.1 D cA ad A L stA M H ls → va_S A H0 H locs → cells + (mz M2 - mz M) ≤ R.cells → slots + (mw M2 - mw M) ≤ R.slots → (zRm d M M2).frames + 1 ≤ R.frames → 8 + (20 + 11) + (zRm d M M2).locals ≤ R.locals →
      Met l ν.1 (zTs ν) (zRm d M M2) (zPcX q D cA ad H.size M args) (fun a st o t => zQc D cA ad H.size M v M2 a st o t ∧ zWf M2 ∧ ∀ w ∈ v.toList, gd (mz M2) w) (mz M2 - mz M) (mw M2 - mw M) (va_A (zWs cA ad M) H.size) →
      (∀ U : State, U.heap = H → s.WarmedH U.vm → zPcX q D cA ad H.size M args (args.map (zc ad)).toArray U) →
      va_Run p l e R s m args' below meth c H locs cells slots (mz M2 - mz M) (mw M2 - mw M) (F0 m pc ls (stA.map (zc ad))) (st.map (zc ad)) ((fun a st o t => zQc D cA ad H.size M v M2 a st o t ∧ zWf M2 ∧ ∀ w ∈ v.toList, gd (mz M2) w) (args.map (zc ad)).toArray) (va_A (zWs cA ad M) H.size)) :
    Xr (some q) (d + 1) μ pc L stA M r M1 := by
  have hm1 := hM.1
  have hk1 := k.1
  refine ⟨⟨by omega, by omega⟩, fun p l e R s m args' below meth c H locs cells slots D cA ad A H0 ls b Q hcx hscr hst hS hc hs fin => ?_⟩
  have hst' := hst
  obtain ⟨hP, hD, hw, hL, hg, hgL⟩ := hst'
  have hcx' := hcx
  obtain ⟨hx, hb, hml, hrt, hts, hnw, hown, hlk, hini, hK, hA, hfr, hlo⟩ := hcx'
  have hrun' := hrun (cells := cells) (slots := slots) (below := below) (l := l) (e := e) hcx hst hS (by omega) (by omega) (by show d + 1 + 1 ≤ R.frames; exact hfr) (by show 8 + (20 + 11) + (d + 1) * 39 ≤ R.locals; omega) (hM.2 hw (fun w hw' => hg w (hargs w hw')) l D cA ad H.size)
    (fun U hU hW => ⟨rfl, by rw [hU], by rw [hU]; exact hP, va_K.moved hW.alike hK, hD.weaken (fun _ _ _ _ => trivial), hnw.warm hW, b, by rw [hU]; exact scr_at hscr hS hD hW⟩)
  intro T hT X
  obtain ⟨v', st₀, t, T', Lc, h0, X', hLc, e1, e2, ⟨⟨⟨ad1, hv, hP1, hD1, hag⟩, hF1, hF2⟩, hw2, hg2⟩, hgo⟩ := hrun' T hT X
  have hvm : s.vm.Alike T'.vm := X'.warmed.alike
  cases hv
  rw [h0] at hF1 hF2
  rw [← e1] at hP1 hF1 hF2
  have hsub : ∀ q, va_A (zWs cA ad M) H.size q → A q := fun q hq => by
    rcases hq with ⟨i, x, hi⟩ | hq
    · exact hD.2 i (q, x) hi
    · exact hA q (Nat.le_trans hS.1 hq)
  have hSn : va_S A H0 T'.heap (locs ++ Lc) := ⟨Nat.le_trans hS.1 hF1, fun q q1 q2 => by rw [hF2 q (Nat.lt_of_lt_of_le q1 hS.1) (fun z => q2 (hsub q z))]; exact hS.2.1 q q1 q2, fun q hq => by
    rcases List.mem_append.mp hq with hq | hq
    · exact hS.2.2 q hq
    · exact hsub _ (hLc q hq)⟩
  have hconc : ∀ w, gd (mz M) w → zc ad1 w = zc ad w := fun w hw' => by
    match w, hw' with
    | .inl x, _ => rfl
    | .inr (.inl 0), _ => rfl
    | .inr (.inl (j + 1)), hw' => show va_rf (some (ad1 j)) = va_rf (some (ad j)); rw [hag j hw']
    | .inr (.inr x), _ => rfl
  have hstc : st.map (zc ad1) = st.map (zc ad) := List.map_congr_left fun w hw' => hconc w (hg w (hst0 w hw'))
  have hk := k.2 p l e R s m args' below meth c T'.heap (locs ++ Lc) (cells + (mz M2 - mz M)) (slots + (mw M2 - mw M)) D cA ad1 A H0 ls b Q hcx (hscr.up (hag 0 (by have := hw.2.2.2; omega)))
    ⟨hP1, hD1.weaken (fun j q _ hq => hsub q.1 hq), hw2, ⟨hL.1, hL.2.1, fun j w hj => by rw [hconc w (hgL w (List.mem_of_getElem? hj))]; exact hL.2.2 j w hj⟩, fun w hw' => by
      rcases List.mem_append.mp hw' with q | q
      · exact hg2 w q
      · exact gd_mono hm1.1 (hg w (hst0 w q)), fun w hw' => gd_mono hm1.1 (hgL w hw')⟩ hSn (by omega) (by omega)
    (fun pc1 ls1 ad2 H2 locs2 hr g1 g2 g3 g4 hag2 g5 => by
      have h2 := fin pc1 ls1 ad2 H2 locs2 hr g1 g2 g3 g4 (fun i hi => by rw [hag2 i (by omega), hag i hi]) g5
      rw [show cells + (mz M2 - mz M) + (mz M1 - mz M2) = cells + (mz M1 - mz M) by omega, show slots + (mw M2 - mw M) + (mw M1 - mw M2) = slots + (mw M1 - mw M) by omega]
      exact h2)
  rw [List.map_append, hstc] at hk
  obtain ⟨t2, a1, b1⟩ := hk T' rfl X'
  refine ⟨t2, hgo t2 ?_, b1⟩
  have e3 : (v.map (zc ad1)).toList = v.toList.map (zc ad1) := by cases v <;> rfl
  rw [e3]
  exact a1
theorem x_callSX {q : Nat × (Nat → Int)} {ν : ZMeth} {i n : Nat} {as : List ZV} {v : Option ZV} {M2 : ZMem} (hk : zKS ν n) (hl : zML μ.2.2.2.2 i ν.1) (hdg : decode μ.2.1 pc = .ok (.invokestatic i, 3)) (hn : as.length = n) (hml : ν.2.2.1 ≤ 20) (hst0 : ∀ ad : Nat → Nat, ((st.map (zc ad)).map fun v => v.category).sum ≤ 8)
    (hM : ClX q d ν as M v M2) (k : Xr (some q) (d + 1) μ (pc + 3) L (v.toList ++ st) M2 r M1) : Xr (some q) (d + 1) μ pc L (as.reverse ++ st) M r M1 := by
  refine Xr.callX hM k (fun w hw => List.mem_append_left _ (List.mem_reverse.mpr hw)) (fun w hw => List.mem_append_right _ hw) (fun {p l e R s m args' below meth c H H0 locs cells slots D cA ad A ls} hcx hst hS hc hs hr1 hr2 hMet hpre => ?_)
  obtain ⟨hP, hD, hw, hL, hg, hgL⟩ := hst
  obtain ⟨hx, hb, hmx, hrt, hts, hnw, hown, hlk, hini, hK, hA, hfr, hlo⟩ := hcx
  obtain ⟨kc, ki, ⟨kn1, kn2, kn3⟩, kst⟩ := hk
  rw [show ((as.reverse ++ st).map (zc ad)) = (as.map (zc ad)).reverse ++ st.map (zc ad) by rw [List.map_append, List.map_reverse]]
  have hlen : (as.map (zc ad)).length = n := by rw [List.length_map]; exact hn
  rcases hl with hl | ⟨host, hl⟩
  · exact va_runS (Ts := zTb) ⟨hx, hb, hmx, hown, hts⟩ hMet ⟨callB_of n hts (zTs_good kc) rfl rfl rfl (hts _ ki) (hts _ hl) ⟨kn1, kn2, kn3⟩ ⟨hr1, by omega⟩, hts _ kst⟩ ⟨zPcX_blind, hpre⟩ rfl hlen hL.1 rfl (zsum_le hst0) hdg ⟨hc, hs⟩
  · exact va_runSN (Ts := zTb) ⟨hx, hb, hmx, hown, hts⟩ hMet ⟨va_cnB n hts (zTs_good kc) rfl rfl rfl (hnw.2.1 _ _ _ _ hl) (hts _ ki) ⟨kn1, kn2, kn3⟩ ⟨hr1, by omega⟩, hts _ kst, trivial⟩ ⟨zPcX_blind, hpre⟩ rfl hlen hL.1 rfl (zsum_le hst0) hdg ⟨hc, hs⟩
/-- a method's contract out of its walk from the entry -/
theorem ClX.ofL {q : Nat × (Nat → Int)} {args : List ZV} {L : List (Option ZV)} {v : Option ZV} {M2 : ZMem} (hp : plainName μ.1.cls = true) (hown : μ.1.cls = μ.2.2.2.2) (hlen : ∀ ad : Nat → Nat, (lg_sl (args.map (zc ad))).length ≤ μ.2.2.1) (hL0 : ∀ (ad : Nat → Nat) (j : Nat) (w : ZV), L[j]? = some (some w) → (j, zc ad w) ∈ lv_args 0 (args.map (zc ad)) ∧ w ∈ args) (k : Xr (some q) d μ 0 L [] M v M2) : ClX q d μ args M v M2 := by
  refine ⟨k.1, fun hw hga l D cA ad sz => ?_⟩
  refine Met.ofW (cc := μ.2.1) (maxL := μ.2.2.1) (ret := μ.2.2.2.1) hp rfl ?_
  intro p e s m args' below meth c s₁ B hml hv
  obtain ⟨rfl, hsz, hP, hK, hD0, hnw, bS, hscr⟩ := hv
  have hts := atoms_spec (ws := zTs μ) B.pre
  have hownC : s.vm.findClass μ.2.2.2.2 = some m.cls := by rw [← hown]; exact findClass_of_methodNamed B.named
  subst hsz
  have hD := hD0.self (sz := s.heap.size)
  have hl := lv_entry (args.map (zc ad)) (n := μ.2.2.1) (hlen ad)
  rw [lg_entry_eq]
  generalize (lg_sl (args.map (zc ad)) ++ List.replicate (μ.2.2.1 - (lg_sl (args.map (zc ad))).length) Slot.unset).toArray = ls at hl ⊢
  have hcx : zCx d μ p (headSpec (zTs μ) (zRm d M M2)).room s m (args.map (zc ad)).toArray meth c D cA (va_A (zWs cA ad M) s.heap.size) s.heap :=
    ⟨B.exec, B.bytes, hml, B.returns, fun w hw' => hts w (List.mem_cons_of_mem _ hw'), hnw, hownC, B.notSynchronized, fun hn => by rw [(name_of_methodNamed B.named B.method).1]; exact hn, hK, fun q hq => Or.inr hq, Nat.le_refl _, Nat.le_refl _⟩
  refine k.2 p l e _ s m _ below meth c s.heap [] 0 0 D cA ad _ s.heap ls bS _ hcx hscr ⟨hP, hD, hw, ⟨hl.1, hl.2.1, fun j w hj => ?_⟩, fun w hw' => (by cases hw'), fun w hw' => ?_⟩ va_S.rf (by show 0 + (mz M2 - mz M) ≤ mz M2 - mz M; omega) (by show 0 + (mw M2 - mw M) ≤ mw M2 - mw M; omega) ?_
  · exact hl.2.2 _ (hL0 ad j w hj).1
  · obtain ⟨j, hj⟩ := List.getElem?_of_mem hw'
    exact hga w (hL0 ad j w hj).2
  · intro pc1 ls1 ad1 H1 locs1 hr g1 g2 g3 g4 hag hS1
    rw [Nat.zero_add, Nat.zero_add]
    have hq : ∀ t : State, t.heap = H1 → s.WarmedH t.vm → (fun a st o t => zQc D cA ad s.heap.size M v M2 a st o t ∧ zWf M2 ∧ ∀ w ∈ v.toList, gd (mz M2) w) (args.map (zc ad)).toArray s (.returned (v.map (zc ad1))) t := fun t ht hW =>
      ⟨⟨⟨ad1, rfl, by rw [ht]; exact g1, g2, hag⟩, hS1.F ht⟩, g3, g4⟩
    have hlk := B.notSynchronized
    match v, hr, hq with
    | none, hr, hq => exact W.vret (Qc := fun a st o t => zQc D cA ad s.heap.size M none M2 a st o t ∧ zWf M2 ∧ ∀ w ∈ (none : Option ZV).toList, gd (mz M2) w) B.exec B.bytes (by rw [B.returns]; exact hr.2) hq hS1.2.2 hr.1 hlk
    | some (.inl x), hr, hq =>
      rcases hr.2 with h | ⟨h, h01⟩
      · exact W.iret (Qc := fun a st o t => zQc D cA ad s.heap.size M (some (.inl x)) M2 a st o t ∧ zWf M2 ∧ ∀ w ∈ (some (.inl x) : Option ZV).toList, gd (mz M2) w) B.exec B.bytes (by rw [B.returns]; exact h) hq hS1.2.2 hr.1 hlk
      · refine W.zret (ty := .boolean) (Qc := fun a st o t => zQc D cA ad s.heap.size M (some (.inl x)) M2 a st o t ∧ zWf M2 ∧ ∀ w ∈ (some (.inl x) : Option ZV).toList, gd (mz M2) w) B.exec B.bytes (by rw [B.returns]; exact h) ?_ hq hS1.2.2 hr.1 hlk
        rcases h01 with rfl | rfl
        · decide
        · decide
    | some (.inr (.inl o)), hr, hq =>
      obtain ⟨n, h⟩ := hr.2
      exact W.aret (Qc := fun a st oc t => zQc D cA ad s.heap.size M (some (.inr (.inl o))) M2 a st oc t ∧ zWf M2 ∧ ∀ w ∈ (some (.inr (.inl o)) : Option ZV).toList, gd (mz M2) w) B.exec B.bytes (by rw [B.returns]; exact h) (Or.inl ⟨n, rfl⟩) (va_rf_or _) hq hS1.2.2 hr.1 hlk
end ZCALLX
section CELL
variable {q : Nat × (Nat → Int)} {d : Nat} {μ : ZMeth} {pc : Nat} {L : List (Option ZV)} {st : List ZV} {M : ZMem} {r : Option ZV} {M1 : ZMem}
theorem x_slen (hq0 : q.1 < 2147483648) (hdg : decode μ.2.1 pc = .ok (.arraylength, 1)) (kk : Xr (some q) d μ (pc + 1) L (zi q.1 :: st) M r M1) : Xr (some q) d μ pc L (zr 1 :: st) M r M1 :=
  kk.op (fun _ h _ => gd_cons (show inR (q.1 : Int) from ⟨by omega, by omega⟩) (gd_tl h)) (fun {p l e R s m args below meth c H H0 locs cells slots D cA ad A ls b Q} hx hb _ hscr _ hS _ w => by
    obtain ⟨h1, h2, h3, h4, h5, h6⟩ := hscr
    show W _ _ _ _ _ _ _ _ _ _ _ _ _ _ _ (F0 _ pc _ (.ref (ad 0) :: st.map (zc ad)))
    rw [h4]
    exact va_slen hx hb h1 h3 h2 hS hdg w)
theorem x_sld {i : Int} (hq : ∀ j, inR (q.2 j)) (hdg : decode μ.2.1 pc = .ok (.iaload, 1)) (h0 : 0 ≤ i) (h1 : i < q.1) (kk : Xr (some q) d μ (pc + 1) L (zi (q.2 i.toNat) :: st) M r M1) : Xr (some q) d μ pc L (zi i :: zr 1 :: st) M r M1 :=
  kk.op (fun _ h _ => gd_cons (hq _) (gd_tl (gd_tl h))) (fun {p l e R s m args below meth c H H0 locs cells slots D cA ad A ls b Q} hx hb _ hscr hst hS _ w => by
    obtain ⟨g1, g2, g3, g4, g5, g6⟩ := hscr
    have hir : inR i := gd_hi hst.2.2.2.2.1
    show W _ _ _ _ _ _ _ _ _ _ _ _ _ _ _ (F0 _ pc _ (.int (Int32.ofInt i) :: .ref (ad 0) :: st.map (zc ad)))
    rw [g4]
    refine va_sld hx hb g1 g3 g2 hS (zin hir h0 h1) hdg ?_
    rw [zI_nat hir]
    exact w)
/-- a cell of the script -/
def scell (q : Nat × (Nat → Int)) (i : Int) : Int := if i < q.1 then q.2 i.toNat else 40503 * i
theorem cell_ok (hq : ∀ j, inR (q.2 j)) (hq1 : q.1 ≤ 260) {i : Int} (hi : 0 ≤ i ∧ i ≤ 1000) : ClX q d qL_cell [zr 1, zi i] M (some (zi (scell q i))) M := by
  have k : Xr (some q) d qL_cell 0 [some (zr 1), some (zi i)] [] M (some (zi (scell q i))) M := by
    refine x_iload_n dXL_cell_0 rfl rfl ?_
    refine x_aload_n dXL_cell_1 rfl rfl ?_
    refine x_slen (by omega) dXL_cell_2 ?_
    refine x_icmp_ge (tgt := 12) dXL_cell_3 rfl (fun c => ?_) (fun c => ?_)
    · refine x_ldc (n := 40503) liL_7 dXL_cell_12 ⟨by decide, by decide⟩ rfl ?_
      refine x_iload_n dXL_cell_14 rfl rfl ?_
      refine x_imul dXL_cell_15 (show inR (40503 * i) from ⟨by omega, by omega⟩) ?_
      have e : scell q i = 40503 * i := if_neg (by omega)
      rw [e]
      exact x_ret (v := some (zi (40503 * i))) ⟨dXL_cell_16, Or.inl rfl⟩
    · refine x_aload_n dXL_cell_6 rfl rfl ?_
      refine x_iload_n dXL_cell_7 rfl rfl ?_
      refine x_sld hq dXL_cell_8 hi.1 (by omega) ?_
      refine x_goto (tgt := 16) dXL_cell_9 rfl ?_
      have e : scell q i = q.2 i.toNat := if_pos (by omega)
      rw [e]
      exact x_ret (v := some (zi (q.2 i.toNat))) ⟨dXL_cell_16, Or.inl rfl⟩
  refine ClX.ofL rfl rfl (fun ad => ?_) (fun ad j w hj => ?_) k
  · show (lg_sl [.ref (ad 0), .int (Int32.ofInt i)]).length ≤ 2
    exact Nat.le_of_ble_eq_true rfl
  · match j, hj with
    | 0, hj => cases hj; exact ⟨List.mem_cons_self, List.mem_cons_self⟩
    | 1, hj => cases hj; exact ⟨List.mem_cons_of_mem _ List.mem_cons_self, List.mem_cons_of_mem _ List.mem_cons_self⟩
    | j + 2, hj => have hj : none = some (some w) := hj; cases hj
theorem x_cell (hq : ∀ j, inR (q.2 j)) (hq1 : q.1 ≤ 260) {i : Int} (hi : 0 ≤ i ∧ i ≤ 1000) {j : Nat} (hl : zML μ.2.2.2.2 j qL_cell.1) (hdg : decode μ.2.1 pc = .ok (.invokestatic j, 3)) (hst0 : ∀ ad : Nat → Nat, ((st.map (zc ad)).map fun v => v.category).sum ≤ 8) (k : Xr (some q) (d + 1) μ (pc + 3) L (zi (scell q i) :: st) M r M1) : Xr (some q) (d + 1) μ pc L (zi i :: zr 1 :: st) M r M1 :=
  x_callSX (as := [zr 1, zi i]) (st := st) kL_cell hl hdg rfl (by decide) hst0 (cell_ok hq hq1 hi) k
/-- the law comes to its end with true, in its room -/
def XL (q : Nat × (Nat → Int)) (d pc : Nat) (L : List (Option ZV)) (st : List ZV) (M : ZMem) : Prop := ∃ M1, Xr (some q) d qL_law pc L st M (some (zi 1)) M1 ∧ mz M1 ≤ 10000 ∧ mw M1 ≤ 1000000
theorem XL.up {pc' : Nat} {L' : List (Option ZV)} {st' : List ZV} {M' : ZMem} (f : ∀ r M1, Xr (some q) d qL_law pc' L' st' M' r M1 → Xr (some q) d qL_law pc L st M r M1) (h : XL q d pc' L' st' M') : XL q d pc L st M := by
  obtain ⟨M1, k, h2⟩ := h
  exact ⟨M1, f _ _ k, h2⟩
theorem XL.br {pc' tgt : Nat} {st' : List ZV} (c : Prop) (f : ∀ r M1, (c → Xr (some q) d qL_law tgt L st' M r M1) → (¬ c → Xr (some q) d qL_law pc' L st' M r M1) → Xr (some q) d qL_law pc L st M r M1) (ht : c → XL q d tgt L st' M) (hf : ¬ c → XL q d pc' L st' M) : XL q d pc L st M := by
  by_cases h : c
  · obtain ⟨M1, k, h2⟩ := ht h
    exact ⟨M1, f _ _ (fun _ => k) (fun q => absurd h q), h2⟩
  · obtain ⟨M1, k, h2⟩ := hf h
    exact ⟨M1, f _ _ (fun q => absurd q h) (fun _ => k), h2⟩
theorem XL.less {L' : List (Option ZV)} (h : zsub L' L) (k : XL q d pc L' st M) : XL q d pc L st M := by
  obtain ⟨M1, k, h2⟩ := k
  exact ⟨M1, Xr.less (zsub_at h) k, h2⟩
theorem XL.ret (hdg : decode qL_law.2.1 pc = .ok (.ireturn, 1)) (h : mz M ≤ 10000 ∧ mw M ≤ 1000000) : XL q d pc L [zi 1] M := ⟨M, x_ret (v := some (zi 1)) ⟨hdg, Or.inr ⟨rfl, Or.inr rfl⟩⟩, h⟩
end CELL
