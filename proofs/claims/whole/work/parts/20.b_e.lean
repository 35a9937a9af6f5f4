set_option maxHeartbeats 4000000 in
set_option maxRecDepth 20000 in
theorem B10_pointAt {d : Nat} {K M : ZMem} {Q : Int → ZMem → Prop} (a1 : Int) (hK : KW K M) (h0 : ModelAt K 2230) (h : (inR ((mI M 2230 16) + 262)) ∧ (inR (47 * a1)) ∧ (inR (((mI M 2230 16) + 262) + (47 * a1))) ∧ Q (((mI M 2230 16) + 262) + (47 * a1)) M) : Ci d q10_pointAt [zr 2230, zi a1] M Q := by
  refine Ci.of rfl rfl (Nat.le_of_ble_eq_true rfl) (fun w hw x e => by subst e; simp at hw) (L := [some (zr 2230), some (zi a1)]) rfl ?_
  refine Xi.up (pc' := 1) (fun _ _ k => x_aload_n dX10_pointAt_0 rfl rfl k) ?_
  refine Xi.up (pc' := 4) (fun _ _ k => x_getIK hK lf10_156 rfl dX10_pointAt_1 h0.1 k) ?_
  refine Xi.up (pc' := 7) (fun _ _ k => x_sipush dX10_pointAt_4 (show inR 262 from ⟨by decide, by decide⟩) (by decide) k) ?_
  obtain ⟨g1, h⟩ := h
  refine Xi.up (pc' := 8) (fun _ _ k => x_iadd dX10_pointAt_7 g1 k) ?_
  refine Xi.up (pc' := 10) (fun _ _ k => x_bipush dX10_pointAt_8 (show inR 47 from ⟨by decide, by decide⟩) (by decide) k) ?_
  refine Xi.up (pc' := 11) (fun _ _ k => x_iload_n dX10_pointAt_10 rfl rfl k) ?_
  obtain ⟨g2, h⟩ := h
  refine Xi.up (pc' := 12) (fun _ _ k => x_imul dX10_pointAt_11 g2 k) ?_
  obtain ⟨g3, h⟩ := h
  refine Xi.up (pc' := 13) (fun _ _ k => x_iadd dX10_pointAt_12 g3 k) ?_
  exact Xi.ret ⟨dX10_pointAt_13, Or.inl rfl⟩ h
set_option maxHeartbeats 4000000 in
set_option maxRecDepth 20000 in
theorem B10_level {d : Nat} {K M : ZMem} {Q : Int → ZMem → Prop}  (hK : KW K M) (h0 : ModelAt K 2230) (h : (inR ((mI M 2230 16) + 13)) ∧ (0 ≤ ((mI M 2230 16) + 13)) ∧ (((mI M 2230 16) + 13) < 19245) ∧ Q (mI M 2239 ((mI M 2230 16) + 13).toNat) M) : Ci d q10_level [zr 2230] M Q := by
  refine Ci.of rfl rfl (Nat.le_of_ble_eq_true rfl) (fun w hw x e => by subst e; simp at hw) (L := [some (zr 2230)]) rfl ?_
  refine Xi.up (pc' := 1) (fun _ _ k => x_aload_n dX10_level_0 rfl rfl k) ?_
  refine Xi.up (pc' := 4) (fun _ _ k => x_getRK hK lf10_35 rfl dX10_level_1 h0.1 h0.2.2.2.2.2.2.2.2.2.1 k) ?_
  refine Xi.up (pc' := 5) (fun _ _ k => x_aload_n dX10_level_4 rfl rfl k) ?_
  refine Xi.up (pc' := 8) (fun _ _ k => x_getIK hK lf10_156 rfl dX10_level_5 h0.1 k) ?_
  refine Xi.up (pc' := 10) (fun _ _ k => x_bipush dX10_level_8 (show inR 13 from ⟨by decide, by decide⟩) (by decide) k) ?_
  obtain ⟨g1, h⟩ := h
  refine Xi.up (pc' := 11) (fun _ _ k => x_iadd dX10_level_10 g1 k) ?_
  obtain ⟨g2, h⟩ := h
  obtain ⟨g3, h⟩ := h
  refine Xi.up (pc' := 12) (fun _ _ k => x_ialoadK hK dX10_level_11 h0.2.2.2.2.2.2.2.2.2.2.2.2.2.2.2.2.2.2.2.1 g2 g3 k) ?_
  exact Xi.ret ⟨dX10_level_12, Or.inl rfl⟩ h
set_option maxHeartbeats 4000000 in
set_option maxRecDepth 20000 in
theorem B10_atLevel {d : Nat} {K M : ZMem} {Q : ZMem → Prop} (a1 : Int) (hK : KW K M) (h0 : ModelAt K 2230) (h : (inR ((mI M 2230 16) + 13)) ∧ (0 ≤ ((mI M 2230 16) + 13)) ∧ (((mI M 2230 16) + 13) < 19245) ∧ (inR ((mI (sI M 2239 (((mI M 2230 16) + 13).toNat) a1) 2230 16) + 17)) ∧ (inR (35 * a1)) ∧ (inR (((mI (sI M 2239 (((mI M 2230 16) + 13).toNat) a1) 2230 16) + 17) + (35 * a1))) ∧ Q (sI (sI M 2239 (((mI M 2230 16) + 13).toNat) a1) 2230 17 (((mI (sI M 2239 (((mI M 2230 16) + 13).toNat) a1) 2230 16) + 17) + (35 * a1)))) : Cv d q10_atLevel [zr 2230, zi a1] M Q := by
  refine Cv.of rfl rfl (Nat.le_of_ble_eq_true rfl) (fun w hw x e => by subst e; simp at hw) (L := [some (zr 2230), some (zi a1)]) rfl ?_
  refine Xv.up (pc' := 1) (fun _ _ k => x_aload_n dX10_atLevel_0 rfl rfl k) ?_
  refine Xv.up (pc' := 4) (fun _ _ k => x_getRK hK lf10_35 rfl dX10_atLevel_1 h0.1 h0.2.2.2.2.2.2.2.2.2.1 k) ?_
  refine Xv.up (pc' := 5) (fun _ _ k => x_aload_n dX10_atLevel_4 rfl rfl k) ?_
  refine Xv.up (pc' := 8) (fun _ _ k => x_getIK hK lf10_156 rfl dX10_atLevel_5 h0.1 k) ?_
  refine Xv.up (pc' := 10) (fun _ _ k => x_bipush dX10_atLevel_8 (show inR 13 from ⟨by decide, by decide⟩) (by decide) k) ?_
  obtain ⟨g1, h⟩ := h
  refine Xv.up (pc' := 11) (fun _ _ k => x_iadd dX10_atLevel_10 g1 k) ?_
  refine Xv.up (pc' := 12) (fun _ _ k => x_iload_n dX10_atLevel_11 rfl rfl k) ?_
  obtain ⟨g2, h⟩ := h
  obtain ⟨g3, h⟩ := h
  refine Xv.up (pc' := 13) (fun _ _ k => x_iastoreK hK dX10_atLevel_12 h0.2.2.2.2.2.2.2.2.2.2.2.2.2.2.2.2.2.2.2.1 g2 g3 k) ?_
  have hK4 := KW.sI hK 2239 (((mI M 2230 16) + 13).toNat) a1
  refine Xv.up (pc' := 14) (fun _ _ k => x_aload_n dX10_atLevel_13 rfl rfl k) ?_
  refine Xv.up (pc' := 15) (fun _ _ k => x_aload_n dX10_atLevel_14 rfl rfl k) ?_
  refine Xv.up (pc' := 18) (fun _ _ k => x_getIK hK4 lf10_156 rfl dX10_atLevel_15 h0.1 k) ?_
  refine Xv.up (pc' := 20) (fun _ _ k => x_bipush dX10_atLevel_18 (show inR 17 from ⟨by decide, by decide⟩) (by decide) k) ?_
  obtain ⟨g5, h⟩ := h
  refine Xv.up (pc' := 21) (fun _ _ k => x_iadd dX10_atLevel_20 g5 k) ?_
  refine Xv.up (pc' := 23) (fun _ _ k => x_bipush dX10_atLevel_21 (show inR 35 from ⟨by decide, by decide⟩) (by decide) k) ?_
  refine Xv.up (pc' := 24) (fun _ _ k => x_iload_n dX10_atLevel_23 rfl rfl k) ?_
  obtain ⟨g6, h⟩ := h
  refine Xv.up (pc' := 25) (fun _ _ k => x_imul dX10_atLevel_24 g6 k) ?_
  obtain ⟨g7, h⟩ := h
  refine Xv.up (pc' := 26) (fun _ _ k => x_iadd dX10_atLevel_25 g7 k) ?_
  refine Xv.up (pc' := 29) (fun _ _ k => x_putIK hK4 lf10_160 rfl rfl (Or.inl rfl) dX10_atLevel_26 h0.1 k) ?_
  have hK8 := KW.sI hK4 2230 17 (((mI (sI M 2239 (((mI M 2230 16) + 13).toNat) a1) 2230 16) + 17) + (35 * a1))
  exact Xv.ret ⟨dX10_atLevel_29, rfl⟩ h
set_option maxHeartbeats 4000000 in
set_option maxRecDepth 20000 in
theorem B10_openMany {d : Nat} {K M : ZMem} {Q : Int → ZMem → Prop}  (hK : KW K M) (h0 : ModelAt K 2230) (h : Xi (d + 1) q10_openMany 4 [some (zr 2230), some (zi 0), some (zi 0)] [] M Q) : Ci (d + 1) q10_openMany [zr 2230] M Q := by
  refine Ci.of rfl rfl (Nat.le_of_ble_eq_true rfl) (fun w hw x e => by subst e; simp at hw) (L := [some (zr 2230), none, none]) rfl ?_
  refine Xi.up (pc' := 1) (fun _ _ k => x_iconst dX10_openMany_0 (show inR 0 from ⟨by decide, by decide⟩) k) ?_
  refine Xi.up (pc' := 2) (L' := [some (zr 2230), some (zi 0), none]) (fun _ _ k => x_istore_n dX10_openMany_1 rfl (by decide) rfl k) ?_
  refine Xi.up (pc' := 3) (fun _ _ k => x_iconst dX10_openMany_2 (show inR 0 from ⟨by decide, by decide⟩) k) ?_
  refine Xi.up (pc' := 4) (L' := [some (zr 2230), some (zi 0), some (zi 0)]) (fun _ _ k => x_istore_n dX10_openMany_3 rfl (by decide) rfl k) ?_
  exact h
set_option maxHeartbeats 4000000 in
set_option maxRecDepth 20000 in
theorem B10_openMany_4 {d : Nat} {K M : ZMem} {Q : Int → ZMem → Prop} (l1 : Int) (l2 : Int) (hK : KW K M) (h0 : ModelAt K 2230) (h : (inR ((mI M 2230 16) + 14)) ∧ (0 ≤ ((mI M 2230 16) + 14)) ∧ (((mI M 2230 16) + 14) < 19245) ∧ (((mI M 2239 ((mI M 2230 16) + 14).toNat) ≤ l2 → (Q l1 M)) ∧ (¬ ((mI M 2239 ((mI M 2230 16) + 14).toNat) ≤ l2) → (Ci d q10_pointAt [zr 2230, zi l2] M (fun x5 M4 => KW K M4 ∧ (inR (x5 + 45)) ∧ (0 ≤ (x5 + 45)) ∧ ((x5 + 45) < 19245) ∧ (((mI M4 2239 (x5 + 45).toNat) ≠ 0 → ((inR (l1 + 0)) ∧ (inR (l2 + 1)) ∧ Xi (d + 1) q10_openMany 4 [some (zr 2230), some (zi (l1 + 0)), some (zi (l2 + 1))] [] M4 Q)) ∧ (¬ ((mI M4 2239 (x5 + 45).toNat) ≠ 0) → ((inR (l1 + 1)) ∧ (inR (l2 + 1)) ∧ Xi (d + 1) q10_openMany 4 [some (zr 2230), some (zi (l1 + 1)), some (zi (l2 + 1))] [] M4 Q)))))))) : Xi (d + 1) q10_openMany 4 [some (zr 2230), some (zi l1), some (zi l2)] [] M Q := by
  refine Xi.up (pc' := 5) (fun _ _ k => x_iload_n dX10_openMany_4 rfl rfl k) ?_
  refine Xi.up (pc' := 6) (fun _ _ k => x_aload_n dX10_openMany_5 rfl rfl k) ?_
  refine Xi.up (pc' := 9) (fun _ _ k => x_getRK hK lf10_35 rfl dX10_openMany_6 h0.1 h0.2.2.2.2.2.2.2.2.2.1 k) ?_
  refine Xi.up (pc' := 10) (fun _ _ k => x_aload_n dX10_openMany_9 rfl rfl k) ?_
  refine Xi.up (pc' := 13) (fun _ _ k => x_getIK hK lf10_156 rfl dX10_openMany_10 h0.1 k) ?_
  refine Xi.up (pc' := 15) (fun _ _ k => x_bipush dX10_openMany_13 (show inR 14 from ⟨by decide, by decide⟩) (by decide) k) ?_
  obtain ⟨g1, h⟩ := h
  refine Xi.up (pc' := 16) (fun _ _ k => x_iadd dX10_openMany_15 g1 k) ?_
  obtain ⟨g2, h⟩ := h
  obtain ⟨g3, h⟩ := h
  refine Xi.up (pc' := 17) (fun _ _ k => x_ialoadK hK dX10_openMany_16 h0.2.2.2.2.2.2.2.2.2.2.2.2.2.2.2.2.2.2.2.1 g2 g3 k) ?_
  refine Xi.br (tgt := 50) (pc' := 20) ((mI M 2239 ((mI M 2230 16) + 14).toNat) ≤ l2) (fun _ _ kt kf => x_icmp_ge dX10_openMany_17 rfl kt kf) (fun c => ?_) (fun c => ?_)
  · have h := h.1 c
    refine Xi.up (pc' := 51) (fun _ _ k => x_iload_n dX10_openMany_50 rfl rfl k) ?_
    exact Xi.ret ⟨dX10_openMany_51, Or.inl rfl⟩ h
  · have h := h.2 c
    refine Xi.up (pc' := 21) (fun _ _ k => x_iload_n dX10_openMany_20 rfl rfl k) ?_
    refine Xi.up (pc' := 22) (fun _ _ k => x_aload_n dX10_openMany_21 rfl rfl k) ?_
    refine Xi.up (pc' := 25) (fun _ _ k => x_getRK hK lf10_35 rfl dX10_openMany_22 h0.1 h0.2.2.2.2.2.2.2.2.2.1 k) ?_
    refine Xi.up (pc' := 26) (fun _ _ k => x_aload_n dX10_openMany_25 rfl rfl k) ?_
    refine Xi.up (pc' := 27) (fun _ _ k => x_iload_n dX10_openMany_26 rfl rfl k) ?_
    obtain ⟨x5, M4, hc7, hK6, h⟩ := h
    refine Xi.up (pc' := 30) (st' := [zi x5, zr 2239, zi l1]) (fun _ _ k => x_callVK (ci := 10) (as := [zi l2]) (st := [zr 2239, zi l1]) hK k10_pointAt lm10_163 dX10_openMany_27 rfl (by decide) (zs8 rfl) h0.1 ⟨_, _, rfl⟩ hc7 k) ?_
    refine Xi.up (pc' := 32) (fun _ _ k => x_bipush dX10_openMany_30 (show inR 45 from ⟨by decide, by decide⟩) (by decide) k) ?_
    obtain ⟨g8, h⟩ := h
    refine Xi.up (pc' := 33) (fun _ _ k => x_iadd dX10_openMany_32 g8 k) ?_
    obtain ⟨g9, h⟩ := h
    obtain ⟨g10, h⟩ := h
    refine Xi.up (pc' := 34) (fun _ _ k => x_ialoadK hK6 dX10_openMany_33 h0.2.2.2.2.2.2.2.2.2.2.2.2.2.2.2.2.2.2.2.1 g9 g10 k) ?_
    refine Xi.br (tgt := 41) (pc' := 37) ((mI M4 2239 (x5 + 45).toNat) ≠ 0) (fun _ _ kt kf => x_if_ne dX10_openMany_34 rfl kt kf) (fun c => ?_) (fun c => ?_)
    · have h := h.1 c
      refine Xi.up (pc' := 42) (fun _ _ k => x_iconst dX10_openMany_41 (show inR 0 from ⟨by decide, by decide⟩) k) ?_
      obtain ⟨g11, h⟩ := h
      refine Xi.up (pc' := 43) (fun _ _ k => x_iadd dX10_openMany_42 g11 k) ?_
      refine Xi.up (pc' := 44) (L' := [some (zr 2230), some (zi (l1 + 0)), some (zi l2)]) (fun _ _ k => x_istore_n dX10_openMany_43 rfl (by decide) rfl k) ?_
      obtain ⟨g12, h⟩ := h
      refine Xi.up (pc' := 47) (L' := [some (zr 2230), some (zi (l1 + 0)), some (zi (l2 + 1))]) (fun _ _ k => x_iinc dX10_openMany_44 rfl g12 (by decide) rfl k) ?_
      refine Xi.up (pc' := 4) (fun _ _ k => x_goto dX10_openMany_47 rfl k) ?_
      exact h
    · have h := h.2 c
      refine Xi.up (pc' := 38) (fun _ _ k => x_iconst dX10_openMany_37 (show inR 1 from ⟨by decide, by decide⟩) k) ?_
      refine Xi.up (pc' := 42) (fun _ _ k => x_goto dX10_openMany_38 rfl k) ?_
      obtain ⟨g13, h⟩ := h
      refine Xi.up (pc' := 43) (fun _ _ k => x_iadd dX10_openMany_42 g13 k) ?_
      refine Xi.up (pc' := 44) (L' := [some (zr 2230), some (zi (l1 + 1)), some (zi l2)]) (fun _ _ k => x_istore_n dX10_openMany_43 rfl (by decide) rfl k) ?_
      obtain ⟨g14, h⟩ := h
      refine Xi.up (pc' := 47) (L' := [some (zr 2230), some (zi (l1 + 1)), some (zi (l2 + 1))]) (fun _ _ k => x_iinc dX10_openMany_44 rfl g14 (by decide) rfl k) ?_
      refine Xi.up (pc' := 4) (fun _ _ k => x_goto dX10_openMany_47 rfl k) ?_
      exact h
set_option maxHeartbeats 4000000 in
set_option maxRecDepth 20000 in
theorem B10_comesBy {d : Nat} {K M : ZMem} {Q : ZMem → Prop} (a1 : Int) (a2 : Int) (hK : KW K M) (h0 : ModelAt K 2230) (h : Xv (d + 1) q10_comesBy 2 [some (zr 2230), some (zi a1), some (zi a2), some (zi 0), none] [] M Q) : Cv (d + 1) q10_comesBy [zr 2230, zi a1, zi a2] M Q := by
  refine Cv.of rfl rfl (Nat.le_of_ble_eq_true rfl) (fun w hw x e => by subst e; simp at hw) (L := [some (zr 2230), some (zi a1), some (zi a2), none, none]) rfl ?_
  refine Xv.up (pc' := 1) (fun _ _ k => x_iconst dX10_comesBy_0 (show inR 0 from ⟨by decide, by decide⟩) k) ?_
  refine Xv.up (pc' := 2) (L' := [some (zr 2230), some (zi a1), some (zi a2), some (zi 0), none]) (fun _ _ k => x_istore_n dX10_comesBy_1 rfl (by decide) rfl k) ?_
  exact h
set_option maxHeartbeats 4000000 in
set_option maxRecDepth 20000 in
theorem B10_comesBy_2 {d : Nat} {K M : ZMem} {Q : ZMem → Prop} (a1 : Int) (a2 : Int) (l3 : Int) (hK : KW K M) (h0 : ModelAt K 2230) (h : (inR ((mI M 2230 16) + 14)) ∧ (0 ≤ ((mI M 2230 16) + 14)) ∧ (((mI M 2230 16) + 14) < 19245) ∧ (((mI M 2239 ((mI M 2230 16) + 14).toNat) ≤ l3 → (Xv (d + 1) q10_comesBy 71 [some (zr 2230), some (zi a1), some (zi a2), some (zi 0), none] [] M Q)) ∧ (¬ ((mI M 2239 ((mI M 2230 16) + 14).toNat) ≤ l3) → (Ci d q10_pointAt [zr 2230, zi l3] M (fun x5 M4 => KW K M4 ∧ (inR (x5 + 34)) ∧ (inR (x5 + 34)) ∧ (0 ≤ (x5 + 34)) ∧ ((x5 + 34) < 19245) ∧ (((mI M4 2239 (x5 + 34).toNat) ≠ a1 → ((inR (x5 + 34)) ∧ (0 ≤ (x5 + 34)) ∧ ((x5 + 34) < 19245) ∧ (0 ≤ (x5 + 34)) ∧ ((x5 + 34) < 19245) ∧ (inR (l3 + 1)) ∧ Xv (d + 1) q10_comesBy 2 [some (zr 2230), some (zi a1), some (zi a2), some (zi (l3 + 1)), none] [] (sI M4 2239 ((x5 + 34).toNat) (mI M4 2239 (x5 + 34).toNat)) Q)) ∧ (¬ ((mI M4 2239 (x5 + 34).toNat) ≠ a1) → ((0 ≤ (x5 + 34)) ∧ ((x5 + 34) < 19245) ∧ (inR (l3 + 1)) ∧ Xv (d + 1) q10_comesBy 2 [some (zr 2230), some (zi a1), some (zi a2), some (zi (l3 + 1)), none] [] (sI M4 2239 ((x5 + 34).toNat) a2) Q)))))))) : Xv (d + 1) q10_comesBy 2 [some (zr 2230), some (zi a1), some (zi a2), some (zi l3), none] [] M Q := by
  refine Xv.up (pc' := 3) (fun _ _ k => x_iload_n dX10_comesBy_2 rfl rfl k) ?_
  refine Xv.up (pc' := 4) (fun _ _ k => x_aload_n dX10_comesBy_3 rfl rfl k) ?_
  refine Xv.up (pc' := 7) (fun _ _ k => x_getRK hK lf10_35 rfl dX10_comesBy_4 h0.1 h0.2.2.2.2.2.2.2.2.2.1 k) ?_
  refine Xv.up (pc' := 8) (fun _ _ k => x_aload_n dX10_comesBy_7 rfl rfl k) ?_
  refine Xv.up (pc' := 11) (fun _ _ k => x_getIK hK lf10_156 rfl dX10_comesBy_8 h0.1 k) ?_
  refine Xv.up (pc' := 13) (fun _ _ k => x_bipush dX10_comesBy_11 (show inR 14 from ⟨by decide, by decide⟩) (by decide) k) ?_
  obtain ⟨g1, h⟩ := h
  refine Xv.up (pc' := 14) (fun _ _ k => x_iadd dX10_comesBy_13 g1 k) ?_
  obtain ⟨g2, h⟩ := h
  obtain ⟨g3, h⟩ := h
  refine Xv.up (pc' := 15) (fun _ _ k => x_ialoadK hK dX10_comesBy_14 h0.2.2.2.2.2.2.2.2.2.2.2.2.2.2.2.2.2.2.2.1 g2 g3 k) ?_
  refine Xv.br (tgt := 69) (pc' := 18) ((mI M 2239 ((mI M 2230 16) + 14).toNat) ≤ l3) (fun _ _ kt kf => x_icmp_ge dX10_comesBy_15 rfl kt kf) (fun c => ?_) (fun c => ?_)
  · have h := h.1 c
    refine Xv.up (pc' := 70) (fun _ _ k => x_iconst dX10_comesBy_69 (show inR 0 from ⟨by decide, by decide⟩) k) ?_
    refine Xv.up (pc' := 71) (L' := [some (zr 2230), some (zi a1), some (zi a2), some (zi 0), none]) (fun _ _ k => x_istore_n dX10_comesBy_70 rfl (by decide) rfl k) ?_
    exact h
  · have h := h.2 c
    refine Xv.up (pc' := 19) (fun _ _ k => x_aload_n dX10_comesBy_18 rfl rfl k) ?_
    refine Xv.up (pc' := 20) (fun _ _ k => x_iload_n dX10_comesBy_19 rfl rfl k) ?_
    obtain ⟨x5, M4, hc7, hK6, h⟩ := h
    refine Xv.up (pc' := 23) (st' := [zi x5]) (fun _ _ k => x_callVK (ci := 10) (as := [zi l3]) (st := []) hK k10_pointAt lm10_163 dX10_comesBy_20 rfl (by decide) (zs8 rfl) h0.1 ⟨_, _, rfl⟩ hc7 k) ?_
    refine Xv.up (pc' := 25) (L' := [some (zr 2230), some (zi a1), some (zi a2), some (zi l3), some (zi x5)]) (fun _ _ k => x_istore dX10_comesBy_23 (by decide) rfl k) ?_
    refine Xv.up (pc' := 26) (fun _ _ k => x_aload_n dX10_comesBy_25 rfl rfl k) ?_
    refine Xv.up (pc' := 29) (fun _ _ k => x_getRK hK6 lf10_35 rfl dX10_comesBy_26 h0.1 h0.2.2.2.2.2.2.2.2.2.1 k) ?_
    refine Xv.up (pc' := 31) (fun _ _ k => x_iload dX10_comesBy_29 rfl k) ?_
    refine Xv.up (pc' := 33) (fun _ _ k => x_bipush dX10_comesBy_31 (show inR 34 from ⟨by decide, by decide⟩) (by decide) k) ?_
    obtain ⟨g8, h⟩ := h
    refine Xv.up (pc' := 34) (fun _ _ k => x_iadd dX10_comesBy_33 g8 k) ?_
    refine Xv.up (pc' := 35) (fun _ _ k => x_aload_n dX10_comesBy_34 rfl rfl k) ?_
    refine Xv.up (pc' := 38) (fun _ _ k => x_getRK hK6 lf10_35 rfl dX10_comesBy_35 h0.1 h0.2.2.2.2.2.2.2.2.2.1 k) ?_
    refine Xv.up (pc' := 40) (fun _ _ k => x_iload dX10_comesBy_38 rfl k) ?_
    refine Xv.up (pc' := 42) (fun _ _ k => x_bipush dX10_comesBy_40 (show inR 34 from ⟨by decide, by decide⟩) (by decide) k) ?_
    obtain ⟨g9, h⟩ := h
    refine Xv.up (pc' := 43) (fun _ _ k => x_iadd dX10_comesBy_42 g9 k) ?_
    obtain ⟨g10, h⟩ := h
    obtain ⟨g11, h⟩ := h
    refine Xv.up (pc' := 44) (fun _ _ k => x_ialoadK hK6 dX10_comesBy_43 h0.2.2.2.2.2.2.2.2.2.2.2.2.2.2.2.2.2.2.2.1 g10 g11 k) ?_
    refine Xv.up (pc' := 45) (fun _ _ k => x_iload_n dX10_comesBy_44 rfl rfl k) ?_
    refine Xv.br (tgt := 52) (pc' := 48) ((mI M4 2239 (x5 + 34).toNat) ≠ a1) (fun _ _ kt kf => x_icmp_ne dX10_comesBy_45 rfl kt kf) (fun c => ?_) (fun c => ?_)
    · have h := h.1 c
      refine Xv.up (pc' := 53) (fun _ _ k => x_aload_n dX10_comesBy_52 rfl rfl k) ?_
      refine Xv.up (pc' := 56) (fun _ _ k => x_getRK hK6 lf10_35 rfl dX10_comesBy_53 h0.1 h0.2.2.2.2.2.2.2.2.2.1 k) ?_
      refine Xv.up (pc' := 58) (fun _ _ k => x_iload dX10_comesBy_56 rfl k) ?_
      refine Xv.up (pc' := 60) (fun _ _ k => x_bipush dX10_comesBy_58 (show inR 34 from ⟨by decide, by decide⟩) (by decide) k) ?_
      obtain ⟨g12, h⟩ := h
      refine Xv.up (pc' := 61) (fun _ _ k => x_iadd dX10_comesBy_60 g12 k) ?_
      obtain ⟨g13, h⟩ := h
      obtain ⟨g14, h⟩ := h
      refine Xv.up (pc' := 62) (fun _ _ k => x_ialoadK hK6 dX10_comesBy_61 h0.2.2.2.2.2.2.2.2.2.2.2.2.2.2.2.2.2.2.2.1 g13 g14 k) ?_
      obtain ⟨g15, h⟩ := h
      obtain ⟨g16, h⟩ := h
      refine Xv.up (pc' := 63) (fun _ _ k => x_iastoreK hK6 dX10_comesBy_62 h0.2.2.2.2.2.2.2.2.2.2.2.2.2.2.2.2.2.2.2.1 g15 g16 k) ?_
      have hK17 := KW.sI hK6 2239 ((x5 + 34).toNat) (mI M4 2239 (x5 + 34).toNat)
      obtain ⟨g18, h⟩ := h
      refine Xv.up (pc' := 66) (L' := [some (zr 2230), some (zi a1), some (zi a2), some (zi (l3 + 1)), some (zi x5)]) (fun _ _ k => x_iinc dX10_comesBy_63 rfl g18 (by decide) rfl k) ?_
      refine Xv.up (pc' := 2) (fun _ _ k => x_goto dX10_comesBy_66 rfl k) ?_
      exact Xv.up (fun _ _ k => x_less (L' := [some (zr 2230), some (zi a1), some (zi a2), some (zi (l3 + 1)), none]) (⟨rfl, ⟨rfl, ⟨rfl, ⟨rfl, trivial⟩⟩⟩⟩) k) h
    · have h := h.2 c
      refine Xv.up (pc' := 49) (fun _ _ k => x_iload_n dX10_comesBy_48 rfl rfl k) ?_
      refine Xv.up (pc' := 62) (fun _ _ k => x_goto dX10_comesBy_49 rfl k) ?_
      obtain ⟨g19, h⟩ := h
      obtain ⟨g20, h⟩ := h
      refine Xv.up (pc' := 63) (fun _ _ k => x_iastoreK hK6 dX10_comesBy_62 h0.2.2.2.2.2.2.2.2.2.2.2.2.2.2.2.2.2.2.2.1 g19 g20 k) ?_
      have hK21 := KW.sI hK6 2239 ((x5 + 34).toNat) a2
      obtain ⟨g22, h⟩ := h
      refine Xv.up (pc' := 66) (L' := [some (zr 2230), some (zi a1), some (zi a2), some (zi (l3 + 1)), some (zi x5)]) (fun _ _ k => x_iinc dX10_comesBy_63 rfl g22 (by decide) rfl k) ?_
      refine Xv.up (pc' := 2) (fun _ _ k => x_goto dX10_comesBy_66 rfl k) ?_
      exact Xv.up (fun _ _ k => x_less (L' := [some (zr 2230), some (zi a1), some (zi a2), some (zi (l3 + 1)), none]) (⟨rfl, ⟨rfl, ⟨rfl, ⟨rfl, trivial⟩⟩⟩⟩) k) h
set_option maxHeartbeats 4000000 in
set_option maxRecDepth 20000 in
theorem B10_comesBy_71 {d : Nat} {K M : ZMem} {Q : ZMem → Prop} (a1 : Int) (a2 : Int) (l3 : Int) (hK : KW K M) (h0 : ModelAt K 2230) (h : Ci d q10_level [zr 2230] M (fun x2 M1 => KW K M1 ∧ ((x2 < l3 → (Q M1)) ∧ (¬ (x2 < l3) → ((inR ((mI M1 2230 16) + 17)) ∧ (inR (35 * l3)) ∧ (inR (((mI M1 2230 16) + 17) + (35 * l3))) ∧ (inR ((((mI M1 2230 16) + 17) + (35 * l3)) + 34)) ∧ (inR ((((mI M1 2230 16) + 17) + (35 * l3)) + 34)) ∧ (0 ≤ ((((mI M1 2230 16) + 17) + (35 * l3)) + 34)) ∧ (((((mI M1 2230 16) + 17) + (35 * l3)) + 34) < 19245) ∧ (((mI M1 2239 ((((mI M1 2230 16) + 17) + (35 * l3)) + 34).toNat) ≠ a1 → ((inR ((((mI M1 2230 16) + 17) + (35 * l3)) + 34)) ∧ (0 ≤ ((((mI M1 2230 16) + 17) + (35 * l3)) + 34)) ∧ (((((mI M1 2230 16) + 17) + (35 * l3)) + 34) < 19245) ∧ (0 ≤ ((((mI M1 2230 16) + 17) + (35 * l3)) + 34)) ∧ (((((mI M1 2230 16) + 17) + (35 * l3)) + 34) < 19245) ∧ (inR (l3 + 1)) ∧ Xv (d + 1) q10_comesBy 71 [some (zr 2230), some (zi a1), some (zi a2), some (zi (l3 + 1)), none] [] (sI M1 2239 (((((mI M1 2230 16) + 17) + (35 * l3)) + 34).toNat) (mI M1 2239 ((((mI M1 2230 16) + 17) + (35 * l3)) + 34).toNat)) Q)) ∧ (¬ ((mI M1 2239 ((((mI M1 2230 16) + 17) + (35 * l3)) + 34).toNat) ≠ a1) → ((0 ≤ ((((mI M1 2230 16) + 17) + (35 * l3)) + 34)) ∧ (((((mI M1 2230 16) + 17) + (35 * l3)) + 34) < 19245) ∧ (inR (l3 + 1)) ∧ Xv (d + 1) q10_comesBy 71 [some (zr 2230), some (zi a1), some (zi a2), some (zi (l3 + 1)), none] [] (sI M1 2239 (((((mI M1 2230 16) + 17) + (35 * l3)) + 34).toNat) a2) Q)))))))) : Xv (d + 1) q10_comesBy 71 [some (zr 2230), some (zi a1), some (zi a2), some (zi l3), none] [] M Q := by
  refine Xv.up (pc' := 72) (fun _ _ k => x_iload_n dX10_comesBy_71 rfl rfl k) ?_
  refine Xv.up (pc' := 73) (fun _ _ k => x_aload_n dX10_comesBy_72 rfl rfl k) ?_
  obtain ⟨x2, M1, hc4, hK3, h⟩ := h
  refine Xv.up (pc' := 76) (st' := [zi x2, zi l3]) (fun _ _ k => x_callVK (ci := 10) (as := []) (st := [zi l3]) hK k10_level lm10_166 dX10_comesBy_73 rfl (by decide) (zs8 rfl) h0.1 ⟨_, _, rfl⟩ hc4 k) ?_
  refine Xv.br (tgt := 137) (pc' := 79) (x2 < l3) (fun _ _ kt kf => x_icmp_gt dX10_comesBy_76 rfl kt kf) (fun c => ?_) (fun c => ?_)
  · have h := h.1 c
    exact Xv.ret ⟨dX10_comesBy_137, rfl⟩ h
  · have h := h.2 c
    refine Xv.up (pc' := 80) (fun _ _ k => x_aload_n dX10_comesBy_79 rfl rfl k) ?_
    refine Xv.up (pc' := 83) (fun _ _ k => x_getIK hK3 lf10_156 rfl dX10_comesBy_80 h0.1 k) ?_
    refine Xv.up (pc' := 85) (fun _ _ k => x_bipush dX10_comesBy_83 (show inR 17 from ⟨by decide, by decide⟩) (by decide) k) ?_
    obtain ⟨g5, h⟩ := h
    refine Xv.up (pc' := 86) (fun _ _ k => x_iadd dX10_comesBy_85 g5 k) ?_
    refine Xv.up (pc' := 88) (fun _ _ k => x_bipush dX10_comesBy_86 (show inR 35 from ⟨by decide, by decide⟩) (by decide) k) ?_
    refine Xv.up (pc' := 89) (fun _ _ k => x_iload_n dX10_comesBy_88 rfl rfl k) ?_
    obtain ⟨g6, h⟩ := h
    refine Xv.up (pc' := 90) (fun _ _ k => x_imul dX10_comesBy_89 g6 k) ?_
    obtain ⟨g7, h⟩ := h
    refine Xv.up (pc' := 91) (fun _ _ k => x_iadd dX10_comesBy_90 g7 k) ?_
    refine Xv.up (pc' := 93) (L' := [some (zr 2230), some (zi a1), some (zi a2), some (zi l3), some (zi (((mI M1 2230 16) + 17) + (35 * l3)))]) (fun _ _ k => x_istore dX10_comesBy_91 (by decide) rfl k) ?_
    refine Xv.up (pc' := 94) (fun _ _ k => x_aload_n dX10_comesBy_93 rfl rfl k) ?_
    refine Xv.up (pc' := 97) (fun _ _ k => x_getRK hK3 lf10_35 rfl dX10_comesBy_94 h0.1 h0.2.2.2.2.2.2.2.2.2.1 k) ?_
    refine Xv.up (pc' := 99) (fun _ _ k => x_iload dX10_comesBy_97 rfl k) ?_
    refine Xv.up (pc' := 101) (fun _ _ k => x_bipush dX10_comesBy_99 (show inR 34 from ⟨by decide, by decide⟩) (by decide) k) ?_
    obtain ⟨g8, h⟩ := h
    refine Xv.up (pc' := 102) (fun _ _ k => x_iadd dX10_comesBy_101 g8 k) ?_
    refine Xv.up (pc' := 103) (fun _ _ k => x_aload_n dX10_comesBy_102 rfl rfl k) ?_
    refine Xv.up (pc' := 106) (fun _ _ k => x_getRK hK3 lf10_35 rfl dX10_comesBy_103 h0.1 h0.2.2.2.2.2.2.2.2.2.1 k) ?_
    refine Xv.up (pc' := 108) (fun _ _ k => x_iload dX10_comesBy_106 rfl k) ?_
    refine Xv.up (pc' := 110) (fun _ _ k => x_bipush dX10_comesBy_108 (show inR 34 from ⟨by decide, by decide⟩) (by decide) k) ?_
    obtain ⟨g9, h⟩ := h
    refine Xv.up (pc' := 111) (fun _ _ k => x_iadd dX10_comesBy_110 g9 k) ?_
    obtain ⟨g10, h⟩ := h
    obtain ⟨g11, h⟩ := h
    refine Xv.up (pc' := 112) (fun _ _ k => x_ialoadK hK3 dX10_comesBy_111 h0.2.2.2.2.2.2.2.2.2.2.2.2.2.2.2.2.2.2.2.1 g10 g11 k) ?_
    refine Xv.up (pc' := 113) (fun _ _ k => x_iload_n dX10_comesBy_112 rfl rfl k) ?_
    refine Xv.br (tgt := 120) (pc' := 116) ((mI M1 2239 ((((mI M1 2230 16) + 17) + (35 * l3)) + 34).toNat) ≠ a1) (fun _ _ kt kf => x_icmp_ne dX10_comesBy_113 rfl kt kf) (fun c => ?_) (fun c => ?_)
    · have h := h.1 c
      refine Xv.up (pc' := 121) (fun _ _ k => x_aload_n dX10_comesBy_120 rfl rfl k) ?_
      refine Xv.up (pc' := 124) (fun _ _ k => x_getRK hK3 lf10_35 rfl dX10_comesBy_121 h0.1 h0.2.2.2.2.2.2.2.2.2.1 k) ?_
      refine Xv.up (pc' := 126) (fun _ _ k => x_iload dX10_comesBy_124 rfl k) ?_
      refine Xv.up (pc' := 128) (fun _ _ k => x_bipush dX10_comesBy_126 (show inR 34 from ⟨by decide, by decide⟩) (by decide) k) ?_
      obtain ⟨g12, h⟩ := h
      refine Xv.up (pc' := 129) (fun _ _ k => x_iadd dX10_comesBy_128 g12 k) ?_
      obtain ⟨g13, h⟩ := h
      obtain ⟨g14, h⟩ := h
      refine Xv.up (pc' := 130) (fun _ _ k => x_ialoadK hK3 dX10_comesBy_129 h0.2.2.2.2.2.2.2.2.2.2.2.2.2.2.2.2.2.2.2.1 g13 g14 k) ?_
      obtain ⟨g15, h⟩ := h
      obtain ⟨g16, h⟩ := h
      refine Xv.up (pc' := 131) (fun _ _ k => x_iastoreK hK3 dX10_comesBy_130 h0.2.2.2.2.2.2.2.2.2.2.2.2.2.2.2.2.2.2.2.1 g15 g16 k) ?_
      have hK17 := KW.sI hK3 2239 (((((mI M1 2230 16) + 17) + (35 * l3)) + 34).toNat) (mI M1 2239 ((((mI M1 2230 16) + 17) + (35 * l3)) + 34).toNat)
      obtain ⟨g18, h⟩ := h
      refine Xv.up (pc' := 134) (L' := [some (zr 2230), some (zi a1), some (zi a2), some (zi (l3 + 1)), some (zi (((mI M1 2230 16) + 17) + (35 * l3)))]) (fun _ _ k => x_iinc dX10_comesBy_131 rfl g18 (by decide) rfl k) ?_
      refine Xv.up (pc' := 71) (fun _ _ k => x_goto dX10_comesBy_134 rfl k) ?_
      exact Xv.up (fun _ _ k => x_less (L' := [some (zr 2230), some (zi a1), some (zi a2), some (zi (l3 + 1)), none]) (⟨rfl, ⟨rfl, ⟨rfl, ⟨rfl, trivial⟩⟩⟩⟩) k) h
    · have h := h.2 c
      refine Xv.up (pc' := 117) (fun _ _ k => x_iload_n dX10_comesBy_116 rfl rfl k) ?_
      refine Xv.up (pc' := 130) (fun _ _ k => x_goto dX10_comesBy_117 rfl k) ?_
      obtain ⟨g19, h⟩ := h
      obtain ⟨g20, h⟩ := h
      refine Xv.up (pc' := 131) (fun _ _ k => x_iastoreK hK3 dX10_comesBy_130 h0.2.2.2.2.2.2.2.2.2.2.2.2.2.2.2.2.2.2.2.1 g19 g20 k) ?_
      have hK21 := KW.sI hK3 2239 (((((mI M1 2230 16) + 17) + (35 * l3)) + 34).toNat) a2
      obtain ⟨g22, h⟩ := h
      refine Xv.up (pc' := 134) (L' := [some (zr 2230), some (zi a1), some (zi a2), some (zi (l3 + 1)), some (zi (((mI M1 2230 16) + 17) + (35 * l3)))]) (fun _ _ k => x_iinc dX10_comesBy_131 rfl g22 (by decide) rfl k) ?_
      refine Xv.up (pc' := 71) (fun _ _ k => x_goto dX10_comesBy_134 rfl k) ?_
      exact Xv.up (fun _ _ k => x_less (L' := [some (zr 2230), some (zi a1), some (zi a2), some (zi (l3 + 1)), none]) (⟨rfl, ⟨rfl, ⟨rfl, ⟨rfl, trivial⟩⟩⟩⟩) k) h
set_option maxHeartbeats 4000000 in
set_option maxRecDepth 20000 in
theorem B10_takesOff {d : Nat} {K M : ZMem} {Q : ZMem → Prop} (a1 : Int) (hK : KW K M) (h0 : ModelAt K 2230) (h : Ci d q10_pointAt [zr 2230, zi a1] M (fun x2 M1 => KW K M1 ∧ (inR (x2 + 44)) ∧ (0 ≤ (x2 + 44)) ∧ ((x2 + 44) < 19245) ∧ (inR (x2 + 34)) ∧ (0 ≤ (x2 + 34)) ∧ ((x2 + 34) < 19245) ∧ Cv d q10_comesBy [zr 2230, zi (mI M1 2239 (x2 + 44).toNat), zi (mI M1 2239 (x2 + 34).toNat)] M1 (fun M11 => KW K M11 ∧ (inR ((mI M11 2230 16) + 14)) ∧ (0 ≤ ((mI M11 2230 16) + 14)) ∧ (((mI M11 2230 16) + 14) < 19245) ∧ (inR ((mI M11 2239 ((mI M11 2230 16) + 14).toNat) - 1)) ∧ (inR (((mI M11 2239 ((mI M11 2230 16) + 14).toNat) - 1) - a1)) ∧ (inR (x2 + 47)) ∧ (inR ((((mI M11 2239 ((mI M11 2230 16) + 14).toNat) - 1) - a1) * 47)) ∧ (0 ≤ (x2 + 47)) ∧ (0 ≤ x2) ∧ (0 ≤ ((((mI M11 2239 ((mI M11 2230 16) + 14).toNat) - 1) - a1) * 47)) ∧ ((x2 + 47) + ((((mI M11 2239 ((mI M11 2230 16) + 14).toNat) - 1) - a1) * 47) ≤ 19245) ∧ (x2 + ((((mI M11 2239 ((mI M11 2230 16) + 14).toNat) - 1) - a1) * 47) ≤ 19245) ∧ (inR ((mI (sA M11 2239 (zCpy (mI M11 2239) (mI M11 2239) (x2 + 47).toNat x2.toNat ((((mI M11 2239 ((mI M11 2230 16) + 14).toNat) - 1) - a1) * 47).toNat)) 2230 16) + 14)) ∧ (0 ≤ ((mI (sA M11 2239 (zCpy (mI M11 2239) (mI M11 2239) (x2 + 47).toNat x2.toNat ((((mI M11 2239 ((mI M11 2230 16) + 14).toNat) - 1) - a1) * 47).toNat)) 2230 16) + 14)) ∧ (((mI (sA M11 2239 (zCpy (mI M11 2239) (mI M11 2239) (x2 + 47).toNat x2.toNat ((((mI M11 2239 ((mI M11 2230 16) + 14).toNat) - 1) - a1) * 47).toNat)) 2230 16) + 14) < 19245) ∧ (inR ((mI (sA M11 2239 (zCpy (mI M11 2239) (mI M11 2239) (x2 + 47).toNat x2.toNat ((((mI M11 2239 ((mI M11 2230 16) + 14).toNat) - 1) - a1) * 47).toNat)) 2239 ((mI (sA M11 2239 (zCpy (mI M11 2239) (mI M11 2239) (x2 + 47).toNat x2.toNat ((((mI M11 2239 ((mI M11 2230 16) + 14).toNat) - 1) - a1) * 47).toNat)) 2230 16) + 14).toNat) - 1)) ∧ (0 ≤ ((mI (sA M11 2239 (zCpy (mI M11 2239) (mI M11 2239) (x2 + 47).toNat x2.toNat ((((mI M11 2239 ((mI M11 2230 16) + 14).toNat) - 1) - a1) * 47).toNat)) 2230 16) + 14)) ∧ (((mI (sA M11 2239 (zCpy (mI M11 2239) (mI M11 2239) (x2 + 47).toNat x2.toNat ((((mI M11 2239 ((mI M11 2230 16) + 14).toNat) - 1) - a1) * 47).toNat)) 2230 16) + 14) < 19245) ∧ Q (sI (sA M11 2239 (zCpy (mI M11 2239) (mI M11 2239) (x2 + 47).toNat x2.toNat ((((mI M11 2239 ((mI M11 2230 16) + 14).toNat) - 1) - a1) * 47).toNat)) 2239 (((mI (sA M11 2239 (zCpy (mI M11 2239) (mI M11 2239) (x2 + 47).toNat x2.toNat ((((mI M11 2239 ((mI M11 2230 16) + 14).toNat) - 1) - a1) * 47).toNat)) 2230 16) + 14).toNat) ((mI (sA M11 2239 (zCpy (mI M11 2239) (mI M11 2239) (x2 + 47).toNat x2.toNat ((((mI M11 2239 ((mI M11 2230 16) + 14).toNat) - 1) - a1) * 47).toNat)) 2239 ((mI (sA M11 2239 (zCpy (mI M11 2239) (mI M11 2239) (x2 + 47).toNat x2.toNat ((((mI M11 2239 ((mI M11 2230 16) + 14).toNat) - 1) - a1) * 47).toNat)) 2230 16) + 14).toNat) - 1))))) : Cv (d + 1) q10_takesOff [zr 2230, zi a1] M Q := by
  refine Cv.of rfl rfl (Nat.le_of_ble_eq_true rfl) (fun w hw x e => by subst e; simp at hw) (L := [some (zr 2230), some (zi a1), none, none]) rfl ?_
  refine Xv.up (pc' := 1) (fun _ _ k => x_aload_n dX10_takesOff_0 rfl rfl k) ?_
  refine Xv.up (pc' := 2) (fun _ _ k => x_iload_n dX10_takesOff_1 rfl rfl k) ?_
  obtain ⟨x2, M1, hc4, hK3, h⟩ := h
  refine Xv.up (pc' := 5) (st' := [zi x2]) (fun _ _ k => x_callVK (ci := 10) (as := [zi a1]) (st := []) hK k10_pointAt lm10_163 dX10_takesOff_2 rfl (by decide) (zs8 rfl) h0.1 ⟨_, _, rfl⟩ hc4 k) ?_
  refine Xv.up (pc' := 6) (L' := [some (zr 2230), some (zi a1), some (zi x2), none]) (fun _ _ k => x_istore_n dX10_takesOff_5 rfl (by decide) rfl k) ?_
  refine Xv.up (pc' := 7) (fun _ _ k => x_aload_n dX10_takesOff_6 rfl rfl k) ?_
  refine Xv.up (pc' := 8) (fun _ _ k => x_aload_n dX10_takesOff_7 rfl rfl k) ?_
  refine Xv.up (pc' := 11) (fun _ _ k => x_getRK hK3 lf10_35 rfl dX10_takesOff_8 h0.1 h0.2.2.2.2.2.2.2.2.2.1 k) ?_
  refine Xv.up (pc' := 12) (fun _ _ k => x_iload_n dX10_takesOff_11 rfl rfl k) ?_
  refine Xv.up (pc' := 14) (fun _ _ k => x_bipush dX10_takesOff_12 (show inR 44 from ⟨by decide, by decide⟩) (by decide) k) ?_
  obtain ⟨g5, h⟩ := h
  refine Xv.up (pc' := 15) (fun _ _ k => x_iadd dX10_takesOff_14 g5 k) ?_
  obtain ⟨g6, h⟩ := h
  obtain ⟨g7, h⟩ := h
  refine Xv.up (pc' := 16) (fun _ _ k => x_ialoadK hK3 dX10_takesOff_15 h0.2.2.2.2.2.2.2.2.2.2.2.2.2.2.2.2.2.2.2.1 g6 g7 k) ?_
  refine Xv.up (pc' := 17) (fun _ _ k => x_aload_n dX10_takesOff_16 rfl rfl k) ?_
  refine Xv.up (pc' := 20) (fun _ _ k => x_getRK hK3 lf10_35 rfl dX10_takesOff_17 h0.1 h0.2.2.2.2.2.2.2.2.2.1 k) ?_
  refine Xv.up (pc' := 21) (fun _ _ k => x_iload_n dX10_takesOff_20 rfl rfl k) ?_
  refine Xv.up (pc' := 23) (fun _ _ k => x_bipush dX10_takesOff_21 (show inR 34 from ⟨by decide, by decide⟩) (by decide) k) ?_
  obtain ⟨g8, h⟩ := h
  refine Xv.up (pc' := 24) (fun _ _ k => x_iadd dX10_takesOff_23 g8 k) ?_
  obtain ⟨g9, h⟩ := h
  obtain ⟨g10, h⟩ := h
  refine Xv.up (pc' := 25) (fun _ _ k => x_ialoadK hK3 dX10_takesOff_24 h0.2.2.2.2.2.2.2.2.2.2.2.2.2.2.2.2.2.2.2.1 g9 g10 k) ?_
  obtain ⟨M11, hc13, hK12, h⟩ := h
  refine Xv.up (pc' := 28) (st' := []) (fun _ _ k => x_callVK (ci := 10) (as := [zi (mI M1 2239 (x2 + 44).toNat), zi (mI M1 2239 (x2 + 34).toNat)]) (st := []) hK3 k10_comesBy lm10_169 dX10_takesOff_25 rfl (by decide) (zs8 rfl) h0.1 ⟨_, _, rfl⟩ hc13 k) ?_
  refine Xv.up (pc' := 29) (fun _ _ k => x_aload_n dX10_takesOff_28 rfl rfl k) ?_
  refine Xv.up (pc' := 32) (fun _ _ k => x_getRK hK12 lf10_35 rfl dX10_takesOff_29 h0.1 h0.2.2.2.2.2.2.2.2.2.1 k) ?_
  refine Xv.up (pc' := 33) (fun _ _ k => x_aload_n dX10_takesOff_32 rfl rfl k) ?_
  refine Xv.up (pc' := 36) (fun _ _ k => x_getIK hK12 lf10_156 rfl dX10_takesOff_33 h0.1 k) ?_
  refine Xv.up (pc' := 38) (fun _ _ k => x_bipush dX10_takesOff_36 (show inR 14 from ⟨by decide, by decide⟩) (by decide) k) ?_
  obtain ⟨g14, h⟩ := h
  refine Xv.up (pc' := 39) (fun _ _ k => x_iadd dX10_takesOff_38 g14 k) ?_
  obtain ⟨g15, h⟩ := h
  obtain ⟨g16, h⟩ := h
  refine Xv.up (pc' := 40) (fun _ _ k => x_ialoadK hK12 dX10_takesOff_39 h0.2.2.2.2.2.2.2.2.2.2.2.2.2.2.2.2.2.2.2.1 g15 g16 k) ?_
  refine Xv.up (pc' := 41) (fun _ _ k => x_iconst dX10_takesOff_40 (show inR 1 from ⟨by decide, by decide⟩) k) ?_
  obtain ⟨g17, h⟩ := h
  refine Xv.up (pc' := 42) (fun _ _ k => x_isub dX10_takesOff_41 g17 k) ?_
  refine Xv.up (pc' := 43) (fun _ _ k => x_iload_n dX10_takesOff_42 rfl rfl k) ?_
  obtain ⟨g18, h⟩ := h
  refine Xv.up (pc' := 44) (fun _ _ k => x_isub dX10_takesOff_43 g18 k) ?_
  refine Xv.up (pc' := 45) (L' := [some (zr 2230), some (zi a1), some (zi x2), some (zi (((mI M11 2239 ((mI M11 2230 16) + 14).toNat) - 1) - a1))]) (fun _ _ k => x_istore_n dX10_takesOff_44 rfl (by decide) rfl k) ?_
  refine Xv.up (pc' := 46) (fun _ _ k => x_aload_n dX10_takesOff_45 rfl rfl k) ?_
  refine Xv.up (pc' := 49) (fun _ _ k => x_getRK hK12 lf10_35 rfl dX10_takesOff_46 h0.1 h0.2.2.2.2.2.2.2.2.2.1 k) ?_
  refine Xv.up (pc' := 50) (fun _ _ k => x_iload_n dX10_takesOff_49 rfl rfl k) ?_
  refine Xv.up (pc' := 52) (fun _ _ k => x_bipush dX10_takesOff_50 (show inR 47 from ⟨by decide, by decide⟩) (by decide) k) ?_
  obtain ⟨g19, h⟩ := h
  refine Xv.up (pc' := 53) (fun _ _ k => x_iadd dX10_takesOff_52 g19 k) ?_
  refine Xv.up (pc' := 54) (fun _ _ k => x_aload_n dX10_takesOff_53 rfl rfl k) ?_
  refine Xv.up (pc' := 57) (fun _ _ k => x_getRK hK12 lf10_35 rfl dX10_takesOff_54 h0.1 h0.2.2.2.2.2.2.2.2.2.1 k) ?_
  refine Xv.up (pc' := 58) (fun _ _ k => x_iload_n dX10_takesOff_57 rfl rfl k) ?_
  refine Xv.up (pc' := 59) (fun _ _ k => x_iload_n dX10_takesOff_58 rfl rfl k) ?_
  refine Xv.up (pc' := 61) (fun _ _ k => x_bipush dX10_takesOff_59 (show inR 47 from ⟨by decide, by decide⟩) (by decide) k) ?_
  obtain ⟨g20, h⟩ := h
  refine Xv.up (pc' := 62) (fun _ _ k => x_imul dX10_takesOff_61 g20 k) ?_
  obtain ⟨g21, h⟩ := h
  obtain ⟨g22, h⟩ := h
  obtain ⟨g23, h⟩ := h
  obtain ⟨g24, h⟩ := h
  obtain ⟨g25, h⟩ := h
  refine Xv.up (pc' := 65) (fun _ _ k => x_copyK hK12 la10_173 dX10_takesOff_62 h0.2.2.2.2.2.2.2.2.2.2.2.2.2.2.2.2.2.2.2.1 h0.2.2.2.2.2.2.2.2.2.2.2.2.2.2.2.2.2.2.2.1 g21 g22 g23 g24 g25 k) ?_
  have hK26 := KW.sA hK12 2239 (zCpy (mI M11 2239) (mI M11 2239) (x2 + 47).toNat x2.toNat ((((mI M11 2239 ((mI M11 2230 16) + 14).toNat) - 1) - a1) * 47).toNat)
  refine Xv.up (pc' := 66) (fun _ _ k => x_aload_n dX10_takesOff_65 rfl rfl k) ?_
  refine Xv.up (pc' := 69) (fun _ _ k => x_getRK hK26 lf10_35 rfl dX10_takesOff_66 h0.1 h0.2.2.2.2.2.2.2.2.2.1 k) ?_
  refine Xv.up (pc' := 70) (fun _ _ k => x_aload_n dX10_takesOff_69 rfl rfl k) ?_
  refine Xv.up (pc' := 73) (fun _ _ k => x_getIK hK26 lf10_156 rfl dX10_takesOff_70 h0.1 k) ?_
  refine Xv.up (pc' := 75) (fun _ _ k => x_bipush dX10_takesOff_73 (show inR 14 from ⟨by decide, by decide⟩) (by decide) k) ?_
  obtain ⟨g27, h⟩ := h
  refine Xv.up (pc' := 76) (fun _ _ k => x_iadd dX10_takesOff_75 g27 k) ?_
  refine Xv.up (pc' := 77) (fun _ _ k => x_dup2 dX10_takesOff_76 k) ?_
  obtain ⟨g28, h⟩ := h
  obtain ⟨g29, h⟩ := h
  refine Xv.up (pc' := 78) (fun _ _ k => x_ialoadK hK26 dX10_takesOff_77 h0.2.2.2.2.2.2.2.2.2.2.2.2.2.2.2.2.2.2.2.1 g28 g29 k) ?_
  refine Xv.up (pc' := 79) (fun _ _ k => x_iconst dX10_takesOff_78 (show inR 1 from ⟨by decide, by decide⟩) k) ?_
  obtain ⟨g30, h⟩ := h
  refine Xv.up (pc' := 80) (fun _ _ k => x_isub dX10_takesOff_79 g30 k) ?_
  obtain ⟨g31, h⟩ := h
  obtain ⟨g32, h⟩ := h
  refine Xv.up (pc' := 81) (fun _ _ k => x_iastoreK hK26 dX10_takesOff_80 h0.2.2.2.2.2.2.2.2.2.2.2.2.2.2.2.2.2.2.2.1 g31 g32 k) ?_
  have hK33 := KW.sI hK26 2239 (((mI (sA M11 2239 (zCpy (mI M11 2239) (mI M11 2239) (x2 + 47).toNat x2.toNat ((((mI M11 2239 ((mI M11 2230 16) + 14).toNat) - 1) - a1) * 47).toNat)) 2230 16) + 14).toNat) ((mI (sA M11 2239 (zCpy (mI M11 2239) (mI M11 2239) (x2 + 47).toNat x2.toNat ((((mI M11 2239 ((mI M11 2230 16) + 14).toNat) - 1) - a1) * 47).toNat)) 2239 ((mI (sA M11 2239 (zCpy (mI M11 2239) (mI M11 2239) (x2 + 47).toNat x2.toNat ((((mI M11 2239 ((mI M11 2230 16) + 14).toNat) - 1) - a1) * 47).toNat)) 2230 16) + 14).toNat) - 1)
  exact Xv.ret ⟨dX10_takesOff_81, rfl⟩ h
set_option maxHeartbeats 4000000 in
set_option maxRecDepth 20000 in
theorem B10_pointOf {d : Nat} {K M : ZMem} {Q : Int → ZMem → Prop} (a1 : Int) (hK : KW K M) (h0 : ModelAt K 2230) (h : Xi (d + 1) q10_pointOf 2 [some (zr 2230), some (zi a1), some (zi 0)] [] M Q) : Ci (d + 1) q10_pointOf [zr 2230, zi a1] M Q := by
  refine Ci.of rfl rfl (Nat.le_of_ble_eq_true rfl) (fun w hw x e => by subst e; simp at hw) (L := [some (zr 2230), some (zi a1), none]) rfl ?_
  refine Xi.up (pc' := 1) (fun _ _ k => x_iconst dX10_pointOf_0 (show inR 0 from ⟨by decide, by decide⟩) k) ?_
  refine Xi.up (pc' := 2) (L' := [some (zr 2230), some (zi a1), some (zi 0)]) (fun _ _ k => x_istore_n dX10_pointOf_1 rfl (by decide) rfl k) ?_
  exact h
set_option maxHeartbeats 4000000 in
set_option maxRecDepth 20000 in
theorem B10_pointOf_2 {d : Nat} {K M : ZMem} {Q : Int → ZMem → Prop} (a1 : Int) (l2 : Int) (hK : KW K M) (h0 : ModelAt K 2230) (h : (inR ((mI M 2230 16) + 14)) ∧ (0 ≤ ((mI M 2230 16) + 14)) ∧ (((mI M 2230 16) + 14) < 19245) ∧ (((mI M 2239 ((mI M 2230 16) + 14).toNat) ≤ l2 → (Q (-1) M)) ∧ (¬ ((mI M 2239 ((mI M 2230 16) + 14).toNat) ≤ l2) → (Ci d q10_pointAt [zr 2230, zi l2] M (fun x5 M4 => KW K M4 ∧ (inR (x5 + 44)) ∧ (0 ≤ (x5 + 44)) ∧ ((x5 + 44) < 19245) ∧ (((mI M4 2239 (x5 + 44).toNat) ≠ a1 → ((inR (l2 + 1)) ∧ Xi (d + 1) q10_pointOf 2 [some (zr 2230), some (zi a1), some (zi (l2 + 1))] [] M4 Q)) ∧ (¬ ((mI M4 2239 (x5 + 44).toNat) ≠ a1) → (Q l2 M4)))))))) : Xi (d + 1) q10_pointOf 2 [some (zr 2230), some (zi a1), some (zi l2)] [] M Q := by
  refine Xi.up (pc' := 3) (fun _ _ k => x_iload_n dX10_pointOf_2 rfl rfl k) ?_
  refine Xi.up (pc' := 4) (fun _ _ k => x_aload_n dX10_pointOf_3 rfl rfl k) ?_
  refine Xi.up (pc' := 7) (fun _ _ k => x_getRK hK lf10_35 rfl dX10_pointOf_4 h0.1 h0.2.2.2.2.2.2.2.2.2.1 k) ?_
  refine Xi.up (pc' := 8) (fun _ _ k => x_aload_n dX10_pointOf_7 rfl rfl k) ?_
  refine Xi.up (pc' := 11) (fun _ _ k => x_getIK hK lf10_156 rfl dX10_pointOf_8 h0.1 k) ?_
  refine Xi.up (pc' := 13) (fun _ _ k => x_bipush dX10_pointOf_11 (show inR 14 from ⟨by decide, by decide⟩) (by decide) k) ?_
  obtain ⟨g1, h⟩ := h
  refine Xi.up (pc' := 14) (fun _ _ k => x_iadd dX10_pointOf_13 g1 k) ?_
  obtain ⟨g2, h⟩ := h
  obtain ⟨g3, h⟩ := h
  refine Xi.up (pc' := 15) (fun _ _ k => x_ialoadK hK dX10_pointOf_14 h0.2.2.2.2.2.2.2.2.2.2.2.2.2.2.2.2.2.2.2.1 g2 g3 k) ?_
  refine Xi.br (tgt := 43) (pc' := 18) ((mI M 2239 ((mI M 2230 16) + 14).toNat) ≤ l2) (fun _ _ kt kf => x_icmp_ge dX10_pointOf_15 rfl kt kf) (fun c => ?_) (fun c => ?_)
  · have h := h.1 c
    refine Xi.up (pc' := 44) (fun _ _ k => x_iconst dX10_pointOf_43 (show inR (-1) from ⟨by decide, by decide⟩) k) ?_
    exact Xi.ret ⟨dX10_pointOf_44, Or.inl rfl⟩ h
  · have h := h.2 c
    refine Xi.up (pc' := 19) (fun _ _ k => x_aload_n dX10_pointOf_18 rfl rfl k) ?_
    refine Xi.up (pc' := 22) (fun _ _ k => x_getRK hK lf10_35 rfl dX10_pointOf_19 h0.1 h0.2.2.2.2.2.2.2.2.2.1 k) ?_
    refine Xi.up (pc' := 23) (fun _ _ k => x_aload_n dX10_pointOf_22 rfl rfl k) ?_
    refine Xi.up (pc' := 24) (fun _ _ k => x_iload_n dX10_pointOf_23 rfl rfl k) ?_
    obtain ⟨x5, M4, hc7, hK6, h⟩ := h
    refine Xi.up (pc' := 27) (st' := [zi x5, zr 2239]) (fun _ _ k => x_callVK (ci := 10) (as := [zi l2]) (st := [zr 2239]) hK k10_pointAt lm10_163 dX10_pointOf_24 rfl (by decide) (zs8 rfl) h0.1 ⟨_, _, rfl⟩ hc7 k) ?_
    refine Xi.up (pc' := 29) (fun _ _ k => x_bipush dX10_pointOf_27 (show inR 44 from ⟨by decide, by decide⟩) (by decide) k) ?_
    obtain ⟨g8, h⟩ := h
    refine Xi.up (pc' := 30) (fun _ _ k => x_iadd dX10_pointOf_29 g8 k) ?_
    obtain ⟨g9, h⟩ := h
    obtain ⟨g10, h⟩ := h
    refine Xi.up (pc' := 31) (fun _ _ k => x_ialoadK hK6 dX10_pointOf_30 h0.2.2.2.2.2.2.2.2.2.2.2.2.2.2.2.2.2.2.2.1 g9 g10 k) ?_
    refine Xi.up (pc' := 32) (fun _ _ k => x_iload_n dX10_pointOf_31 rfl rfl k) ?_
    refine Xi.br (tgt := 37) (pc' := 35) ((mI M4 2239 (x5 + 44).toNat) ≠ a1) (fun _ _ kt kf => x_icmp_ne dX10_pointOf_32 rfl kt kf) (fun c => ?_) (fun c => ?_)
    · have h := h.1 c
      obtain ⟨g11, h⟩ := h
      refine Xi.up (pc' := 40) (L' := [some (zr 2230), some (zi a1), some (zi (l2 + 1))]) (fun _ _ k => x_iinc dX10_pointOf_37 rfl g11 (by decide) rfl k) ?_
      refine Xi.up (pc' := 2) (fun _ _ k => x_goto dX10_pointOf_40 rfl k) ?_
      exact h
    · have h := h.2 c
      refine Xi.up (pc' := 36) (fun _ _ k => x_iload_n dX10_pointOf_35 rfl rfl k) ?_
      exact Xi.ret ⟨dX10_pointOf_36, Or.inl rfl⟩ h
set_option maxHeartbeats 4000000 in
set_option maxRecDepth 20000 in
theorem B10_cuts {d : Nat} {K M : ZMem} {Q : ZMem → Prop} (a1 : Int) (hK : KW K M) (h0 : ModelAt K 2230) (h : (inR ((mI M 2230 17) + 34)) ∧ (0 ≤ ((mI M 2230 17) + 34)) ∧ (((mI M 2230 17) + 34) < 19245) ∧ Ci d q10_pointOf [zr 2230, zi (mI M 2239 ((mI M 2230 17) + 34).toNat)] M (fun x5 M4 => KW K M4 ∧ Xv (d + 1) q10_cuts 17 [some (zr 2230), some (zi a1), some (zi x5)] [] M4 Q)) : Cv (d + 1) q10_cuts [zr 2230, zi a1] M Q := by
  refine Cv.of rfl rfl (Nat.le_of_ble_eq_true rfl) (fun w hw x e => by subst e; simp at hw) (L := [some (zr 2230), some (zi a1), none]) rfl ?_
  refine Xv.up (pc' := 1) (fun _ _ k => x_aload_n dX10_cuts_0 rfl rfl k) ?_
  refine Xv.up (pc' := 2) (fun _ _ k => x_aload_n dX10_cuts_1 rfl rfl k) ?_
  refine Xv.up (pc' := 5) (fun _ _ k => x_getRK hK lf10_35 rfl dX10_cuts_2 h0.1 h0.2.2.2.2.2.2.2.2.2.1 k) ?_
  refine Xv.up (pc' := 6) (fun _ _ k => x_aload_n dX10_cuts_5 rfl rfl k) ?_
  refine Xv.up (pc' := 9) (fun _ _ k => x_getIK hK lf10_160 rfl dX10_cuts_6 h0.1 k) ?_
  refine Xv.up (pc' := 11) (fun _ _ k => x_bipush dX10_cuts_9 (show inR 34 from ⟨by decide, by decide⟩) (by decide) k) ?_
  obtain ⟨g1, h⟩ := h
  refine Xv.up (pc' := 12) (fun _ _ k => x_iadd dX10_cuts_11 g1 k) ?_
  obtain ⟨g2, h⟩ := h
  obtain ⟨g3, h⟩ := h
  refine Xv.up (pc' := 13) (fun _ _ k => x_ialoadK hK dX10_cuts_12 h0.2.2.2.2.2.2.2.2.2.2.2.2.2.2.2.2.2.2.2.1 g2 g3 k) ?_
  obtain ⟨x5, M4, hc7, hK6, h⟩ := h
  refine Xv.up (pc' := 16) (st' := [zi x5]) (fun _ _ k => x_callVK (ci := 10) (as := [zi (mI M 2239 ((mI M 2230 17) + 34).toNat)]) (st := []) hK k10_pointOf lm10_179 dX10_cuts_13 rfl (by decide) (zs8 rfl) h0.1 ⟨_, _, rfl⟩ hc7 k) ?_
  refine Xv.up (pc' := 17) (L' := [some (zr 2230), some (zi a1), some (zi x5)]) (fun _ _ k => x_istore_n dX10_cuts_16 rfl (by decide) rfl k) ?_
  exact h
set_option maxHeartbeats 4000000 in
set_option maxRecDepth 20000 in
theorem B10_cuts_17 {d : Nat} {K M : ZMem} {Q : ZMem → Prop} (a1 : Int) (l2 : Int) (hK : KW K M) (h0 : ModelAt K 2230) (h : ((l2 = (-1) → (Q M)) ∧ (¬ (l2 = (-1)) → (Ci d q10_pointAt [zr 2230, zi l2] M (fun x2 M1 => KW K M1 ∧ (inR (x2 + 32)) ∧ (0 ≤ (x2 + 32)) ∧ ((x2 + 32) < 19245) ∧ (((mI M1 2239 (x2 + 32).toNat) < a1 → (Q M1)) ∧ (¬ ((mI M1 2239 (x2 + 32).toNat) < a1) → ((inR ((mI M1 2230 16) + 7)) ∧ (0 ≤ ((mI M1 2230 16) + 7)) ∧ (((mI M1 2230 16) + 7) < 19245) ∧ Ci d q10_level [zr 2230] M1 (fun x12 M11 => KW K M11 ∧ ((x12 ≠ 0 → ((inR ((mI M1 2239 ((mI M1 2230 16) + 7).toNat) + 0)) ∧ (0 ≤ ((mI M1 2230 16) + 7)) ∧ (((mI M1 2230 16) + 7) < 19245) ∧ Cv d q10_takesOff [zr 2230, zi l2] (sI M11 2239 (((mI M1 2230 16) + 7).toNat) ((mI M1 2239 ((mI M1 2230 16) + 7).toNat) + 0)) (fun M19 => KW K M19 ∧ (inR ((mI M19 2230 17) + 34)) ∧ (0 ≤ ((mI M19 2230 17) + 34)) ∧ (((mI M19 2230 17) + 34) < 19245) ∧ Ci d q10_pointOf [zr 2230, zi (mI M19 2239 ((mI M19 2230 17) + 34).toNat)] M19 (fun x26 M25 => KW K M25 ∧ Xv (d + 1) q10_cuts 17 [some (zr 2230), some (zi a1), some (zi x26)] [] M25 Q)))) ∧ (¬ (x12 ≠ 0) → ((inR ((mI M1 2239 ((mI M1 2230 16) + 7).toNat) + 1)) ∧ (0 ≤ ((mI M1 2230 16) + 7)) ∧ (((mI M1 2230 16) + 7) < 19245) ∧ Cv d q10_takesOff [zr 2230, zi l2] (sI M11 2239 (((mI M1 2230 16) + 7).toNat) ((mI M1 2239 ((mI M1 2230 16) + 7).toNat) + 1)) (fun M33 => KW K M33 ∧ (inR ((mI M33 2230 17) + 34)) ∧ (0 ≤ ((mI M33 2230 17) + 34)) ∧ (((mI M33 2230 17) + 34) < 19245) ∧ Ci d q10_pointOf [zr 2230, zi (mI M33 2239 ((mI M33 2230 17) + 34).toNat)] M33 (fun x40 M39 => KW K M39 ∧ Xv (d + 1) q10_cuts 17 [some (zr 2230), some (zi a1), some (zi x40)] [] M39 Q)))))))))))))) : Xv (d + 1) q10_cuts 17 [some (zr 2230), some (zi a1), some (zi l2)] [] M Q := by
  refine Xv.up (pc' := 18) (fun _ _ k => x_iload_n dX10_cuts_17 rfl rfl k) ?_
  refine Xv.up (pc' := 19) (fun _ _ k => x_iconst dX10_cuts_18 (show inR (-1) from ⟨by decide, by decide⟩) k) ?_
  refine Xv.br (tgt := 91) (pc' := 22) (l2 = (-1)) (fun _ _ kt kf => x_icmp_eq dX10_cuts_19 rfl kt kf) (fun c => ?_) (fun c => ?_)
  · have h := h.1 c
    exact Xv.ret ⟨dX10_cuts_91, rfl⟩ h
  · have h := h.2 c
    refine Xv.up (pc' := 23) (fun _ _ k => x_aload_n dX10_cuts_22 rfl rfl k) ?_
    refine Xv.up (pc' := 26) (fun _ _ k => x_getRK hK lf10_35 rfl dX10_cuts_23 h0.1 h0.2.2.2.2.2.2.2.2.2.1 k) ?_
    refine Xv.up (pc' := 27) (fun _ _ k => x_aload_n dX10_cuts_26 rfl rfl k) ?_
    refine Xv.up (pc' := 28) (fun _ _ k => x_iload_n dX10_cuts_27 rfl rfl k) ?_
    obtain ⟨x2, M1, hc4, hK3, h⟩ := h
    refine Xv.up (pc' := 31) (st' := [zi x2, zr 2239]) (fun _ _ k => x_callVK (ci := 10) (as := [zi l2]) (st := [zr 2239]) hK k10_pointAt lm10_163 dX10_cuts_28 rfl (by decide) (zs8 rfl) h0.1 ⟨_, _, rfl⟩ hc4 k) ?_
    refine Xv.up (pc' := 33) (fun _ _ k => x_bipush dX10_cuts_31 (show inR 32 from ⟨by decide, by decide⟩) (by decide) k) ?_
    obtain ⟨g5, h⟩ := h
    refine Xv.up (pc' := 34) (fun _ _ k => x_iadd dX10_cuts_33 g5 k) ?_
    obtain ⟨g6, h⟩ := h
    obtain ⟨g7, h⟩ := h
    refine Xv.up (pc' := 35) (fun _ _ k => x_ialoadK hK3 dX10_cuts_34 h0.2.2.2.2.2.2.2.2.2.2.2.2.2.2.2.2.2.2.2.1 g6 g7 k) ?_
    refine Xv.up (pc' := 36) (fun _ _ k => x_iload_n dX10_cuts_35 rfl rfl k) ?_
    refine Xv.br (tgt := 91) (pc' := 39) ((mI M1 2239 (x2 + 32).toNat) < a1) (fun _ _ kt kf => x_icmp_lt dX10_cuts_36 rfl kt kf) (fun c => ?_) (fun c => ?_)
    · have h := h.1 c
      exact Xv.ret ⟨dX10_cuts_91, rfl⟩ h
    · have h := h.2 c
      refine Xv.up (pc' := 40) (fun _ _ k => x_aload_n dX10_cuts_39 rfl rfl k) ?_
      refine Xv.up (pc' := 43) (fun _ _ k => x_getRK hK3 lf10_35 rfl dX10_cuts_40 h0.1 h0.2.2.2.2.2.2.2.2.2.1 k) ?_
      refine Xv.up (pc' := 44) (fun _ _ k => x_aload_n dX10_cuts_43 rfl rfl k) ?_
      refine Xv.up (pc' := 47) (fun _ _ k => x_getIK hK3 lf10_156 rfl dX10_cuts_44 h0.1 k) ?_
      refine Xv.up (pc' := 49) (fun _ _ k => x_bipush dX10_cuts_47 (show inR 7 from ⟨by decide, by decide⟩) (by decide) k) ?_
      obtain ⟨g8, h⟩ := h
      refine Xv.up (pc' := 50) (fun _ _ k => x_iadd dX10_cuts_49 g8 k) ?_
      refine Xv.up (pc' := 51) (fun _ _ k => x_dup2 dX10_cuts_50 k) ?_
      obtain ⟨g9, h⟩ := h
      obtain ⟨g10, h⟩ := h
      refine Xv.up (pc' := 52) (fun _ _ k => x_ialoadK hK3 dX10_cuts_51 h0.2.2.2.2.2.2.2.2.2.2.2.2.2.2.2.2.2.2.2.1 g9 g10 k) ?_
      refine Xv.up (pc' := 53) (fun _ _ k => x_aload_n dX10_cuts_52 rfl rfl k) ?_
      obtain ⟨x12, M11, hc14, hK13, h⟩ := h
      refine Xv.up (pc' := 56) (st' := [zi x12, zi (mI M1 2239 ((mI M1 2230 16) + 7).toNat), zi ((mI M1 2230 16) + 7), zr 2239]) (fun _ _ k => x_callVK (ci := 10) (as := []) (st := [zi (mI M1 2239 ((mI M1 2230 16) + 7).toNat), zi ((mI M1 2230 16) + 7), zr 2239]) hK3 k10_level lm10_166 dX10_cuts_53 rfl (by decide) (zs8 rfl) h0.1 ⟨_, _, rfl⟩ hc14 k) ?_
      refine Xv.br (tgt := 63) (pc' := 59) (x12 ≠ 0) (fun _ _ kt kf => x_if_ne dX10_cuts_56 rfl kt kf) (fun c => ?_) (fun c => ?_)
      · have h := h.1 c
        refine Xv.up (pc' := 64) (fun _ _ k => x_iconst dX10_cuts_63 (show inR 0 from ⟨by decide, by decide⟩) k) ?_
        obtain ⟨g15, h⟩ := h
        refine Xv.up (pc' := 65) (fun _ _ k => x_iadd dX10_cuts_64 g15 k) ?_
        obtain ⟨g16, h⟩ := h
        obtain ⟨g17, h⟩ := h
        refine Xv.up (pc' := 66) (fun _ _ k => x_iastoreK hK13 dX10_cuts_65 h0.2.2.2.2.2.2.2.2.2.2.2.2.2.2.2.2.2.2.2.1 g16 g17 k) ?_
        have hK18 := KW.sI hK13 2239 (((mI M1 2230 16) + 7).toNat) ((mI M1 2239 ((mI M1 2230 16) + 7).toNat) + 0)
        refine Xv.up (pc' := 67) (fun _ _ k => x_aload_n dX10_cuts_66 rfl rfl k) ?_
        refine Xv.up (pc' := 68) (fun _ _ k => x_iload_n dX10_cuts_67 rfl rfl k) ?_
        obtain ⟨M19, hc21, hK20, h⟩ := h
        refine Xv.up (pc' := 71) (st' := []) (fun _ _ k => x_callVK (ci := 10) (as := [zi l2]) (st := []) hK18 k10_takesOff lm10_182 dX10_cuts_68 rfl (by decide) (zs8 rfl) h0.1 ⟨_, _, rfl⟩ hc21 k) ?_
        refine Xv.up (pc' := 72) (fun _ _ k => x_aload_n dX10_cuts_71 rfl rfl k) ?_
        refine Xv.up (pc' := 73) (fun _ _ k => x_aload_n dX10_cuts_72 rfl rfl k) ?_
        refine Xv.up (pc' := 76) (fun _ _ k => x_getRK hK20 lf10_35 rfl dX10_cuts_73 h0.1 h0.2.2.2.2.2.2.2.2.2.1 k) ?_
        refine Xv.up (pc' := 77) (fun _ _ k => x_aload_n dX10_cuts_76 rfl rfl k) ?_
        refine Xv.up (pc' := 80) (fun _ _ k => x_getIK hK20 lf10_160 rfl dX10_cuts_77 h0.1 k) ?_
        refine Xv.up (pc' := 82) (fun _ _ k => x_bipush dX10_cuts_80 (show inR 34 from ⟨by decide, by decide⟩) (by decide) k) ?_
        obtain ⟨g22, h⟩ := h
        refine Xv.up (pc' := 83) (fun _ _ k => x_iadd dX10_cuts_82 g22 k) ?_
        obtain ⟨g23, h⟩ := h
        obtain ⟨g24, h⟩ := h
        refine Xv.up (pc' := 84) (fun _ _ k => x_ialoadK hK20 dX10_cuts_83 h0.2.2.2.2.2.2.2.2.2.2.2.2.2.2.2.2.2.2.2.1 g23 g24 k) ?_
        obtain ⟨x26, M25, hc28, hK27, h⟩ := h
        refine Xv.up (pc' := 87) (st' := [zi x26]) (fun _ _ k => x_callVK (ci := 10) (as := [zi (mI M19 2239 ((mI M19 2230 17) + 34).toNat)]) (st := []) hK20 k10_pointOf lm10_179 dX10_cuts_84 rfl (by decide) (zs8 rfl) h0.1 ⟨_, _, rfl⟩ hc28 k) ?_
        refine Xv.up (pc' := 88) (L' := [some (zr 2230), some (zi a1), some (zi x26)]) (fun _ _ k => x_istore_n dX10_cuts_87 rfl (by decide) rfl k) ?_
        refine Xv.up (pc' := 17) (fun _ _ k => x_goto dX10_cuts_88 rfl k) ?_
        exact h
      · have h := h.2 c
        refine Xv.up (pc' := 60) (fun _ _ k => x_iconst dX10_cuts_59 (show inR 1 from ⟨by decide, by decide⟩) k) ?_
        refine Xv.up (pc' := 64) (fun _ _ k => x_goto dX10_cuts_60 rfl k) ?_
        obtain ⟨g29, h⟩ := h
        refine Xv.up (pc' := 65) (fun _ _ k => x_iadd dX10_cuts_64 g29 k) ?_
        obtain ⟨g30, h⟩ := h
        obtain ⟨g31, h⟩ := h
        refine Xv.up (pc' := 66) (fun _ _ k => x_iastoreK hK13 dX10_cuts_65 h0.2.2.2.2.2.2.2.2.2.2.2.2.2.2.2.2.2.2.2.1 g30 g31 k) ?_
        have hK32 := KW.sI hK13 2239 (((mI M1 2230 16) + 7).toNat) ((mI M1 2239 ((mI M1 2230 16) + 7).toNat) + 1)
        refine Xv.up (pc' := 67) (fun _ _ k => x_aload_n dX10_cuts_66 rfl rfl k) ?_
        refine Xv.up (pc' := 68) (fun _ _ k => x_iload_n dX10_cuts_67 rfl rfl k) ?_
        obtain ⟨M33, hc35, hK34, h⟩ := h
        refine Xv.up (pc' := 71) (st' := []) (fun _ _ k => x_callVK (ci := 10) (as := [zi l2]) (st := []) hK32 k10_takesOff lm10_182 dX10_cuts_68 rfl (by decide) (zs8 rfl) h0.1 ⟨_, _, rfl⟩ hc35 k) ?_
        refine Xv.up (pc' := 72) (fun _ _ k => x_aload_n dX10_cuts_71 rfl rfl k) ?_
        refine Xv.up (pc' := 73) (fun _ _ k => x_aload_n dX10_cuts_72 rfl rfl k) ?_
        refine Xv.up (pc' := 76) (fun _ _ k => x_getRK hK34 lf10_35 rfl dX10_cuts_73 h0.1 h0.2.2.2.2.2.2.2.2.2.1 k) ?_
        refine Xv.up (pc' := 77) (fun _ _ k => x_aload_n dX10_cuts_76 rfl rfl k) ?_
        refine Xv.up (pc' := 80) (fun _ _ k => x_getIK hK34 lf10_160 rfl dX10_cuts_77 h0.1 k) ?_
        refine Xv.up (pc' := 82) (fun _ _ k => x_bipush dX10_cuts_80 (show inR 34 from ⟨by decide, by decide⟩) (by decide) k) ?_
        obtain ⟨g36, h⟩ := h
        refine Xv.up (pc' := 83) (fun _ _ k => x_iadd dX10_cuts_82 g36 k) ?_
        obtain ⟨g37, h⟩ := h
        obtain ⟨g38, h⟩ := h
        refine Xv.up (pc' := 84) (fun _ _ k => x_ialoadK hK34 dX10_cuts_83 h0.2.2.2.2.2.2.2.2.2.2.2.2.2.2.2.2.2.2.2.1 g37 g38 k) ?_
        obtain ⟨x40, M39, hc42, hK41, h⟩ := h
        refine Xv.up (pc' := 87) (st' := [zi x40]) (fun _ _ k => x_callVK (ci := 10) (as := [zi (mI M33 2239 ((mI M33 2230 17) + 34).toNat)]) (st := []) hK34 k10_pointOf lm10_179 dX10_cuts_84 rfl (by decide) (zs8 rfl) h0.1 ⟨_, _, rfl⟩ hc42 k) ?_
        refine Xv.up (pc' := 88) (L' := [some (zr 2230), some (zi a1), some (zi x40)]) (fun _ _ k => x_istore_n dX10_cuts_87 rfl (by decide) rfl k) ?_
        refine Xv.up (pc' := 17) (fun _ _ k => x_goto dX10_cuts_88 rfl k) ?_
        exact h
set_option maxHeartbeats 4000000 in
set_option maxRecDepth 20000 in
theorem B10_begins {d : Nat} {K M : ZMem} {Q : ZMem → Prop} (a1 : Int) (hK : KW K M) (h0 : ModelAt K 2230) (h : (inR ((mI M 2230 17) + 8)) ∧ (0 ≤ ((mI M 2230 17) + 8)) ∧ (((mI M 2230 17) + 8) < 19245) ∧ (inR ((mI (sI M 2239 (((mI M 2230 17) + 8).toNat) a1) 2230 17) + 9)) ∧ (0 ≤ ((mI (sI M 2239 (((mI M 2230 17) + 8).toNat) a1) 2230 17) + 9)) ∧ (((mI (sI M 2239 (((mI M 2230 17) + 8).toNat) a1) 2230 17) + 9) < 19245) ∧ (inR ((mI (sI (sI M 2239 (((mI M 2230 17) + 8).toNat) a1) 2239 (((mI (sI M 2239 (((mI M 2230 17) + 8).toNat) a1) 2230 17) + 9).toNat) 0) 2230 17) + 31)) ∧ (0 ≤ ((mI (sI (sI M 2239 (((mI M 2230 17) + 8).toNat) a1) 2239 (((mI (sI M 2239 (((mI M 2230 17) + 8).toNat) a1) 2230 17) + 9).toNat) 0) 2230 17) + 31)) ∧ (((mI (sI (sI M 2239 (((mI M 2230 17) + 8).toNat) a1) 2239 (((mI (sI M 2239 (((mI M 2230 17) + 8).toNat) a1) 2230 17) + 9).toNat) 0) 2230 17) + 31) < 19245) ∧ (inR ((mI (sI (sI (sI M 2239 (((mI M 2230 17) + 8).toNat) a1) 2239 (((mI (sI M 2239 (((mI M 2230 17) + 8).toNat) a1) 2230 17) + 9).toNat) 0) 2239 (((mI (sI (sI M 2239 (((mI M 2230 17) + 8).toNat) a1) 2239 (((mI (sI M 2239 (((mI M 2230 17) + 8).toNat) a1) 2230 17) + 9).toNat) 0) 2230 17) + 31).toNat) 0) 2230 17) + 32)) ∧ (0 ≤ ((mI (sI (sI (sI M 2239 (((mI M 2230 17) + 8).toNat) a1) 2239 (((mI (sI M 2239 (((mI M 2230 17) + 8).toNat) a1) 2230 17) + 9).toNat) 0) 2239 (((mI (sI (sI M 2239 (((mI M 2230 17) + 8).toNat) a1) 2239 (((mI (sI M 2239 (((mI M 2230 17) + 8).toNat) a1) 2230 17) + 9).toNat) 0) 2230 17) + 31).toNat) 0) 2230 17) + 32)) ∧ (((mI (sI (sI (sI M 2239 (((mI M 2230 17) + 8).toNat) a1) 2239 (((mI (sI M 2239 (((mI M 2230 17) + 8).toNat) a1) 2230 17) + 9).toNat) 0) 2239 (((mI (sI (sI M 2239 (((mI M 2230 17) + 8).toNat) a1) 2239 (((mI (sI M 2239 (((mI M 2230 17) + 8).toNat) a1) 2230 17) + 9).toNat) 0) 2230 17) + 31).toNat) 0) 2230 17) + 32) < 19245) ∧ (inR ((mI (sI (sI (sI (sI M 2239 (((mI M 2230 17) + 8).toNat) a1) 2239 (((mI (sI M 2239 (((mI M 2230 17) + 8).toNat) a1) 2230 17) + 9).toNat) 0) 2239 (((mI (sI (sI M 2239 (((mI M 2230 17) + 8).toNat) a1) 2239 (((mI (sI M 2239 (((mI M 2230 17) + 8).toNat) a1) 2230 17) + 9).toNat) 0) 2230 17) + 31).toNat) 0) 2239 (((mI (sI (sI (sI M 2239 (((mI M 2230 17) + 8).toNat) a1) 2239 (((mI (sI M 2239 (((mI M 2230 17) + 8).toNat) a1) 2230 17) + 9).toNat) 0) 2239 (((mI (sI (sI M 2239 (((mI M 2230 17) + 8).toNat) a1) 2239 (((mI (sI M 2239 (((mI M 2230 17) + 8).toNat) a1) 2230 17) + 9).toNat) 0) 2230 17) + 31).toNat) 0) 2230 17) + 32).toNat) 0) 2230 17) + 33)) ∧ (0 ≤ ((mI (sI (sI (sI (sI M 2239 (((mI M 2230 17) + 8).toNat) a1) 2239 (((mI (sI M 2239 (((mI M 2230 17) + 8).toNat) a1) 2230 17) + 9).toNat) 0) 2239 (((mI (sI (sI M 2239 (((mI M 2230 17) + 8).toNat) a1) 2239 (((mI (sI M 2239 (((mI M 2230 17) + 8).toNat) a1) 2230 17) + 9).toNat) 0) 2230 17) + 31).toNat) 0) 2239 (((mI (sI (sI (sI M 2239 (((mI M 2230 17) + 8).toNat) a1) 2239 (((mI (sI M 2239 (((mI M 2230 17) + 8).toNat) a1) 2230 17) + 9).toNat) 0) 2239 (((mI (sI (sI M 2239 (((mI M 2230 17) + 8).toNat) a1) 2239 (((mI (sI M 2239 (((mI M 2230 17) + 8).toNat) a1) 2230 17) + 9).toNat) 0) 2230 17) + 31).toNat) 0) 2230 17) + 32).toNat) 0) 2230 17) + 33)) ∧ (((mI (sI (sI (sI (sI M 2239 (((mI M 2230 17) + 8).toNat) a1) 2239 (((mI (sI M 2239 (((mI M 2230 17) + 8).toNat) a1) 2230 17) + 9).toNat) 0) 2239 (((mI (sI (sI M 2239 (((mI M 2230 17) + 8).toNat) a1) 2239 (((mI (sI M 2239 (((mI M 2230 17) + 8).toNat) a1) 2230 17) + 9).toNat) 0) 2230 17) + 31).toNat) 0) 2239 (((mI (sI (sI (sI M 2239 (((mI M 2230 17) + 8).toNat) a1) 2239 (((mI (sI M 2239 (((mI M 2230 17) + 8).toNat) a1) 2230 17) + 9).toNat) 0) 2239 (((mI (sI (sI M 2239 (((mI M 2230 17) + 8).toNat) a1) 2239 (((mI (sI M 2239 (((mI M 2230 17) + 8).toNat) a1) 2230 17) + 9).toNat) 0) 2230 17) + 31).toNat) 0) 2230 17) + 32).toNat) 0) 2230 17) + 33) < 19245) ∧ (inR ((mI (sI (sI (sI (sI (sI M 2239 (((mI M 2230 17) + 8).toNat) a1) 2239 (((mI (sI M 2239 (((mI M 2230 17) + 8).toNat) a1) 2230 17) + 9).toNat) 0) 2239 (((mI (sI (sI M 2239 (((mI M 2230 17) + 8).toNat) a1) 2239 (((mI (sI M 2239 (((mI M 2230 17) + 8).toNat) a1) 2230 17) + 9).toNat) 0) 2230 17) + 31).toNat) 0) 2239 (((mI (sI (sI (sI M 2239 (((mI M 2230 17) + 8).toNat) a1) 2239 (((mI (sI M 2239 (((mI M 2230 17) + 8).toNat) a1) 2230 17) + 9).toNat) 0) 2239 (((mI (sI (sI M 2239 (((mI M 2230 17) + 8).toNat) a1) 2239 (((mI (sI M 2239 (((mI M 2230 17) + 8).toNat) a1) 2230 17) + 9).toNat) 0) 2230 17) + 31).toNat) 0) 2230 17) + 32).toNat) 0) 2239 (((mI (sI (sI (sI (sI M 2239 (((mI M 2230 17) + 8).toNat) a1) 2239 (((mI (sI M 2239 (((mI M 2230 17) + 8).toNat) a1) 2230 17) + 9).toNat) 0) 2239 (((mI (sI (sI M 2239 (((mI M 2230 17) + 8).toNat) a1) 2239 (((mI (sI M 2239 (((mI M 2230 17) + 8).toNat) a1) 2230 17) + 9).toNat) 0) 2230 17) + 31).toNat) 0) 2239 (((mI (sI (sI (sI M 2239 (((mI M 2230 17) + 8).toNat) a1) 2239 (((mI (sI M 2239 (((mI M 2230 17) + 8).toNat) a1) 2230 17) + 9).toNat) 0) 2239 (((mI (sI (sI M 2239 (((mI M 2230 17) + 8).toNat) a1) 2239 (((mI (sI M 2239 (((mI M 2230 17) + 8).toNat) a1) 2230 17) + 9).toNat) 0) 2230 17) + 31).toNat) 0) 2230 17) + 32).toNat) 0) 2230 17) + 33).toNat) 0) 2230 17) + 34)) ∧ (0 ≤ ((mI (sI (sI (sI (sI (sI M 2239 (((mI M 2230 17) + 8).toNat) a1) 2239 (((mI (sI M 2239 (((mI M 2230 17) + 8).toNat) a1) 2230 17) + 9).toNat) 0) 2239 (((mI (sI (sI M 2239 (((mI M 2230 17) + 8).toNat) a1) 2239 (((mI (sI M 2239 (((mI M 2230 17) + 8).toNat) a1) 2230 17) + 9).toNat) 0) 2230 17) + 31).toNat) 0) 2239 (((mI (sI (sI (sI M 2239 (((mI M 2230 17) + 8).toNat) a1) 2239 (((mI (sI M 2239 (((mI M 2230 17) + 8).toNat) a1) 2230 17) + 9).toNat) 0) 2239 (((mI (sI (sI M 2239 (((mI M 2230 17) + 8).toNat) a1) 2239 (((mI (sI M 2239 (((mI M 2230 17) + 8).toNat) a1) 2230 17) + 9).toNat) 0) 2230 17) + 31).toNat) 0) 2230 17) + 32).toNat) 0) 2239 (((mI (sI (sI (sI (sI M 2239 (((mI M 2230 17) + 8).toNat) a1) 2239 (((mI (sI M 2239 (((mI M 2230 17) + 8).toNat) a1) 2230 17) + 9).toNat) 0) 2239 (((mI (sI (sI M 2239 (((mI M 2230 17) + 8).toNat) a1) 2239 (((mI (sI M 2239 (((mI M 2230 17) + 8).toNat) a1) 2230 17) + 9).toNat) 0) 2230 17) + 31).toNat) 0) 2239 (((mI (sI (sI (sI M 2239 (((mI M 2230 17) + 8).toNat) a1) 2239 (((mI (sI M 2239 (((mI M 2230 17) + 8).toNat) a1) 2230 17) + 9).toNat) 0) 2239 (((mI (sI (sI M 2239 (((mI M 2230 17) + 8).toNat) a1) 2239 (((mI (sI M 2239 (((mI M 2230 17) + 8).toNat) a1) 2230 17) + 9).toNat) 0) 2230 17) + 31).toNat) 0) 2230 17) + 32).toNat) 0) 2230 17) + 33).toNat) 0) 2230 17) + 34)) ∧ (((mI (sI (sI (sI (sI (sI M 2239 (((mI M 2230 17) + 8).toNat) a1) 2239 (((mI (sI M 2239 (((mI M 2230 17) + 8).toNat) a1) 2230 17) + 9).toNat) 0) 2239 (((mI (sI (sI M 2239 (((mI M 2230 17) + 8).toNat) a1) 2239 (((mI (sI M 2239 (((mI M 2230 17) + 8).toNat) a1) 2230 17) + 9).toNat) 0) 2230 17) + 31).toNat) 0) 2239 (((mI (sI (sI (sI M 2239 (((mI M 2230 17) + 8).toNat) a1) 2239 (((mI (sI M 2239 (((mI M 2230 17) + 8).toNat) a1) 2230 17) + 9).toNat) 0) 2239 (((mI (sI (sI M 2239 (((mI M 2230 17) + 8).toNat) a1) 2239 (((mI (sI M 2239 (((mI M 2230 17) + 8).toNat) a1) 2230 17) + 9).toNat) 0) 2230 17) + 31).toNat) 0) 2230 17) + 32).toNat) 0) 2239 (((mI (sI (sI (sI (sI M 2239 (((mI M 2230 17) + 8).toNat) a1) 2239 (((mI (sI M 2239 (((mI M 2230 17) + 8).toNat) a1) 2230 17) + 9).toNat) 0) 2239 (((mI (sI (sI M 2239 (((mI M 2230 17) + 8).toNat) a1) 2239 (((mI (sI M 2239 (((mI M 2230 17) + 8).toNat) a1) 2230 17) + 9).toNat) 0) 2230 17) + 31).toNat) 0) 2239 (((mI (sI (sI (sI M 2239 (((mI M 2230 17) + 8).toNat) a1) 2239 (((mI (sI M 2239 (((mI M 2230 17) + 8).toNat) a1) 2230 17) + 9).toNat) 0) 2239 (((mI (sI (sI M 2239 (((mI M 2230 17) + 8).toNat) a1) 2239 (((mI (sI M 2239 (((mI M 2230 17) + 8).toNat) a1) 2230 17) + 9).toNat) 0) 2230 17) + 31).toNat) 0) 2230 17) + 32).toNat) 0) 2230 17) + 33).toNat) 0) 2230 17) + 34) < 19245) ∧ Q (sI (sI (sI (sI (sI (sI M 2239 (((mI M 2230 17) + 8).toNat) a1) 2239 (((mI (sI M 2239 (((mI M 2230 17) + 8).toNat) a1) 2230 17) + 9).toNat) 0) 2239 (((mI (sI (sI M 2239 (((mI M 2230 17) + 8).toNat) a1) 2239 (((mI (sI M 2239 (((mI M 2230 17) + 8).toNat) a1) 2230 17) + 9).toNat) 0) 2230 17) + 31).toNat) 0) 2239 (((mI (sI (sI (sI M 2239 (((mI M 2230 17) + 8).toNat) a1) 2239 (((mI (sI M 2239 (((mI M 2230 17) + 8).toNat) a1) 2230 17) + 9).toNat) 0) 2239 (((mI (sI (sI M 2239 (((mI M 2230 17) + 8).toNat) a1) 2239 (((mI (sI M 2239 (((mI M 2230 17) + 8).toNat) a1) 2230 17) + 9).toNat) 0) 2230 17) + 31).toNat) 0) 2230 17) + 32).toNat) 0) 2239 (((mI (sI (sI (sI (sI M 2239 (((mI M 2230 17) + 8).toNat) a1) 2239 (((mI (sI M 2239 (((mI M 2230 17) + 8).toNat) a1) 2230 17) + 9).toNat) 0) 2239 (((mI (sI (sI M 2239 (((mI M 2230 17) + 8).toNat) a1) 2239 (((mI (sI M 2239 (((mI M 2230 17) + 8).toNat) a1) 2230 17) + 9).toNat) 0) 2230 17) + 31).toNat) 0) 2239 (((mI (sI (sI (sI M 2239 (((mI M 2230 17) + 8).toNat) a1) 2239 (((mI (sI M 2239 (((mI M 2230 17) + 8).toNat) a1) 2230 17) + 9).toNat) 0) 2239 (((mI (sI (sI M 2239 (((mI M 2230 17) + 8).toNat) a1) 2239 (((mI (sI M 2239 (((mI M 2230 17) + 8).toNat) a1) 2230 17) + 9).toNat) 0) 2230 17) + 31).toNat) 0) 2230 17) + 32).toNat) 0) 2230 17) + 33).toNat) 0) 2239 (((mI (sI (sI (sI (sI (sI M 2239 (((mI M 2230 17) + 8).toNat) a1) 2239 (((mI (sI M 2239 (((mI M 2230 17) + 8).toNat) a1) 2230 17) + 9).toNat) 0) 2239 (((mI (sI (sI M 2239 (((mI M 2230 17) + 8).toNat) a1) 2239 (((mI (sI M 2239 (((mI M 2230 17) + 8).toNat) a1) 2230 17) + 9).toNat) 0) 2230 17) + 31).toNat) 0) 2239 (((mI (sI (sI (sI M 2239 (((mI M 2230 17) + 8).toNat) a1) 2239 (((mI (sI M 2239 (((mI M 2230 17) + 8).toNat) a1) 2230 17) + 9).toNat) 0) 2239 (((mI (sI (sI M 2239 (((mI M 2230 17) + 8).toNat) a1) 2239 (((mI (sI M 2239 (((mI M 2230 17) + 8).toNat) a1) 2230 17) + 9).toNat) 0) 2230 17) + 31).toNat) 0) 2230 17) + 32).toNat) 0) 2239 (((mI (sI (sI (sI (sI M 2239 (((mI M 2230 17) + 8).toNat) a1) 2239 (((mI (sI M 2239 (((mI M 2230 17) + 8).toNat) a1) 2230 17) + 9).toNat) 0) 2239 (((mI (sI (sI M 2239 (((mI M 2230 17) + 8).toNat) a1) 2239 (((mI (sI M 2239 (((mI M 2230 17) + 8).toNat) a1) 2230 17) + 9).toNat) 0) 2230 17) + 31).toNat) 0) 2239 (((mI (sI (sI (sI M 2239 (((mI M 2230 17) + 8).toNat) a1) 2239 (((mI (sI M 2239 (((mI M 2230 17) + 8).toNat) a1) 2230 17) + 9).toNat) 0) 2239 (((mI (sI (sI M 2239 (((mI M 2230 17) + 8).toNat) a1) 2239 (((mI (sI M 2239 (((mI M 2230 17) + 8).toNat) a1) 2230 17) + 9).toNat) 0) 2230 17) + 31).toNat) 0) 2230 17) + 32).toNat) 0) 2230 17) + 33).toNat) 0) 2230 17) + 34).toNat) (-1))) : Cv d q10_begins [zr 2230, zi a1] M Q := by
  refine Cv.of rfl rfl (Nat.le_of_ble_eq_true rfl) (fun w hw x e => by subst e; simp at hw) (L := [some (zr 2230), some (zi a1)]) rfl ?_
  refine Xv.up (pc' := 1) (fun _ _ k => x_aload_n dX10_begins_0 rfl rfl k) ?_
  refine Xv.up (pc' := 4) (fun _ _ k => x_getRK hK lf10_35 rfl dX10_begins_1 h0.1 h0.2.2.2.2.2.2.2.2.2.1 k) ?_
  refine Xv.up (pc' := 5) (fun _ _ k => x_aload_n dX10_begins_4 rfl rfl k) ?_
  refine Xv.up (pc' := 8) (fun _ _ k => x_getIK hK lf10_160 rfl dX10_begins_5 h0.1 k) ?_
  refine Xv.up (pc' := 10) (fun _ _ k => x_bipush dX10_begins_8 (show inR 8 from ⟨by decide, by decide⟩) (by decide) k) ?_
  obtain ⟨g1, h⟩ := h
  refine Xv.up (pc' := 11) (fun _ _ k => x_iadd dX10_begins_10 g1 k) ?_
  refine Xv.up (pc' := 12) (fun _ _ k => x_iload_n dX10_begins_11 rfl rfl k) ?_
  obtain ⟨g2, h⟩ := h
  obtain ⟨g3, h⟩ := h
  refine Xv.up (pc' := 13) (fun _ _ k => x_iastoreK hK dX10_begins_12 h0.2.2.2.2.2.2.2.2.2.2.2.2.2.2.2.2.2.2.2.1 g2 g3 k) ?_
  have hK4 := KW.sI hK 2239 (((mI M 2230 17) + 8).toNat) a1
  refine Xv.up (pc' := 14) (fun _ _ k => x_aload_n dX10_begins_13 rfl rfl k) ?_
  refine Xv.up (pc' := 17) (fun _ _ k => x_getRK hK4 lf10_35 rfl dX10_begins_14 h0.1 h0.2.2.2.2.2.2.2.2.2.1 k) ?_
  refine Xv.up (pc' := 18) (fun _ _ k => x_aload_n dX10_begins_17 rfl rfl k) ?_
  refine Xv.up (pc' := 21) (fun _ _ k => x_getIK hK4 lf10_160 rfl dX10_begins_18 h0.1 k) ?_
  refine Xv.up (pc' := 23) (fun _ _ k => x_bipush dX10_begins_21 (show inR 9 from ⟨by decide, by decide⟩) (by decide) k) ?_
  obtain ⟨g5, h⟩ := h
  refine Xv.up (pc' := 24) (fun _ _ k => x_iadd dX10_begins_23 g5 k) ?_
  refine Xv.up (pc' := 25) (fun _ _ k => x_iconst dX10_begins_24 (show inR 0 from ⟨by decide, by decide⟩) k) ?_
  obtain ⟨g6, h⟩ := h
  obtain ⟨g7, h⟩ := h
  refine Xv.up (pc' := 26) (fun _ _ k => x_iastoreK hK4 dX10_begins_25 h0.2.2.2.2.2.2.2.2.2.2.2.2.2.2.2.2.2.2.2.1 g6 g7 k) ?_
  have hK8 := KW.sI hK4 2239 (((mI (sI M 2239 (((mI M 2230 17) + 8).toNat) a1) 2230 17) + 9).toNat) 0
  refine Xv.up (pc' := 27) (fun _ _ k => x_aload_n dX10_begins_26 rfl rfl k) ?_
  refine Xv.up (pc' := 30) (fun _ _ k => x_getRK hK8 lf10_35 rfl dX10_begins_27 h0.1 h0.2.2.2.2.2.2.2.2.2.1 k) ?_
  refine Xv.up (pc' := 31) (fun _ _ k => x_aload_n dX10_begins_30 rfl rfl k) ?_
  refine Xv.up (pc' := 34) (fun _ _ k => x_getIK hK8 lf10_160 rfl dX10_begins_31 h0.1 k) ?_
  refine Xv.up (pc' := 36) (fun _ _ k => x_bipush dX10_begins_34 (show inR 31 from ⟨by decide, by decide⟩) (by decide) k) ?_
  obtain ⟨g9, h⟩ := h
  refine Xv.up (pc' := 37) (fun _ _ k => x_iadd dX10_begins_36 g9 k) ?_
  refine Xv.up (pc' := 38) (fun _ _ k => x_iconst dX10_begins_37 (show inR 0 from ⟨by decide, by decide⟩) k) ?_
  obtain ⟨g10, h⟩ := h
  obtain ⟨g11, h⟩ := h
  refine Xv.up (pc' := 39) (fun _ _ k => x_iastoreK hK8 dX10_begins_38 h0.2.2.2.2.2.2.2.2.2.2.2.2.2.2.2.2.2.2.2.1 g10 g11 k) ?_
  have hK12 := KW.sI hK8 2239 (((mI (sI (sI M 2239 (((mI M 2230 17) + 8).toNat) a1) 2239 (((mI (sI M 2239 (((mI M 2230 17) + 8).toNat) a1) 2230 17) + 9).toNat) 0) 2230 17) + 31).toNat) 0
  refine Xv.up (pc' := 40) (fun _ _ k => x_aload_n dX10_begins_39 rfl rfl k) ?_
  refine Xv.up (pc' := 43) (fun _ _ k => x_getRK hK12 lf10_35 rfl dX10_begins_40 h0.1 h0.2.2.2.2.2.2.2.2.2.1 k) ?_
  refine Xv.up (pc' := 44) (fun _ _ k => x_aload_n dX10_begins_43 rfl rfl k) ?_
  refine Xv.up (pc' := 47) (fun _ _ k => x_getIK hK12 lf10_160 rfl dX10_begins_44 h0.1 k) ?_
  refine Xv.up (pc' := 49) (fun _ _ k => x_bipush dX10_begins_47 (show inR 32 from ⟨by decide, by decide⟩) (by decide) k) ?_
  obtain ⟨g13, h⟩ := h
  refine Xv.up (pc' := 50) (fun _ _ k => x_iadd dX10_begins_49 g13 k) ?_
  refine Xv.up (pc' := 51) (fun _ _ k => x_iconst dX10_begins_50 (show inR 0 from ⟨by decide, by decide⟩) k) ?_
  obtain ⟨g14, h⟩ := h
  obtain ⟨g15, h⟩ := h
  refine Xv.up (pc' := 52) (fun _ _ k => x_iastoreK hK12 dX10_begins_51 h0.2.2.2.2.2.2.2.2.2.2.2.2.2.2.2.2.2.2.2.1 g14 g15 k) ?_
  have hK16 := KW.sI hK12 2239 (((mI (sI (sI (sI M 2239 (((mI M 2230 17) + 8).toNat) a1) 2239 (((mI (sI M 2239 (((mI M 2230 17) + 8).toNat) a1) 2230 17) + 9).toNat) 0) 2239 (((mI (sI (sI M 2239 (((mI M 2230 17) + 8).toNat) a1) 2239 (((mI (sI M 2239 (((mI M 2230 17) + 8).toNat) a1) 2230 17) + 9).toNat) 0) 2230 17) + 31).toNat) 0) 2230 17) + 32).toNat) 0
  refine Xv.up (pc' := 53) (fun _ _ k => x_aload_n dX10_begins_52 rfl rfl k) ?_
  refine Xv.up (pc' := 56) (fun _ _ k => x_getRK hK16 lf10_35 rfl dX10_begins_53 h0.1 h0.2.2.2.2.2.2.2.2.2.1 k) ?_
  refine Xv.up (pc' := 57) (fun _ _ k => x_aload_n dX10_begins_56 rfl rfl k) ?_
  refine Xv.up (pc' := 60) (fun _ _ k => x_getIK hK16 lf10_160 rfl dX10_begins_57 h0.1 k) ?_
  refine Xv.up (pc' := 62) (fun _ _ k => x_bipush dX10_begins_60 (show inR 33 from ⟨by decide, by decide⟩) (by decide) k) ?_
  obtain ⟨g17, h⟩ := h
  refine Xv.up (pc' := 63) (fun _ _ k => x_iadd dX10_begins_62 g17 k) ?_
  refine Xv.up (pc' := 64) (fun _ _ k => x_iconst dX10_begins_63 (show inR 0 from ⟨by decide, by decide⟩) k) ?_
  obtain ⟨g18, h⟩ := h
  obtain ⟨g19, h⟩ := h
  refine Xv.up (pc' := 65) (fun _ _ k => x_iastoreK hK16 dX10_begins_64 h0.2.2.2.2.2.2.2.2.2.2.2.2.2.2.2.2.2.2.2.1 g18 g19 k) ?_
  have hK20 := KW.sI hK16 2239 (((mI (sI (sI (sI (sI M 2239 (((mI M 2230 17) + 8).toNat) a1) 2239 (((mI (sI M 2239 (((mI M 2230 17) + 8).toNat) a1) 2230 17) + 9).toNat) 0) 2239 (((mI (sI (sI M 2239 (((mI M 2230 17) + 8).toNat) a1) 2239 (((mI (sI M 2239 (((mI M 2230 17) + 8).toNat) a1) 2230 17) + 9).toNat) 0) 2230 17) + 31).toNat) 0) 2239 (((mI (sI (sI (sI M 2239 (((mI M 2230 17) + 8).toNat) a1) 2239 (((mI (sI M 2239 (((mI M 2230 17) + 8).toNat) a1) 2230 17) + 9).toNat) 0) 2239 (((mI (sI (sI M 2239 (((mI M 2230 17) + 8).toNat) a1) 2239 (((mI (sI M 2239 (((mI M 2230 17) + 8).toNat) a1) 2230 17) + 9).toNat) 0) 2230 17) + 31).toNat) 0) 2230 17) + 32).toNat) 0) 2230 17) + 33).toNat) 0
  refine Xv.up (pc' := 66) (fun _ _ k => x_aload_n dX10_begins_65 rfl rfl k) ?_
  refine Xv.up (pc' := 69) (fun _ _ k => x_getRK hK20 lf10_35 rfl dX10_begins_66 h0.1 h0.2.2.2.2.2.2.2.2.2.1 k) ?_
  refine Xv.up (pc' := 70) (fun _ _ k => x_aload_n dX10_begins_69 rfl rfl k) ?_
  refine Xv.up (pc' := 73) (fun _ _ k => x_getIK hK20 lf10_160 rfl dX10_begins_70 h0.1 k) ?_
  refine Xv.up (pc' := 75) (fun _ _ k => x_bipush dX10_begins_73 (show inR 34 from ⟨by decide, by decide⟩) (by decide) k) ?_
  obtain ⟨g21, h⟩ := h
  refine Xv.up (pc' := 76) (fun _ _ k => x_iadd dX10_begins_75 g21 k) ?_
  refine Xv.up (pc' := 77) (fun _ _ k => x_iconst dX10_begins_76 (show inR (-1) from ⟨by decide, by decide⟩) k) ?_
  obtain ⟨g22, h⟩ := h
  obtain ⟨g23, h⟩ := h
  refine Xv.up (pc' := 78) (fun _ _ k => x_iastoreK hK20 dX10_begins_77 h0.2.2.2.2.2.2.2.2.2.2.2.2.2.2.2.2.2.2.2.1 g22 g23 k) ?_
  have hK24 := KW.sI hK20 2239 (((mI (sI (sI (sI (sI (sI M 2239 (((mI M 2230 17) + 8).toNat) a1) 2239 (((mI (sI M 2239 (((mI M 2230 17) + 8).toNat) a1) 2230 17) + 9).toNat) 0) 2239 (((mI (sI (sI M 2239 (((mI M 2230 17) + 8).toNat) a1) 2239 (((mI (sI M 2239 (((mI M 2230 17) + 8).toNat) a1) 2230 17) + 9).toNat) 0) 2230 17) + 31).toNat) 0) 2239 (((mI (sI (sI (sI M 2239 (((mI M 2230 17) + 8).toNat) a1) 2239 (((mI (sI M 2239 (((mI M 2230 17) + 8).toNat) a1) 2230 17) + 9).toNat) 0) 2239 (((mI (sI (sI M 2239 (((mI M 2230 17) + 8).toNat) a1) 2239 (((mI (sI M 2239 (((mI M 2230 17) + 8).toNat) a1) 2230 17) + 9).toNat) 0) 2230 17) + 31).toNat) 0) 2230 17) + 32).toNat) 0) 2239 (((mI (sI (sI (sI (sI M 2239 (((mI M 2230 17) + 8).toNat) a1) 2239 (((mI (sI M 2239 (((mI M 2230 17) + 8).toNat) a1) 2230 17) + 9).toNat) 0) 2239 (((mI (sI (sI M 2239 (((mI M 2230 17) + 8).toNat) a1) 2239 (((mI (sI M 2239 (((mI M 2230 17) + 8).toNat) a1) 2230 17) + 9).toNat) 0) 2230 17) + 31).toNat) 0) 2239 (((mI (sI (sI (sI M 2239 (((mI M 2230 17) + 8).toNat) a1) 2239 (((mI (sI M 2239 (((mI M 2230 17) + 8).toNat) a1) 2230 17) + 9).toNat) 0) 2239 (((mI (sI (sI M 2239 (((mI M 2230 17) + 8).toNat) a1) 2239 (((mI (sI M 2239 (((mI M 2230 17) + 8).toNat) a1) 2230 17) + 9).toNat) 0) 2230 17) + 31).toNat) 0) 2230 17) + 32).toNat) 0) 2230 17) + 33).toNat) 0) 2230 17) + 34).toNat) (-1)
  exact Xv.ret ⟨dX10_begins_78, rfl⟩ h
set_option maxHeartbeats 4000000 in
set_option maxRecDepth 20000 in
theorem B10_enters {d : Nat} {K M : ZMem} {Q : ZMem → Prop} (a1 : Int) (a2 : Int) (a3 : Int) (hK : KW K M) (h0 : ModelAt K 2230) (h : (inR ((mI M 2230 17) + 10)) ∧ (inR ((mI M 2230 17) + 9)) ∧ (0 ≤ ((mI M 2230 17) + 9)) ∧ (((mI M 2230 17) + 9) < 19245) ∧ (inR (3 * (mI M 2239 ((mI M 2230 17) + 9).toNat))) ∧ (inR (((mI M 2230 17) + 10) + (3 * (mI M 2239 ((mI M 2230 17) + 9).toNat)))) ∧ (0 ≤ (((mI M 2230 17) + 10) + (3 * (mI M 2239 ((mI M 2230 17) + 9).toNat)))) ∧ ((((mI M 2230 17) + 10) + (3 * (mI M 2239 ((mI M 2230 17) + 9).toNat))) < 19245) ∧ (inR ((((mI M 2230 17) + 10) + (3 * (mI M 2239 ((mI M 2230 17) + 9).toNat))) + 1)) ∧ (inR ((mI (sI M 2239 ((((mI M 2230 17) + 10) + (3 * (mI M 2239 ((mI M 2230 17) + 9).toNat))).toNat) a1) 2230 17) + 31)) ∧ (0 ≤ ((mI (sI M 2239 ((((mI M 2230 17) + 10) + (3 * (mI M 2239 ((mI M 2230 17) + 9).toNat))).toNat) a1) 2230 17) + 31)) ∧ (((mI (sI M 2239 ((((mI M 2230 17) + 10) + (3 * (mI M 2239 ((mI M 2230 17) + 9).toNat))).toNat) a1) 2230 17) + 31) < 19245) ∧ (0 ≤ ((((mI M 2230 17) + 10) + (3 * (mI M 2239 ((mI M 2230 17) + 9).toNat))) + 1)) ∧ (((((mI M 2230 17) + 10) + (3 * (mI M 2239 ((mI M 2230 17) + 9).toNat))) + 1) < 19245) ∧ (inR ((((mI M 2230 17) + 10) + (3 * (mI M 2239 ((mI M 2230 17) + 9).toNat))) + 2)) ∧ (0 ≤ ((((mI M 2230 17) + 10) + (3 * (mI M 2239 ((mI M 2230 17) + 9).toNat))) + 2)) ∧ (((((mI M 2230 17) + 10) + (3 * (mI M 2239 ((mI M 2230 17) + 9).toNat))) + 2) < 19245) ∧ (inR ((mI (sI (sI (sI M 2239 ((((mI M 2230 17) + 10) + (3 * (mI M 2239 ((mI M 2230 17) + 9).toNat))).toNat) a1) 2239 (((((mI M 2230 17) + 10) + (3 * (mI M 2239 ((mI M 2230 17) + 9).toNat))) + 1).toNat) (mI (sI M 2239 ((((mI M 2230 17) + 10) + (3 * (mI M 2239 ((mI M 2230 17) + 9).toNat))).toNat) a1) 2239 ((mI (sI M 2239 ((((mI M 2230 17) + 10) + (3 * (mI M 2239 ((mI M 2230 17) + 9).toNat))).toNat) a1) 2230 17) + 31).toNat)) 2239 (((((mI M 2230 17) + 10) + (3 * (mI M 2239 ((mI M 2230 17) + 9).toNat))) + 2).toNat) a3) 2230 17) + 9)) ∧ (0 ≤ ((mI (sI (sI (sI M 2239 ((((mI M 2230 17) + 10) + (3 * (mI M 2239 ((mI M 2230 17) + 9).toNat))).toNat) a1) 2239 (((((mI M 2230 17) + 10) + (3 * (mI M 2239 ((mI M 2230 17) + 9).toNat))) + 1).toNat) (mI (sI M 2239 ((((mI M 2230 17) + 10) + (3 * (mI M 2239 ((mI M 2230 17) + 9).toNat))).toNat) a1) 2239 ((mI (sI M 2239 ((((mI M 2230 17) + 10) + (3 * (mI M 2239 ((mI M 2230 17) + 9).toNat))).toNat) a1) 2230 17) + 31).toNat)) 2239 (((((mI M 2230 17) + 10) + (3 * (mI M 2239 ((mI M 2230 17) + 9).toNat))) + 2).toNat) a3) 2230 17) + 9)) ∧ (((mI (sI (sI (sI M 2239 ((((mI M 2230 17) + 10) + (3 * (mI M 2239 ((mI M 2230 17) + 9).toNat))).toNat) a1) 2239 (((((mI M 2230 17) + 10) + (3 * (mI M 2239 ((mI M 2230 17) + 9).toNat))) + 1).toNat) (mI (sI M 2239 ((((mI M 2230 17) + 10) + (3 * (mI M 2239 ((mI M 2230 17) + 9).toNat))).toNat) a1) 2239 ((mI (sI M 2239 ((((mI M 2230 17) + 10) + (3 * (mI M 2239 ((mI M 2230 17) + 9).toNat))).toNat) a1) 2230 17) + 31).toNat)) 2239 (((((mI M 2230 17) + 10) + (3 * (mI M 2239 ((mI M 2230 17) + 9).toNat))) + 2).toNat) a3) 2230 17) + 9) < 19245) ∧ (inR ((mI (sI (sI (sI M 2239 ((((mI M 2230 17) + 10) + (3 * (mI M 2239 ((mI M 2230 17) + 9).toNat))).toNat) a1) 2239 (((((mI M 2230 17) + 10) + (3 * (mI M 2239 ((mI M 2230 17) + 9).toNat))) + 1).toNat) (mI (sI M 2239 ((((mI M 2230 17) + 10) + (3 * (mI M 2239 ((mI M 2230 17) + 9).toNat))).toNat) a1) 2239 ((mI (sI M 2239 ((((mI M 2230 17) + 10) + (3 * (mI M 2239 ((mI M 2230 17) + 9).toNat))).toNat) a1) 2230 17) + 31).toNat)) 2239 (((((mI M 2230 17) + 10) + (3 * (mI M 2239 ((mI M 2230 17) + 9).toNat))) + 2).toNat) a3) 2239 ((mI (sI (sI (sI M 2239 ((((mI M 2230 17) + 10) + (3 * (mI M 2239 ((mI M 2230 17) + 9).toNat))).toNat) a1) 2239 (((((mI M 2230 17) + 10) + (3 * (mI M 2239 ((mI M 2230 17) + 9).toNat))) + 1).toNat) (mI (sI M 2239 ((((mI M 2230 17) + 10) + (3 * (mI M 2239 ((mI M 2230 17) + 9).toNat))).toNat) a1) 2239 ((mI (sI M 2239 ((((mI M 2230 17) + 10) + (3 * (mI M 2239 ((mI M 2230 17) + 9).toNat))).toNat) a1) 2230 17) + 31).toNat)) 2239 (((((mI M 2230 17) + 10) + (3 * (mI M 2239 ((mI M 2230 17) + 9).toNat))) + 2).toNat) a3) 2230 17) + 9).toNat) + 1)) ∧ (0 ≤ ((mI (sI (sI (sI M 2239 ((((mI M 2230 17) + 10) + (3 * (mI M 2239 ((mI M 2230 17) + 9).toNat))).toNat) a1) 2239 (((((mI M 2230 17) + 10) + (3 * (mI M 2239 ((mI M 2230 17) + 9).toNat))) + 1).toNat) (mI (sI M 2239 ((((mI M 2230 17) + 10) + (3 * (mI M 2239 ((mI M 2230 17) + 9).toNat))).toNat) a1) 2239 ((mI (sI M 2239 ((((mI M 2230 17) + 10) + (3 * (mI M 2239 ((mI M 2230 17) + 9).toNat))).toNat) a1) 2230 17) + 31).toNat)) 2239 (((((mI M 2230 17) + 10) + (3 * (mI M 2239 ((mI M 2230 17) + 9).toNat))) + 2).toNat) a3) 2230 17) + 9)) ∧ (((mI (sI (sI (sI M 2239 ((((mI M 2230 17) + 10) + (3 * (mI M 2239 ((mI M 2230 17) + 9).toNat))).toNat) a1) 2239 (((((mI M 2230 17) + 10) + (3 * (mI M 2239 ((mI M 2230 17) + 9).toNat))) + 1).toNat) (mI (sI M 2239 ((((mI M 2230 17) + 10) + (3 * (mI M 2239 ((mI M 2230 17) + 9).toNat))).toNat) a1) 2239 ((mI (sI M 2239 ((((mI M 2230 17) + 10) + (3 * (mI M 2239 ((mI M 2230 17) + 9).toNat))).toNat) a1) 2230 17) + 31).toNat)) 2239 (((((mI M 2230 17) + 10) + (3 * (mI M 2239 ((mI M 2230 17) + 9).toNat))) + 2).toNat) a3) 2230 17) + 9) < 19245) ∧ (inR ((mI (sI (sI (sI (sI M 2239 ((((mI M 2230 17) + 10) + (3 * (mI M 2239 ((mI M 2230 17) + 9).toNat))).toNat) a1) 2239 (((((mI M 2230 17) + 10) + (3 * (mI M 2239 ((mI M 2230 17) + 9).toNat))) + 1).toNat) (mI (sI M 2239 ((((mI M 2230 17) + 10) + (3 * (mI M 2239 ((mI M 2230 17) + 9).toNat))).toNat) a1) 2239 ((mI (sI M 2239 ((((mI M 2230 17) + 10) + (3 * (mI M 2239 ((mI M 2230 17) + 9).toNat))).toNat) a1) 2230 17) + 31).toNat)) 2239 (((((mI M 2230 17) + 10) + (3 * (mI M 2239 ((mI M 2230 17) + 9).toNat))) + 2).toNat) a3) 2239 (((mI (sI (sI (sI M 2239 ((((mI M 2230 17) + 10) + (3 * (mI M 2239 ((mI M 2230 17) + 9).toNat))).toNat) a1) 2239 (((((mI M 2230 17) + 10) + (3 * (mI M 2239 ((mI M 2230 17) + 9).toNat))) + 1).toNat) (mI (sI M 2239 ((((mI M 2230 17) + 10) + (3 * (mI M 2239 ((mI M 2230 17) + 9).toNat))).toNat) a1) 2239 ((mI (sI M 2239 ((((mI M 2230 17) + 10) + (3 * (mI M 2239 ((mI M 2230 17) + 9).toNat))).toNat) a1) 2230 17) + 31).toNat)) 2239 (((((mI M 2230 17) + 10) + (3 * (mI M 2239 ((mI M 2230 17) + 9).toNat))) + 2).toNat) a3) 2230 17) + 9).toNat) ((mI (sI (sI (sI M 2239 ((((mI M 2230 17) + 10) + (3 * (mI M 2239 ((mI M 2230 17) + 9).toNat))).toNat) a1) 2239 (((((mI M 2230 17) + 10) + (3 * (mI M 2239 ((mI M 2230 17) + 9).toNat))) + 1).toNat) (mI (sI M 2239 ((((mI M 2230 17) + 10) + (3 * (mI M 2239 ((mI M 2230 17) + 9).toNat))).toNat) a1) 2239 ((mI (sI M 2239 ((((mI M 2230 17) + 10) + (3 * (mI M 2239 ((mI M 2230 17) + 9).toNat))).toNat) a1) 2230 17) + 31).toNat)) 2239 (((((mI M 2230 17) + 10) + (3 * (mI M 2239 ((mI M 2230 17) + 9).toNat))) + 2).toNat) a3) 2239 ((mI (sI (sI (sI M 2239 ((((mI M 2230 17) + 10) + (3 * (mI M 2239 ((mI M 2230 17) + 9).toNat))).toNat) a1) 2239 (((((mI M 2230 17) + 10) + (3 * (mI M 2239 ((mI M 2230 17) + 9).toNat))) + 1).toNat) (mI (sI M 2239 ((((mI M 2230 17) + 10) + (3 * (mI M 2239 ((mI M 2230 17) + 9).toNat))).toNat) a1) 2239 ((mI (sI M 2239 ((((mI M 2230 17) + 10) + (3 * (mI M 2239 ((mI M 2230 17) + 9).toNat))).toNat) a1) 2230 17) + 31).toNat)) 2239 (((((mI M 2230 17) + 10) + (3 * (mI M 2239 ((mI M 2230 17) + 9).toNat))) + 2).toNat) a3) 2230 17) + 9).toNat) + 1)) 2230 17) + 31)) ∧ (inR ((mI (sI (sI (sI (sI M 2239 ((((mI M 2230 17) + 10) + (3 * (mI M 2239 ((mI M 2230 17) + 9).toNat))).toNat) a1) 2239 (((((mI M 2230 17) + 10) + (3 * (mI M 2239 ((mI M 2230 17) + 9).toNat))) + 1).toNat) (mI (sI M 2239 ((((mI M 2230 17) + 10) + (3 * (mI M 2239 ((mI M 2230 17) + 9).toNat))).toNat) a1) 2239 ((mI (sI M 2239 ((((mI M 2230 17) + 10) + (3 * (mI M 2239 ((mI M 2230 17) + 9).toNat))).toNat) a1) 2230 17) + 31).toNat)) 2239 (((((mI M 2230 17) + 10) + (3 * (mI M 2239 ((mI M 2230 17) + 9).toNat))) + 2).toNat) a3) 2239 (((mI (sI (sI (sI M 2239 ((((mI M 2230 17) + 10) + (3 * (mI M 2239 ((mI M 2230 17) + 9).toNat))).toNat) a1) 2239 (((((mI M 2230 17) + 10) + (3 * (mI M 2239 ((mI M 2230 17) + 9).toNat))) + 1).toNat) (mI (sI M 2239 ((((mI M 2230 17) + 10) + (3 * (mI M 2239 ((mI M 2230 17) + 9).toNat))).toNat) a1) 2239 ((mI (sI M 2239 ((((mI M 2230 17) + 10) + (3 * (mI M 2239 ((mI M 2230 17) + 9).toNat))).toNat) a1) 2230 17) + 31).toNat)) 2239 (((((mI M 2230 17) + 10) + (3 * (mI M 2239 ((mI M 2230 17) + 9).toNat))) + 2).toNat) a3) 2230 17) + 9).toNat) ((mI (sI (sI (sI M 2239 ((((mI M 2230 17) + 10) + (3 * (mI M 2239 ((mI M 2230 17) + 9).toNat))).toNat) a1) 2239 (((((mI M 2230 17) + 10) + (3 * (mI M 2239 ((mI M 2230 17) + 9).toNat))) + 1).toNat) (mI (sI M 2239 ((((mI M 2230 17) + 10) + (3 * (mI M 2239 ((mI M 2230 17) + 9).toNat))).toNat) a1) 2239 ((mI (sI M 2239 ((((mI M 2230 17) + 10) + (3 * (mI M 2239 ((mI M 2230 17) + 9).toNat))).toNat) a1) 2230 17) + 31).toNat)) 2239 (((((mI M 2230 17) + 10) + (3 * (mI M 2239 ((mI M 2230 17) + 9).toNat))) + 2).toNat) a3) 2239 ((mI (sI (sI (sI M 2239 ((((mI M 2230 17) + 10) + (3 * (mI M 2239 ((mI M 2230 17) + 9).toNat))).toNat) a1) 2239 (((((mI M 2230 17) + 10) + (3 * (mI M 2239 ((mI M 2230 17) + 9).toNat))) + 1).toNat) (mI (sI M 2239 ((((mI M 2230 17) + 10) + (3 * (mI M 2239 ((mI M 2230 17) + 9).toNat))).toNat) a1) 2239 ((mI (sI M 2239 ((((mI M 2230 17) + 10) + (3 * (mI M 2239 ((mI M 2230 17) + 9).toNat))).toNat) a1) 2230 17) + 31).toNat)) 2239 (((((mI M 2230 17) + 10) + (3 * (mI M 2239 ((mI M 2230 17) + 9).toNat))) + 2).toNat) a3) 2230 17) + 9).toNat) + 1)) 2230 17) + 32)) ∧ (0 ≤ ((mI (sI (sI (sI (sI M 2239 ((((mI M 2230 17) + 10) + (3 * (mI M 2239 ((mI M 2230 17) + 9).toNat))).toNat) a1) 2239 (((((mI M 2230 17) + 10) + (3 * (mI M 2239 ((mI M 2230 17) + 9).toNat))) + 1).toNat) (mI (sI M 2239 ((((mI M 2230 17) + 10) + (3 * (mI M 2239 ((mI M 2230 17) + 9).toNat))).toNat) a1) 2239 ((mI (sI M 2239 ((((mI M 2230 17) + 10) + (3 * (mI M 2239 ((mI M 2230 17) + 9).toNat))).toNat) a1) 2230 17) + 31).toNat)) 2239 (((((mI M 2230 17) + 10) + (3 * (mI M 2239 ((mI M 2230 17) + 9).toNat))) + 2).toNat) a3) 2239 (((mI (sI (sI (sI M 2239 ((((mI M 2230 17) + 10) + (3 * (mI M 2239 ((mI M 2230 17) + 9).toNat))).toNat) a1) 2239 (((((mI M 2230 17) + 10) + (3 * (mI M 2239 ((mI M 2230 17) + 9).toNat))) + 1).toNat) (mI (sI M 2239 ((((mI M 2230 17) + 10) + (3 * (mI M 2239 ((mI M 2230 17) + 9).toNat))).toNat) a1) 2239 ((mI (sI M 2239 ((((mI M 2230 17) + 10) + (3 * (mI M 2239 ((mI M 2230 17) + 9).toNat))).toNat) a1) 2230 17) + 31).toNat)) 2239 (((((mI M 2230 17) + 10) + (3 * (mI M 2239 ((mI M 2230 17) + 9).toNat))) + 2).toNat) a3) 2230 17) + 9).toNat) ((mI (sI (sI (sI M 2239 ((((mI M 2230 17) + 10) + (3 * (mI M 2239 ((mI M 2230 17) + 9).toNat))).toNat) a1) 2239 (((((mI M 2230 17) + 10) + (3 * (mI M 2239 ((mI M 2230 17) + 9).toNat))) + 1).toNat) (mI (sI M 2239 ((((mI M 2230 17) + 10) + (3 * (mI M 2239 ((mI M 2230 17) + 9).toNat))).toNat) a1) 2239 ((mI (sI M 2239 ((((mI M 2230 17) + 10) + (3 * (mI M 2239 ((mI M 2230 17) + 9).toNat))).toNat) a1) 2230 17) + 31).toNat)) 2239 (((((mI M 2230 17) + 10) + (3 * (mI M 2239 ((mI M 2230 17) + 9).toNat))) + 2).toNat) a3) 2239 ((mI (sI (sI (sI M 2239 ((((mI M 2230 17) + 10) + (3 * (mI M 2239 ((mI M 2230 17) + 9).toNat))).toNat) a1) 2239 (((((mI M 2230 17) + 10) + (3 * (mI M 2239 ((mI M 2230 17) + 9).toNat))) + 1).toNat) (mI (sI M 2239 ((((mI M 2230 17) + 10) + (3 * (mI M 2239 ((mI M 2230 17) + 9).toNat))).toNat) a1) 2239 ((mI (sI M 2239 ((((mI M 2230 17) + 10) + (3 * (mI M 2239 ((mI M 2230 17) + 9).toNat))).toNat) a1) 2230 17) + 31).toNat)) 2239 (((((mI M 2230 17) + 10) + (3 * (mI M 2239 ((mI M 2230 17) + 9).toNat))) + 2).toNat) a3) 2230 17) + 9).toNat) + 1)) 2230 17) + 32)) ∧ (((mI (sI (sI (sI (sI M 2239 ((((mI M 2230 17) + 10) + (3 * (mI M 2239 ((mI M 2230 17) + 9).toNat))).toNat) a1) 2239 (((((mI M 2230 17) + 10) + (3 * (mI M 2239 ((mI M 2230 17) + 9).toNat))) + 1).toNat) (mI (sI M 2239 ((((mI M 2230 17) + 10) + (3 * (mI M 2239 ((mI M 2230 17) + 9).toNat))).toNat) a1) 2239 ((mI (sI M 2239 ((((mI M 2230 17) + 10) + (3 * (mI M 2239 ((mI M 2230 17) + 9).toNat))).toNat) a1) 2230 17) + 31).toNat)) 2239 (((((mI M 2230 17) + 10) + (3 * (mI M 2239 ((mI M 2230 17) + 9).toNat))) + 2).toNat) a3) 2239 (((mI (sI (sI (sI M 2239 ((((mI M 2230 17) + 10) + (3 * (mI M 2239 ((mI M 2230 17) + 9).toNat))).toNat) a1) 2239 (((((mI M 2230 17) + 10) + (3 * (mI M 2239 ((mI M 2230 17) + 9).toNat))) + 1).toNat) (mI (sI M 2239 ((((mI M 2230 17) + 10) + (3 * (mI M 2239 ((mI M 2230 17) + 9).toNat))).toNat) a1) 2239 ((mI (sI M 2239 ((((mI M 2230 17) + 10) + (3 * (mI M 2239 ((mI M 2230 17) + 9).toNat))).toNat) a1) 2230 17) + 31).toNat)) 2239 (((((mI M 2230 17) + 10) + (3 * (mI M 2239 ((mI M 2230 17) + 9).toNat))) + 2).toNat) a3) 2230 17) + 9).toNat) ((mI (sI (sI (sI M 2239 ((((mI M 2230 17) + 10) + (3 * (mI M 2239 ((mI M 2230 17) + 9).toNat))).toNat) a1) 2239 (((((mI M 2230 17) + 10) + (3 * (mI M 2239 ((mI M 2230 17) + 9).toNat))) + 1).toNat) (mI (sI M 2239 ((((mI M 2230 17) + 10) + (3 * (mI M 2239 ((mI M 2230 17) + 9).toNat))).toNat) a1) 2239 ((mI (sI M 2239 ((((mI M 2230 17) + 10) + (3 * (mI M 2239 ((mI M 2230 17) + 9).toNat))).toNat) a1) 2230 17) + 31).toNat)) 2239 (((((mI M 2230 17) + 10) + (3 * (mI M 2239 ((mI M 2230 17) + 9).toNat))) + 2).toNat) a3) 2239 ((mI (sI (sI (sI M 2239 ((((mI M 2230 17) + 10) + (3 * (mI M 2239 ((mI M 2230 17) + 9).toNat))).toNat) a1) 2239 (((((mI M 2230 17) + 10) + (3 * (mI M 2239 ((mI M 2230 17) + 9).toNat))) + 1).toNat) (mI (sI M 2239 ((((mI M 2230 17) + 10) + (3 * (mI M 2239 ((mI M 2230 17) + 9).toNat))).toNat) a1) 2239 ((mI (sI M 2239 ((((mI M 2230 17) + 10) + (3 * (mI M 2239 ((mI M 2230 17) + 9).toNat))).toNat) a1) 2230 17) + 31).toNat)) 2239 (((((mI M 2230 17) + 10) + (3 * (mI M 2239 ((mI M 2230 17) + 9).toNat))) + 2).toNat) a3) 2230 17) + 9).toNat) + 1)) 2230 17) + 32) < 19245) ∧ (0 ≤ ((mI (sI (sI (sI (sI M 2239 ((((mI M 2230 17) + 10) + (3 * (mI M 2239 ((mI M 2230 17) + 9).toNat))).toNat) a1) 2239 (((((mI M 2230 17) + 10) + (3 * (mI M 2239 ((mI M 2230 17) + 9).toNat))) + 1).toNat) (mI (sI M 2239 ((((mI M 2230 17) + 10) + (3 * (mI M 2239 ((mI M 2230 17) + 9).toNat))).toNat) a1) 2239 ((mI (sI M 2239 ((((mI M 2230 17) + 10) + (3 * (mI M 2239 ((mI M 2230 17) + 9).toNat))).toNat) a1) 2230 17) + 31).toNat)) 2239 (((((mI M 2230 17) + 10) + (3 * (mI M 2239 ((mI M 2230 17) + 9).toNat))) + 2).toNat) a3) 2239 (((mI (sI (sI (sI M 2239 ((((mI M 2230 17) + 10) + (3 * (mI M 2239 ((mI M 2230 17) + 9).toNat))).toNat) a1) 2239 (((((mI M 2230 17) + 10) + (3 * (mI M 2239 ((mI M 2230 17) + 9).toNat))) + 1).toNat) (mI (sI M 2239 ((((mI M 2230 17) + 10) + (3 * (mI M 2239 ((mI M 2230 17) + 9).toNat))).toNat) a1) 2239 ((mI (sI M 2239 ((((mI M 2230 17) + 10) + (3 * (mI M 2239 ((mI M 2230 17) + 9).toNat))).toNat) a1) 2230 17) + 31).toNat)) 2239 (((((mI M 2230 17) + 10) + (3 * (mI M 2239 ((mI M 2230 17) + 9).toNat))) + 2).toNat) a3) 2230 17) + 9).toNat) ((mI (sI (sI (sI M 2239 ((((mI M 2230 17) + 10) + (3 * (mI M 2239 ((mI M 2230 17) + 9).toNat))).toNat) a1) 2239 (((((mI M 2230 17) + 10) + (3 * (mI M 2239 ((mI M 2230 17) + 9).toNat))) + 1).toNat) (mI (sI M 2239 ((((mI M 2230 17) + 10) + (3 * (mI M 2239 ((mI M 2230 17) + 9).toNat))).toNat) a1) 2239 ((mI (sI M 2239 ((((mI M 2230 17) + 10) + (3 * (mI M 2239 ((mI M 2230 17) + 9).toNat))).toNat) a1) 2230 17) + 31).toNat)) 2239 (((((mI M 2230 17) + 10) + (3 * (mI M 2239 ((mI M 2230 17) + 9).toNat))) + 2).toNat) a3) 2239 ((mI (sI (sI (sI M 2239 ((((mI M 2230 17) + 10) + (3 * (mI M 2239 ((mI M 2230 17) + 9).toNat))).toNat) a1) 2239 (((((mI M 2230 17) + 10) + (3 * (mI M 2239 ((mI M 2230 17) + 9).toNat))) + 1).toNat) (mI (sI M 2239 ((((mI M 2230 17) + 10) + (3 * (mI M 2239 ((mI M 2230 17) + 9).toNat))).toNat) a1) 2239 ((mI (sI M 2239 ((((mI M 2230 17) + 10) + (3 * (mI M 2239 ((mI M 2230 17) + 9).toNat))).toNat) a1) 2230 17) + 31).toNat)) 2239 (((((mI M 2230 17) + 10) + (3 * (mI M 2239 ((mI M 2230 17) + 9).toNat))) + 2).toNat) a3) 2230 17) + 9).toNat) + 1)) 2230 17) + 31)) ∧ (((mI (sI (sI (sI (sI M 2239 ((((mI M 2230 17) + 10) + (3 * (mI M 2239 ((mI M 2230 17) + 9).toNat))).toNat) a1) 2239 (((((mI M 2230 17) + 10) + (3 * (mI M 2239 ((mI M 2230 17) + 9).toNat))) + 1).toNat) (mI (sI M 2239 ((((mI M 2230 17) + 10) + (3 * (mI M 2239 ((mI M 2230 17) + 9).toNat))).toNat) a1) 2239 ((mI (sI M 2239 ((((mI M 2230 17) + 10) + (3 * (mI M 2239 ((mI M 2230 17) + 9).toNat))).toNat) a1) 2230 17) + 31).toNat)) 2239 (((((mI M 2230 17) + 10) + (3 * (mI M 2239 ((mI M 2230 17) + 9).toNat))) + 2).toNat) a3) 2239 (((mI (sI (sI (sI M 2239 ((((mI M 2230 17) + 10) + (3 * (mI M 2239 ((mI M 2230 17) + 9).toNat))).toNat) a1) 2239 (((((mI M 2230 17) + 10) + (3 * (mI M 2239 ((mI M 2230 17) + 9).toNat))) + 1).toNat) (mI (sI M 2239 ((((mI M 2230 17) + 10) + (3 * (mI M 2239 ((mI M 2230 17) + 9).toNat))).toNat) a1) 2239 ((mI (sI M 2239 ((((mI M 2230 17) + 10) + (3 * (mI M 2239 ((mI M 2230 17) + 9).toNat))).toNat) a1) 2230 17) + 31).toNat)) 2239 (((((mI M 2230 17) + 10) + (3 * (mI M 2239 ((mI M 2230 17) + 9).toNat))) + 2).toNat) a3) 2230 17) + 9).toNat) ((mI (sI (sI (sI M 2239 ((((mI M 2230 17) + 10) + (3 * (mI M 2239 ((mI M 2230 17) + 9).toNat))).toNat) a1) 2239 (((((mI M 2230 17) + 10) + (3 * (mI M 2239 ((mI M 2230 17) + 9).toNat))) + 1).toNat) (mI (sI M 2239 ((((mI M 2230 17) + 10) + (3 * (mI M 2239 ((mI M 2230 17) + 9).toNat))).toNat) a1) 2239 ((mI (sI M 2239 ((((mI M 2230 17) + 10) + (3 * (mI M 2239 ((mI M 2230 17) + 9).toNat))).toNat) a1) 2230 17) + 31).toNat)) 2239 (((((mI M 2230 17) + 10) + (3 * (mI M 2239 ((mI M 2230 17) + 9).toNat))) + 2).toNat) a3) 2239 ((mI (sI (sI (sI M 2239 ((((mI M 2230 17) + 10) + (3 * (mI M 2239 ((mI M 2230 17) + 9).toNat))).toNat) a1) 2239 (((((mI M 2230 17) + 10) + (3 * (mI M 2239 ((mI M 2230 17) + 9).toNat))) + 1).toNat) (mI (sI M 2239 ((((mI M 2230 17) + 10) + (3 * (mI M 2239 ((mI M 2230 17) + 9).toNat))).toNat) a1) 2239 ((mI (sI M 2239 ((((mI M 2230 17) + 10) + (3 * (mI M 2239 ((mI M 2230 17) + 9).toNat))).toNat) a1) 2230 17) + 31).toNat)) 2239 (((((mI M 2230 17) + 10) + (3 * (mI M 2239 ((mI M 2230 17) + 9).toNat))) + 2).toNat) a3) 2230 17) + 9).toNat) + 1)) 2230 17) + 31) < 19245) ∧ (inR ((mI (sI (sI (sI (sI (sI M 2239 ((((mI M 2230 17) + 10) + (3 * (mI M 2239 ((mI M 2230 17) + 9).toNat))).toNat) a1) 2239 (((((mI M 2230 17) + 10) + (3 * (mI M 2239 ((mI M 2230 17) + 9).toNat))) + 1).toNat) (mI (sI M 2239 ((((mI M 2230 17) + 10) + (3 * (mI M 2239 ((mI M 2230 17) + 9).toNat))).toNat) a1) 2239 ((mI (sI M 2239 ((((mI M 2230 17) + 10) + (3 * (mI M 2239 ((mI M 2230 17) + 9).toNat))).toNat) a1) 2230 17) + 31).toNat)) 2239 (((((mI M 2230 17) + 10) + (3 * (mI M 2239 ((mI M 2230 17) + 9).toNat))) + 2).toNat) a3) 2239 (((mI (sI (sI (sI M 2239 ((((mI M 2230 17) + 10) + (3 * (mI M 2239 ((mI M 2230 17) + 9).toNat))).toNat) a1) 2239 (((((mI M 2230 17) + 10) + (3 * (mI M 2239 ((mI M 2230 17) + 9).toNat))) + 1).toNat) (mI (sI M 2239 ((((mI M 2230 17) + 10) + (3 * (mI M 2239 ((mI M 2230 17) + 9).toNat))).toNat) a1) 2239 ((mI (sI M 2239 ((((mI M 2230 17) + 10) + (3 * (mI M 2239 ((mI M 2230 17) + 9).toNat))).toNat) a1) 2230 17) + 31).toNat)) 2239 (((((mI M 2230 17) + 10) + (3 * (mI M 2239 ((mI M 2230 17) + 9).toNat))) + 2).toNat) a3) 2230 17) + 9).toNat) ((mI (sI (sI (sI M 2239 ((((mI M 2230 17) + 10) + (3 * (mI M 2239 ((mI M 2230 17) + 9).toNat))).toNat) a1) 2239 (((((mI M 2230 17) + 10) + (3 * (mI M 2239 ((mI M 2230 17) + 9).toNat))) + 1).toNat) (mI (sI M 2239 ((((mI M 2230 17) + 10) + (3 * (mI M 2239 ((mI M 2230 17) + 9).toNat))).toNat) a1) 2239 ((mI (sI M 2239 ((((mI M 2230 17) + 10) + (3 * (mI M 2239 ((mI M 2230 17) + 9).toNat))).toNat) a1) 2230 17) + 31).toNat)) 2239 (((((mI M 2230 17) + 10) + (3 * (mI M 2239 ((mI M 2230 17) + 9).toNat))) + 2).toNat) a3) 2239 ((mI (sI (sI (sI M 2239 ((((mI M 2230 17) + 10) + (3 * (mI M 2239 ((mI M 2230 17) + 9).toNat))).toNat) a1) 2239 (((((mI M 2230 17) + 10) + (3 * (mI M 2239 ((mI M 2230 17) + 9).toNat))) + 1).toNat) (mI (sI M 2239 ((((mI M 2230 17) + 10) + (3 * (mI M 2239 ((mI M 2230 17) + 9).toNat))).toNat) a1) 2239 ((mI (sI M 2239 ((((mI M 2230 17) + 10) + (3 * (mI M 2239 ((mI M 2230 17) + 9).toNat))).toNat) a1) 2230 17) + 31).toNat)) 2239 (((((mI M 2230 17) + 10) + (3 * (mI M 2239 ((mI M 2230 17) + 9).toNat))) + 2).toNat) a3) 2230 17) + 9).toNat) + 1)) 2239 (((mI (sI (sI (sI (sI M 2239 ((((mI M 2230 17) + 10) + (3 * (mI M 2239 ((mI M 2230 17) + 9).toNat))).toNat) a1) 2239 (((((mI M 2230 17) + 10) + (3 * (mI M 2239 ((mI M 2230 17) + 9).toNat))) + 1).toNat) (mI (sI M 2239 ((((mI M 2230 17) + 10) + (3 * (mI M 2239 ((mI M 2230 17) + 9).toNat))).toNat) a1) 2239 ((mI (sI M 2239 ((((mI M 2230 17) + 10) + (3 * (mI M 2239 ((mI M 2230 17) + 9).toNat))).toNat) a1) 2230 17) + 31).toNat)) 2239 (((((mI M 2230 17) + 10) + (3 * (mI M 2239 ((mI M 2230 17) + 9).toNat))) + 2).toNat) a3) 2239 (((mI (sI (sI (sI M 2239 ((((mI M 2230 17) + 10) + (3 * (mI M 2239 ((mI M 2230 17) + 9).toNat))).toNat) a1) 2239 (((((mI M 2230 17) + 10) + (3 * (mI M 2239 ((mI M 2230 17) + 9).toNat))) + 1).toNat) (mI (sI M 2239 ((((mI M 2230 17) + 10) + (3 * (mI M 2239 ((mI M 2230 17) + 9).toNat))).toNat) a1) 2239 ((mI (sI M 2239 ((((mI M 2230 17) + 10) + (3 * (mI M 2239 ((mI M 2230 17) + 9).toNat))).toNat) a1) 2230 17) + 31).toNat)) 2239 (((((mI M 2230 17) + 10) + (3 * (mI M 2239 ((mI M 2230 17) + 9).toNat))) + 2).toNat) a3) 2230 17) + 9).toNat) ((mI (sI (sI (sI M 2239 ((((mI M 2230 17) + 10) + (3 * (mI M 2239 ((mI M 2230 17) + 9).toNat))).toNat) a1) 2239 (((((mI M 2230 17) + 10) + (3 * (mI M 2239 ((mI M 2230 17) + 9).toNat))) + 1).toNat) (mI (sI M 2239 ((((mI M 2230 17) + 10) + (3 * (mI M 2239 ((mI M 2230 17) + 9).toNat))).toNat) a1) 2239 ((mI (sI M 2239 ((((mI M 2230 17) + 10) + (3 * (mI M 2239 ((mI M 2230 17) + 9).toNat))).toNat) a1) 2230 17) + 31).toNat)) 2239 (((((mI M 2230 17) + 10) + (3 * (mI M 2239 ((mI M 2230 17) + 9).toNat))) + 2).toNat) a3) 2239 ((mI (sI (sI (sI M 2239 ((((mI M 2230 17) + 10) + (3 * (mI M 2239 ((mI M 2230 17) + 9).toNat))).toNat) a1) 2239 (((((mI M 2230 17) + 10) + (3 * (mI M 2239 ((mI M 2230 17) + 9).toNat))) + 1).toNat) (mI (sI M 2239 ((((mI M 2230 17) + 10) + (3 * (mI M 2239 ((mI M 2230 17) + 9).toNat))).toNat) a1) 2239 ((mI (sI M 2239 ((((mI M 2230 17) + 10) + (3 * (mI M 2239 ((mI M 2230 17) + 9).toNat))).toNat) a1) 2230 17) + 31).toNat)) 2239 (((((mI M 2230 17) + 10) + (3 * (mI M 2239 ((mI M 2230 17) + 9).toNat))) + 2).toNat) a3) 2230 17) + 9).toNat) + 1)) 2230 17) + 31).toNat) (mI (sI (sI (sI (sI M 2239 ((((mI M 2230 17) + 10) + (3 * (mI M 2239 ((mI M 2230 17) + 9).toNat))).toNat) a1) 2239 (((((mI M 2230 17) + 10) + (3 * (mI M 2239 ((mI M 2230 17) + 9).toNat))) + 1).toNat) (mI (sI M 2239 ((((mI M 2230 17) + 10) + (3 * (mI M 2239 ((mI M 2230 17) + 9).toNat))).toNat) a1) 2239 ((mI (sI M 2239 ((((mI M 2230 17) + 10) + (3 * (mI M 2239 ((mI M 2230 17) + 9).toNat))).toNat) a1) 2230 17) + 31).toNat)) 2239 (((((mI M 2230 17) + 10) + (3 * (mI M 2239 ((mI M 2230 17) + 9).toNat))) + 2).toNat) a3) 2239 (((mI (sI (sI (sI M 2239 ((((mI M 2230 17) + 10) + (3 * (mI M 2239 ((mI M 2230 17) + 9).toNat))).toNat) a1) 2239 (((((mI M 2230 17) + 10) + (3 * (mI M 2239 ((mI M 2230 17) + 9).toNat))) + 1).toNat) (mI (sI M 2239 ((((mI M 2230 17) + 10) + (3 * (mI M 2239 ((mI M 2230 17) + 9).toNat))).toNat) a1) 2239 ((mI (sI M 2239 ((((mI M 2230 17) + 10) + (3 * (mI M 2239 ((mI M 2230 17) + 9).toNat))).toNat) a1) 2230 17) + 31).toNat)) 2239 (((((mI M 2230 17) + 10) + (3 * (mI M 2239 ((mI M 2230 17) + 9).toNat))) + 2).toNat) a3) 2230 17) + 9).toNat) ((mI (sI (sI (sI M 2239 ((((mI M 2230 17) + 10) + (3 * (mI M 2239 ((mI M 2230 17) + 9).toNat))).toNat) a1) 2239 (((((mI M 2230 17) + 10) + (3 * (mI M 2239 ((mI M 2230 17) + 9).toNat))) + 1).toNat) (mI (sI M 2239 ((((mI M 2230 17) + 10) + (3 * (mI M 2239 ((mI M 2230 17) + 9).toNat))).toNat) a1) 2239 ((mI (sI M 2239 ((((mI M 2230 17) + 10) + (3 * (mI M 2239 ((mI M 2230 17) + 9).toNat))).toNat) a1) 2230 17) + 31).toNat)) 2239 (((((mI M 2230 17) + 10) + (3 * (mI M 2239 ((mI M 2230 17) + 9).toNat))) + 2).toNat) a3) 2239 ((mI (sI (sI (sI M 2239 ((((mI M 2230 17) + 10) + (3 * (mI M 2239 ((mI M 2230 17) + 9).toNat))).toNat) a1) 2239 (((((mI M 2230 17) + 10) + (3 * (mI M 2239 ((mI M 2230 17) + 9).toNat))) + 1).toNat) (mI (sI M 2239 ((((mI M 2230 17) + 10) + (3 * (mI M 2239 ((mI M 2230 17) + 9).toNat))).toNat) a1) 2239 ((mI (sI M 2239 ((((mI M 2230 17) + 10) + (3 * (mI M 2239 ((mI M 2230 17) + 9).toNat))).toNat) a1) 2230 17) + 31).toNat)) 2239 (((((mI M 2230 17) + 10) + (3 * (mI M 2239 ((mI M 2230 17) + 9).toNat))) + 2).toNat) a3) 2230 17) + 9).toNat) + 1)) 2239 ((mI (sI (sI (sI (sI M 2239 ((((mI M 2230 17) + 10) + (3 * (mI M 2239 ((mI M 2230 17) + 9).toNat))).toNat) a1) 2239 (((((mI M 2230 17) + 10) + (3 * (mI M 2239 ((mI M 2230 17) + 9).toNat))) + 1).toNat) (mI (sI M 2239 ((((mI M 2230 17) + 10) + (3 * (mI M 2239 ((mI M 2230 17) + 9).toNat))).toNat) a1) 2239 ((mI (sI M 2239 ((((mI M 2230 17) + 10) + (3 * (mI M 2239 ((mI M 2230 17) + 9).toNat))).toNat) a1) 2230 17) + 31).toNat)) 2239 (((((mI M 2230 17) + 10) + (3 * (mI M 2239 ((mI M 2230 17) + 9).toNat))) + 2).toNat) a3) 2239 (((mI (sI (sI (sI M 2239 ((((mI M 2230 17) + 10) + (3 * (mI M 2239 ((mI M 2230 17) + 9).toNat))).toNat) a1) 2239 (((((mI M 2230 17) + 10) + (3 * (mI M 2239 ((mI M 2230 17) + 9).toNat))) + 1).toNat) (mI (sI M 2239 ((((mI M 2230 17) + 10) + (3 * (mI M 2239 ((mI M 2230 17) + 9).toNat))).toNat) a1) 2239 ((mI (sI M 2239 ((((mI M 2230 17) + 10) + (3 * (mI M 2239 ((mI M 2230 17) + 9).toNat))).toNat) a1) 2230 17) + 31).toNat)) 2239 (((((mI M 2230 17) + 10) + (3 * (mI M 2239 ((mI M 2230 17) + 9).toNat))) + 2).toNat) a3) 2230 17) + 9).toNat) ((mI (sI (sI (sI M 2239 ((((mI M 2230 17) + 10) + (3 * (mI M 2239 ((mI M 2230 17) + 9).toNat))).toNat) a1) 2239 (((((mI M 2230 17) + 10) + (3 * (mI M 2239 ((mI M 2230 17) + 9).toNat))) + 1).toNat) (mI (sI M 2239 ((((mI M 2230 17) + 10) + (3 * (mI M 2239 ((mI M 2230 17) + 9).toNat))).toNat) a1) 2239 ((mI (sI M 2239 ((((mI M 2230 17) + 10) + (3 * (mI M 2239 ((mI M 2230 17) + 9).toNat))).toNat) a1) 2230 17) + 31).toNat)) 2239 (((((mI M 2230 17) + 10) + (3 * (mI M 2239 ((mI M 2230 17) + 9).toNat))) + 2).toNat) a3) 2239 ((mI (sI (sI (sI M 2239 ((((mI M 2230 17) + 10) + (3 * (mI M 2239 ((mI M 2230 17) + 9).toNat))).toNat) a1) 2239 (((((mI M 2230 17) + 10) + (3 * (mI M 2239 ((mI M 2230 17) + 9).toNat))) + 1).toNat) (mI (sI M 2239 ((((mI M 2230 17) + 10) + (3 * (mI M 2239 ((mI M 2230 17) + 9).toNat))).toNat) a1) 2239 ((mI (sI M 2239 ((((mI M 2230 17) + 10) + (3 * (mI M 2239 ((mI M 2230 17) + 9).toNat))).toNat) a1) 2230 17) + 31).toNat)) 2239 (((((mI M 2230 17) + 10) + (3 * (mI M 2239 ((mI M 2230 17) + 9).toNat))) + 2).toNat) a3) 2230 17) + 9).toNat) + 1)) 2230 17) + 32).toNat)) 2230 17) + 8)) ∧ (0 ≤ ((mI (sI (sI (sI (sI (sI M 2239 ((((mI M 2230 17) + 10) + (3 * (mI M 2239 ((mI M 2230 17) + 9).toNat))).toNat) a1) 2239 (((((mI M 2230 17) + 10) + (3 * (mI M 2239 ((mI M 2230 17) + 9).toNat))) + 1).toNat) (mI (sI M 2239 ((((mI M 2230 17) + 10) + (3 * (mI M 2239 ((mI M 2230 17) + 9).toNat))).toNat) a1) 2239 ((mI (sI M 2239 ((((mI M 2230 17) + 10) + (3 * (mI M 2239 ((mI M 2230 17) + 9).toNat))).toNat) a1) 2230 17) + 31).toNat)) 2239 (((((mI M 2230 17) + 10) + (3 * (mI M 2239 ((mI M 2230 17) + 9).toNat))) + 2).toNat) a3) 2239 (((mI (sI (sI (sI M 2239 ((((mI M 2230 17) + 10) + (3 * (mI M 2239 ((mI M 2230 17) + 9).toNat))).toNat) a1) 2239 (((((mI M 2230 17) + 10) + (3 * (mI M 2239 ((mI M 2230 17) + 9).toNat))) + 1).toNat) (mI (sI M 2239 ((((mI M 2230 17) + 10) + (3 * (mI M 2239 ((mI M 2230 17) + 9).toNat))).toNat) a1) 2239 ((mI (sI M 2239 ((((mI M 2230 17) + 10) + (3 * (mI M 2239 ((mI M 2230 17) + 9).toNat))).toNat) a1) 2230 17) + 31).toNat)) 2239 (((((mI M 2230 17) + 10) + (3 * (mI M 2239 ((mI M 2230 17) + 9).toNat))) + 2).toNat) a3) 2230 17) + 9).toNat) ((mI (sI (sI (sI M 2239 ((((mI M 2230 17) + 10) + (3 * (mI M 2239 ((mI M 2230 17) + 9).toNat))).toNat) a1) 2239 (((((mI M 2230 17) + 10) + (3 * (mI M 2239 ((mI M 2230 17) + 9).toNat))) + 1).toNat) (mI (sI M 2239 ((((mI M 2230 17) + 10) + (3 * (mI M 2239 ((mI M 2230 17) + 9).toNat))).toNat) a1) 2239 ((mI (sI M 2239 ((((mI M 2230 17) + 10) + (3 * (mI M 2239 ((mI M 2230 17) + 9).toNat))).toNat) a1) 2230 17) + 31).toNat)) 2239 (((((mI M 2230 17) + 10) + (3 * (mI M 2239 ((mI M 2230 17) + 9).toNat))) + 2).toNat) a3) 2239 ((mI (sI (sI (sI M 2239 ((((mI M 2230 17) + 10) + (3 * (mI M 2239 ((mI M 2230 17) + 9).toNat))).toNat) a1) 2239 (((((mI M 2230 17) + 10) + (3 * (mI M 2239 ((mI M 2230 17) + 9).toNat))) + 1).toNat) (mI (sI M 2239 ((((mI M 2230 17) + 10) + (3 * (mI M 2239 ((mI M 2230 17) + 9).toNat))).toNat) a1) 2239 ((mI (sI M 2239 ((((mI M 2230 17) + 10) + (3 * (mI M 2239 ((mI M 2230 17) + 9).toNat))).toNat) a1) 2230 17) + 31).toNat)) 2239 (((((mI M 2230 17) + 10) + (3 * (mI M 2239 ((mI M 2230 17) + 9).toNat))) + 2).toNat) a3) 2230 17) + 9).toNat) + 1)) 2239 (((mI (sI (sI (sI (sI M 2239 ((((mI M 2230 17) + 10) + (3 * (mI M 2239 ((mI M 2230 17) + 9).toNat))).toNat) a1) 2239 (((((mI M 2230 17) + 10) + (3 * (mI M 2239 ((mI M 2230 17) + 9).toNat))) + 1).toNat) (mI (sI M 2239 ((((mI M 2230 17) + 10) + (3 * (mI M 2239 ((mI M 2230 17) + 9).toNat))).toNat) a1) 2239 ((mI (sI M 2239 ((((mI M 2230 17) + 10) + (3 * (mI M 2239 ((mI M 2230 17) + 9).toNat))).toNat) a1) 2230 17) + 31).toNat)) 2239 (((((mI M 2230 17) + 10) + (3 * (mI M 2239 ((mI M 2230 17) + 9).toNat))) + 2).toNat) a3) 2239 (((mI (sI (sI (sI M 2239 ((((mI M 2230 17) + 10) + (3 * (mI M 2239 ((mI M 2230 17) + 9).toNat))).toNat) a1) 2239 (((((mI M 2230 17) + 10) + (3 * (mI M 2239 ((mI M 2230 17) + 9).toNat))) + 1).toNat) (mI (sI M 2239 ((((mI M 2230 17) + 10) + (3 * (mI M 2239 ((mI M 2230 17) + 9).toNat))).toNat) a1) 2239 ((mI (sI M 2239 ((((mI M 2230 17) + 10) + (3 * (mI M 2239 ((mI M 2230 17) + 9).toNat))).toNat) a1) 2230 17) + 31).toNat)) 2239 (((((mI M 2230 17) + 10) + (3 * (mI M 2239 ((mI M 2230 17) + 9).toNat))) + 2).toNat) a3) 2230 17) + 9).toNat) ((mI (sI (sI (sI M 2239 ((((mI M 2230 17) + 10) + (3 * (mI M 2239 ((mI M 2230 17) + 9).toNat))).toNat) a1) 2239 (((((mI M 2230 17) + 10) + (3 * (mI M 2239 ((mI M 2230 17) + 9).toNat))) + 1).toNat) (mI (sI M 2239 ((((mI M 2230 17) + 10) + (3 * (mI M 2239 ((mI M 2230 17) + 9).toNat))).toNat) a1) 2239 ((mI (sI M 2239 ((((mI M 2230 17) + 10) + (3 * (mI M 2239 ((mI M 2230 17) + 9).toNat))).toNat) a1) 2230 17) + 31).toNat)) 2239 (((((mI M 2230 17) + 10) + (3 * (mI M 2239 ((mI M 2230 17) + 9).toNat))) + 2).toNat) a3) 2239 ((mI (sI (sI (sI M 2239 ((((mI M 2230 17) + 10) + (3 * (mI M 2239 ((mI M 2230 17) + 9).toNat))).toNat) a1) 2239 (((((mI M 2230 17) + 10) + (3 * (mI M 2239 ((mI M 2230 17) + 9).toNat))) + 1).toNat) (mI (sI M 2239 ((((mI M 2230 17) + 10) + (3 * (mI M 2239 ((mI M 2230 17) + 9).toNat))).toNat) a1) 2239 ((mI (sI M 2239 ((((mI M 2230 17) + 10) + (3 * (mI M 2239 ((mI M 2230 17) + 9).toNat))).toNat) a1) 2230 17) + 31).toNat)) 2239 (((((mI M 2230 17) + 10) + (3 * (mI M 2239 ((mI M 2230 17) + 9).toNat))) + 2).toNat) a3) 2230 17) + 9).toNat) + 1)) 2230 17) + 31).toNat) (mI (sI (sI (sI (sI M 2239 ((((mI M 2230 17) + 10) + (3 * (mI M 2239 ((mI M 2230 17) + 9).toNat))).toNat) a1) 2239 (((((mI M 2230 17) + 10) + (3 * (mI M 2239 ((mI M 2230 17) + 9).toNat))) + 1).toNat) (mI (sI M 2239 ((((mI M 2230 17) + 10) + (3 * (mI M 2239 ((mI M 2230 17) + 9).toNat))).toNat) a1) 2239 ((mI (sI M 2239 ((((mI M 2230 17) + 10) + (3 * (mI M 2239 ((mI M 2230 17) + 9).toNat))).toNat) a1) 2230 17) + 31).toNat)) 2239 (((((mI M 2230 17) + 10) + (3 * (mI M 2239 ((mI M 2230 17) + 9).toNat))) + 2).toNat) a3) 2239 (((mI (sI (sI (sI M 2239 ((((mI M 2230 17) + 10) + (3 * (mI M 2239 ((mI M 2230 17) + 9).toNat))).toNat) a1) 2239 (((((mI M 2230 17) + 10) + (3 * (mI M 2239 ((mI M 2230 17) + 9).toNat))) + 1).toNat) (mI (sI M 2239 ((((mI M 2230 17) + 10) + (3 * (mI M 2239 ((mI M 2230 17) + 9).toNat))).toNat) a1) 2239 ((mI (sI M 2239 ((((mI M 2230 17) + 10) + (3 * (mI M 2239 ((mI M 2230 17) + 9).toNat))).toNat) a1) 2230 17) + 31).toNat)) 2239 (((((mI M 2230 17) + 10) + (3 * (mI M 2239 ((mI M 2230 17) + 9).toNat))) + 2).toNat) a3) 2230 17) + 9).toNat) ((mI (sI (sI (sI M 2239 ((((mI M 2230 17) + 10) + (3 * (mI M 2239 ((mI M 2230 17) + 9).toNat))).toNat) a1) 2239 (((((mI M 2230 17) + 10) + (3 * (mI M 2239 ((mI M 2230 17) + 9).toNat))) + 1).toNat) (mI (sI M 2239 ((((mI M 2230 17) + 10) + (3 * (mI M 2239 ((mI M 2230 17) + 9).toNat))).toNat) a1) 2239 ((mI (sI M 2239 ((((mI M 2230 17) + 10) + (3 * (mI M 2239 ((mI M 2230 17) + 9).toNat))).toNat) a1) 2230 17) + 31).toNat)) 2239 (((((mI M 2230 17) + 10) + (3 * (mI M 2239 ((mI M 2230 17) + 9).toNat))) + 2).toNat) a3) 2239 ((mI (sI (sI (sI M 2239 ((((mI M 2230 17) + 10) + (3 * (mI M 2239 ((mI M 2230 17) + 9).toNat))).toNat) a1) 2239 (((((mI M 2230 17) + 10) + (3 * (mI M 2239 ((mI M 2230 17) + 9).toNat))) + 1).toNat) (mI (sI M 2239 ((((mI M 2230 17) + 10) + (3 * (mI M 2239 ((mI M 2230 17) + 9).toNat))).toNat) a1) 2239 ((mI (sI M 2239 ((((mI M 2230 17) + 10) + (3 * (mI M 2239 ((mI M 2230 17) + 9).toNat))).toNat) a1) 2230 17) + 31).toNat)) 2239 (((((mI M 2230 17) + 10) + (3 * (mI M 2239 ((mI M 2230 17) + 9).toNat))) + 2).toNat) a3) 2230 17) + 9).toNat) + 1)) 2239 ((mI (sI (sI (sI (sI M 2239 ((((mI M 2230 17) + 10) + (3 * (mI M 2239 ((mI M 2230 17) + 9).toNat))).toNat) a1) 2239 (((((mI M 2230 17) + 10) + (3 * (mI M 2239 ((mI M 2230 17) + 9).toNat))) + 1).toNat) (mI (sI M 2239 ((((mI M 2230 17) + 10) + (3 * (mI M 2239 ((mI M 2230 17) + 9).toNat))).toNat) a1) 2239 ((mI (sI M 2239 ((((mI M 2230 17) + 10) + (3 * (mI M 2239 ((mI M 2230 17) + 9).toNat))).toNat) a1) 2230 17) + 31).toNat)) 2239 (((((mI M 2230 17) + 10) + (3 * (mI M 2239 ((mI M 2230 17) + 9).toNat))) + 2).toNat) a3) 2239 (((mI (sI (sI (sI M 2239 ((((mI M 2230 17) + 10) + (3 * (mI M 2239 ((mI M 2230 17) + 9).toNat))).toNat) a1) 2239 (((((mI M 2230 17) + 10) + (3 * (mI M 2239 ((mI M 2230 17) + 9).toNat))) + 1).toNat) (mI (sI M 2239 ((((mI M 2230 17) + 10) + (3 * (mI M 2239 ((mI M 2230 17) + 9).toNat))).toNat) a1) 2239 ((mI (sI M 2239 ((((mI M 2230 17) + 10) + (3 * (mI M 2239 ((mI M 2230 17) + 9).toNat))).toNat) a1) 2230 17) + 31).toNat)) 2239 (((((mI M 2230 17) + 10) + (3 * (mI M 2239 ((mI M 2230 17) + 9).toNat))) + 2).toNat) a3) 2230 17) + 9).toNat) ((mI (sI (sI (sI M 2239 ((((mI M 2230 17) + 10) + (3 * (mI M 2239 ((mI M 2230 17) + 9).toNat))).toNat) a1) 2239 (((((mI M 2230 17) + 10) + (3 * (mI M 2239 ((mI M 2230 17) + 9).toNat))) + 1).toNat) (mI (sI M 2239 ((((mI M 2230 17) + 10) + (3 * (mI M 2239 ((mI M 2230 17) + 9).toNat))).toNat) a1) 2239 ((mI (sI M 2239 ((((mI M 2230 17) + 10) + (3 * (mI M 2239 ((mI M 2230 17) + 9).toNat))).toNat) a1) 2230 17) + 31).toNat)) 2239 (((((mI M 2230 17) + 10) + (3 * (mI M 2239 ((mI M 2230 17) + 9).toNat))) + 2).toNat) a3) 2239 ((mI (sI (sI (sI M 2239 ((((mI M 2230 17) + 10) + (3 * (mI M 2239 ((mI M 2230 17) + 9).toNat))).toNat) a1) 2239 (((((mI M 2230 17) + 10) + (3 * (mI M 2239 ((mI M 2230 17) + 9).toNat))) + 1).toNat) (mI (sI M 2239 ((((mI M 2230 17) + 10) + (3 * (mI M 2239 ((mI M 2230 17) + 9).toNat))).toNat) a1) 2239 ((mI (sI M 2239 ((((mI M 2230 17) + 10) + (3 * (mI M 2239 ((mI M 2230 17) + 9).toNat))).toNat) a1) 2230 17) + 31).toNat)) 2239 (((((mI M 2230 17) + 10) + (3 * (mI M 2239 ((mI M 2230 17) + 9).toNat))) + 2).toNat) a3) 2230 17) + 9).toNat) + 1)) 2230 17) + 32).toNat)) 2230 17) + 8)) ∧ (((mI (sI (sI (sI (sI (sI M 2239 ((((mI M 2230 17) + 10) + (3 * (mI M 2239 ((mI M 2230 17) + 9).toNat))).toNat) a1) 2239 (((((mI M 2230 17) + 10) + (3 * (mI M 2239 ((mI M 2230 17) + 9).toNat))) + 1).toNat) (mI (sI M 2239 ((((mI M 2230 17) + 10) + (3 * (mI M 2239 ((mI M 2230 17) + 9).toNat))).toNat) a1) 2239 ((mI (sI M 2239 ((((mI M 2230 17) + 10) + (3 * (mI M 2239 ((mI M 2230 17) + 9).toNat))).toNat) a1) 2230 17) + 31).toNat)) 2239 (((((mI M 2230 17) + 10) + (3 * (mI M 2239 ((mI M 2230 17) + 9).toNat))) + 2).toNat) a3) 2239 (((mI (sI (sI (sI M 2239 ((((mI M 2230 17) + 10) + (3 * (mI M 2239 ((mI M 2230 17) + 9).toNat))).toNat) a1) 2239 (((((mI M 2230 17) + 10) + (3 * (mI M 2239 ((mI M 2230 17) + 9).toNat))) + 1).toNat) (mI (sI M 2239 ((((mI M 2230 17) + 10) + (3 * (mI M 2239 ((mI M 2230 17) + 9).toNat))).toNat) a1) 2239 ((mI (sI M 2239 ((((mI M 2230 17) + 10) + (3 * (mI M 2239 ((mI M 2230 17) + 9).toNat))).toNat) a1) 2230 17) + 31).toNat)) 2239 (((((mI M 2230 17) + 10) + (3 * (mI M 2239 ((mI M 2230 17) + 9).toNat))) + 2).toNat) a3) 2230 17) + 9).toNat) ((mI (sI (sI (sI M 2239 ((((mI M 2230 17) + 10) + (3 * (mI M 2239 ((mI M 2230 17) + 9).toNat))).toNat) a1) 2239 (((((mI M 2230 17) + 10) + (3 * (mI M 2239 ((mI M 2230 17) + 9).toNat))) + 1).toNat) (mI (sI M 2239 ((((mI M 2230 17) + 10) + (3 * (mI M 2239 ((mI M 2230 17) + 9).toNat))).toNat) a1) 2239 ((mI (sI M 2239 ((((mI M 2230 17) + 10) + (3 * (mI M 2239 ((mI M 2230 17) + 9).toNat))).toNat) a1) 2230 17) + 31).toNat)) 2239 (((((mI M 2230 17) + 10) + (3 * (mI M 2239 ((mI M 2230 17) + 9).toNat))) + 2).toNat) a3) 2239 ((mI (sI (sI (sI M 2239 ((((mI M 2230 17) + 10) + (3 * (mI M 2239 ((mI M 2230 17) + 9).toNat))).toNat) a1) 2239 (((((mI M 2230 17) + 10) + (3 * (mI M 2239 ((mI M 2230 17) + 9).toNat))) + 1).toNat) (mI (sI M 2239 ((((mI M 2230 17) + 10) + (3 * (mI M 2239 ((mI M 2230 17) + 9).toNat))).toNat) a1) 2239 ((mI (sI M 2239 ((((mI M 2230 17) + 10) + (3 * (mI M 2239 ((mI M 2230 17) + 9).toNat))).toNat) a1) 2230 17) + 31).toNat)) 2239 (((((mI M 2230 17) + 10) + (3 * (mI M 2239 ((mI M 2230 17) + 9).toNat))) + 2).toNat) a3) 2230 17) + 9).toNat) + 1)) 2239 (((mI (sI (sI (sI (sI M 2239 ((((mI M 2230 17) + 10) + (3 * (mI M 2239 ((mI M 2230 17) + 9).toNat))).toNat) a1) 2239 (((((mI M 2230 17) + 10) + (3 * (mI M 2239 ((mI M 2230 17) + 9).toNat))) + 1).toNat) (mI (sI M 2239 ((((mI M 2230 17) + 10) + (3 * (mI M 2239 ((mI M 2230 17) + 9).toNat))).toNat) a1) 2239 ((mI (sI M 2239 ((((mI M 2230 17) + 10) + (3 * (mI M 2239 ((mI M 2230 17) + 9).toNat))).toNat) a1) 2230 17) + 31).toNat)) 2239 (((((mI M 2230 17) + 10) + (3 * (mI M 2239 ((mI M 2230 17) + 9).toNat))) + 2).toNat) a3) 2239 (((mI (sI (sI (sI M 2239 ((((mI M 2230 17) + 10) + (3 * (mI M 2239 ((mI M 2230 17) + 9).toNat))).toNat) a1) 2239 (((((mI M 2230 17) + 10) + (3 * (mI M 2239 ((mI M 2230 17) + 9).toNat))) + 1).toNat) (mI (sI M 2239 ((((mI M 2230 17) + 10) + (3 * (mI M 2239 ((mI M 2230 17) + 9).toNat))).toNat) a1) 2239 ((mI (sI M 2239 ((((mI M 2230 17) + 10) + (3 * (mI M 2239 ((mI M 2230 17) + 9).toNat))).toNat) a1) 2230 17) + 31).toNat)) 2239 (((((mI M 2230 17) + 10) + (3 * (mI M 2239 ((mI M 2230 17) + 9).toNat))) + 2).toNat) a3) 2230 17) + 9).toNat) ((mI (sI (sI (sI M 2239 ((((mI M 2230 17) + 10) + (3 * (mI M 2239 ((mI M 2230 17) + 9).toNat))).toNat) a1) 2239 (((((mI M 2230 17) + 10) + (3 * (mI M 2239 ((mI M 2230 17) + 9).toNat))) + 1).toNat) (mI (sI M 2239 ((((mI M 2230 17) + 10) + (3 * (mI M 2239 ((mI M 2230 17) + 9).toNat))).toNat) a1) 2239 ((mI (sI M 2239 ((((mI M 2230 17) + 10) + (3 * (mI M 2239 ((mI M 2230 17) + 9).toNat))).toNat) a1) 2230 17) + 31).toNat)) 2239 (((((mI M 2230 17) + 10) + (3 * (mI M 2239 ((mI M 2230 17) + 9).toNat))) + 2).toNat) a3) 2239 ((mI (sI (sI (sI M 2239 ((((mI M 2230 17) + 10) + (3 * (mI M 2239 ((mI M 2230 17) + 9).toNat))).toNat) a1) 2239 (((((mI M 2230 17) + 10) + (3 * (mI M 2239 ((mI M 2230 17) + 9).toNat))) + 1).toNat) (mI (sI M 2239 ((((mI M 2230 17) + 10) + (3 * (mI M 2239 ((mI M 2230 17) + 9).toNat))).toNat) a1) 2239 ((mI (sI M 2239 ((((mI M 2230 17) + 10) + (3 * (mI M 2239 ((mI M 2230 17) + 9).toNat))).toNat) a1) 2230 17) + 31).toNat)) 2239 (((((mI M 2230 17) + 10) + (3 * (mI M 2239 ((mI M 2230 17) + 9).toNat))) + 2).toNat) a3) 2230 17) + 9).toNat) + 1)) 2230 17) + 31).toNat) (mI (sI (sI (sI (sI M 2239 ((((mI M 2230 17) + 10) + (3 * (mI M 2239 ((mI M 2230 17) + 9).toNat))).toNat) a1) 2239 (((((mI M 2230 17) + 10) + (3 * (mI M 2239 ((mI M 2230 17) + 9).toNat))) + 1).toNat) (mI (sI M 2239 ((((mI M 2230 17) + 10) + (3 * (mI M 2239 ((mI M 2230 17) + 9).toNat))).toNat) a1) 2239 ((mI (sI M 2239 ((((mI M 2230 17) + 10) + (3 * (mI M 2239 ((mI M 2230 17) + 9).toNat))).toNat) a1) 2230 17) + 31).toNat)) 2239 (((((mI M 2230 17) + 10) + (3 * (mI M 2239 ((mI M 2230 17) + 9).toNat))) + 2).toNat) a3) 2239 (((mI (sI (sI (sI M 2239 ((((mI M 2230 17) + 10) + (3 * (mI M 2239 ((mI M 2230 17) + 9).toNat))).toNat) a1) 2239 (((((mI M 2230 17) + 10) + (3 * (mI M 2239 ((mI M 2230 17) + 9).toNat))) + 1).toNat) (mI (sI M 2239 ((((mI M 2230 17) + 10) + (3 * (mI M 2239 ((mI M 2230 17) + 9).toNat))).toNat) a1) 2239 ((mI (sI M 2239 ((((mI M 2230 17) + 10) + (3 * (mI M 2239 ((mI M 2230 17) + 9).toNat))).toNat) a1) 2230 17) + 31).toNat)) 2239 (((((mI M 2230 17) + 10) + (3 * (mI M 2239 ((mI M 2230 17) + 9).toNat))) + 2).toNat) a3) 2230 17) + 9).toNat) ((mI (sI (sI (sI M 2239 ((((mI M 2230 17) + 10) + (3 * (mI M 2239 ((mI M 2230 17) + 9).toNat))).toNat) a1) 2239 (((((mI M 2230 17) + 10) + (3 * (mI M 2239 ((mI M 2230 17) + 9).toNat))) + 1).toNat) (mI (sI M 2239 ((((mI M 2230 17) + 10) + (3 * (mI M 2239 ((mI M 2230 17) + 9).toNat))).toNat) a1) 2239 ((mI (sI M 2239 ((((mI M 2230 17) + 10) + (3 * (mI M 2239 ((mI M 2230 17) + 9).toNat))).toNat) a1) 2230 17) + 31).toNat)) 2239 (((((mI M 2230 17) + 10) + (3 * (mI M 2239 ((mI M 2230 17) + 9).toNat))) + 2).toNat) a3) 2239 ((mI (sI (sI (sI M 2239 ((((mI M 2230 17) + 10) + (3 * (mI M 2239 ((mI M 2230 17) + 9).toNat))).toNat) a1) 2239 (((((mI M 2230 17) + 10) + (3 * (mI M 2239 ((mI M 2230 17) + 9).toNat))) + 1).toNat) (mI (sI M 2239 ((((mI M 2230 17) + 10) + (3 * (mI M 2239 ((mI M 2230 17) + 9).toNat))).toNat) a1) 2239 ((mI (sI M 2239 ((((mI M 2230 17) + 10) + (3 * (mI M 2239 ((mI M 2230 17) + 9).toNat))).toNat) a1) 2230 17) + 31).toNat)) 2239 (((((mI M 2230 17) + 10) + (3 * (mI M 2239 ((mI M 2230 17) + 9).toNat))) + 2).toNat) a3) 2230 17) + 9).toNat) + 1)) 2239 ((mI (sI (sI (sI (sI M 2239 ((((mI M 2230 17) + 10) + (3 * (mI M 2239 ((mI M 2230 17) + 9).toNat))).toNat) a1) 2239 (((((mI M 2230 17) + 10) + (3 * (mI M 2239 ((mI M 2230 17) + 9).toNat))) + 1).toNat) (mI (sI M 2239 ((((mI M 2230 17) + 10) + (3 * (mI M 2239 ((mI M 2230 17) + 9).toNat))).toNat) a1) 2239 ((mI (sI M 2239 ((((mI M 2230 17) + 10) + (3 * (mI M 2239 ((mI M 2230 17) + 9).toNat))).toNat) a1) 2230 17) + 31).toNat)) 2239 (((((mI M 2230 17) + 10) + (3 * (mI M 2239 ((mI M 2230 17) + 9).toNat))) + 2).toNat) a3) 2239 (((mI (sI (sI (sI M 2239 ((((mI M 2230 17) + 10) + (3 * (mI M 2239 ((mI M 2230 17) + 9).toNat))).toNat) a1) 2239 (((((mI M 2230 17) + 10) + (3 * (mI M 2239 ((mI M 2230 17) + 9).toNat))) + 1).toNat) (mI (sI M 2239 ((((mI M 2230 17) + 10) + (3 * (mI M 2239 ((mI M 2230 17) + 9).toNat))).toNat) a1) 2239 ((mI (sI M 2239 ((((mI M 2230 17) + 10) + (3 * (mI M 2239 ((mI M 2230 17) + 9).toNat))).toNat) a1) 2230 17) + 31).toNat)) 2239 (((((mI M 2230 17) + 10) + (3 * (mI M 2239 ((mI M 2230 17) + 9).toNat))) + 2).toNat) a3) 2230 17) + 9).toNat) ((mI (sI (sI (sI M 2239 ((((mI M 2230 17) + 10) + (3 * (mI M 2239 ((mI M 2230 17) + 9).toNat))).toNat) a1) 2239 (((((mI M 2230 17) + 10) + (3 * (mI M 2239 ((mI M 2230 17) + 9).toNat))) + 1).toNat) (mI (sI M 2239 ((((mI M 2230 17) + 10) + (3 * (mI M 2239 ((mI M 2230 17) + 9).toNat))).toNat) a1) 2239 ((mI (sI M 2239 ((((mI M 2230 17) + 10) + (3 * (mI M 2239 ((mI M 2230 17) + 9).toNat))).toNat) a1) 2230 17) + 31).toNat)) 2239 (((((mI M 2230 17) + 10) + (3 * (mI M 2239 ((mI M 2230 17) + 9).toNat))) + 2).toNat) a3) 2239 ((mI (sI (sI (sI M 2239 ((((mI M 2230 17) + 10) + (3 * (mI M 2239 ((mI M 2230 17) + 9).toNat))).toNat) a1) 2239 (((((mI M 2230 17) + 10) + (3 * (mI M 2239 ((mI M 2230 17) + 9).toNat))) + 1).toNat) (mI (sI M 2239 ((((mI M 2230 17) + 10) + (3 * (mI M 2239 ((mI M 2230 17) + 9).toNat))).toNat) a1) 2239 ((mI (sI M 2239 ((((mI M 2230 17) + 10) + (3 * (mI M 2239 ((mI M 2230 17) + 9).toNat))).toNat) a1) 2230 17) + 31).toNat)) 2239 (((((mI M 2230 17) + 10) + (3 * (mI M 2239 ((mI M 2230 17) + 9).toNat))) + 2).toNat) a3) 2230 17) + 9).toNat) + 1)) 2230 17) + 32).toNat)) 2230 17) + 8) < 19245) ∧ Q (sI (sI (sI (sI (sI (sI M 2239 ((((mI M 2230 17) + 10) + (3 * (mI M 2239 ((mI M 2230 17) + 9).toNat))).toNat) a1) 2239 (((((mI M 2230 17) + 10) + (3 * (mI M 2239 ((mI M 2230 17) + 9).toNat))) + 1).toNat) (mI (sI M 2239 ((((mI M 2230 17) + 10) + (3 * (mI M 2239 ((mI M 2230 17) + 9).toNat))).toNat) a1) 2239 ((mI (sI M 2239 ((((mI M 2230 17) + 10) + (3 * (mI M 2239 ((mI M 2230 17) + 9).toNat))).toNat) a1) 2230 17) + 31).toNat)) 2239 (((((mI M 2230 17) + 10) + (3 * (mI M 2239 ((mI M 2230 17) + 9).toNat))) + 2).toNat) a3) 2239 (((mI (sI (sI (sI M 2239 ((((mI M 2230 17) + 10) + (3 * (mI M 2239 ((mI M 2230 17) + 9).toNat))).toNat) a1) 2239 (((((mI M 2230 17) + 10) + (3 * (mI M 2239 ((mI M 2230 17) + 9).toNat))) + 1).toNat) (mI (sI M 2239 ((((mI M 2230 17) + 10) + (3 * (mI M 2239 ((mI M 2230 17) + 9).toNat))).toNat) a1) 2239 ((mI (sI M 2239 ((((mI M 2230 17) + 10) + (3 * (mI M 2239 ((mI M 2230 17) + 9).toNat))).toNat) a1) 2230 17) + 31).toNat)) 2239 (((((mI M 2230 17) + 10) + (3 * (mI M 2239 ((mI M 2230 17) + 9).toNat))) + 2).toNat) a3) 2230 17) + 9).toNat) ((mI (sI (sI (sI M 2239 ((((mI M 2230 17) + 10) + (3 * (mI M 2239 ((mI M 2230 17) + 9).toNat))).toNat) a1) 2239 (((((mI M 2230 17) + 10) + (3 * (mI M 2239 ((mI M 2230 17) + 9).toNat))) + 1).toNat) (mI (sI M 2239 ((((mI M 2230 17) + 10) + (3 * (mI M 2239 ((mI M 2230 17) + 9).toNat))).toNat) a1) 2239 ((mI (sI M 2239 ((((mI M 2230 17) + 10) + (3 * (mI M 2239 ((mI M 2230 17) + 9).toNat))).toNat) a1) 2230 17) + 31).toNat)) 2239 (((((mI M 2230 17) + 10) + (3 * (mI M 2239 ((mI M 2230 17) + 9).toNat))) + 2).toNat) a3) 2239 ((mI (sI (sI (sI M 2239 ((((mI M 2230 17) + 10) + (3 * (mI M 2239 ((mI M 2230 17) + 9).toNat))).toNat) a1) 2239 (((((mI M 2230 17) + 10) + (3 * (mI M 2239 ((mI M 2230 17) + 9).toNat))) + 1).toNat) (mI (sI M 2239 ((((mI M 2230 17) + 10) + (3 * (mI M 2239 ((mI M 2230 17) + 9).toNat))).toNat) a1) 2239 ((mI (sI M 2239 ((((mI M 2230 17) + 10) + (3 * (mI M 2239 ((mI M 2230 17) + 9).toNat))).toNat) a1) 2230 17) + 31).toNat)) 2239 (((((mI M 2230 17) + 10) + (3 * (mI M 2239 ((mI M 2230 17) + 9).toNat))) + 2).toNat) a3) 2230 17) + 9).toNat) + 1)) 2239 (((mI (sI (sI (sI (sI M 2239 ((((mI M 2230 17) + 10) + (3 * (mI M 2239 ((mI M 2230 17) + 9).toNat))).toNat) a1) 2239 (((((mI M 2230 17) + 10) + (3 * (mI M 2239 ((mI M 2230 17) + 9).toNat))) + 1).toNat) (mI (sI M 2239 ((((mI M 2230 17) + 10) + (3 * (mI M 2239 ((mI M 2230 17) + 9).toNat))).toNat) a1) 2239 ((mI (sI M 2239 ((((mI M 2230 17) + 10) + (3 * (mI M 2239 ((mI M 2230 17) + 9).toNat))).toNat) a1) 2230 17) + 31).toNat)) 2239 (((((mI M 2230 17) + 10) + (3 * (mI M 2239 ((mI M 2230 17) + 9).toNat))) + 2).toNat) a3) 2239 (((mI (sI (sI (sI M 2239 ((((mI M 2230 17) + 10) + (3 * (mI M 2239 ((mI M 2230 17) + 9).toNat))).toNat) a1) 2239 (((((mI M 2230 17) + 10) + (3 * (mI M 2239 ((mI M 2230 17) + 9).toNat))) + 1).toNat) (mI (sI M 2239 ((((mI M 2230 17) + 10) + (3 * (mI M 2239 ((mI M 2230 17) + 9).toNat))).toNat) a1) 2239 ((mI (sI M 2239 ((((mI M 2230 17) + 10) + (3 * (mI M 2239 ((mI M 2230 17) + 9).toNat))).toNat) a1) 2230 17) + 31).toNat)) 2239 (((((mI M 2230 17) + 10) + (3 * (mI M 2239 ((mI M 2230 17) + 9).toNat))) + 2).toNat) a3) 2230 17) + 9).toNat) ((mI (sI (sI (sI M 2239 ((((mI M 2230 17) + 10) + (3 * (mI M 2239 ((mI M 2230 17) + 9).toNat))).toNat) a1) 2239 (((((mI M 2230 17) + 10) + (3 * (mI M 2239 ((mI M 2230 17) + 9).toNat))) + 1).toNat) (mI (sI M 2239 ((((mI M 2230 17) + 10) + (3 * (mI M 2239 ((mI M 2230 17) + 9).toNat))).toNat) a1) 2239 ((mI (sI M 2239 ((((mI M 2230 17) + 10) + (3 * (mI M 2239 ((mI M 2230 17) + 9).toNat))).toNat) a1) 2230 17) + 31).toNat)) 2239 (((((mI M 2230 17) + 10) + (3 * (mI M 2239 ((mI M 2230 17) + 9).toNat))) + 2).toNat) a3) 2239 ((mI (sI (sI (sI M 2239 ((((mI M 2230 17) + 10) + (3 * (mI M 2239 ((mI M 2230 17) + 9).toNat))).toNat) a1) 2239 (((((mI M 2230 17) + 10) + (3 * (mI M 2239 ((mI M 2230 17) + 9).toNat))) + 1).toNat) (mI (sI M 2239 ((((mI M 2230 17) + 10) + (3 * (mI M 2239 ((mI M 2230 17) + 9).toNat))).toNat) a1) 2239 ((mI (sI M 2239 ((((mI M 2230 17) + 10) + (3 * (mI M 2239 ((mI M 2230 17) + 9).toNat))).toNat) a1) 2230 17) + 31).toNat)) 2239 (((((mI M 2230 17) + 10) + (3 * (mI M 2239 ((mI M 2230 17) + 9).toNat))) + 2).toNat) a3) 2230 17) + 9).toNat) + 1)) 2230 17) + 31).toNat) (mI (sI (sI (sI (sI M 2239 ((((mI M 2230 17) + 10) + (3 * (mI M 2239 ((mI M 2230 17) + 9).toNat))).toNat) a1) 2239 (((((mI M 2230 17) + 10) + (3 * (mI M 2239 ((mI M 2230 17) + 9).toNat))) + 1).toNat) (mI (sI M 2239 ((((mI M 2230 17) + 10) + (3 * (mI M 2239 ((mI M 2230 17) + 9).toNat))).toNat) a1) 2239 ((mI (sI M 2239 ((((mI M 2230 17) + 10) + (3 * (mI M 2239 ((mI M 2230 17) + 9).toNat))).toNat) a1) 2230 17) + 31).toNat)) 2239 (((((mI M 2230 17) + 10) + (3 * (mI M 2239 ((mI M 2230 17) + 9).toNat))) + 2).toNat) a3) 2239 (((mI (sI (sI (sI M 2239 ((((mI M 2230 17) + 10) + (3 * (mI M 2239 ((mI M 2230 17) + 9).toNat))).toNat) a1) 2239 (((((mI M 2230 17) + 10) + (3 * (mI M 2239 ((mI M 2230 17) + 9).toNat))) + 1).toNat) (mI (sI M 2239 ((((mI M 2230 17) + 10) + (3 * (mI M 2239 ((mI M 2230 17) + 9).toNat))).toNat) a1) 2239 ((mI (sI M 2239 ((((mI M 2230 17) + 10) + (3 * (mI M 2239 ((mI M 2230 17) + 9).toNat))).toNat) a1) 2230 17) + 31).toNat)) 2239 (((((mI M 2230 17) + 10) + (3 * (mI M 2239 ((mI M 2230 17) + 9).toNat))) + 2).toNat) a3) 2230 17) + 9).toNat) ((mI (sI (sI (sI M 2239 ((((mI M 2230 17) + 10) + (3 * (mI M 2239 ((mI M 2230 17) + 9).toNat))).toNat) a1) 2239 (((((mI M 2230 17) + 10) + (3 * (mI M 2239 ((mI M 2230 17) + 9).toNat))) + 1).toNat) (mI (sI M 2239 ((((mI M 2230 17) + 10) + (3 * (mI M 2239 ((mI M 2230 17) + 9).toNat))).toNat) a1) 2239 ((mI (sI M 2239 ((((mI M 2230 17) + 10) + (3 * (mI M 2239 ((mI M 2230 17) + 9).toNat))).toNat) a1) 2230 17) + 31).toNat)) 2239 (((((mI M 2230 17) + 10) + (3 * (mI M 2239 ((mI M 2230 17) + 9).toNat))) + 2).toNat) a3) 2239 ((mI (sI (sI (sI M 2239 ((((mI M 2230 17) + 10) + (3 * (mI M 2239 ((mI M 2230 17) + 9).toNat))).toNat) a1) 2239 (((((mI M 2230 17) + 10) + (3 * (mI M 2239 ((mI M 2230 17) + 9).toNat))) + 1).toNat) (mI (sI M 2239 ((((mI M 2230 17) + 10) + (3 * (mI M 2239 ((mI M 2230 17) + 9).toNat))).toNat) a1) 2239 ((mI (sI M 2239 ((((mI M 2230 17) + 10) + (3 * (mI M 2239 ((mI M 2230 17) + 9).toNat))).toNat) a1) 2230 17) + 31).toNat)) 2239 (((((mI M 2230 17) + 10) + (3 * (mI M 2239 ((mI M 2230 17) + 9).toNat))) + 2).toNat) a3) 2230 17) + 9).toNat) + 1)) 2239 ((mI (sI (sI (sI (sI M 2239 ((((mI M 2230 17) + 10) + (3 * (mI M 2239 ((mI M 2230 17) + 9).toNat))).toNat) a1) 2239 (((((mI M 2230 17) + 10) + (3 * (mI M 2239 ((mI M 2230 17) + 9).toNat))) + 1).toNat) (mI (sI M 2239 ((((mI M 2230 17) + 10) + (3 * (mI M 2239 ((mI M 2230 17) + 9).toNat))).toNat) a1) 2239 ((mI (sI M 2239 ((((mI M 2230 17) + 10) + (3 * (mI M 2239 ((mI M 2230 17) + 9).toNat))).toNat) a1) 2230 17) + 31).toNat)) 2239 (((((mI M 2230 17) + 10) + (3 * (mI M 2239 ((mI M 2230 17) + 9).toNat))) + 2).toNat) a3) 2239 (((mI (sI (sI (sI M 2239 ((((mI M 2230 17) + 10) + (3 * (mI M 2239 ((mI M 2230 17) + 9).toNat))).toNat) a1) 2239 (((((mI M 2230 17) + 10) + (3 * (mI M 2239 ((mI M 2230 17) + 9).toNat))) + 1).toNat) (mI (sI M 2239 ((((mI M 2230 17) + 10) + (3 * (mI M 2239 ((mI M 2230 17) + 9).toNat))).toNat) a1) 2239 ((mI (sI M 2239 ((((mI M 2230 17) + 10) + (3 * (mI M 2239 ((mI M 2230 17) + 9).toNat))).toNat) a1) 2230 17) + 31).toNat)) 2239 (((((mI M 2230 17) + 10) + (3 * (mI M 2239 ((mI M 2230 17) + 9).toNat))) + 2).toNat) a3) 2230 17) + 9).toNat) ((mI (sI (sI (sI M 2239 ((((mI M 2230 17) + 10) + (3 * (mI M 2239 ((mI M 2230 17) + 9).toNat))).toNat) a1) 2239 (((((mI M 2230 17) + 10) + (3 * (mI M 2239 ((mI M 2230 17) + 9).toNat))) + 1).toNat) (mI (sI M 2239 ((((mI M 2230 17) + 10) + (3 * (mI M 2239 ((mI M 2230 17) + 9).toNat))).toNat) a1) 2239 ((mI (sI M 2239 ((((mI M 2230 17) + 10) + (3 * (mI M 2239 ((mI M 2230 17) + 9).toNat))).toNat) a1) 2230 17) + 31).toNat)) 2239 (((((mI M 2230 17) + 10) + (3 * (mI M 2239 ((mI M 2230 17) + 9).toNat))) + 2).toNat) a3) 2239 ((mI (sI (sI (sI M 2239 ((((mI M 2230 17) + 10) + (3 * (mI M 2239 ((mI M 2230 17) + 9).toNat))).toNat) a1) 2239 (((((mI M 2230 17) + 10) + (3 * (mI M 2239 ((mI M 2230 17) + 9).toNat))) + 1).toNat) (mI (sI M 2239 ((((mI M 2230 17) + 10) + (3 * (mI M 2239 ((mI M 2230 17) + 9).toNat))).toNat) a1) 2239 ((mI (sI M 2239 ((((mI M 2230 17) + 10) + (3 * (mI M 2239 ((mI M 2230 17) + 9).toNat))).toNat) a1) 2230 17) + 31).toNat)) 2239 (((((mI M 2230 17) + 10) + (3 * (mI M 2239 ((mI M 2230 17) + 9).toNat))) + 2).toNat) a3) 2230 17) + 9).toNat) + 1)) 2230 17) + 32).toNat)) 2239 (((mI (sI (sI (sI (sI (sI M 2239 ((((mI M 2230 17) + 10) + (3 * (mI M 2239 ((mI M 2230 17) + 9).toNat))).toNat) a1) 2239 (((((mI M 2230 17) + 10) + (3 * (mI M 2239 ((mI M 2230 17) + 9).toNat))) + 1).toNat) (mI (sI M 2239 ((((mI M 2230 17) + 10) + (3 * (mI M 2239 ((mI M 2230 17) + 9).toNat))).toNat) a1) 2239 ((mI (sI M 2239 ((((mI M 2230 17) + 10) + (3 * (mI M 2239 ((mI M 2230 17) + 9).toNat))).toNat) a1) 2230 17) + 31).toNat)) 2239 (((((mI M 2230 17) + 10) + (3 * (mI M 2239 ((mI M 2230 17) + 9).toNat))) + 2).toNat) a3) 2239 (((mI (sI (sI (sI M 2239 ((((mI M 2230 17) + 10) + (3 * (mI M 2239 ((mI M 2230 17) + 9).toNat))).toNat) a1) 2239 (((((mI M 2230 17) + 10) + (3 * (mI M 2239 ((mI M 2230 17) + 9).toNat))) + 1).toNat) (mI (sI M 2239 ((((mI M 2230 17) + 10) + (3 * (mI M 2239 ((mI M 2230 17) + 9).toNat))).toNat) a1) 2239 ((mI (sI M 2239 ((((mI M 2230 17) + 10) + (3 * (mI M 2239 ((mI M 2230 17) + 9).toNat))).toNat) a1) 2230 17) + 31).toNat)) 2239 (((((mI M 2230 17) + 10) + (3 * (mI M 2239 ((mI M 2230 17) + 9).toNat))) + 2).toNat) a3) 2230 17) + 9).toNat) ((mI (sI (sI (sI M 2239 ((((mI M 2230 17) + 10) + (3 * (mI M 2239 ((mI M 2230 17) + 9).toNat))).toNat) a1) 2239 (((((mI M 2230 17) + 10) + (3 * (mI M 2239 ((mI M 2230 17) + 9).toNat))) + 1).toNat) (mI (sI M 2239 ((((mI M 2230 17) + 10) + (3 * (mI M 2239 ((mI M 2230 17) + 9).toNat))).toNat) a1) 2239 ((mI (sI M 2239 ((((mI M 2230 17) + 10) + (3 * (mI M 2239 ((mI M 2230 17) + 9).toNat))).toNat) a1) 2230 17) + 31).toNat)) 2239 (((((mI M 2230 17) + 10) + (3 * (mI M 2239 ((mI M 2230 17) + 9).toNat))) + 2).toNat) a3) 2239 ((mI (sI (sI (sI M 2239 ((((mI M 2230 17) + 10) + (3 * (mI M 2239 ((mI M 2230 17) + 9).toNat))).toNat) a1) 2239 (((((mI M 2230 17) + 10) + (3 * (mI M 2239 ((mI M 2230 17) + 9).toNat))) + 1).toNat) (mI (sI M 2239 ((((mI M 2230 17) + 10) + (3 * (mI M 2239 ((mI M 2230 17) + 9).toNat))).toNat) a1) 2239 ((mI (sI M 2239 ((((mI M 2230 17) + 10) + (3 * (mI M 2239 ((mI M 2230 17) + 9).toNat))).toNat) a1) 2230 17) + 31).toNat)) 2239 (((((mI M 2230 17) + 10) + (3 * (mI M 2239 ((mI M 2230 17) + 9).toNat))) + 2).toNat) a3) 2230 17) + 9).toNat) + 1)) 2239 (((mI (sI (sI (sI (sI M 2239 ((((mI M 2230 17) + 10) + (3 * (mI M 2239 ((mI M 2230 17) + 9).toNat))).toNat) a1) 2239 (((((mI M 2230 17) + 10) + (3 * (mI M 2239 ((mI M 2230 17) + 9).toNat))) + 1).toNat) (mI (sI M 2239 ((((mI M 2230 17) + 10) + (3 * (mI M 2239 ((mI M 2230 17) + 9).toNat))).toNat) a1) 2239 ((mI (sI M 2239 ((((mI M 2230 17) + 10) + (3 * (mI M 2239 ((mI M 2230 17) + 9).toNat))).toNat) a1) 2230 17) + 31).toNat)) 2239 (((((mI M 2230 17) + 10) + (3 * (mI M 2239 ((mI M 2230 17) + 9).toNat))) + 2).toNat) a3) 2239 (((mI (sI (sI (sI M 2239 ((((mI M 2230 17) + 10) + (3 * (mI M 2239 ((mI M 2230 17) + 9).toNat))).toNat) a1) 2239 (((((mI M 2230 17) + 10) + (3 * (mI M 2239 ((mI M 2230 17) + 9).toNat))) + 1).toNat) (mI (sI M 2239 ((((mI M 2230 17) + 10) + (3 * (mI M 2239 ((mI M 2230 17) + 9).toNat))).toNat) a1) 2239 ((mI (sI M 2239 ((((mI M 2230 17) + 10) + (3 * (mI M 2239 ((mI M 2230 17) + 9).toNat))).toNat) a1) 2230 17) + 31).toNat)) 2239 (((((mI M 2230 17) + 10) + (3 * (mI M 2239 ((mI M 2230 17) + 9).toNat))) + 2).toNat) a3) 2230 17) + 9).toNat) ((mI (sI (sI (sI M 2239 ((((mI M 2230 17) + 10) + (3 * (mI M 2239 ((mI M 2230 17) + 9).toNat))).toNat) a1) 2239 (((((mI M 2230 17) + 10) + (3 * (mI M 2239 ((mI M 2230 17) + 9).toNat))) + 1).toNat) (mI (sI M 2239 ((((mI M 2230 17) + 10) + (3 * (mI M 2239 ((mI M 2230 17) + 9).toNat))).toNat) a1) 2239 ((mI (sI M 2239 ((((mI M 2230 17) + 10) + (3 * (mI M 2239 ((mI M 2230 17) + 9).toNat))).toNat) a1) 2230 17) + 31).toNat)) 2239 (((((mI M 2230 17) + 10) + (3 * (mI M 2239 ((mI M 2230 17) + 9).toNat))) + 2).toNat) a3) 2239 ((mI (sI (sI (sI M 2239 ((((mI M 2230 17) + 10) + (3 * (mI M 2239 ((mI M 2230 17) + 9).toNat))).toNat) a1) 2239 (((((mI M 2230 17) + 10) + (3 * (mI M 2239 ((mI M 2230 17) + 9).toNat))) + 1).toNat) (mI (sI M 2239 ((((mI M 2230 17) + 10) + (3 * (mI M 2239 ((mI M 2230 17) + 9).toNat))).toNat) a1) 2239 ((mI (sI M 2239 ((((mI M 2230 17) + 10) + (3 * (mI M 2239 ((mI M 2230 17) + 9).toNat))).toNat) a1) 2230 17) + 31).toNat)) 2239 (((((mI M 2230 17) + 10) + (3 * (mI M 2239 ((mI M 2230 17) + 9).toNat))) + 2).toNat) a3) 2230 17) + 9).toNat) + 1)) 2230 17) + 31).toNat) (mI (sI (sI (sI (sI M 2239 ((((mI M 2230 17) + 10) + (3 * (mI M 2239 ((mI M 2230 17) + 9).toNat))).toNat) a1) 2239 (((((mI M 2230 17) + 10) + (3 * (mI M 2239 ((mI M 2230 17) + 9).toNat))) + 1).toNat) (mI (sI M 2239 ((((mI M 2230 17) + 10) + (3 * (mI M 2239 ((mI M 2230 17) + 9).toNat))).toNat) a1) 2239 ((mI (sI M 2239 ((((mI M 2230 17) + 10) + (3 * (mI M 2239 ((mI M 2230 17) + 9).toNat))).toNat) a1) 2230 17) + 31).toNat)) 2239 (((((mI M 2230 17) + 10) + (3 * (mI M 2239 ((mI M 2230 17) + 9).toNat))) + 2).toNat) a3) 2239 (((mI (sI (sI (sI M 2239 ((((mI M 2230 17) + 10) + (3 * (mI M 2239 ((mI M 2230 17) + 9).toNat))).toNat) a1) 2239 (((((mI M 2230 17) + 10) + (3 * (mI M 2239 ((mI M 2230 17) + 9).toNat))) + 1).toNat) (mI (sI M 2239 ((((mI M 2230 17) + 10) + (3 * (mI M 2239 ((mI M 2230 17) + 9).toNat))).toNat) a1) 2239 ((mI (sI M 2239 ((((mI M 2230 17) + 10) + (3 * (mI M 2239 ((mI M 2230 17) + 9).toNat))).toNat) a1) 2230 17) + 31).toNat)) 2239 (((((mI M 2230 17) + 10) + (3 * (mI M 2239 ((mI M 2230 17) + 9).toNat))) + 2).toNat) a3) 2230 17) + 9).toNat) ((mI (sI (sI (sI M 2239 ((((mI M 2230 17) + 10) + (3 * (mI M 2239 ((mI M 2230 17) + 9).toNat))).toNat) a1) 2239 (((((mI M 2230 17) + 10) + (3 * (mI M 2239 ((mI M 2230 17) + 9).toNat))) + 1).toNat) (mI (sI M 2239 ((((mI M 2230 17) + 10) + (3 * (mI M 2239 ((mI M 2230 17) + 9).toNat))).toNat) a1) 2239 ((mI (sI M 2239 ((((mI M 2230 17) + 10) + (3 * (mI M 2239 ((mI M 2230 17) + 9).toNat))).toNat) a1) 2230 17) + 31).toNat)) 2239 (((((mI M 2230 17) + 10) + (3 * (mI M 2239 ((mI M 2230 17) + 9).toNat))) + 2).toNat) a3) 2239 ((mI (sI (sI (sI M 2239 ((((mI M 2230 17) + 10) + (3 * (mI M 2239 ((mI M 2230 17) + 9).toNat))).toNat) a1) 2239 (((((mI M 2230 17) + 10) + (3 * (mI M 2239 ((mI M 2230 17) + 9).toNat))) + 1).toNat) (mI (sI M 2239 ((((mI M 2230 17) + 10) + (3 * (mI M 2239 ((mI M 2230 17) + 9).toNat))).toNat) a1) 2239 ((mI (sI M 2239 ((((mI M 2230 17) + 10) + (3 * (mI M 2239 ((mI M 2230 17) + 9).toNat))).toNat) a1) 2230 17) + 31).toNat)) 2239 (((((mI M 2230 17) + 10) + (3 * (mI M 2239 ((mI M 2230 17) + 9).toNat))) + 2).toNat) a3) 2230 17) + 9).toNat) + 1)) 2239 ((mI (sI (sI (sI (sI M 2239 ((((mI M 2230 17) + 10) + (3 * (mI M 2239 ((mI M 2230 17) + 9).toNat))).toNat) a1) 2239 (((((mI M 2230 17) + 10) + (3 * (mI M 2239 ((mI M 2230 17) + 9).toNat))) + 1).toNat) (mI (sI M 2239 ((((mI M 2230 17) + 10) + (3 * (mI M 2239 ((mI M 2230 17) + 9).toNat))).toNat) a1) 2239 ((mI (sI M 2239 ((((mI M 2230 17) + 10) + (3 * (mI M 2239 ((mI M 2230 17) + 9).toNat))).toNat) a1) 2230 17) + 31).toNat)) 2239 (((((mI M 2230 17) + 10) + (3 * (mI M 2239 ((mI M 2230 17) + 9).toNat))) + 2).toNat) a3) 2239 (((mI (sI (sI (sI M 2239 ((((mI M 2230 17) + 10) + (3 * (mI M 2239 ((mI M 2230 17) + 9).toNat))).toNat) a1) 2239 (((((mI M 2230 17) + 10) + (3 * (mI M 2239 ((mI M 2230 17) + 9).toNat))) + 1).toNat) (mI (sI M 2239 ((((mI M 2230 17) + 10) + (3 * (mI M 2239 ((mI M 2230 17) + 9).toNat))).toNat) a1) 2239 ((mI (sI M 2239 ((((mI M 2230 17) + 10) + (3 * (mI M 2239 ((mI M 2230 17) + 9).toNat))).toNat) a1) 2230 17) + 31).toNat)) 2239 (((((mI M 2230 17) + 10) + (3 * (mI M 2239 ((mI M 2230 17) + 9).toNat))) + 2).toNat) a3) 2230 17) + 9).toNat) ((mI (sI (sI (sI M 2239 ((((mI M 2230 17) + 10) + (3 * (mI M 2239 ((mI M 2230 17) + 9).toNat))).toNat) a1) 2239 (((((mI M 2230 17) + 10) + (3 * (mI M 2239 ((mI M 2230 17) + 9).toNat))) + 1).toNat) (mI (sI M 2239 ((((mI M 2230 17) + 10) + (3 * (mI M 2239 ((mI M 2230 17) + 9).toNat))).toNat) a1) 2239 ((mI (sI M 2239 ((((mI M 2230 17) + 10) + (3 * (mI M 2239 ((mI M 2230 17) + 9).toNat))).toNat) a1) 2230 17) + 31).toNat)) 2239 (((((mI M 2230 17) + 10) + (3 * (mI M 2239 ((mI M 2230 17) + 9).toNat))) + 2).toNat) a3) 2239 ((mI (sI (sI (sI M 2239 ((((mI M 2230 17) + 10) + (3 * (mI M 2239 ((mI M 2230 17) + 9).toNat))).toNat) a1) 2239 (((((mI M 2230 17) + 10) + (3 * (mI M 2239 ((mI M 2230 17) + 9).toNat))) + 1).toNat) (mI (sI M 2239 ((((mI M 2230 17) + 10) + (3 * (mI M 2239 ((mI M 2230 17) + 9).toNat))).toNat) a1) 2239 ((mI (sI M 2239 ((((mI M 2230 17) + 10) + (3 * (mI M 2239 ((mI M 2230 17) + 9).toNat))).toNat) a1) 2230 17) + 31).toNat)) 2239 (((((mI M 2230 17) + 10) + (3 * (mI M 2239 ((mI M 2230 17) + 9).toNat))) + 2).toNat) a3) 2230 17) + 9).toNat) + 1)) 2230 17) + 32).toNat)) 2230 17) + 8).toNat) a2)) : Cv d q10_enters [zr 2230, zi a1, zi a2, zi a3] M Q := by
  refine Cv.of rfl rfl (Nat.le_of_ble_eq_true rfl) (fun w hw x e => by subst e; simp at hw) (L := [some (zr 2230), some (zi a1), some (zi a2), some (zi a3), none]) rfl ?_
  refine Xv.up (pc' := 1) (fun _ _ k => x_aload_n dX10_enters_0 rfl rfl k) ?_
  refine Xv.up (pc' := 4) (fun _ _ k => x_getIK hK lf10_160 rfl dX10_enters_1 h0.1 k) ?_
  refine Xv.up (pc' := 6) (fun _ _ k => x_bipush dX10_enters_4 (show inR 10 from ⟨by decide, by decide⟩) (by decide) k) ?_
  obtain ⟨g1, h⟩ := h
  refine Xv.up (pc' := 7) (fun _ _ k => x_iadd dX10_enters_6 g1 k) ?_
  refine Xv.up (pc' := 8) (fun _ _ k => x_iconst dX10_enters_7 (show inR 3 from ⟨by decide, by decide⟩) k) ?_
  refine Xv.up (pc' := 9) (fun _ _ k => x_aload_n dX10_enters_8 rfl rfl k) ?_
  refine Xv.up (pc' := 12) (fun _ _ k => x_getRK hK lf10_35 rfl dX10_enters_9 h0.1 h0.2.2.2.2.2.2.2.2.2.1 k) ?_
  refine Xv.up (pc' := 13) (fun _ _ k => x_aload_n dX10_enters_12 rfl rfl k) ?_
  refine Xv.up (pc' := 16) (fun _ _ k => x_getIK hK lf10_160 rfl dX10_enters_13 h0.1 k) ?_
  refine Xv.up (pc' := 18) (fun _ _ k => x_bipush dX10_enters_16 (show inR 9 from ⟨by decide, by decide⟩) (by decide) k) ?_
  obtain ⟨g2, h⟩ := h
  refine Xv.up (pc' := 19) (fun _ _ k => x_iadd dX10_enters_18 g2 k) ?_
  obtain ⟨g3, h⟩ := h
  obtain ⟨g4, h⟩ := h
  refine Xv.up (pc' := 20) (fun _ _ k => x_ialoadK hK dX10_enters_19 h0.2.2.2.2.2.2.2.2.2.2.2.2.2.2.2.2.2.2.2.1 g3 g4 k) ?_
  obtain ⟨g5, h⟩ := h
  refine Xv.up (pc' := 21) (fun _ _ k => x_imul dX10_enters_20 g5 k) ?_
  obtain ⟨g6, h⟩ := h
  refine Xv.up (pc' := 22) (fun _ _ k => x_iadd dX10_enters_21 g6 k) ?_
  refine Xv.up (pc' := 24) (L' := [some (zr 2230), some (zi a1), some (zi a2), some (zi a3), some (zi (((mI M 2230 17) + 10) + (3 * (mI M 2239 ((mI M 2230 17) + 9).toNat))))]) (fun _ _ k => x_istore dX10_enters_22 (by decide) rfl k) ?_
  refine Xv.up (pc' := 25) (fun _ _ k => x_aload_n dX10_enters_24 rfl rfl k) ?_
  refine Xv.up (pc' := 28) (fun _ _ k => x_getRK hK lf10_35 rfl dX10_enters_25 h0.1 h0.2.2.2.2.2.2.2.2.2.1 k) ?_
  refine Xv.up (pc' := 30) (fun _ _ k => x_iload dX10_enters_28 rfl k) ?_
  refine Xv.up (pc' := 31) (fun _ _ k => x_iload_n dX10_enters_30 rfl rfl k) ?_
  obtain ⟨g7, h⟩ := h
  obtain ⟨g8, h⟩ := h
  refine Xv.up (pc' := 32) (fun _ _ k => x_iastoreK hK dX10_enters_31 h0.2.2.2.2.2.2.2.2.2.2.2.2.2.2.2.2.2.2.2.1 g7 g8 k) ?_
  have hK9 := KW.sI hK 2239 ((((mI M 2230 17) + 10) + (3 * (mI M 2239 ((mI M 2230 17) + 9).toNat))).toNat) a1
  refine Xv.up (pc' := 33) (fun _ _ k => x_aload_n dX10_enters_32 rfl rfl k) ?_
  refine Xv.up (pc' := 36) (fun _ _ k => x_getRK hK9 lf10_35 rfl dX10_enters_33 h0.1 h0.2.2.2.2.2.2.2.2.2.1 k) ?_
  refine Xv.up (pc' := 38) (fun _ _ k => x_iload dX10_enters_36 rfl k) ?_
  refine Xv.up (pc' := 39) (fun _ _ k => x_iconst dX10_enters_38 (show inR 1 from ⟨by decide, by decide⟩) k) ?_
  obtain ⟨g10, h⟩ := h
  refine Xv.up (pc' := 40) (fun _ _ k => x_iadd dX10_enters_39 g10 k) ?_
  refine Xv.up (pc' := 41) (fun _ _ k => x_aload_n dX10_enters_40 rfl rfl k) ?_
  refine Xv.up (pc' := 44) (fun _ _ k => x_getRK hK9 lf10_35 rfl dX10_enters_41 h0.1 h0.2.2.2.2.2.2.2.2.2.1 k) ?_
  refine Xv.up (pc' := 45) (fun _ _ k => x_aload_n dX10_enters_44 rfl rfl k) ?_
  refine Xv.up (pc' := 48) (fun _ _ k => x_getIK hK9 lf10_160 rfl dX10_enters_45 h0.1 k) ?_
  refine Xv.up (pc' := 50) (fun _ _ k => x_bipush dX10_enters_48 (show inR 31 from ⟨by decide, by decide⟩) (by decide) k) ?_
  obtain ⟨g11, h⟩ := h
  refine Xv.up (pc' := 51) (fun _ _ k => x_iadd dX10_enters_50 g11 k) ?_
  obtain ⟨g12, h⟩ := h
  obtain ⟨g13, h⟩ := h
  refine Xv.up (pc' := 52) (fun _ _ k => x_ialoadK hK9 dX10_enters_51 h0.2.2.2.2.2.2.2.2.2.2.2.2.2.2.2.2.2.2.2.1 g12 g13 k) ?_
  obtain ⟨g14, h⟩ := h
  obtain ⟨g15, h⟩ := h
  refine Xv.up (pc' := 53) (fun _ _ k => x_iastoreK hK9 dX10_enters_52 h0.2.2.2.2.2.2.2.2.2.2.2.2.2.2.2.2.2.2.2.1 g14 g15 k) ?_
  have hK16 := KW.sI hK9 2239 (((((mI M 2230 17) + 10) + (3 * (mI M 2239 ((mI M 2230 17) + 9).toNat))) + 1).toNat) (mI (sI M 2239 ((((mI M 2230 17) + 10) + (3 * (mI M 2239 ((mI M 2230 17) + 9).toNat))).toNat) a1) 2239 ((mI (sI M 2239 ((((mI M 2230 17) + 10) + (3 * (mI M 2239 ((mI M 2230 17) + 9).toNat))).toNat) a1) 2230 17) + 31).toNat)
  refine Xv.up (pc' := 54) (fun _ _ k => x_aload_n dX10_enters_53 rfl rfl k) ?_
  refine Xv.up (pc' := 57) (fun _ _ k => x_getRK hK16 lf10_35 rfl dX10_enters_54 h0.1 h0.2.2.2.2.2.2.2.2.2.1 k) ?_
  refine Xv.up (pc' := 59) (fun _ _ k => x_iload dX10_enters_57 rfl k) ?_
  refine Xv.up (pc' := 60) (fun _ _ k => x_iconst dX10_enters_59 (show inR 2 from ⟨by decide, by decide⟩) k) ?_
  obtain ⟨g17, h⟩ := h
  refine Xv.up (pc' := 61) (fun _ _ k => x_iadd dX10_enters_60 g17 k) ?_
  refine Xv.up (pc' := 62) (fun _ _ k => x_iload_n dX10_enters_61 rfl rfl k) ?_
  obtain ⟨g18, h⟩ := h
  obtain ⟨g19, h⟩ := h
  refine Xv.up (pc' := 63) (fun _ _ k => x_iastoreK hK16 dX10_enters_62 h0.2.2.2.2.2.2.2.2.2.2.2.2.2.2.2.2.2.2.2.1 g18 g19 k) ?_
  have hK20 := KW.sI hK16 2239 (((((mI M 2230 17) + 10) + (3 * (mI M 2239 ((mI M 2230 17) + 9).toNat))) + 2).toNat) a3
  refine Xv.up (pc' := 64) (fun _ _ k => x_aload_n dX10_enters_63 rfl rfl k) ?_
  refine Xv.up (pc' := 67) (fun _ _ k => x_getRK hK20 lf10_35 rfl dX10_enters_64 h0.1 h0.2.2.2.2.2.2.2.2.2.1 k) ?_
  refine Xv.up (pc' := 68) (fun _ _ k => x_aload_n dX10_enters_67 rfl rfl k) ?_
  refine Xv.up (pc' := 71) (fun _ _ k => x_getIK hK20 lf10_160 rfl dX10_enters_68 h0.1 k) ?_
  refine Xv.up (pc' := 73) (fun _ _ k => x_bipush dX10_enters_71 (show inR 9 from ⟨by decide, by decide⟩) (by decide) k) ?_
  obtain ⟨g21, h⟩ := h
  refine Xv.up (pc' := 74) (fun _ _ k => x_iadd dX10_enters_73 g21 k) ?_
  refine Xv.up (pc' := 75) (fun _ _ k => x_dup2 dX10_enters_74 k) ?_
  obtain ⟨g22, h⟩ := h
  obtain ⟨g23, h⟩ := h
  refine Xv.up (pc' := 76) (fun _ _ k => x_ialoadK hK20 dX10_enters_75 h0.2.2.2.2.2.2.2.2.2.2.2.2.2.2.2.2.2.2.2.1 g22 g23 k) ?_
  refine Xv.up (pc' := 77) (fun _ _ k => x_iconst dX10_enters_76 (show inR 1 from ⟨by decide, by decide⟩) k) ?_
  obtain ⟨g24, h⟩ := h
  refine Xv.up (pc' := 78) (fun _ _ k => x_iadd dX10_enters_77 g24 k) ?_
  obtain ⟨g25, h⟩ := h
  obtain ⟨g26, h⟩ := h
  refine Xv.up (pc' := 79) (fun _ _ k => x_iastoreK hK20 dX10_enters_78 h0.2.2.2.2.2.2.2.2.2.2.2.2.2.2.2.2.2.2.2.1 g25 g26 k) ?_
  have hK27 := KW.sI hK20 2239 (((mI (sI (sI (sI M 2239 ((((mI M 2230 17) + 10) + (3 * (mI M 2239 ((mI M 2230 17) + 9).toNat))).toNat) a1) 2239 (((((mI M 2230 17) + 10) + (3 * (mI M 2239 ((mI M 2230 17) + 9).toNat))) + 1).toNat) (mI (sI M 2239 ((((mI M 2230 17) + 10) + (3 * (mI M 2239 ((mI M 2230 17) + 9).toNat))).toNat) a1) 2239 ((mI (sI M 2239 ((((mI M 2230 17) + 10) + (3 * (mI M 2239 ((mI M 2230 17) + 9).toNat))).toNat) a1) 2230 17) + 31).toNat)) 2239 (((((mI M 2230 17) + 10) + (3 * (mI M 2239 ((mI M 2230 17) + 9).toNat))) + 2).toNat) a3) 2230 17) + 9).toNat) ((mI (sI (sI (sI M 2239 ((((mI M 2230 17) + 10) + (3 * (mI M 2239 ((mI M 2230 17) + 9).toNat))).toNat) a1) 2239 (((((mI M 2230 17) + 10) + (3 * (mI M 2239 ((mI M 2230 17) + 9).toNat))) + 1).toNat) (mI (sI M 2239 ((((mI M 2230 17) + 10) + (3 * (mI M 2239 ((mI M 2230 17) + 9).toNat))).toNat) a1) 2239 ((mI (sI M 2239 ((((mI M 2230 17) + 10) + (3 * (mI M 2239 ((mI M 2230 17) + 9).toNat))).toNat) a1) 2230 17) + 31).toNat)) 2239 (((((mI M 2230 17) + 10) + (3 * (mI M 2239 ((mI M 2230 17) + 9).toNat))) + 2).toNat) a3) 2239 ((mI (sI (sI (sI M 2239 ((((mI M 2230 17) + 10) + (3 * (mI M 2239 ((mI M 2230 17) + 9).toNat))).toNat) a1) 2239 (((((mI M 2230 17) + 10) + (3 * (mI M 2239 ((mI M 2230 17) + 9).toNat))) + 1).toNat) (mI (sI M 2239 ((((mI M 2230 17) + 10) + (3 * (mI M 2239 ((mI M 2230 17) + 9).toNat))).toNat) a1) 2239 ((mI (sI M 2239 ((((mI M 2230 17) + 10) + (3 * (mI M 2239 ((mI M 2230 17) + 9).toNat))).toNat) a1) 2230 17) + 31).toNat)) 2239 (((((mI M 2230 17) + 10) + (3 * (mI M 2239 ((mI M 2230 17) + 9).toNat))) + 2).toNat) a3) 2230 17) + 9).toNat) + 1)
  refine Xv.up (pc' := 80) (fun _ _ k => x_aload_n dX10_enters_79 rfl rfl k) ?_
  refine Xv.up (pc' := 83) (fun _ _ k => x_getRK hK27 lf10_35 rfl dX10_enters_80 h0.1 h0.2.2.2.2.2.2.2.2.2.1 k) ?_
  refine Xv.up (pc' := 84) (fun _ _ k => x_aload_n dX10_enters_83 rfl rfl k) ?_
  refine Xv.up (pc' := 87) (fun _ _ k => x_getIK hK27 lf10_160 rfl dX10_enters_84 h0.1 k) ?_
  refine Xv.up (pc' := 89) (fun _ _ k => x_bipush dX10_enters_87 (show inR 31 from ⟨by decide, by decide⟩) (by decide) k) ?_
  obtain ⟨g28, h⟩ := h
  refine Xv.up (pc' := 90) (fun _ _ k => x_iadd dX10_enters_89 g28 k) ?_
  refine Xv.up (pc' := 91) (fun _ _ k => x_aload_n dX10_enters_90 rfl rfl k) ?_
  refine Xv.up (pc' := 94) (fun _ _ k => x_getRK hK27 lf10_35 rfl dX10_enters_91 h0.1 h0.2.2.2.2.2.2.2.2.2.1 k) ?_
  refine Xv.up (pc' := 95) (fun _ _ k => x_aload_n dX10_enters_94 rfl rfl k) ?_
  refine Xv.up (pc' := 98) (fun _ _ k => x_getIK hK27 lf10_160 rfl dX10_enters_95 h0.1 k) ?_
  refine Xv.up (pc' := 100) (fun _ _ k => x_bipush dX10_enters_98 (show inR 32 from ⟨by decide, by decide⟩) (by decide) k) ?_
  obtain ⟨g29, h⟩ := h
  refine Xv.up (pc' := 101) (fun _ _ k => x_iadd dX10_enters_100 g29 k) ?_
  obtain ⟨g30, h⟩ := h
  obtain ⟨g31, h⟩ := h
  refine Xv.up (pc' := 102) (fun _ _ k => x_ialoadK hK27 dX10_enters_101 h0.2.2.2.2.2.2.2.2.2.2.2.2.2.2.2.2.2.2.2.1 g30 g31 k) ?_
  obtain ⟨g32, h⟩ := h
  obtain ⟨g33, h⟩ := h
  refine Xv.up (pc' := 103) (fun _ _ k => x_iastoreK hK27 dX10_enters_102 h0.2.2.2.2.2.2.2.2.2.2.2.2.2.2.2.2.2.2.2.1 g32 g33 k) ?_
  have hK34 := KW.sI hK27 2239 (((mI (sI (sI (sI (sI M 2239 ((((mI M 2230 17) + 10) + (3 * (mI M 2239 ((mI M 2230 17) + 9).toNat))).toNat) a1) 2239 (((((mI M 2230 17) + 10) + (3 * (mI M 2239 ((mI M 2230 17) + 9).toNat))) + 1).toNat) (mI (sI M 2239 ((((mI M 2230 17) + 10) + (3 * (mI M 2239 ((mI M 2230 17) + 9).toNat))).toNat) a1) 2239 ((mI (sI M 2239 ((((mI M 2230 17) + 10) + (3 * (mI M 2239 ((mI M 2230 17) + 9).toNat))).toNat) a1) 2230 17) + 31).toNat)) 2239 (((((mI M 2230 17) + 10) + (3 * (mI M 2239 ((mI M 2230 17) + 9).toNat))) + 2).toNat) a3) 2239 (((mI (sI (sI (sI M 2239 ((((mI M 2230 17) + 10) + (3 * (mI M 2239 ((mI M 2230 17) + 9).toNat))).toNat) a1) 2239 (((((mI M 2230 17) + 10) + (3 * (mI M 2239 ((mI M 2230 17) + 9).toNat))) + 1).toNat) (mI (sI M 2239 ((((mI M 2230 17) + 10) + (3 * (mI M 2239 ((mI M 2230 17) + 9).toNat))).toNat) a1) 2239 ((mI (sI M 2239 ((((mI M 2230 17) + 10) + (3 * (mI M 2239 ((mI M 2230 17) + 9).toNat))).toNat) a1) 2230 17) + 31).toNat)) 2239 (((((mI M 2230 17) + 10) + (3 * (mI M 2239 ((mI M 2230 17) + 9).toNat))) + 2).toNat) a3) 2230 17) + 9).toNat) ((mI (sI (sI (sI M 2239 ((((mI M 2230 17) + 10) + (3 * (mI M 2239 ((mI M 2230 17) + 9).toNat))).toNat) a1) 2239 (((((mI M 2230 17) + 10) + (3 * (mI M 2239 ((mI M 2230 17) + 9).toNat))) + 1).toNat) (mI (sI M 2239 ((((mI M 2230 17) + 10) + (3 * (mI M 2239 ((mI M 2230 17) + 9).toNat))).toNat) a1) 2239 ((mI (sI M 2239 ((((mI M 2230 17) + 10) + (3 * (mI M 2239 ((mI M 2230 17) + 9).toNat))).toNat) a1) 2230 17) + 31).toNat)) 2239 (((((mI M 2230 17) + 10) + (3 * (mI M 2239 ((mI M 2230 17) + 9).toNat))) + 2).toNat) a3) 2239 ((mI (sI (sI (sI M 2239 ((((mI M 2230 17) + 10) + (3 * (mI M 2239 ((mI M 2230 17) + 9).toNat))).toNat) a1) 2239 (((((mI M 2230 17) + 10) + (3 * (mI M 2239 ((mI M 2230 17) + 9).toNat))) + 1).toNat) (mI (sI M 2239 ((((mI M 2230 17) + 10) + (3 * (mI M 2239 ((mI M 2230 17) + 9).toNat))).toNat) a1) 2239 ((mI (sI M 2239 ((((mI M 2230 17) + 10) + (3 * (mI M 2239 ((mI M 2230 17) + 9).toNat))).toNat) a1) 2230 17) + 31).toNat)) 2239 (((((mI M 2230 17) + 10) + (3 * (mI M 2239 ((mI M 2230 17) + 9).toNat))) + 2).toNat) a3) 2230 17) + 9).toNat) + 1)) 2230 17) + 31).toNat) (mI (sI (sI (sI (sI M 2239 ((((mI M 2230 17) + 10) + (3 * (mI M 2239 ((mI M 2230 17) + 9).toNat))).toNat) a1) 2239 (((((mI M 2230 17) + 10) + (3 * (mI M 2239 ((mI M 2230 17) + 9).toNat))) + 1).toNat) (mI (sI M 2239 ((((mI M 2230 17) + 10) + (3 * (mI M 2239 ((mI M 2230 17) + 9).toNat))).toNat) a1) 2239 ((mI (sI M 2239 ((((mI M 2230 17) + 10) + (3 * (mI M 2239 ((mI M 2230 17) + 9).toNat))).toNat) a1) 2230 17) + 31).toNat)) 2239 (((((mI M 2230 17) + 10) + (3 * (mI M 2239 ((mI M 2230 17) + 9).toNat))) + 2).toNat) a3) 2239 (((mI (sI (sI (sI M 2239 ((((mI M 2230 17) + 10) + (3 * (mI M 2239 ((mI M 2230 17) + 9).toNat))).toNat) a1) 2239 (((((mI M 2230 17) + 10) + (3 * (mI M 2239 ((mI M 2230 17) + 9).toNat))) + 1).toNat) (mI (sI M 2239 ((((mI M 2230 17) + 10) + (3 * (mI M 2239 ((mI M 2230 17) + 9).toNat))).toNat) a1) 2239 ((mI (sI M 2239 ((((mI M 2230 17) + 10) + (3 * (mI M 2239 ((mI M 2230 17) + 9).toNat))).toNat) a1) 2230 17) + 31).toNat)) 2239 (((((mI M 2230 17) + 10) + (3 * (mI M 2239 ((mI M 2230 17) + 9).toNat))) + 2).toNat) a3) 2230 17) + 9).toNat) ((mI (sI (sI (sI M 2239 ((((mI M 2230 17) + 10) + (3 * (mI M 2239 ((mI M 2230 17) + 9).toNat))).toNat) a1) 2239 (((((mI M 2230 17) + 10) + (3 * (mI M 2239 ((mI M 2230 17) + 9).toNat))) + 1).toNat) (mI (sI M 2239 ((((mI M 2230 17) + 10) + (3 * (mI M 2239 ((mI M 2230 17) + 9).toNat))).toNat) a1) 2239 ((mI (sI M 2239 ((((mI M 2230 17) + 10) + (3 * (mI M 2239 ((mI M 2230 17) + 9).toNat))).toNat) a1) 2230 17) + 31).toNat)) 2239 (((((mI M 2230 17) + 10) + (3 * (mI M 2239 ((mI M 2230 17) + 9).toNat))) + 2).toNat) a3) 2239 ((mI (sI (sI (sI M 2239 ((((mI M 2230 17) + 10) + (3 * (mI M 2239 ((mI M 2230 17) + 9).toNat))).toNat) a1) 2239 (((((mI M 2230 17) + 10) + (3 * (mI M 2239 ((mI M 2230 17) + 9).toNat))) + 1).toNat) (mI (sI M 2239 ((((mI M 2230 17) + 10) + (3 * (mI M 2239 ((mI M 2230 17) + 9).toNat))).toNat) a1) 2239 ((mI (sI M 2239 ((((mI M 2230 17) + 10) + (3 * (mI M 2239 ((mI M 2230 17) + 9).toNat))).toNat) a1) 2230 17) + 31).toNat)) 2239 (((((mI M 2230 17) + 10) + (3 * (mI M 2239 ((mI M 2230 17) + 9).toNat))) + 2).toNat) a3) 2230 17) + 9).toNat) + 1)) 2239 ((mI (sI (sI (sI (sI M 2239 ((((mI M 2230 17) + 10) + (3 * (mI M 2239 ((mI M 2230 17) + 9).toNat))).toNat) a1) 2239 (((((mI M 2230 17) + 10) + (3 * (mI M 2239 ((mI M 2230 17) + 9).toNat))) + 1).toNat) (mI (sI M 2239 ((((mI M 2230 17) + 10) + (3 * (mI M 2239 ((mI M 2230 17) + 9).toNat))).toNat) a1) 2239 ((mI (sI M 2239 ((((mI M 2230 17) + 10) + (3 * (mI M 2239 ((mI M 2230 17) + 9).toNat))).toNat) a1) 2230 17) + 31).toNat)) 2239 (((((mI M 2230 17) + 10) + (3 * (mI M 2239 ((mI M 2230 17) + 9).toNat))) + 2).toNat) a3) 2239 (((mI (sI (sI (sI M 2239 ((((mI M 2230 17) + 10) + (3 * (mI M 2239 ((mI M 2230 17) + 9).toNat))).toNat) a1) 2239 (((((mI M 2230 17) + 10) + (3 * (mI M 2239 ((mI M 2230 17) + 9).toNat))) + 1).toNat) (mI (sI M 2239 ((((mI M 2230 17) + 10) + (3 * (mI M 2239 ((mI M 2230 17) + 9).toNat))).toNat) a1) 2239 ((mI (sI M 2239 ((((mI M 2230 17) + 10) + (3 * (mI M 2239 ((mI M 2230 17) + 9).toNat))).toNat) a1) 2230 17) + 31).toNat)) 2239 (((((mI M 2230 17) + 10) + (3 * (mI M 2239 ((mI M 2230 17) + 9).toNat))) + 2).toNat) a3) 2230 17) + 9).toNat) ((mI (sI (sI (sI M 2239 ((((mI M 2230 17) + 10) + (3 * (mI M 2239 ((mI M 2230 17) + 9).toNat))).toNat) a1) 2239 (((((mI M 2230 17) + 10) + (3 * (mI M 2239 ((mI M 2230 17) + 9).toNat))) + 1).toNat) (mI (sI M 2239 ((((mI M 2230 17) + 10) + (3 * (mI M 2239 ((mI M 2230 17) + 9).toNat))).toNat) a1) 2239 ((mI (sI M 2239 ((((mI M 2230 17) + 10) + (3 * (mI M 2239 ((mI M 2230 17) + 9).toNat))).toNat) a1) 2230 17) + 31).toNat)) 2239 (((((mI M 2230 17) + 10) + (3 * (mI M 2239 ((mI M 2230 17) + 9).toNat))) + 2).toNat) a3) 2239 ((mI (sI (sI (sI M 2239 ((((mI M 2230 17) + 10) + (3 * (mI M 2239 ((mI M 2230 17) + 9).toNat))).toNat) a1) 2239 (((((mI M 2230 17) + 10) + (3 * (mI M 2239 ((mI M 2230 17) + 9).toNat))) + 1).toNat) (mI (sI M 2239 ((((mI M 2230 17) + 10) + (3 * (mI M 2239 ((mI M 2230 17) + 9).toNat))).toNat) a1) 2239 ((mI (sI M 2239 ((((mI M 2230 17) + 10) + (3 * (mI M 2239 ((mI M 2230 17) + 9).toNat))).toNat) a1) 2230 17) + 31).toNat)) 2239 (((((mI M 2230 17) + 10) + (3 * (mI M 2239 ((mI M 2230 17) + 9).toNat))) + 2).toNat) a3) 2230 17) + 9).toNat) + 1)) 2230 17) + 32).toNat)
  refine Xv.up (pc' := 104) (fun _ _ k => x_aload_n dX10_enters_103 rfl rfl k) ?_
  refine Xv.up (pc' := 107) (fun _ _ k => x_getRK hK34 lf10_35 rfl dX10_enters_104 h0.1 h0.2.2.2.2.2.2.2.2.2.1 k) ?_
  refine Xv.up (pc' := 108) (fun _ _ k => x_aload_n dX10_enters_107 rfl rfl k) ?_
  refine Xv.up (pc' := 111) (fun _ _ k => x_getIK hK34 lf10_160 rfl dX10_enters_108 h0.1 k) ?_
  refine Xv.up (pc' := 113) (fun _ _ k => x_bipush dX10_enters_111 (show inR 8 from ⟨by decide, by decide⟩) (by decide) k) ?_
  obtain ⟨g35, h⟩ := h
  refine Xv.up (pc' := 114) (fun _ _ k => x_iadd dX10_enters_113 g35 k) ?_
  refine Xv.up (pc' := 115) (fun _ _ k => x_iload_n dX10_enters_114 rfl rfl k) ?_
  obtain ⟨g36, h⟩ := h
  obtain ⟨g37, h⟩ := h
  refine Xv.up (pc' := 116) (fun _ _ k => x_iastoreK hK34 dX10_enters_115 h0.2.2.2.2.2.2.2.2.2.2.2.2.2.2.2.2.2.2.2.1 g36 g37 k) ?_
  have hK38 := KW.sI hK34 2239 (((mI (sI (sI (sI (sI (sI M 2239 ((((mI M 2230 17) + 10) + (3 * (mI M 2239 ((mI M 2230 17) + 9).toNat))).toNat) a1) 2239 (((((mI M 2230 17) + 10) + (3 * (mI M 2239 ((mI M 2230 17) + 9).toNat))) + 1).toNat) (mI (sI M 2239 ((((mI M 2230 17) + 10) + (3 * (mI M 2239 ((mI M 2230 17) + 9).toNat))).toNat) a1) 2239 ((mI (sI M 2239 ((((mI M 2230 17) + 10) + (3 * (mI M 2239 ((mI M 2230 17) + 9).toNat))).toNat) a1) 2230 17) + 31).toNat)) 2239 (((((mI M 2230 17) + 10) + (3 * (mI M 2239 ((mI M 2230 17) + 9).toNat))) + 2).toNat) a3) 2239 (((mI (sI (sI (sI M 2239 ((((mI M 2230 17) + 10) + (3 * (mI M 2239 ((mI M 2230 17) + 9).toNat))).toNat) a1) 2239 (((((mI M 2230 17) + 10) + (3 * (mI M 2239 ((mI M 2230 17) + 9).toNat))) + 1).toNat) (mI (sI M 2239 ((((mI M 2230 17) + 10) + (3 * (mI M 2239 ((mI M 2230 17) + 9).toNat))).toNat) a1) 2239 ((mI (sI M 2239 ((((mI M 2230 17) + 10) + (3 * (mI M 2239 ((mI M 2230 17) + 9).toNat))).toNat) a1) 2230 17) + 31).toNat)) 2239 (((((mI M 2230 17) + 10) + (3 * (mI M 2239 ((mI M 2230 17) + 9).toNat))) + 2).toNat) a3) 2230 17) + 9).toNat) ((mI (sI (sI (sI M 2239 ((((mI M 2230 17) + 10) + (3 * (mI M 2239 ((mI M 2230 17) + 9).toNat))).toNat) a1) 2239 (((((mI M 2230 17) + 10) + (3 * (mI M 2239 ((mI M 2230 17) + 9).toNat))) + 1).toNat) (mI (sI M 2239 ((((mI M 2230 17) + 10) + (3 * (mI M 2239 ((mI M 2230 17) + 9).toNat))).toNat) a1) 2239 ((mI (sI M 2239 ((((mI M 2230 17) + 10) + (3 * (mI M 2239 ((mI M 2230 17) + 9).toNat))).toNat) a1) 2230 17) + 31).toNat)) 2239 (((((mI M 2230 17) + 10) + (3 * (mI M 2239 ((mI M 2230 17) + 9).toNat))) + 2).toNat) a3) 2239 ((mI (sI (sI (sI M 2239 ((((mI M 2230 17) + 10) + (3 * (mI M 2239 ((mI M 2230 17) + 9).toNat))).toNat) a1) 2239 (((((mI M 2230 17) + 10) + (3 * (mI M 2239 ((mI M 2230 17) + 9).toNat))) + 1).toNat) (mI (sI M 2239 ((((mI M 2230 17) + 10) + (3 * (mI M 2239 ((mI M 2230 17) + 9).toNat))).toNat) a1) 2239 ((mI (sI M 2239 ((((mI M 2230 17) + 10) + (3 * (mI M 2239 ((mI M 2230 17) + 9).toNat))).toNat) a1) 2230 17) + 31).toNat)) 2239 (((((mI M 2230 17) + 10) + (3 * (mI M 2239 ((mI M 2230 17) + 9).toNat))) + 2).toNat) a3) 2230 17) + 9).toNat) + 1)) 2239 (((mI (sI (sI (sI (sI M 2239 ((((mI M 2230 17) + 10) + (3 * (mI M 2239 ((mI M 2230 17) + 9).toNat))).toNat) a1) 2239 (((((mI M 2230 17) + 10) + (3 * (mI M 2239 ((mI M 2230 17) + 9).toNat))) + 1).toNat) (mI (sI M 2239 ((((mI M 2230 17) + 10) + (3 * (mI M 2239 ((mI M 2230 17) + 9).toNat))).toNat) a1) 2239 ((mI (sI M 2239 ((((mI M 2230 17) + 10) + (3 * (mI M 2239 ((mI M 2230 17) + 9).toNat))).toNat) a1) 2230 17) + 31).toNat)) 2239 (((((mI M 2230 17) + 10) + (3 * (mI M 2239 ((mI M 2230 17) + 9).toNat))) + 2).toNat) a3) 2239 (((mI (sI (sI (sI M 2239 ((((mI M 2230 17) + 10) + (3 * (mI M 2239 ((mI M 2230 17) + 9).toNat))).toNat) a1) 2239 (((((mI M 2230 17) + 10) + (3 * (mI M 2239 ((mI M 2230 17) + 9).toNat))) + 1).toNat) (mI (sI M 2239 ((((mI M 2230 17) + 10) + (3 * (mI M 2239 ((mI M 2230 17) + 9).toNat))).toNat) a1) 2239 ((mI (sI M 2239 ((((mI M 2230 17) + 10) + (3 * (mI M 2239 ((mI M 2230 17) + 9).toNat))).toNat) a1) 2230 17) + 31).toNat)) 2239 (((((mI M 2230 17) + 10) + (3 * (mI M 2239 ((mI M 2230 17) + 9).toNat))) + 2).toNat) a3) 2230 17) + 9).toNat) ((mI (sI (sI (sI M 2239 ((((mI M 2230 17) + 10) + (3 * (mI M 2239 ((mI M 2230 17) + 9).toNat))).toNat) a1) 2239 (((((mI M 2230 17) + 10) + (3 * (mI M 2239 ((mI M 2230 17) + 9).toNat))) + 1).toNat) (mI (sI M 2239 ((((mI M 2230 17) + 10) + (3 * (mI M 2239 ((mI M 2230 17) + 9).toNat))).toNat) a1) 2239 ((mI (sI M 2239 ((((mI M 2230 17) + 10) + (3 * (mI M 2239 ((mI M 2230 17) + 9).toNat))).toNat) a1) 2230 17) + 31).toNat)) 2239 (((((mI M 2230 17) + 10) + (3 * (mI M 2239 ((mI M 2230 17) + 9).toNat))) + 2).toNat) a3) 2239 ((mI (sI (sI (sI M 2239 ((((mI M 2230 17) + 10) + (3 * (mI M 2239 ((mI M 2230 17) + 9).toNat))).toNat) a1) 2239 (((((mI M 2230 17) + 10) + (3 * (mI M 2239 ((mI M 2230 17) + 9).toNat))) + 1).toNat) (mI (sI M 2239 ((((mI M 2230 17) + 10) + (3 * (mI M 2239 ((mI M 2230 17) + 9).toNat))).toNat) a1) 2239 ((mI (sI M 2239 ((((mI M 2230 17) + 10) + (3 * (mI M 2239 ((mI M 2230 17) + 9).toNat))).toNat) a1) 2230 17) + 31).toNat)) 2239 (((((mI M 2230 17) + 10) + (3 * (mI M 2239 ((mI M 2230 17) + 9).toNat))) + 2).toNat) a3) 2230 17) + 9).toNat) + 1)) 2230 17) + 31).toNat) (mI (sI (sI (sI (sI M 2239 ((((mI M 2230 17) + 10) + (3 * (mI M 2239 ((mI M 2230 17) + 9).toNat))).toNat) a1) 2239 (((((mI M 2230 17) + 10) + (3 * (mI M 2239 ((mI M 2230 17) + 9).toNat))) + 1).toNat) (mI (sI M 2239 ((((mI M 2230 17) + 10) + (3 * (mI M 2239 ((mI M 2230 17) + 9).toNat))).toNat) a1) 2239 ((mI (sI M 2239 ((((mI M 2230 17) + 10) + (3 * (mI M 2239 ((mI M 2230 17) + 9).toNat))).toNat) a1) 2230 17) + 31).toNat)) 2239 (((((mI M 2230 17) + 10) + (3 * (mI M 2239 ((mI M 2230 17) + 9).toNat))) + 2).toNat) a3) 2239 (((mI (sI (sI (sI M 2239 ((((mI M 2230 17) + 10) + (3 * (mI M 2239 ((mI M 2230 17) + 9).toNat))).toNat) a1) 2239 (((((mI M 2230 17) + 10) + (3 * (mI M 2239 ((mI M 2230 17) + 9).toNat))) + 1).toNat) (mI (sI M 2239 ((((mI M 2230 17) + 10) + (3 * (mI M 2239 ((mI M 2230 17) + 9).toNat))).toNat) a1) 2239 ((mI (sI M 2239 ((((mI M 2230 17) + 10) + (3 * (mI M 2239 ((mI M 2230 17) + 9).toNat))).toNat) a1) 2230 17) + 31).toNat)) 2239 (((((mI M 2230 17) + 10) + (3 * (mI M 2239 ((mI M 2230 17) + 9).toNat))) + 2).toNat) a3) 2230 17) + 9).toNat) ((mI (sI (sI (sI M 2239 ((((mI M 2230 17) + 10) + (3 * (mI M 2239 ((mI M 2230 17) + 9).toNat))).toNat) a1) 2239 (((((mI M 2230 17) + 10) + (3 * (mI M 2239 ((mI M 2230 17) + 9).toNat))) + 1).toNat) (mI (sI M 2239 ((((mI M 2230 17) + 10) + (3 * (mI M 2239 ((mI M 2230 17) + 9).toNat))).toNat) a1) 2239 ((mI (sI M 2239 ((((mI M 2230 17) + 10) + (3 * (mI M 2239 ((mI M 2230 17) + 9).toNat))).toNat) a1) 2230 17) + 31).toNat)) 2239 (((((mI M 2230 17) + 10) + (3 * (mI M 2239 ((mI M 2230 17) + 9).toNat))) + 2).toNat) a3) 2239 ((mI (sI (sI (sI M 2239 ((((mI M 2230 17) + 10) + (3 * (mI M 2239 ((mI M 2230 17) + 9).toNat))).toNat) a1) 2239 (((((mI M 2230 17) + 10) + (3 * (mI M 2239 ((mI M 2230 17) + 9).toNat))) + 1).toNat) (mI (sI M 2239 ((((mI M 2230 17) + 10) + (3 * (mI M 2239 ((mI M 2230 17) + 9).toNat))).toNat) a1) 2239 ((mI (sI M 2239 ((((mI M 2230 17) + 10) + (3 * (mI M 2239 ((mI M 2230 17) + 9).toNat))).toNat) a1) 2230 17) + 31).toNat)) 2239 (((((mI M 2230 17) + 10) + (3 * (mI M 2239 ((mI M 2230 17) + 9).toNat))) + 2).toNat) a3) 2230 17) + 9).toNat) + 1)) 2239 ((mI (sI (sI (sI (sI M 2239 ((((mI M 2230 17) + 10) + (3 * (mI M 2239 ((mI M 2230 17) + 9).toNat))).toNat) a1) 2239 (((((mI M 2230 17) + 10) + (3 * (mI M 2239 ((mI M 2230 17) + 9).toNat))) + 1).toNat) (mI (sI M 2239 ((((mI M 2230 17) + 10) + (3 * (mI M 2239 ((mI M 2230 17) + 9).toNat))).toNat) a1) 2239 ((mI (sI M 2239 ((((mI M 2230 17) + 10) + (3 * (mI M 2239 ((mI M 2230 17) + 9).toNat))).toNat) a1) 2230 17) + 31).toNat)) 2239 (((((mI M 2230 17) + 10) + (3 * (mI M 2239 ((mI M 2230 17) + 9).toNat))) + 2).toNat) a3) 2239 (((mI (sI (sI (sI M 2239 ((((mI M 2230 17) + 10) + (3 * (mI M 2239 ((mI M 2230 17) + 9).toNat))).toNat) a1) 2239 (((((mI M 2230 17) + 10) + (3 * (mI M 2239 ((mI M 2230 17) + 9).toNat))) + 1).toNat) (mI (sI M 2239 ((((mI M 2230 17) + 10) + (3 * (mI M 2239 ((mI M 2230 17) + 9).toNat))).toNat) a1) 2239 ((mI (sI M 2239 ((((mI M 2230 17) + 10) + (3 * (mI M 2239 ((mI M 2230 17) + 9).toNat))).toNat) a1) 2230 17) + 31).toNat)) 2239 (((((mI M 2230 17) + 10) + (3 * (mI M 2239 ((mI M 2230 17) + 9).toNat))) + 2).toNat) a3) 2230 17) + 9).toNat) ((mI (sI (sI (sI M 2239 ((((mI M 2230 17) + 10) + (3 * (mI M 2239 ((mI M 2230 17) + 9).toNat))).toNat) a1) 2239 (((((mI M 2230 17) + 10) + (3 * (mI M 2239 ((mI M 2230 17) + 9).toNat))) + 1).toNat) (mI (sI M 2239 ((((mI M 2230 17) + 10) + (3 * (mI M 2239 ((mI M 2230 17) + 9).toNat))).toNat) a1) 2239 ((mI (sI M 2239 ((((mI M 2230 17) + 10) + (3 * (mI M 2239 ((mI M 2230 17) + 9).toNat))).toNat) a1) 2230 17) + 31).toNat)) 2239 (((((mI M 2230 17) + 10) + (3 * (mI M 2239 ((mI M 2230 17) + 9).toNat))) + 2).toNat) a3) 2239 ((mI (sI (sI (sI M 2239 ((((mI M 2230 17) + 10) + (3 * (mI M 2239 ((mI M 2230 17) + 9).toNat))).toNat) a1) 2239 (((((mI M 2230 17) + 10) + (3 * (mI M 2239 ((mI M 2230 17) + 9).toNat))) + 1).toNat) (mI (sI M 2239 ((((mI M 2230 17) + 10) + (3 * (mI M 2239 ((mI M 2230 17) + 9).toNat))).toNat) a1) 2239 ((mI (sI M 2239 ((((mI M 2230 17) + 10) + (3 * (mI M 2239 ((mI M 2230 17) + 9).toNat))).toNat) a1) 2230 17) + 31).toNat)) 2239 (((((mI M 2230 17) + 10) + (3 * (mI M 2239 ((mI M 2230 17) + 9).toNat))) + 2).toNat) a3) 2230 17) + 9).toNat) + 1)) 2230 17) + 32).toNat)) 2230 17) + 8).toNat) a2
  exact Xv.ret ⟨dX10_enters_116, rfl⟩ h
set_option maxHeartbeats 4000000 in
set_option maxRecDepth 20000 in
theorem B10_mayStep {d : Nat} {K M : ZMem} {Q : Int → ZMem → Prop}  (hK : KW K M) (h0 : ModelAt K 2230) (h : (((mI M 2230 18) ≠ 0 → ((inR ((mI M 2230 18) - 1)) ∧ (inR ((mI (sI M 2230 18 ((mI M 2230 18) - 1)) 2230 16) + 4)) ∧ (0 ≤ ((mI (sI M 2230 18 ((mI M 2230 18) - 1)) 2230 16) + 4)) ∧ (((mI (sI M 2230 18 ((mI M 2230 18) - 1)) 2230 16) + 4) < 19245) ∧ (inR ((mI (sI M 2230 18 ((mI M 2230 18) - 1)) 2239 ((mI (sI M 2230 18 ((mI M 2230 18) - 1)) 2230 16) + 4).toNat) + 1)) ∧ (0 ≤ ((mI (sI M 2230 18 ((mI M 2230 18) - 1)) 2230 16) + 4)) ∧ (((mI (sI M 2230 18 ((mI M 2230 18) - 1)) 2230 16) + 4) < 19245) ∧ Q 1 (sI (sI M 2230 18 ((mI M 2230 18) - 1)) 2239 (((mI (sI M 2230 18 ((mI M 2230 18) - 1)) 2230 16) + 4).toNat) ((mI (sI M 2230 18 ((mI M 2230 18) - 1)) 2239 ((mI (sI M 2230 18 ((mI M 2230 18) - 1)) 2230 16) + 4).toNat) + 1)))) ∧ (¬ ((mI M 2230 18) ≠ 0) → (Q 0 M)))) : Ci d q10_mayStep [zr 2230] M Q := by
  refine Ci.of rfl rfl (Nat.le_of_ble_eq_true rfl) (fun w hw x e => by subst e; simp at hw) (L := [some (zr 2230)]) rfl ?_
  refine Xi.up (pc' := 1) (fun _ _ k => x_aload_n dX10_mayStep_0 rfl rfl k) ?_
  refine Xi.up (pc' := 4) (fun _ _ k => x_getIK hK lf10_185 rfl dX10_mayStep_1 h0.1 k) ?_
  refine Xi.br (tgt := 9) (pc' := 7) ((mI M 2230 18) ≠ 0) (fun _ _ kt kf => x_if_ne dX10_mayStep_4 rfl kt kf) (fun c => ?_) (fun c => ?_)
  · have h := h.1 c
    refine Xi.up (pc' := 10) (fun _ _ k => x_aload_n dX10_mayStep_9 rfl rfl k) ?_
    refine Xi.up (pc' := 11) (fun _ _ k => x_dupR dX10_mayStep_10 k) ?_
    refine Xi.up (pc' := 14) (fun _ _ k => x_getIK hK lf10_185 rfl dX10_mayStep_11 h0.1 k) ?_
    refine Xi.up (pc' := 15) (fun _ _ k => x_iconst dX10_mayStep_14 (show inR 1 from ⟨by decide, by decide⟩) k) ?_
    obtain ⟨g1, h⟩ := h
    refine Xi.up (pc' := 16) (fun _ _ k => x_isub dX10_mayStep_15 g1 k) ?_
    refine Xi.up (pc' := 19) (fun _ _ k => x_putIK hK lf10_185 rfl rfl (Or.inl rfl) dX10_mayStep_16 h0.1 k) ?_
    have hK2 := KW.sI hK 2230 18 ((mI M 2230 18) - 1)
    refine Xi.up (pc' := 20) (fun _ _ k => x_aload_n dX10_mayStep_19 rfl rfl k) ?_
    refine Xi.up (pc' := 23) (fun _ _ k => x_getRK hK2 lf10_35 rfl dX10_mayStep_20 h0.1 h0.2.2.2.2.2.2.2.2.2.1 k) ?_
    refine Xi.up (pc' := 24) (fun _ _ k => x_aload_n dX10_mayStep_23 rfl rfl k) ?_
    refine Xi.up (pc' := 27) (fun _ _ k => x_getIK hK2 lf10_156 rfl dX10_mayStep_24 h0.1 k) ?_
    refine Xi.up (pc' := 28) (fun _ _ k => x_iconst dX10_mayStep_27 (show inR 4 from ⟨by decide, by decide⟩) k) ?_
    obtain ⟨g3, h⟩ := h
    refine Xi.up (pc' := 29) (fun _ _ k => x_iadd dX10_mayStep_28 g3 k) ?_
    refine Xi.up (pc' := 30) (fun _ _ k => x_dup2 dX10_mayStep_29 k) ?_
    obtain ⟨g4, h⟩ := h
    obtain ⟨g5, h⟩ := h
    refine Xi.up (pc' := 31) (fun _ _ k => x_ialoadK hK2 dX10_mayStep_30 h0.2.2.2.2.2.2.2.2.2.2.2.2.2.2.2.2.2.2.2.1 g4 g5 k) ?_
    refine Xi.up (pc' := 32) (fun _ _ k => x_iconst dX10_mayStep_31 (show inR 1 from ⟨by decide, by decide⟩) k) ?_
    obtain ⟨g6, h⟩ := h
    refine Xi.up (pc' := 33) (fun _ _ k => x_iadd dX10_mayStep_32 g6 k) ?_
    obtain ⟨g7, h⟩ := h
    obtain ⟨g8, h⟩ := h
    refine Xi.up (pc' := 34) (fun _ _ k => x_iastoreK hK2 dX10_mayStep_33 h0.2.2.2.2.2.2.2.2.2.2.2.2.2.2.2.2.2.2.2.1 g7 g8 k) ?_
    have hK9 := KW.sI hK2 2239 (((mI (sI M 2230 18 ((mI M 2230 18) - 1)) 2230 16) + 4).toNat) ((mI (sI M 2230 18 ((mI M 2230 18) - 1)) 2239 ((mI (sI M 2230 18 ((mI M 2230 18) - 1)) 2230 16) + 4).toNat) + 1)
    refine Xi.up (pc' := 35) (fun _ _ k => x_iconst dX10_mayStep_34 (show inR 1 from ⟨by decide, by decide⟩) k) ?_
    exact Xi.ret ⟨dX10_mayStep_35, Or.inr ⟨rfl, Or.inr rfl⟩⟩ h
  · have h := h.2 c
    refine Xi.up (pc' := 8) (fun _ _ k => x_iconst dX10_mayStep_7 (show inR 0 from ⟨by decide, by decide⟩) k) ?_
    exact Xi.ret ⟨dX10_mayStep_8, Or.inr ⟨rfl, Or.inl rfl⟩⟩ h
set_option maxHeartbeats 4000000 in
set_option maxRecDepth 20000 in
theorem B10_leaves {d : Nat} {K M : ZMem} {Q : Int → ZMem → Prop}  (hK : KW K M) (h0 : ModelAt K 2230) (h : (inR ((mI M 2230 17) + 9)) ∧ (0 ≤ ((mI M 2230 17) + 9)) ∧ (((mI M 2230 17) + 9) < 19245) ∧ (((mI M 2239 ((mI M 2230 17) + 9).toNat) ≠ 0 → ((inR ((mI M 2230 17) + 10)) ∧ (inR ((mI M 2239 ((mI M 2230 17) + 9).toNat) - 1)) ∧ (inR (3 * ((mI M 2239 ((mI M 2230 17) + 9).toNat) - 1))) ∧ (inR (((mI M 2230 17) + 10) + (3 * ((mI M 2239 ((mI M 2230 17) + 9).toNat) - 1)))) ∧ (0 ≤ (((mI M 2230 17) + 10) + (3 * ((mI M 2239 ((mI M 2230 17) + 9).toNat) - 1)))) ∧ ((((mI M 2230 17) + 10) + (3 * ((mI M 2239 ((mI M 2230 17) + 9).toNat) - 1))) < 19245) ∧ (0 ≤ (mI M 2239 (((mI M 2230 17) + 10) + (3 * ((mI M 2239 ((mI M 2230 17) + 9).toNat) - 1))).toNat)) ∧ ((mI M 2239 (((mI M 2230 17) + 10) + (3 * ((mI M 2239 ((mI M 2230 17) + 9).toNat) - 1))).toNat) < 70200) ∧ (((mI M 2232 (mI M 2239 (((mI M 2230 17) + 10) + (3 * ((mI M 2239 ((mI M 2230 17) + 9).toNat) - 1))).toNat).toNat) ≠ 16 → ((0 ≤ (mI M 2239 (((mI M 2230 17) + 10) + (3 * ((mI M 2239 ((mI M 2230 17) + 9).toNat) - 1))).toNat)) ∧ ((mI M 2239 (((mI M 2230 17) + 10) + (3 * ((mI M 2239 ((mI M 2230 17) + 9).toNat) - 1))).toNat) < 70200) ∧ (((mI M 2232 (mI M 2239 (((mI M 2230 17) + 10) + (3 * ((mI M 2239 ((mI M 2230 17) + 9).toNat) - 1))).toNat).toNat) ≠ 13 → (Xi (d + 1) q10_leaves 155 [some (zr 2230), none, some (zi (((mI M 2230 17) + 10) + (3 * ((mI M 2239 ((mI M 2230 17) + 9).toNat) - 1)))), some (zi (mI M 2239 (((mI M 2230 17) + 10) + (3 * ((mI M 2239 ((mI M 2230 17) + 9).toNat) - 1))).toNat))] [] M Q)) ∧ (¬ ((mI M 2232 (mI M 2239 (((mI M 2230 17) + 10) + (3 * ((mI M 2239 ((mI M 2230 17) + 9).toNat) - 1))).toNat).toNat) ≠ 13) → (Xi (d + 1) q10_leaves 139 [some (zr 2230), none, some (zi (((mI M 2230 17) + 10) + (3 * ((mI M 2239 ((mI M 2230 17) + 9).toNat) - 1)))), some (zi (mI M 2239 (((mI M 2230 17) + 10) + (3 * ((mI M 2239 ((mI M 2230 17) + 9).toNat) - 1))).toNat))] [] M Q))))) ∧ (¬ ((mI M 2232 (mI M 2239 (((mI M 2230 17) + 10) + (3 * ((mI M 2239 ((mI M 2230 17) + 9).toNat) - 1))).toNat).toNat) ≠ 16) → ((inR ((((mI M 2230 17) + 10) + (3 * ((mI M 2239 ((mI M 2230 17) + 9).toNat) - 1))) + 2)) ∧ (0 ≤ ((((mI M 2230 17) + 10) + (3 * ((mI M 2239 ((mI M 2230 17) + 9).toNat) - 1))) + 2)) ∧ (((((mI M 2230 17) + 10) + (3 * ((mI M 2239 ((mI M 2230 17) + 9).toNat) - 1))) + 2) < 19245) ∧ (((mI M 2239 ((((mI M 2230 17) + 10) + (3 * ((mI M 2239 ((mI M 2230 17) + 9).toNat) - 1))) + 2).toNat) ≤ 0 → ((0 ≤ (mI M 2239 (((mI M 2230 17) + 10) + (3 * ((mI M 2239 ((mI M 2230 17) + 9).toNat) - 1))).toNat)) ∧ ((mI M 2239 (((mI M 2230 17) + 10) + (3 * ((mI M 2239 ((mI M 2230 17) + 9).toNat) - 1))).toNat) < 70200) ∧ (((mI M 2232 (mI M 2239 (((mI M 2230 17) + 10) + (3 * ((mI M 2239 ((mI M 2230 17) + 9).toNat) - 1))).toNat).toNat) ≠ 13 → (Xi (d + 1) q10_leaves 155 [some (zr 2230), none, some (zi (((mI M 2230 17) + 10) + (3 * ((mI M 2239 ((mI M 2230 17) + 9).toNat) - 1)))), some (zi (mI M 2239 (((mI M 2230 17) + 10) + (3 * ((mI M 2239 ((mI M 2230 17) + 9).toNat) - 1))).toNat))] [] M Q)) ∧ (¬ ((mI M 2232 (mI M 2239 (((mI M 2230 17) + 10) + (3 * ((mI M 2239 ((mI M 2230 17) + 9).toNat) - 1))).toNat).toNat) ≠ 13) → (Xi (d + 1) q10_leaves 139 [some (zr 2230), none, some (zi (((mI M 2230 17) + 10) + (3 * ((mI M 2239 ((mI M 2230 17) + 9).toNat) - 1)))), some (zi (mI M 2239 (((mI M 2230 17) + 10) + (3 * ((mI M 2239 ((mI M 2230 17) + 9).toNat) - 1))).toNat))] [] M Q))))) ∧ (¬ ((mI M 2239 ((((mI M 2230 17) + 10) + (3 * ((mI M 2239 ((mI M 2230 17) + 9).toNat) - 1))) + 2).toNat) ≤ 0) → (Ci d q10_mayStep [zr 2230] M (fun x20 M19 => KW K M19 ∧ ((x20 ≠ 0 → ((inR ((((mI M 2230 17) + 10) + (3 * ((mI M 2239 ((mI M 2230 17) + 9).toNat) - 1))) + 2)) ∧ (0 ≤ ((((mI M 2230 17) + 10) + (3 * ((mI M 2239 ((mI M 2230 17) + 9).toNat) - 1))) + 2)) ∧ (((((mI M 2230 17) + 10) + (3 * ((mI M 2239 ((mI M 2230 17) + 9).toNat) - 1))) + 2) < 19245) ∧ (inR ((mI M19 2239 ((((mI M 2230 17) + 10) + (3 * ((mI M 2239 ((mI M 2230 17) + 9).toNat) - 1))) + 2).toNat) - 1)) ∧ (0 ≤ ((((mI M 2230 17) + 10) + (3 * ((mI M 2239 ((mI M 2230 17) + 9).toNat) - 1))) + 2)) ∧ (((((mI M 2230 17) + 10) + (3 * ((mI M 2239 ((mI M 2230 17) + 9).toNat) - 1))) + 2) < 19245) ∧ (inR ((mI (sI M19 2239 (((((mI M 2230 17) + 10) + (3 * ((mI M 2239 ((mI M 2230 17) + 9).toNat) - 1))) + 2).toNat) ((mI M19 2239 ((((mI M 2230 17) + 10) + (3 * ((mI M 2239 ((mI M 2230 17) + 9).toNat) - 1))) + 2).toNat) - 1)) 2230 17) + 31)) ∧ (inR ((mI (sI M19 2239 (((((mI M 2230 17) + 10) + (3 * ((mI M 2239 ((mI M 2230 17) + 9).toNat) - 1))) + 2).toNat) ((mI M19 2239 ((((mI M 2230 17) + 10) + (3 * ((mI M 2239 ((mI M 2230 17) + 9).toNat) - 1))) + 2).toNat) - 1)) 2230 17) + 32)) ∧ (0 ≤ ((mI (sI M19 2239 (((((mI M 2230 17) + 10) + (3 * ((mI M 2239 ((mI M 2230 17) + 9).toNat) - 1))) + 2).toNat) ((mI M19 2239 ((((mI M 2230 17) + 10) + (3 * ((mI M 2239 ((mI M 2230 17) + 9).toNat) - 1))) + 2).toNat) - 1)) 2230 17) + 32)) ∧ (((mI (sI M19 2239 (((((mI M 2230 17) + 10) + (3 * ((mI M 2239 ((mI M 2230 17) + 9).toNat) - 1))) + 2).toNat) ((mI M19 2239 ((((mI M 2230 17) + 10) + (3 * ((mI M 2239 ((mI M 2230 17) + 9).toNat) - 1))) + 2).toNat) - 1)) 2230 17) + 32) < 19245) ∧ (0 ≤ ((mI (sI M19 2239 (((((mI M 2230 17) + 10) + (3 * ((mI M 2239 ((mI M 2230 17) + 9).toNat) - 1))) + 2).toNat) ((mI M19 2239 ((((mI M 2230 17) + 10) + (3 * ((mI M 2239 ((mI M 2230 17) + 9).toNat) - 1))) + 2).toNat) - 1)) 2230 17) + 31)) ∧ (((mI (sI M19 2239 (((((mI M 2230 17) + 10) + (3 * ((mI M 2239 ((mI M 2230 17) + 9).toNat) - 1))) + 2).toNat) ((mI M19 2239 ((((mI M 2230 17) + 10) + (3 * ((mI M 2239 ((mI M 2230 17) + 9).toNat) - 1))) + 2).toNat) - 1)) 2230 17) + 31) < 19245) ∧ (inR ((mI (sI (sI M19 2239 (((((mI M 2230 17) + 10) + (3 * ((mI M 2239 ((mI M 2230 17) + 9).toNat) - 1))) + 2).toNat) ((mI M19 2239 ((((mI M 2230 17) + 10) + (3 * ((mI M 2239 ((mI M 2230 17) + 9).toNat) - 1))) + 2).toNat) - 1)) 2239 (((mI (sI M19 2239 (((((mI M 2230 17) + 10) + (3 * ((mI M 2239 ((mI M 2230 17) + 9).toNat) - 1))) + 2).toNat) ((mI M19 2239 ((((mI M 2230 17) + 10) + (3 * ((mI M 2239 ((mI M 2230 17) + 9).toNat) - 1))) + 2).toNat) - 1)) 2230 17) + 31).toNat) (mI (sI M19 2239 (((((mI M 2230 17) + 10) + (3 * ((mI M 2239 ((mI M 2230 17) + 9).toNat) - 1))) + 2).toNat) ((mI M19 2239 ((((mI M 2230 17) + 10) + (3 * ((mI M 2239 ((mI M 2230 17) + 9).toNat) - 1))) + 2).toNat) - 1)) 2239 ((mI (sI M19 2239 (((((mI M 2230 17) + 10) + (3 * ((mI M 2239 ((mI M 2230 17) + 9).toNat) - 1))) + 2).toNat) ((mI M19 2239 ((((mI M 2230 17) + 10) + (3 * ((mI M 2239 ((mI M 2230 17) + 9).toNat) - 1))) + 2).toNat) - 1)) 2230 17) + 32).toNat)) 2230 17) + 8)) ∧ (0 ≤ (mI M 2239 (((mI M 2230 17) + 10) + (3 * ((mI M 2239 ((mI M 2230 17) + 9).toNat) - 1))).toNat)) ∧ ((mI M 2239 (((mI M 2230 17) + 10) + (3 * ((mI M 2239 ((mI M 2230 17) + 9).toNat) - 1))).toNat) < 70200) ∧ (0 ≤ ((mI (sI (sI M19 2239 (((((mI M 2230 17) + 10) + (3 * ((mI M 2239 ((mI M 2230 17) + 9).toNat) - 1))) + 2).toNat) ((mI M19 2239 ((((mI M 2230 17) + 10) + (3 * ((mI M 2239 ((mI M 2230 17) + 9).toNat) - 1))) + 2).toNat) - 1)) 2239 (((mI (sI M19 2239 (((((mI M 2230 17) + 10) + (3 * ((mI M 2239 ((mI M 2230 17) + 9).toNat) - 1))) + 2).toNat) ((mI M19 2239 ((((mI M 2230 17) + 10) + (3 * ((mI M 2239 ((mI M 2230 17) + 9).toNat) - 1))) + 2).toNat) - 1)) 2230 17) + 31).toNat) (mI (sI M19 2239 (((((mI M 2230 17) + 10) + (3 * ((mI M 2239 ((mI M 2230 17) + 9).toNat) - 1))) + 2).toNat) ((mI M19 2239 ((((mI M 2230 17) + 10) + (3 * ((mI M 2239 ((mI M 2230 17) + 9).toNat) - 1))) + 2).toNat) - 1)) 2239 ((mI (sI M19 2239 (((((mI M 2230 17) + 10) + (3 * ((mI M 2239 ((mI M 2230 17) + 9).toNat) - 1))) + 2).toNat) ((mI M19 2239 ((((mI M 2230 17) + 10) + (3 * ((mI M 2239 ((mI M 2230 17) + 9).toNat) - 1))) + 2).toNat) - 1)) 2230 17) + 32).toNat)) 2230 17) + 8)) ∧ (((mI (sI (sI M19 2239 (((((mI M 2230 17) + 10) + (3 * ((mI M 2239 ((mI M 2230 17) + 9).toNat) - 1))) + 2).toNat) ((mI M19 2239 ((((mI M 2230 17) + 10) + (3 * ((mI M 2239 ((mI M 2230 17) + 9).toNat) - 1))) + 2).toNat) - 1)) 2239 (((mI (sI M19 2239 (((((mI M 2230 17) + 10) + (3 * ((mI M 2239 ((mI M 2230 17) + 9).toNat) - 1))) + 2).toNat) ((mI M19 2239 ((((mI M 2230 17) + 10) + (3 * ((mI M 2239 ((mI M 2230 17) + 9).toNat) - 1))) + 2).toNat) - 1)) 2230 17) + 31).toNat) (mI (sI M19 2239 (((((mI M 2230 17) + 10) + (3 * ((mI M 2239 ((mI M 2230 17) + 9).toNat) - 1))) + 2).toNat) ((mI M19 2239 ((((mI M 2230 17) + 10) + (3 * ((mI M 2239 ((mI M 2230 17) + 9).toNat) - 1))) + 2).toNat) - 1)) 2239 ((mI (sI M19 2239 (((((mI M 2230 17) + 10) + (3 * ((mI M 2239 ((mI M 2230 17) + 9).toNat) - 1))) + 2).toNat) ((mI M19 2239 ((((mI M 2230 17) + 10) + (3 * ((mI M 2239 ((mI M 2230 17) + 9).toNat) - 1))) + 2).toNat) - 1)) 2230 17) + 32).toNat)) 2230 17) + 8) < 19245) ∧ Q 0 (sI (sI (sI M19 2239 (((((mI M 2230 17) + 10) + (3 * ((mI M 2239 ((mI M 2230 17) + 9).toNat) - 1))) + 2).toNat) ((mI M19 2239 ((((mI M 2230 17) + 10) + (3 * ((mI M 2239 ((mI M 2230 17) + 9).toNat) - 1))) + 2).toNat) - 1)) 2239 (((mI (sI M19 2239 (((((mI M 2230 17) + 10) + (3 * ((mI M 2239 ((mI M 2230 17) + 9).toNat) - 1))) + 2).toNat) ((mI M19 2239 ((((mI M 2230 17) + 10) + (3 * ((mI M 2239 ((mI M 2230 17) + 9).toNat) - 1))) + 2).toNat) - 1)) 2230 17) + 31).toNat) (mI (sI M19 2239 (((((mI M 2230 17) + 10) + (3 * ((mI M 2239 ((mI M 2230 17) + 9).toNat) - 1))) + 2).toNat) ((mI M19 2239 ((((mI M 2230 17) + 10) + (3 * ((mI M 2239 ((mI M 2230 17) + 9).toNat) - 1))) + 2).toNat) - 1)) 2239 ((mI (sI M19 2239 (((((mI M 2230 17) + 10) + (3 * ((mI M 2239 ((mI M 2230 17) + 9).toNat) - 1))) + 2).toNat) ((mI M19 2239 ((((mI M 2230 17) + 10) + (3 * ((mI M 2239 ((mI M 2230 17) + 9).toNat) - 1))) + 2).toNat) - 1)) 2230 17) + 32).toNat)) 2239 (((mI (sI (sI M19 2239 (((((mI M 2230 17) + 10) + (3 * ((mI M 2239 ((mI M 2230 17) + 9).toNat) - 1))) + 2).toNat) ((mI M19 2239 ((((mI M 2230 17) + 10) + (3 * ((mI M 2239 ((mI M 2230 17) + 9).toNat) - 1))) + 2).toNat) - 1)) 2239 (((mI (sI M19 2239 (((((mI M 2230 17) + 10) + (3 * ((mI M 2239 ((mI M 2230 17) + 9).toNat) - 1))) + 2).toNat) ((mI M19 2239 ((((mI M 2230 17) + 10) + (3 * ((mI M 2239 ((mI M 2230 17) + 9).toNat) - 1))) + 2).toNat) - 1)) 2230 17) + 31).toNat) (mI (sI M19 2239 (((((mI M 2230 17) + 10) + (3 * ((mI M 2239 ((mI M 2230 17) + 9).toNat) - 1))) + 2).toNat) ((mI M19 2239 ((((mI M 2230 17) + 10) + (3 * ((mI M 2239 ((mI M 2230 17) + 9).toNat) - 1))) + 2).toNat) - 1)) 2239 ((mI (sI M19 2239 (((((mI M 2230 17) + 10) + (3 * ((mI M 2239 ((mI M 2230 17) + 9).toNat) - 1))) + 2).toNat) ((mI M19 2239 ((((mI M 2230 17) + 10) + (3 * ((mI M 2239 ((mI M 2230 17) + 9).toNat) - 1))) + 2).toNat) - 1)) 2230 17) + 32).toNat)) 2230 17) + 8).toNat) (mI (sI (sI M19 2239 (((((mI M 2230 17) + 10) + (3 * ((mI M 2239 ((mI M 2230 17) + 9).toNat) - 1))) + 2).toNat) ((mI M19 2239 ((((mI M 2230 17) + 10) + (3 * ((mI M 2239 ((mI M 2230 17) + 9).toNat) - 1))) + 2).toNat) - 1)) 2239 (((mI (sI M19 2239 (((((mI M 2230 17) + 10) + (3 * ((mI M 2239 ((mI M 2230 17) + 9).toNat) - 1))) + 2).toNat) ((mI M19 2239 ((((mI M 2230 17) + 10) + (3 * ((mI M 2239 ((mI M 2230 17) + 9).toNat) - 1))) + 2).toNat) - 1)) 2230 17) + 31).toNat) (mI (sI M19 2239 (((((mI M 2230 17) + 10) + (3 * ((mI M 2239 ((mI M 2230 17) + 9).toNat) - 1))) + 2).toNat) ((mI M19 2239 ((((mI M 2230 17) + 10) + (3 * ((mI M 2239 ((mI M 2230 17) + 9).toNat) - 1))) + 2).toNat) - 1)) 2239 ((mI (sI M19 2239 (((((mI M 2230 17) + 10) + (3 * ((mI M 2239 ((mI M 2230 17) + 9).toNat) - 1))) + 2).toNat) ((mI M19 2239 ((((mI M 2230 17) + 10) + (3 * ((mI M 2239 ((mI M 2230 17) + 9).toNat) - 1))) + 2).toNat) - 1)) 2230 17) + 32).toNat)) 2234 (mI M 2239 (((mI M 2230 17) + 10) + (3 * ((mI M 2239 ((mI M 2230 17) + 9).toNat) - 1))).toNat).toNat)))) ∧ (¬ (x20 ≠ 0) → (Q 2 M19)))))))))))) ∧ (¬ ((mI M 2239 ((mI M 2230 17) + 9).toNat) ≠ 0) → (Q 7 M)))) : Ci (d + 1) q10_leaves [zr 2230] M Q := by
  refine Ci.of rfl rfl (Nat.le_of_ble_eq_true rfl) (fun w hw x e => by subst e; simp at hw) (L := [some (zr 2230), none, none, none]) rfl ?_
  refine Xi.up (pc' := 1) (fun _ _ k => x_aload_n dX10_leaves_0 rfl rfl k) ?_
  refine Xi.up (pc' := 4) (fun _ _ k => x_getRK hK lf10_35 rfl dX10_leaves_1 h0.1 h0.2.2.2.2.2.2.2.2.2.1 k) ?_
  refine Xi.up (pc' := 5) (fun _ _ k => x_aload_n dX10_leaves_4 rfl rfl k) ?_
  refine Xi.up (pc' := 8) (fun _ _ k => x_getIK hK lf10_160 rfl dX10_leaves_5 h0.1 k) ?_
  refine Xi.up (pc' := 10) (fun _ _ k => x_bipush dX10_leaves_8 (show inR 9 from ⟨by decide, by decide⟩) (by decide) k) ?_
  obtain ⟨g1, h⟩ := h
  refine Xi.up (pc' := 11) (fun _ _ k => x_iadd dX10_leaves_10 g1 k) ?_
  obtain ⟨g2, h⟩ := h
  obtain ⟨g3, h⟩ := h
  refine Xi.up (pc' := 12) (fun _ _ k => x_ialoadK hK dX10_leaves_11 h0.2.2.2.2.2.2.2.2.2.2.2.2.2.2.2.2.2.2.2.1 g2 g3 k) ?_
  refine Xi.up (pc' := 13) (L' := [some (zr 2230), some (zi (mI M 2239 ((mI M 2230 17) + 9).toNat)), none, none]) (fun _ _ k => x_istore_n dX10_leaves_12 rfl (by decide) rfl k) ?_
  refine Xi.up (pc' := 14) (fun _ _ k => x_iload_n dX10_leaves_13 rfl rfl k) ?_
  refine Xi.br (tgt := 20) (pc' := 17) ((mI M 2239 ((mI M 2230 17) + 9).toNat) ≠ 0) (fun _ _ kt kf => x_if_ne dX10_leaves_14 rfl kt kf) (fun c => ?_) (fun c => ?_)
  · have h := h.1 c
    refine Xi.up (pc' := 21) (fun _ _ k => x_aload_n dX10_leaves_20 rfl rfl k) ?_
    refine Xi.up (pc' := 24) (fun _ _ k => x_getIK hK lf10_160 rfl dX10_leaves_21 h0.1 k) ?_
    refine Xi.up (pc' := 26) (fun _ _ k => x_bipush dX10_leaves_24 (show inR 10 from ⟨by decide, by decide⟩) (by decide) k) ?_
    obtain ⟨g4, h⟩ := h
    refine Xi.up (pc' := 27) (fun _ _ k => x_iadd dX10_leaves_26 g4 k) ?_
    refine Xi.up (pc' := 28) (fun _ _ k => x_iconst dX10_leaves_27 (show inR 3 from ⟨by decide, by decide⟩) k) ?_
    refine Xi.up (pc' := 29) (fun _ _ k => x_iload_n dX10_leaves_28 rfl rfl k) ?_
    refine Xi.up (pc' := 30) (fun _ _ k => x_iconst dX10_leaves_29 (show inR 1 from ⟨by decide, by decide⟩) k) ?_
    obtain ⟨g5, h⟩ := h
    refine Xi.up (pc' := 31) (fun _ _ k => x_isub dX10_leaves_30 g5 k) ?_
    obtain ⟨g6, h⟩ := h
    refine Xi.up (pc' := 32) (fun _ _ k => x_imul dX10_leaves_31 g6 k) ?_
    obtain ⟨g7, h⟩ := h
    refine Xi.up (pc' := 33) (fun _ _ k => x_iadd dX10_leaves_32 g7 k) ?_
    refine Xi.up (pc' := 34) (L' := [some (zr 2230), some (zi (mI M 2239 ((mI M 2230 17) + 9).toNat)), some (zi (((mI M 2230 17) + 10) + (3 * ((mI M 2239 ((mI M 2230 17) + 9).toNat) - 1)))), none]) (fun _ _ k => x_istore_n dX10_leaves_33 rfl (by decide) rfl k) ?_
    refine Xi.up (pc' := 35) (fun _ _ k => x_aload_n dX10_leaves_34 rfl rfl k) ?_
    refine Xi.up (pc' := 38) (fun _ _ k => x_getRK hK lf10_35 rfl dX10_leaves_35 h0.1 h0.2.2.2.2.2.2.2.2.2.1 k) ?_
    refine Xi.up (pc' := 39) (fun _ _ k => x_iload_n dX10_leaves_38 rfl rfl k) ?_
    obtain ⟨g8, h⟩ := h
    obtain ⟨g9, h⟩ := h
    refine Xi.up (pc' := 40) (fun _ _ k => x_ialoadK hK dX10_leaves_39 h0.2.2.2.2.2.2.2.2.2.2.2.2.2.2.2.2.2.2.2.1 g8 g9 k) ?_
    refine Xi.up (pc' := 41) (L' := [some (zr 2230), some (zi (mI M 2239 ((mI M 2230 17) + 9).toNat)), some (zi (((mI M 2230 17) + 10) + (3 * ((mI M 2239 ((mI M 2230 17) + 9).toNat) - 1)))), some (zi (mI M 2239 (((mI M 2230 17) + 10) + (3 * ((mI M 2239 ((mI M 2230 17) + 9).toNat) - 1))).toNat))]) (fun _ _ k => x_istore_n dX10_leaves_40 rfl (by decide) rfl k) ?_
    refine Xi.up (pc' := 42) (fun _ _ k => x_aload_n dX10_leaves_41 rfl rfl k) ?_
    refine Xi.up (pc' := 45) (fun _ _ k => x_getRK hK lf10_14 rfl dX10_leaves_42 h0.1 h0.2.2.1 k) ?_
    refine Xi.up (pc' := 46) (fun _ _ k => x_iload_n dX10_leaves_45 rfl rfl k) ?_
    obtain ⟨g10, h⟩ := h
    obtain ⟨g11, h⟩ := h
    refine Xi.up (pc' := 47) (fun _ _ k => x_ialoadK hK dX10_leaves_46 h0.2.2.2.2.2.2.2.2.2.2.2.2.1 g10 g11 k) ?_
    refine Xi.up (pc' := 49) (fun _ _ k => x_bipush dX10_leaves_47 (show inR 16 from ⟨by decide, by decide⟩) (by decide) k) ?_
    refine Xi.br (tgt := 128) (pc' := 52) ((mI M 2232 (mI M 2239 (((mI M 2230 17) + 10) + (3 * ((mI M 2239 ((mI M 2230 17) + 9).toNat) - 1))).toNat).toNat) ≠ 16) (fun _ _ kt kf => x_icmp_ne dX10_leaves_49 rfl kt kf) (fun c => ?_) (fun c => ?_)
    · have h := h.1 c
      refine Xi.up (pc' := 129) (fun _ _ k => x_aload_n dX10_leaves_128 rfl rfl k) ?_
      refine Xi.up (pc' := 132) (fun _ _ k => x_getRK hK lf10_14 rfl dX10_leaves_129 h0.1 h0.2.2.1 k) ?_
      refine Xi.up (pc' := 133) (fun _ _ k => x_iload_n dX10_leaves_132 rfl rfl k) ?_
      obtain ⟨g12, h⟩ := h
      obtain ⟨g13, h⟩ := h
      refine Xi.up (pc' := 134) (fun _ _ k => x_ialoadK hK dX10_leaves_133 h0.2.2.2.2.2.2.2.2.2.2.2.2.1 g12 g13 k) ?_
      refine Xi.up (pc' := 136) (fun _ _ k => x_bipush dX10_leaves_134 (show inR 13 from ⟨by decide, by decide⟩) (by decide) k) ?_
      refine Xi.br (tgt := 155) (pc' := 139) ((mI M 2232 (mI M 2239 (((mI M 2230 17) + 10) + (3 * ((mI M 2239 ((mI M 2230 17) + 9).toNat) - 1))).toNat).toNat) ≠ 13) (fun _ _ kt kf => x_icmp_ne dX10_leaves_136 rfl kt kf) (fun c => ?_) (fun c => ?_)
      · have h := h.1 c
        exact Xi.up (fun _ _ k => x_less (L' := [some (zr 2230), none, some (zi (((mI M 2230 17) + 10) + (3 * ((mI M 2239 ((mI M 2230 17) + 9).toNat) - 1)))), some (zi (mI M 2239 (((mI M 2230 17) + 10) + (3 * ((mI M 2239 ((mI M 2230 17) + 9).toNat) - 1))).toNat))]) (⟨rfl, ⟨rfl, ⟨rfl, trivial⟩⟩⟩) k) h
      · have h := h.2 c
        exact Xi.up (fun _ _ k => x_less (L' := [some (zr 2230), none, some (zi (((mI M 2230 17) + 10) + (3 * ((mI M 2239 ((mI M 2230 17) + 9).toNat) - 1)))), some (zi (mI M 2239 (((mI M 2230 17) + 10) + (3 * ((mI M 2239 ((mI M 2230 17) + 9).toNat) - 1))).toNat))]) (⟨rfl, ⟨rfl, ⟨rfl, trivial⟩⟩⟩) k) h
    · have h := h.2 c
      refine Xi.up (pc' := 53) (fun _ _ k => x_aload_n dX10_leaves_52 rfl rfl k) ?_
      refine Xi.up (pc' := 56) (fun _ _ k => x_getRK hK lf10_35 rfl dX10_leaves_53 h0.1 h0.2.2.2.2.2.2.2.2.2.1 k) ?_
      refine Xi.up (pc' := 57) (fun _ _ k => x_iload_n dX10_leaves_56 rfl rfl k) ?_
      refine Xi.up (pc' := 58) (fun _ _ k => x_iconst dX10_leaves_57 (show inR 2 from ⟨by decide, by decide⟩) k) ?_
      obtain ⟨g14, h⟩ := h
      refine Xi.up (pc' := 59) (fun _ _ k => x_iadd dX10_leaves_58 g14 k) ?_
      obtain ⟨g15, h⟩ := h
      obtain ⟨g16, h⟩ := h
      refine Xi.up (pc' := 60) (fun _ _ k => x_ialoadK hK dX10_leaves_59 h0.2.2.2.2.2.2.2.2.2.2.2.2.2.2.2.2.2.2.2.1 g15 g16 k) ?_
      refine Xi.br (tgt := 128) (pc' := 63) ((mI M 2239 ((((mI M 2230 17) + 10) + (3 * ((mI M 2239 ((mI M 2230 17) + 9).toNat) - 1))) + 2).toNat) ≤ 0) (fun _ _ kt kf => x_if_le dX10_leaves_60 rfl kt kf) (fun c => ?_) (fun c => ?_)
      · have h := h.1 c
        refine Xi.up (pc' := 129) (fun _ _ k => x_aload_n dX10_leaves_128 rfl rfl k) ?_
        refine Xi.up (pc' := 132) (fun _ _ k => x_getRK hK lf10_14 rfl dX10_leaves_129 h0.1 h0.2.2.1 k) ?_
        refine Xi.up (pc' := 133) (fun _ _ k => x_iload_n dX10_leaves_132 rfl rfl k) ?_
        obtain ⟨g17, h⟩ := h
        obtain ⟨g18, h⟩ := h
        refine Xi.up (pc' := 134) (fun _ _ k => x_ialoadK hK dX10_leaves_133 h0.2.2.2.2.2.2.2.2.2.2.2.2.1 g17 g18 k) ?_
        refine Xi.up (pc' := 136) (fun _ _ k => x_bipush dX10_leaves_134 (show inR 13 from ⟨by decide, by decide⟩) (by decide) k) ?_
        refine Xi.br (tgt := 155) (pc' := 139) ((mI M 2232 (mI M 2239 (((mI M 2230 17) + 10) + (3 * ((mI M 2239 ((mI M 2230 17) + 9).toNat) - 1))).toNat).toNat) ≠ 13) (fun _ _ kt kf => x_icmp_ne dX10_leaves_136 rfl kt kf) (fun c => ?_) (fun c => ?_)
        · have h := h.1 c
          exact Xi.up (fun _ _ k => x_less (L' := [some (zr 2230), none, some (zi (((mI M 2230 17) + 10) + (3 * ((mI M 2239 ((mI M 2230 17) + 9).toNat) - 1)))), some (zi (mI M 2239 (((mI M 2230 17) + 10) + (3 * ((mI M 2239 ((mI M 2230 17) + 9).toNat) - 1))).toNat))]) (⟨rfl, ⟨rfl, ⟨rfl, trivial⟩⟩⟩) k) h
        · have h := h.2 c
          exact Xi.up (fun _ _ k => x_less (L' := [some (zr 2230), none, some (zi (((mI M 2230 17) + 10) + (3 * ((mI M 2239 ((mI M 2230 17) + 9).toNat) - 1)))), some (zi (mI M 2239 (((mI M 2230 17) + 10) + (3 * ((mI M 2239 ((mI M 2230 17) + 9).toNat) - 1))).toNat))]) (⟨rfl, ⟨rfl, ⟨rfl, trivial⟩⟩⟩) k) h
      · have h := h.2 c
        refine Xi.up (pc' := 64) (fun _ _ k => x_aload_n dX10_leaves_63 rfl rfl k) ?_
        obtain ⟨x20, M19, hc22, hK21, h⟩ := h
        refine Xi.up (pc' := 67) (st' := [zi x20]) (fun _ _ k => x_callVK (ci := 10) (as := []) (st := []) hK k10_mayStep lm10_188 dX10_leaves_64 rfl (by decide) (zs8 rfl) h0.1 ⟨_, _, rfl⟩ hc22 k) ?_
        refine Xi.br (tgt := 72) (pc' := 70) (x20 ≠ 0) (fun _ _ kt kf => x_if_ne dX10_leaves_67 rfl kt kf) (fun c => ?_) (fun c => ?_)
        · have h := h.1 c
          refine Xi.up (pc' := 73) (fun _ _ k => x_aload_n dX10_leaves_72 rfl rfl k) ?_
          refine Xi.up (pc' := 76) (fun _ _ k => x_getRK hK21 lf10_35 rfl dX10_leaves_73 h0.1 h0.2.2.2.2.2.2.2.2.2.1 k) ?_
          refine Xi.up (pc' := 77) (fun _ _ k => x_iload_n dX10_leaves_76 rfl rfl k) ?_
          refine Xi.up (pc' := 78) (fun _ _ k => x_iconst dX10_leaves_77 (show inR 2 from ⟨by decide, by decide⟩) k) ?_
          obtain ⟨g23, h⟩ := h
          refine Xi.up (pc' := 79) (fun _ _ k => x_iadd dX10_leaves_78 g23 k) ?_
          refine Xi.up (pc' := 80) (fun _ _ k => x_dup2 dX10_leaves_79 k) ?_
          obtain ⟨g24, h⟩ := h
          obtain ⟨g25, h⟩ := h
          refine Xi.up (pc' := 81) (fun _ _ k => x_ialoadK hK21 dX10_leaves_80 h0.2.2.2.2.2.2.2.2.2.2.2.2.2.2.2.2.2.2.2.1 g24 g25 k) ?_
          refine Xi.up (pc' := 82) (fun _ _ k => x_iconst dX10_leaves_81 (show inR 1 from ⟨by decide, by decide⟩) k) ?_
          obtain ⟨g26, h⟩ := h
          refine Xi.up (pc' := 83) (fun _ _ k => x_isub dX10_leaves_82 g26 k) ?_
          obtain ⟨g27, h⟩ := h
          obtain ⟨g28, h⟩ := h
          refine Xi.up (pc' := 84) (fun _ _ k => x_iastoreK hK21 dX10_leaves_83 h0.2.2.2.2.2.2.2.2.2.2.2.2.2.2.2.2.2.2.2.1 g27 g28 k) ?_
          have hK29 := KW.sI hK21 2239 (((((mI M 2230 17) + 10) + (3 * ((mI M 2239 ((mI M 2230 17) + 9).toNat) - 1))) + 2).toNat) ((mI M19 2239 ((((mI M 2230 17) + 10) + (3 * ((mI M 2239 ((mI M 2230 17) + 9).toNat) - 1))) + 2).toNat) - 1)
          refine Xi.up (pc' := 85) (fun _ _ k => x_aload_n dX10_leaves_84 rfl rfl k) ?_
          refine Xi.up (pc' := 88) (fun _ _ k => x_getRK hK29 lf10_35 rfl dX10_leaves_85 h0.1 h0.2.2.2.2.2.2.2.2.2.1 k) ?_
          refine Xi.up (pc' := 89) (fun _ _ k => x_aload_n dX10_leaves_88 rfl rfl k) ?_
          refine Xi.up (pc' := 92) (fun _ _ k => x_getIK hK29 lf10_160 rfl dX10_leaves_89 h0.1 k) ?_
          refine Xi.up (pc' := 94) (fun _ _ k => x_bipush dX10_leaves_92 (show inR 31 from ⟨by decide, by decide⟩) (by decide) k) ?_
          obtain ⟨g30, h⟩ := h
          refine Xi.up (pc' := 95) (fun _ _ k => x_iadd dX10_leaves_94 g30 k) ?_
          refine Xi.up (pc' := 96) (fun _ _ k => x_aload_n dX10_leaves_95 rfl rfl k) ?_
          refine Xi.up (pc' := 99) (fun _ _ k => x_getRK hK29 lf10_35 rfl dX10_leaves_96 h0.1 h0.2.2.2.2.2.2.2.2.2.1 k) ?_
          refine Xi.up (pc' := 100) (fun _ _ k => x_aload_n dX10_leaves_99 rfl rfl k) ?_
          refine Xi.up (pc' := 103) (fun _ _ k => x_getIK hK29 lf10_160 rfl dX10_leaves_100 h0.1 k) ?_
          refine Xi.up (pc' := 105) (fun _ _ k => x_bipush dX10_leaves_103 (show inR 32 from ⟨by decide, by decide⟩) (by decide) k) ?_
          obtain ⟨g31, h⟩ := h
          refine Xi.up (pc' := 106) (fun _ _ k => x_iadd dX10_leaves_105 g31 k) ?_
          obtain ⟨g32, h⟩ := h
          obtain ⟨g33, h⟩ := h
          refine Xi.up (pc' := 107) (fun _ _ k => x_ialoadK hK29 dX10_leaves_106 h0.2.2.2.2.2.2.2.2.2.2.2.2.2.2.2.2.2.2.2.1 g32 g33 k) ?_
          obtain ⟨g34, h⟩ := h
          obtain ⟨g35, h⟩ := h
          refine Xi.up (pc' := 108) (fun _ _ k => x_iastoreK hK29 dX10_leaves_107 h0.2.2.2.2.2.2.2.2.2.2.2.2.2.2.2.2.2.2.2.1 g34 g35 k) ?_
          have hK36 := KW.sI hK29 2239 (((mI (sI M19 2239 (((((mI M 2230 17) + 10) + (3 * ((mI M 2239 ((mI M 2230 17) + 9).toNat) - 1))) + 2).toNat) ((mI M19 2239 ((((mI M 2230 17) + 10) + (3 * ((mI M 2239 ((mI M 2230 17) + 9).toNat) - 1))) + 2).toNat) - 1)) 2230 17) + 31).toNat) (mI (sI M19 2239 (((((mI M 2230 17) + 10) + (3 * ((mI M 2239 ((mI M 2230 17) + 9).toNat) - 1))) + 2).toNat) ((mI M19 2239 ((((mI M 2230 17) + 10) + (3 * ((mI M 2239 ((mI M 2230 17) + 9).toNat) - 1))) + 2).toNat) - 1)) 2239 ((mI (sI M19 2239 (((((mI M 2230 17) + 10) + (3 * ((mI M 2239 ((mI M 2230 17) + 9).toNat) - 1))) + 2).toNat) ((mI M19 2239 ((((mI M 2230 17) + 10) + (3 * ((mI M 2239 ((mI M 2230 17) + 9).toNat) - 1))) + 2).toNat) - 1)) 2230 17) + 32).toNat)
          refine Xi.up (pc' := 109) (fun _ _ k => x_aload_n dX10_leaves_108 rfl rfl k) ?_
          refine Xi.up (pc' := 112) (fun _ _ k => x_getRK hK36 lf10_35 rfl dX10_leaves_109 h0.1 h0.2.2.2.2.2.2.2.2.2.1 k) ?_
          refine Xi.up (pc' := 113) (fun _ _ k => x_aload_n dX10_leaves_112 rfl rfl k) ?_
          refine Xi.up (pc' := 116) (fun _ _ k => x_getIK hK36 lf10_160 rfl dX10_leaves_113 h0.1 k) ?_
          refine Xi.up (pc' := 118) (fun _ _ k => x_bipush dX10_leaves_116 (show inR 8 from ⟨by decide, by decide⟩) (by decide) k) ?_
          obtain ⟨g37, h⟩ := h
          refine Xi.up (pc' := 119) (fun _ _ k => x_iadd dX10_leaves_118 g37 k) ?_
          refine Xi.up (pc' := 120) (fun _ _ k => x_aload_n dX10_leaves_119 rfl rfl k) ?_
          refine Xi.up (pc' := 123) (fun _ _ k => x_getRK hK36 lf10_20 rfl dX10_leaves_120 h0.1 h0.2.2.2.2.1 k) ?_
          refine Xi.up (pc' := 124) (fun _ _ k => x_iload_n dX10_leaves_123 rfl rfl k) ?_
          obtain ⟨g38, h⟩ := h
          obtain ⟨g39, h⟩ := h
          refine Xi.up (pc' := 125) (fun _ _ k => x_ialoadK hK36 dX10_leaves_124 h0.2.2.2.2.2.2.2.2.2.2.2.2.2.2.1 g38 g39 k) ?_
          obtain ⟨g40, h⟩ := h
          obtain ⟨g41, h⟩ := h
          refine Xi.up (pc' := 126) (fun _ _ k => x_iastoreK hK36 dX10_leaves_125 h0.2.2.2.2.2.2.2.2.2.2.2.2.2.2.2.2.2.2.2.1 g40 g41 k) ?_
          have hK42 := KW.sI hK36 2239 (((mI (sI (sI M19 2239 (((((mI M 2230 17) + 10) + (3 * ((mI M 2239 ((mI M 2230 17) + 9).toNat) - 1))) + 2).toNat) ((mI M19 2239 ((((mI M 2230 17) + 10) + (3 * ((mI M 2239 ((mI M 2230 17) + 9).toNat) - 1))) + 2).toNat) - 1)) 2239 (((mI (sI M19 2239 (((((mI M 2230 17) + 10) + (3 * ((mI M 2239 ((mI M 2230 17) + 9).toNat) - 1))) + 2).toNat) ((mI M19 2239 ((((mI M 2230 17) + 10) + (3 * ((mI M 2239 ((mI M 2230 17) + 9).toNat) - 1))) + 2).toNat) - 1)) 2230 17) + 31).toNat) (mI (sI M19 2239 (((((mI M 2230 17) + 10) + (3 * ((mI M 2239 ((mI M 2230 17) + 9).toNat) - 1))) + 2).toNat) ((mI M19 2239 ((((mI M 2230 17) + 10) + (3 * ((mI M 2239 ((mI M 2230 17) + 9).toNat) - 1))) + 2).toNat) - 1)) 2239 ((mI (sI M19 2239 (((((mI M 2230 17) + 10) + (3 * ((mI M 2239 ((mI M 2230 17) + 9).toNat) - 1))) + 2).toNat) ((mI M19 2239 ((((mI M 2230 17) + 10) + (3 * ((mI M 2239 ((mI M 2230 17) + 9).toNat) - 1))) + 2).toNat) - 1)) 2230 17) + 32).toNat)) 2230 17) + 8).toNat) (mI (sI (sI M19 2239 (((((mI M 2230 17) + 10) + (3 * ((mI M 2239 ((mI M 2230 17) + 9).toNat) - 1))) + 2).toNat) ((mI M19 2239 ((((mI M 2230 17) + 10) + (3 * ((mI M 2239 ((mI M 2230 17) + 9).toNat) - 1))) + 2).toNat) - 1)) 2239 (((mI (sI M19 2239 (((((mI M 2230 17) + 10) + (3 * ((mI M 2239 ((mI M 2230 17) + 9).toNat) - 1))) + 2).toNat) ((mI M19 2239 ((((mI M 2230 17) + 10) + (3 * ((mI M 2239 ((mI M 2230 17) + 9).toNat) - 1))) + 2).toNat) - 1)) 2230 17) + 31).toNat) (mI (sI M19 2239 (((((mI M 2230 17) + 10) + (3 * ((mI M 2239 ((mI M 2230 17) + 9).toNat) - 1))) + 2).toNat) ((mI M19 2239 ((((mI M 2230 17) + 10) + (3 * ((mI M 2239 ((mI M 2230 17) + 9).toNat) - 1))) + 2).toNat) - 1)) 2239 ((mI (sI M19 2239 (((((mI M 2230 17) + 10) + (3 * ((mI M 2239 ((mI M 2230 17) + 9).toNat) - 1))) + 2).toNat) ((mI M19 2239 ((((mI M 2230 17) + 10) + (3 * ((mI M 2239 ((mI M 2230 17) + 9).toNat) - 1))) + 2).toNat) - 1)) 2230 17) + 32).toNat)) 2234 (mI M 2239 (((mI M 2230 17) + 10) + (3 * ((mI M 2239 ((mI M 2230 17) + 9).toNat) - 1))).toNat).toNat)
          refine Xi.up (pc' := 127) (fun _ _ k => x_iconst dX10_leaves_126 (show inR 0 from ⟨by decide, by decide⟩) k) ?_
          exact Xi.ret ⟨dX10_leaves_127, Or.inl rfl⟩ h
        · have h := h.2 c
          refine Xi.up (pc' := 71) (fun _ _ k => x_iconst dX10_leaves_70 (show inR 2 from ⟨by decide, by decide⟩) k) ?_
          exact Xi.ret ⟨dX10_leaves_71, Or.inl rfl⟩ h
  · have h := h.2 c
    refine Xi.up (pc' := 19) (fun _ _ k => x_bipush dX10_leaves_17 (show inR 7 from ⟨by decide, by decide⟩) (by decide) k) ?_
    exact Xi.ret ⟨dX10_leaves_19, Or.inl rfl⟩ h
set_option maxHeartbeats 4000000 in
set_option maxRecDepth 20000 in
theorem B10_leaves_139 {d : Nat} {K M : ZMem} {Q : Int → ZMem → Prop} (l2 : Int) (l3 : Int) (hK : KW K M) (h0 : ModelAt K 2230) (h : (inR ((mI M 2230 17) + 31)) ∧ (0 ≤ ((mI M 2230 17) + 31)) ∧ (((mI M 2230 17) + 31) < 19245) ∧ Cv d q10_cuts [zr 2230, zi (mI M 2239 ((mI M 2230 17) + 31).toNat)] M (fun M4 => KW K M4 ∧ Xi (d + 1) q10_leaves 155 [some (zr 2230), none, some (zi l2), some (zi l3)] [] M4 Q)) : Xi (d + 1) q10_leaves 139 [some (zr 2230), none, some (zi l2), some (zi l3)] [] M Q := by
  refine Xi.up (pc' := 140) (fun _ _ k => x_aload_n dX10_leaves_139 rfl rfl k) ?_
  refine Xi.up (pc' := 141) (fun _ _ k => x_aload_n dX10_leaves_140 rfl rfl k) ?_
  refine Xi.up (pc' := 144) (fun _ _ k => x_getRK hK lf10_35 rfl dX10_leaves_141 h0.1 h0.2.2.2.2.2.2.2.2.2.1 k) ?_
  refine Xi.up (pc' := 145) (fun _ _ k => x_aload_n dX10_leaves_144 rfl rfl k) ?_
  refine Xi.up (pc' := 148) (fun _ _ k => x_getIK hK lf10_160 rfl dX10_leaves_145 h0.1 k) ?_
  refine Xi.up (pc' := 150) (fun _ _ k => x_bipush dX10_leaves_148 (show inR 31 from ⟨by decide, by decide⟩) (by decide) k) ?_
  obtain ⟨g1, h⟩ := h
  refine Xi.up (pc' := 151) (fun _ _ k => x_iadd dX10_leaves_150 g1 k) ?_
  obtain ⟨g2, h⟩ := h
  obtain ⟨g3, h⟩ := h
  refine Xi.up (pc' := 152) (fun _ _ k => x_ialoadK hK dX10_leaves_151 h0.2.2.2.2.2.2.2.2.2.2.2.2.2.2.2.2.2.2.2.1 g2 g3 k) ?_
  obtain ⟨M4, hc6, hK5, h⟩ := h
  refine Xi.up (pc' := 155) (st' := []) (fun _ _ k => x_callVK (ci := 10) (as := [zi (mI M 2239 ((mI M 2230 17) + 31).toNat)]) (st := []) hK k10_cuts lm10_191 dX10_leaves_152 rfl (by decide) (zs8 rfl) h0.1 ⟨_, _, rfl⟩ hc6 k) ?_
  exact h
set_option maxHeartbeats 4000000 in
set_option maxRecDepth 20000 in
theorem B10_leaves_155 {d : Nat} {K M : ZMem} {Q : Int → ZMem → Prop} (l2 : Int) (l3 : Int) (hK : KW K M) (h0 : ModelAt K 2230) (h : (inR ((mI M 2230 17) + 31)) ∧ (inR (l2 + 1)) ∧ (0 ≤ (l2 + 1)) ∧ ((l2 + 1) < 19245) ∧ (0 ≤ ((mI M 2230 17) + 31)) ∧ (((mI M 2230 17) + 31) < 19245) ∧ Xi (d + 1) q10_leaves 175 [some (zr 2230), none, none, some (zi l3)] [] (sI M 2239 (((mI M 2230 17) + 31).toNat) (mI M 2239 (l2 + 1).toNat)) Q) : Xi (d + 1) q10_leaves 155 [some (zr 2230), none, some (zi l2), some (zi l3)] [] M Q := by
  refine Xi.up (pc' := 156) (fun _ _ k => x_aload_n dX10_leaves_155 rfl rfl k) ?_
  refine Xi.up (pc' := 159) (fun _ _ k => x_getRK hK lf10_35 rfl dX10_leaves_156 h0.1 h0.2.2.2.2.2.2.2.2.2.1 k) ?_
  refine Xi.up (pc' := 160) (fun _ _ k => x_aload_n dX10_leaves_159 rfl rfl k) ?_
  refine Xi.up (pc' := 163) (fun _ _ k => x_getIK hK lf10_160 rfl dX10_leaves_160 h0.1 k) ?_
  refine Xi.up (pc' := 165) (fun _ _ k => x_bipush dX10_leaves_163 (show inR 31 from ⟨by decide, by decide⟩) (by decide) k) ?_
  obtain ⟨g1, h⟩ := h
  refine Xi.up (pc' := 166) (fun _ _ k => x_iadd dX10_leaves_165 g1 k) ?_
  refine Xi.up (pc' := 167) (fun _ _ k => x_aload_n dX10_leaves_166 rfl rfl k) ?_
  refine Xi.up (pc' := 170) (fun _ _ k => x_getRK hK lf10_35 rfl dX10_leaves_167 h0.1 h0.2.2.2.2.2.2.2.2.2.1 k) ?_
  refine Xi.up (pc' := 171) (fun _ _ k => x_iload_n dX10_leaves_170 rfl rfl k) ?_
  refine Xi.up (pc' := 172) (fun _ _ k => x_iconst dX10_leaves_171 (show inR 1 from ⟨by decide, by decide⟩) k) ?_
  obtain ⟨g2, h⟩ := h
  refine Xi.up (pc' := 173) (fun _ _ k => x_iadd dX10_leaves_172 g2 k) ?_
  obtain ⟨g3, h⟩ := h
  obtain ⟨g4, h⟩ := h
  refine Xi.up (pc' := 174) (fun _ _ k => x_ialoadK hK dX10_leaves_173 h0.2.2.2.2.2.2.2.2.2.2.2.2.2.2.2.2.2.2.2.1 g3 g4 k) ?_
  obtain ⟨g5, h⟩ := h
  obtain ⟨g6, h⟩ := h
  refine Xi.up (pc' := 175) (fun _ _ k => x_iastoreK hK dX10_leaves_174 h0.2.2.2.2.2.2.2.2.2.2.2.2.2.2.2.2.2.2.2.1 g5 g6 k) ?_
  have hK7 := KW.sI hK 2239 (((mI M 2230 17) + 31).toNat) (mI M 2239 (l2 + 1).toNat)
  exact Xi.up (fun _ _ k => x_less (L' := [some (zr 2230), none, none, some (zi l3)]) (⟨rfl, ⟨rfl, trivial⟩⟩) k) h
set_option maxHeartbeats 4000000 in
set_option maxRecDepth 20000 in
theorem B10_leaves_175 {d : Nat} {K M : ZMem} {Q : Int → ZMem → Prop} (l3 : Int) (hK : KW K M) (h0 : ModelAt K 2230) (h : (inR ((mI M 2230 17) + 9)) ∧ (0 ≤ ((mI M 2230 17) + 9)) ∧ (((mI M 2230 17) + 9) < 19245) ∧ (inR ((mI M 2239 ((mI M 2230 17) + 9).toNat) - 1)) ∧ (0 ≤ ((mI M 2230 17) + 9)) ∧ (((mI M 2230 17) + 9) < 19245) ∧ (inR ((mI (sI M 2239 (((mI M 2230 17) + 9).toNat) ((mI M 2239 ((mI M 2230 17) + 9).toNat) - 1)) 2230 17) + 8)) ∧ (0 ≤ l3) ∧ (l3 < 70200) ∧ (0 ≤ ((mI (sI M 2239 (((mI M 2230 17) + 9).toNat) ((mI M 2239 ((mI M 2230 17) + 9).toNat) - 1)) 2230 17) + 8)) ∧ (((mI (sI M 2239 (((mI M 2230 17) + 9).toNat) ((mI M 2239 ((mI M 2230 17) + 9).toNat) - 1)) 2230 17) + 8) < 19245) ∧ Q 0 (sI (sI M 2239 (((mI M 2230 17) + 9).toNat) ((mI M 2239 ((mI M 2230 17) + 9).toNat) - 1)) 2239 (((mI (sI M 2239 (((mI M 2230 17) + 9).toNat) ((mI M 2239 ((mI M 2230 17) + 9).toNat) - 1)) 2230 17) + 8).toNat) (mI (sI M 2239 (((mI M 2230 17) + 9).toNat) ((mI M 2239 ((mI M 2230 17) + 9).toNat) - 1)) 2236 l3.toNat))) : Xi (d + 1) q10_leaves 175 [some (zr 2230), none, none, some (zi l3)] [] M Q := by
  refine Xi.up (pc' := 176) (fun _ _ k => x_aload_n dX10_leaves_175 rfl rfl k) ?_
  refine Xi.up (pc' := 179) (fun _ _ k => x_getRK hK lf10_35 rfl dX10_leaves_176 h0.1 h0.2.2.2.2.2.2.2.2.2.1 k) ?_
  refine Xi.up (pc' := 180) (fun _ _ k => x_aload_n dX10_leaves_179 rfl rfl k) ?_
  refine Xi.up (pc' := 183) (fun _ _ k => x_getIK hK lf10_160 rfl dX10_leaves_180 h0.1 k) ?_
  refine Xi.up (pc' := 185) (fun _ _ k => x_bipush dX10_leaves_183 (show inR 9 from ⟨by decide, by decide⟩) (by decide) k) ?_
  obtain ⟨g1, h⟩ := h
  refine Xi.up (pc' := 186) (fun _ _ k => x_iadd dX10_leaves_185 g1 k) ?_
  refine Xi.up (pc' := 187) (fun _ _ k => x_dup2 dX10_leaves_186 k) ?_
  obtain ⟨g2, h⟩ := h
  obtain ⟨g3, h⟩ := h
  refine Xi.up (pc' := 188) (fun _ _ k => x_ialoadK hK dX10_leaves_187 h0.2.2.2.2.2.2.2.2.2.2.2.2.2.2.2.2.2.2.2.1 g2 g3 k) ?_
  refine Xi.up (pc' := 189) (fun _ _ k => x_iconst dX10_leaves_188 (show inR 1 from ⟨by decide, by decide⟩) k) ?_
  obtain ⟨g4, h⟩ := h
  refine Xi.up (pc' := 190) (fun _ _ k => x_isub dX10_leaves_189 g4 k) ?_
  obtain ⟨g5, h⟩ := h
  obtain ⟨g6, h⟩ := h
  refine Xi.up (pc' := 191) (fun _ _ k => x_iastoreK hK dX10_leaves_190 h0.2.2.2.2.2.2.2.2.2.2.2.2.2.2.2.2.2.2.2.1 g5 g6 k) ?_
  have hK7 := KW.sI hK 2239 (((mI M 2230 17) + 9).toNat) ((mI M 2239 ((mI M 2230 17) + 9).toNat) - 1)
  refine Xi.up (pc' := 192) (fun _ _ k => x_aload_n dX10_leaves_191 rfl rfl k) ?_
  refine Xi.up (pc' := 195) (fun _ _ k => x_getRK hK7 lf10_35 rfl dX10_leaves_192 h0.1 h0.2.2.2.2.2.2.2.2.2.1 k) ?_
  refine Xi.up (pc' := 196) (fun _ _ k => x_aload_n dX10_leaves_195 rfl rfl k) ?_
  refine Xi.up (pc' := 199) (fun _ _ k => x_getIK hK7 lf10_160 rfl dX10_leaves_196 h0.1 k) ?_
  refine Xi.up (pc' := 201) (fun _ _ k => x_bipush dX10_leaves_199 (show inR 8 from ⟨by decide, by decide⟩) (by decide) k) ?_
  obtain ⟨g8, h⟩ := h
  refine Xi.up (pc' := 202) (fun _ _ k => x_iadd dX10_leaves_201 g8 k) ?_
  refine Xi.up (pc' := 203) (fun _ _ k => x_aload_n dX10_leaves_202 rfl rfl k) ?_
  refine Xi.up (pc' := 206) (fun _ _ k => x_getRK hK7 lf10_26 rfl dX10_leaves_203 h0.1 h0.2.2.2.2.2.2.1 k) ?_
  refine Xi.up (pc' := 207) (fun _ _ k => x_iload_n dX10_leaves_206 rfl rfl k) ?_
  obtain ⟨g9, h⟩ := h
  obtain ⟨g10, h⟩ := h
  refine Xi.up (pc' := 208) (fun _ _ k => x_ialoadK hK7 dX10_leaves_207 h0.2.2.2.2.2.2.2.2.2.2.2.2.2.2.2.2.1 g9 g10 k) ?_
  obtain ⟨g11, h⟩ := h
  obtain ⟨g12, h⟩ := h
  refine Xi.up (pc' := 209) (fun _ _ k => x_iastoreK hK7 dX10_leaves_208 h0.2.2.2.2.2.2.2.2.2.2.2.2.2.2.2.2.2.2.2.1 g11 g12 k) ?_
  have hK13 := KW.sI hK7 2239 (((mI (sI M 2239 (((mI M 2230 17) + 9).toNat) ((mI M 2239 ((mI M 2230 17) + 9).toNat) - 1)) 2230 17) + 8).toNat) (mI (sI M 2239 (((mI M 2230 17) + 9).toNat) ((mI M 2239 ((mI M 2230 17) + 9).toNat) - 1)) 2236 l3.toNat)
  refine Xi.up (pc' := 210) (fun _ _ k => x_iconst dX10_leaves_209 (show inR 0 from ⟨by decide, by decide⟩) k) ?_
  exact Xi.ret ⟨dX10_leaves_210, Or.inl rfl⟩ h
set_option maxHeartbeats 4000000 in
set_option maxRecDepth 20000 in
theorem B10_move {d : Nat} {K M : ZMem} {Q : Int → ZMem → Prop}  (hK : KW K M) (h0 : ModelAt K 2230) (h : (inR ((mI M 2230 17) + 8)) ∧ (0 ≤ ((mI M 2230 17) + 8)) ∧ (((mI M 2230 17) + 8) < 19245) ∧ (((mI M 2239 ((mI M 2230 17) + 8).toNat) ≠ (-1) → (Ci d q10_mayStep [zr 2230] M (fun x5 M4 => KW K M4 ∧ ((x5 ≠ 0 → ((0 ≤ (mI M 2239 ((mI M 2230 17) + 8).toNat)) ∧ ((mI M 2239 ((mI M 2230 17) + 8).toNat) < 70200) ∧ (((mI M4 2232 (mI M 2239 ((mI M 2230 17) + 8).toNat).toNat) = 7 → ((0 ≤ (mI M 2239 ((mI M 2230 17) + 8).toNat)) ∧ ((mI M 2239 ((mI M 2230 17) + 8).toNat) < 70200) ∧ Ci d q10_works [zr 2230, zi (mI (sI M4 2230 19 1) 2230 17), zi (mI (sI M4 2230 19 1) 2234 (mI M 2239 ((mI M 2230 17) + 8).toNat).toNat)] (sI M4 2230 19 1) (fun x14 M13 => KW K M13 ∧ (((mI M13 2230 19) = 0 → (Ci d q10_goesBehind [zr 2230, zi (mI M 2239 ((mI M 2230 17) + 8).toNat), zi (mI M13 2230 19)] M13 (fun x18 M17 => KW K M17 ∧ Q x18 M17))) ∧ (¬ ((mI M13 2230 19) = 0) → ((0 ≤ (mI M 2239 ((mI M 2230 17) + 8).toNat)) ∧ ((mI M 2239 ((mI M 2230 17) + 8).toNat) < 70200) ∧ (inR ((mI M13 2230 17) + (mI M13 2233 (mI M 2239 ((mI M 2230 17) + 8).toNat).toNat))) ∧ (0 ≤ ((mI M13 2230 17) + (mI M13 2233 (mI M 2239 ((mI M 2230 17) + 8).toNat).toNat))) ∧ (((mI M13 2230 17) + (mI M13 2233 (mI M 2239 ((mI M 2230 17) + 8).toNat).toNat)) < 19245) ∧ Ci d q10_goesBehind [zr 2230, zi (mI M 2239 ((mI M 2230 17) + 8).toNat), zi (mI (sI M13 2239 (((mI M13 2230 17) + (mI M13 2233 (mI M 2239 ((mI M 2230 17) + 8).toNat).toNat)).toNat) x14) 2230 19)] (sI M13 2239 (((mI M13 2230 17) + (mI M13 2233 (mI M 2239 ((mI M 2230 17) + 8).toNat).toNat)).toNat) x14) (fun x28 M27 => KW K M27 ∧ Q x28 M27))))))) ∧ ((mI M4 2232 (mI M 2239 ((mI M 2230 17) + 8).toNat).toNat) = 10 → (Ci d q10_isSo [zr 2230, zi (mI M 2239 ((mI M 2230 17) + 8).toNat)] M4 (fun x32 M31 => KW K M31 ∧ Ci d q10_goesBehind [zr 2230, zi (mI M 2239 ((mI M 2230 17) + 8).toNat), zi x32] M31 (fun x36 M35 => KW K M35 ∧ Q x36 M35)))) ∧ ((mI M4 2232 (mI M 2239 ((mI M 2230 17) + 8).toNat).toNat) = 13 → ((0 ≤ (mI M 2239 ((mI M 2230 17) + 8).toNat)) ∧ ((mI M 2239 ((mI M 2230 17) + 8).toNat) < 70200) ∧ Cv d q10_enters [zr 2230, zi (mI M 2239 ((mI M 2230 17) + 8).toNat), zi (mI M4 2233 (mI M 2239 ((mI M 2230 17) + 8).toNat).toNat), zi 0] M4 (fun M41 => KW K M41 ∧ Q 0 M41))) ∧ ((mI M4 2232 (mI M 2239 ((mI M 2230 17) + 8).toNat).toNat) = 14 → (Ci d q10_level [zr 2230] M4 (fun x45 M44 => KW K M44 ∧ (inR (x45 + 1)) ∧ Cv d q10_atLevel [zr 2230, zi (x45 + 1)] M44 (fun M49 => KW K M49 ∧ (0 ≤ (mI M4 2230 17)) ∧ (0 ≤ (mI M49 2230 17)) ∧ ((mI M4 2230 17) + 35 ≤ 19245) ∧ ((mI M49 2230 17) + 35 ≤ 19245) ∧ (0 ≤ (mI M 2239 ((mI M 2230 17) + 8).toNat)) ∧ ((mI M 2239 ((mI M 2230 17) + 8).toNat) < 70200) ∧ Cv d q10_begins [zr 2230, zi (mI (sA M49 2239 (zCpy (mI M49 2239) (mI M49 2239) (mI M4 2230 17).toNat (mI M49 2230 17).toNat 35)) 2233 (mI M 2239 ((mI M 2230 17) + 8).toNat).toNat)] (sA M49 2239 (zCpy (mI M49 2239) (mI M49 2239) (mI M4 2230 17).toNat (mI M49 2230 17).toNat 35)) (fun M59 => KW K M59 ∧ Q 0 M59))))) ∧ ((mI M4 2232 (mI M 2239 ((mI M 2230 17) + 8).toNat).toNat) = 15 → ((inR ((mI M4 2230 17) + 31)) ∧ (0 ≤ ((mI M4 2230 17) + 31)) ∧ (((mI M4 2230 17) + 31) < 19245) ∧ Cv d q10_cuts [zr 2230, zi (mI M4 2239 ((mI M4 2230 17) + 31).toNat)] M4 (fun M65 => KW K M65 ∧ Ci d q10_goesBehind [zr 2230, zi (mI M 2239 ((mI M 2230 17) + 8).toNat), zi 1] M65 (fun x69 M68 => KW K M68 ∧ Q x69 M68)))) ∧ ((mI M4 2232 (mI M 2239 ((mI M 2230 17) + 8).toNat).toNat) = 16 → ((0 ≤ (mI M 2239 ((mI M 2230 17) + 8).toNat)) ∧ ((mI M 2239 ((mI M 2230 17) + 8).toNat) < 70200) ∧ (0 ≤ (mI M 2239 ((mI M 2230 17) + 8).toNat)) ∧ ((mI M 2239 ((mI M 2230 17) + 8).toNat) < 70200) ∧ (inR ((mI M4 2233 (mI M 2239 ((mI M 2230 17) + 8).toNat).toNat) - 1)) ∧ Cv d q10_enters [zr 2230, zi (mI M 2239 ((mI M 2230 17) + 8).toNat), zi (mI M4 2234 (mI M 2239 ((mI M 2230 17) + 8).toNat).toNat), zi ((mI M4 2233 (mI M 2239 ((mI M 2230 17) + 8).toNat).toNat) - 1)] M4 (fun M77 => KW K M77 ∧ Q 0 M77))) ∧ ((mI M4 2232 (mI M 2239 ((mI M 2230 17) + 8).toNat).toNat) < 7 ∨ 16 < (mI M4 2232 (mI M 2239 ((mI M 2230 17) + 8).toNat).toNat) ∨ (mI M4 2232 (mI M 2239 ((mI M 2230 17) + 8).toNat).toNat) = 8 ∨ (mI M4 2232 (mI M 2239 ((mI M 2230 17) + 8).toNat).toNat) = 9 ∨ (mI M4 2232 (mI M 2239 ((mI M 2230 17) + 8).toNat).toNat) = 11 ∨ (mI M4 2232 (mI M 2239 ((mI M 2230 17) + 8).toNat).toNat) = 12 → (Ci d q10_makes [zr 2230, zi (mI M 2239 ((mI M 2230 17) + 8).toNat)] M4 (fun x81 M80 => KW K M80 ∧ Q x81 M80)))))) ∧ (¬ (x5 ≠ 0) → (Q 2 M4)))))) ∧ (¬ ((mI M 2239 ((mI M 2230 17) + 8).toNat) ≠ (-1)) → (Ci d q10_leaves [zr 2230] M (fun x85 M84 => KW K M84 ∧ Q x85 M84))))) : Ci (d + 1) q10_move [zr 2230] M Q := by
  refine Ci.of rfl rfl (Nat.le_of_ble_eq_true rfl) (fun w hw x e => by subst e; simp at hw) (L := [some (zr 2230), none, none, none]) rfl ?_
  refine Xi.up (pc' := 1) (fun _ _ k => x_aload_n dX10_move_0 rfl rfl k) ?_
  refine Xi.up (pc' := 4) (fun _ _ k => x_getRK hK lf10_35 rfl dX10_move_1 h0.1 h0.2.2.2.2.2.2.2.2.2.1 k) ?_
  refine Xi.up (pc' := 5) (fun _ _ k => x_aload_n dX10_move_4 rfl rfl k) ?_
  refine Xi.up (pc' := 8) (fun _ _ k => x_getIK hK lf10_160 rfl dX10_move_5 h0.1 k) ?_
  refine Xi.up (pc' := 10) (fun _ _ k => x_bipush dX10_move_8 (show inR 8 from ⟨by decide, by decide⟩) (by decide) k) ?_
  obtain ⟨g1, h⟩ := h
  refine Xi.up (pc' := 11) (fun _ _ k => x_iadd dX10_move_10 g1 k) ?_
  obtain ⟨g2, h⟩ := h
  obtain ⟨g3, h⟩ := h
  refine Xi.up (pc' := 12) (fun _ _ k => x_ialoadK hK dX10_move_11 h0.2.2.2.2.2.2.2.2.2.2.2.2.2.2.2.2.2.2.2.1 g2 g3 k) ?_
  refine Xi.up (pc' := 13) (L' := [some (zr 2230), some (zi (mI M 2239 ((mI M 2230 17) + 8).toNat)), none, none]) (fun _ _ k => x_istore_n dX10_move_12 rfl (by decide) rfl k) ?_
  refine Xi.up (pc' := 14) (fun _ _ k => x_iload_n dX10_move_13 rfl rfl k) ?_
  refine Xi.up (pc' := 15) (fun _ _ k => x_iconst dX10_move_14 (show inR (-1) from ⟨by decide, by decide⟩) k) ?_
  refine Xi.br (tgt := 23) (pc' := 18) ((mI M 2239 ((mI M 2230 17) + 8).toNat) ≠ (-1)) (fun _ _ kt kf => x_icmp_ne dX10_move_15 rfl kt kf) (fun c => ?_) (fun c => ?_)
  · have h := h.1 c
    refine Xi.up (pc' := 24) (fun _ _ k => x_aload_n dX10_move_23 rfl rfl k) ?_
    obtain ⟨x5, M4, hc7, hK6, h⟩ := h
    refine Xi.up (pc' := 27) (st' := [zi x5]) (fun _ _ k => x_callVK (ci := 10) (as := []) (st := []) hK k10_mayStep lm10_188 dX10_move_24 rfl (by decide) (zs8 rfl) h0.1 ⟨_, _, rfl⟩ hc7 k) ?_
    refine Xi.br (tgt := 32) (pc' := 30) (x5 ≠ 0) (fun _ _ kt kf => x_if_ne dX10_move_27 rfl kt kf) (fun c => ?_) (fun c => ?_)
    · have h := h.1 c
      refine Xi.up (pc' := 33) (fun _ _ k => x_aload_n dX10_move_32 rfl rfl k) ?_
      refine Xi.up (pc' := 36) (fun _ _ k => x_getRK hK6 lf10_14 rfl dX10_move_33 h0.1 h0.2.2.1 k) ?_
      refine Xi.up (pc' := 37) (fun _ _ k => x_iload_n dX10_move_36 rfl rfl k) ?_
      obtain ⟨g8, h⟩ := h
      obtain ⟨g9, h⟩ := h
      refine Xi.up (pc' := 38) (fun _ _ k => x_ialoadK hK6 dX10_move_37 h0.2.2.2.2.2.2.2.2.2.2.2.2.1 g8 g9 k) ?_
      by_cases c : (mI M4 2232 (mI M 2239 ((mI M 2230 17) + 8).toNat).toNat) < 7 ∨ 16 < (mI M4 2232 (mI M 2239 ((mI M 2230 17) + 8).toNat).toNat)
      · refine Xi.up (pc' := 260) (fun _ _ k => x_tsOut dX10_move_38 c rfl k) ?_
        have h := h.2.2.2.2.2.2 (by omega)
        refine Xi.up (pc' := 261) (fun _ _ k => x_aload_n dX10_move_260 rfl rfl k) ?_
        refine Xi.up (pc' := 262) (fun _ _ k => x_iload_n dX10_move_261 rfl rfl k) ?_
        obtain ⟨x81, M80, hc83, hK82, h⟩ := h
        refine Xi.up (pc' := 265) (st' := [zi x81]) (fun _ _ k => x_callVK (ci := 10) (as := [zi (mI M 2239 ((mI M 2230 17) + 8).toNat)]) (st := []) hK6 k10_makes lm10_214 dX10_move_262 rfl (by decide) (zs8 rfl) h0.1 ⟨_, _, rfl⟩ hc83 k) ?_
        exact Xi.ret ⟨dX10_move_265, Or.inl rfl⟩ h
      · rcases (show (mI M4 2232 (mI M 2239 ((mI M 2230 17) + 8).toNat).toNat) = 7 ∨ (mI M4 2232 (mI M 2239 ((mI M 2230 17) + 8).toNat).toNat) = 8 ∨ (mI M4 2232 (mI M 2239 ((mI M 2230 17) + 8).toNat).toNat) = 9 ∨ (mI M4 2232 (mI M 2239 ((mI M 2230 17) + 8).toNat).toNat) = 10 ∨ (mI M4 2232 (mI M 2239 ((mI M 2230 17) + 8).toNat).toNat) = 11 ∨ (mI M4 2232 (mI M 2239 ((mI M 2230 17) + 8).toNat).toNat) = 12 ∨ (mI M4 2232 (mI M 2239 ((mI M 2230 17) + 8).toNat).toNat) = 13 ∨ (mI M4 2232 (mI M 2239 ((mI M 2230 17) + 8).toNat).toNat) = 14 ∨ (mI M4 2232 (mI M 2239 ((mI M 2230 17) + 8).toNat).toNat) = 15 ∨ (mI M4 2232 (mI M 2239 ((mI M 2230 17) + 8).toNat).toNat) = 16 by omega) with c | c | c | c | c | c | c | c | c | c
        · refine Xi.up (pc' := 92) (fun _ _ k => x_tsIn (x := (mI M4 2232 (mI M 2239 ((mI M 2230 17) + 8).toNat).toNat)) (i := 0) dX10_move_38 (by omega) (by decide) rfl rfl k) ?_
          have h := h.1 (by omega)
          refine Xi.up (pc' := 93) (fun _ _ k => x_aload_n dX10_move_92 rfl rfl k) ?_
          refine Xi.up (pc' := 94) (fun _ _ k => x_iconst dX10_move_93 (show inR 1 from ⟨by decide, by decide⟩) k) ?_
          refine Xi.up (pc' := 97) (fun _ _ k => x_putIK hK6 lf10_148 rfl rfl (Or.inr (Or.inr rfl)) dX10_move_94 h0.1 k) ?_
          have hK10 := KW.sI hK6 2230 19 1
          refine Xi.up (pc' := 98) (fun _ _ k => x_aload_n dX10_move_97 rfl rfl k) ?_
          refine Xi.up (pc' := 99) (fun _ _ k => x_aload_n dX10_move_98 rfl rfl k) ?_
          refine Xi.up (pc' := 102) (fun _ _ k => x_getIK hK10 lf10_160 rfl dX10_move_99 h0.1 k) ?_
          refine Xi.up (pc' := 103) (fun _ _ k => x_aload_n dX10_move_102 rfl rfl k) ?_
          refine Xi.up (pc' := 106) (fun _ _ k => x_getRK hK10 lf10_20 rfl dX10_move_103 h0.1 h0.2.2.2.2.1 k) ?_
          refine Xi.up (pc' := 107) (fun _ _ k => x_iload_n dX10_move_106 rfl rfl k) ?_
          obtain ⟨g11, h⟩ := h
          obtain ⟨g12, h⟩ := h
          refine Xi.up (pc' := 108) (fun _ _ k => x_ialoadK hK10 dX10_move_107 h0.2.2.2.2.2.2.2.2.2.2.2.2.2.2.1 g11 g12 k) ?_
          obtain ⟨x14, M13, hc16, hK15, h⟩ := h
          refine Xi.up (pc' := 111) (st' := [zi x14]) (fun _ _ k => x_callVK (ci := 10) (as := [zi (mI (sI M4 2230 19 1) 2230 17), zi (mI (sI M4 2230 19 1) 2234 (mI M 2239 ((mI M 2230 17) + 8).toNat).toNat)]) (st := []) hK10 k10_works lm10_145 dX10_move_108 rfl (by decide) (zs8 rfl) h0.1 ⟨_, _, rfl⟩ hc16 k) ?_
          refine Xi.up (pc' := 112) (L' := [some (zr 2230), some (zi (mI M 2239 ((mI M 2230 17) + 8).toNat)), some (zi x14), none]) (fun _ _ k => x_istore_n dX10_move_111 rfl (by decide) rfl k) ?_
          refine Xi.up (pc' := 113) (fun _ _ k => x_aload_n dX10_move_112 rfl rfl k) ?_
          refine Xi.up (pc' := 116) (fun _ _ k => x_getIK hK15 lf10_148 rfl dX10_move_113 h0.1 k) ?_
          refine Xi.br (tgt := 136) (pc' := 119) ((mI M13 2230 19) = 0) (fun _ _ kt kf => x_if_eq dX10_move_116 rfl kt kf) (fun c => ?_) (fun c => ?_)
          · have h := h.1 c
            refine Xi.up (pc' := 137) (fun _ _ k => x_aload_n dX10_move_136 rfl rfl k) ?_
            refine Xi.up (pc' := 138) (fun _ _ k => x_iload_n dX10_move_137 rfl rfl k) ?_
            refine Xi.up (pc' := 139) (fun _ _ k => x_aload_n dX10_move_138 rfl rfl k) ?_
            refine Xi.up (pc' := 142) (fun _ _ k => x_getIK hK15 lf10_148 rfl dX10_move_139 h0.1 k) ?_
            obtain ⟨x18, M17, hc20, hK19, h⟩ := h
            refine Xi.up (pc' := 145) (st' := [zi x18]) (fun _ _ k => x_callVK (ci := 10) (as := [zi (mI M 2239 ((mI M 2230 17) + 8).toNat), zi (mI M13 2230 19)]) (st := []) hK15 k10_goesBehind lm10_197 dX10_move_142 rfl (by decide) (zs8 rfl) h0.1 ⟨_, _, rfl⟩ hc20 k) ?_
            exact Xi.ret ⟨dX10_move_145, Or.inl rfl⟩ h
          · have h := h.2 c
            refine Xi.up (pc' := 120) (fun _ _ k => x_aload_n dX10_move_119 rfl rfl k) ?_
            refine Xi.up (pc' := 123) (fun _ _ k => x_getRK hK15 lf10_35 rfl dX10_move_120 h0.1 h0.2.2.2.2.2.2.2.2.2.1 k) ?_
            refine Xi.up (pc' := 124) (fun _ _ k => x_aload_n dX10_move_123 rfl rfl k) ?_
            refine Xi.up (pc' := 127) (fun _ _ k => x_getIK hK15 lf10_160 rfl dX10_move_124 h0.1 k) ?_
            refine Xi.up (pc' := 128) (fun _ _ k => x_aload_n dX10_move_127 rfl rfl k) ?_
            refine Xi.up (pc' := 131) (fun _ _ k => x_getRK hK15 lf10_17 rfl dX10_move_128 h0.1 h0.2.2.2.1 k) ?_
            refine Xi.up (pc' := 132) (fun _ _ k => x_iload_n dX10_move_131 rfl rfl k) ?_
            obtain ⟨g21, h⟩ := h
            obtain ⟨g22, h⟩ := h
            refine Xi.up (pc' := 133) (fun _ _ k => x_ialoadK hK15 dX10_move_132 h0.2.2.2.2.2.2.2.2.2.2.2.2.2.1 g21 g22 k) ?_
            obtain ⟨g23, h⟩ := h
            refine Xi.up (pc' := 134) (fun _ _ k => x_iadd dX10_move_133 g23 k) ?_
            refine Xi.up (pc' := 135) (fun _ _ k => x_iload_n dX10_move_134 rfl rfl k) ?_
            obtain ⟨g24, h⟩ := h
            obtain ⟨g25, h⟩ := h
            refine Xi.up (pc' := 136) (fun _ _ k => x_iastoreK hK15 dX10_move_135 h0.2.2.2.2.2.2.2.2.2.2.2.2.2.2.2.2.2.2.2.1 g24 g25 k) ?_
            have hK26 := KW.sI hK15 2239 (((mI M13 2230 17) + (mI M13 2233 (mI M 2239 ((mI M 2230 17) + 8).toNat).toNat)).toNat) x14
            refine Xi.up (pc' := 137) (fun _ _ k => x_aload_n dX10_move_136 rfl rfl k) ?_
            refine Xi.up (pc' := 138) (fun _ _ k => x_iload_n dX10_move_137 rfl rfl k) ?_
            refine Xi.up (pc' := 139) (fun _ _ k => x_aload_n dX10_move_138 rfl rfl k) ?_
            refine Xi.up (pc' := 142) (fun _ _ k => x_getIK hK26 lf10_148 rfl dX10_move_139 h0.1 k) ?_
            obtain ⟨x28, M27, hc30, hK29, h⟩ := h
            refine Xi.up (pc' := 145) (st' := [zi x28]) (fun _ _ k => x_callVK (ci := 10) (as := [zi (mI M 2239 ((mI M 2230 17) + 8).toNat), zi (mI (sI M13 2239 (((mI M13 2230 17) + (mI M13 2233 (mI M 2239 ((mI M 2230 17) + 8).toNat).toNat)).toNat) x14) 2230 19)]) (st := []) hK26 k10_goesBehind lm10_197 dX10_move_142 rfl (by decide) (zs8 rfl) h0.1 ⟨_, _, rfl⟩ hc30 k) ?_
            exact Xi.ret ⟨dX10_move_145, Or.inl rfl⟩ h
        · refine Xi.up (pc' := 260) (fun _ _ k => x_tsIn (x := (mI M4 2232 (mI M 2239 ((mI M 2230 17) + 8).toNat).toNat)) (i := 1) dX10_move_38 (by omega) (by decide) rfl rfl k) ?_
          have h := h.2.2.2.2.2.2 (by omega)
          refine Xi.up (pc' := 261) (fun _ _ k => x_aload_n dX10_move_260 rfl rfl k) ?_
          refine Xi.up (pc' := 262) (fun _ _ k => x_iload_n dX10_move_261 rfl rfl k) ?_
          obtain ⟨x81, M80, hc83, hK82, h⟩ := h
          refine Xi.up (pc' := 265) (st' := [zi x81]) (fun _ _ k => x_callVK (ci := 10) (as := [zi (mI M 2239 ((mI M 2230 17) + 8).toNat)]) (st := []) hK6 k10_makes lm10_214 dX10_move_262 rfl (by decide) (zs8 rfl) h0.1 ⟨_, _, rfl⟩ hc83 k) ?_
          exact Xi.ret ⟨dX10_move_265, Or.inl rfl⟩ h
        · refine Xi.up (pc' := 260) (fun _ _ k => x_tsIn (x := (mI M4 2232 (mI M 2239 ((mI M 2230 17) + 8).toNat).toNat)) (i := 2) dX10_move_38 (by omega) (by decide) rfl rfl k) ?_
          have h := h.2.2.2.2.2.2 (by omega)
          refine Xi.up (pc' := 261) (fun _ _ k => x_aload_n dX10_move_260 rfl rfl k) ?_
          refine Xi.up (pc' := 262) (fun _ _ k => x_iload_n dX10_move_261 rfl rfl k) ?_
          obtain ⟨x81, M80, hc83, hK82, h⟩ := h
          refine Xi.up (pc' := 265) (st' := [zi x81]) (fun _ _ k => x_callVK (ci := 10) (as := [zi (mI M 2239 ((mI M 2230 17) + 8).toNat)]) (st := []) hK6 k10_makes lm10_214 dX10_move_262 rfl (by decide) (zs8 rfl) h0.1 ⟨_, _, rfl⟩ hc83 k) ?_
          exact Xi.ret ⟨dX10_move_265, Or.inl rfl⟩ h
        · refine Xi.up (pc' := 146) (fun _ _ k => x_tsIn (x := (mI M4 2232 (mI M 2239 ((mI M 2230 17) + 8).toNat).toNat)) (i := 3) dX10_move_38 (by omega) (by decide) rfl rfl k) ?_
          have h := h.2.1 (by omega)
          refine Xi.up (pc' := 147) (fun _ _ k => x_aload_n dX10_move_146 rfl rfl k) ?_
          refine Xi.up (pc' := 148) (fun _ _ k => x_iload_n dX10_move_147 rfl rfl k) ?_
          refine Xi.up (pc' := 149) (fun _ _ k => x_aload_n dX10_move_148 rfl rfl k) ?_
          refine Xi.up (pc' := 150) (fun _ _ k => x_iload_n dX10_move_149 rfl rfl k) ?_
          obtain ⟨x32, M31, hc34, hK33, h⟩ := h
          refine Xi.up (pc' := 153) (st' := [zi x32, zi (mI M 2239 ((mI M 2230 17) + 8).toNat), zr 2230]) (fun _ _ k => x_callVK (ci := 10) (as := [zi (mI M 2239 ((mI M 2230 17) + 8).toNat)]) (st := [zi (mI M 2239 ((mI M 2230 17) + 8).toNat), zr 2230]) hK6 k10_isSo lm10_201 dX10_move_150 rfl (by decide) (zs8 rfl) h0.1 ⟨_, _, rfl⟩ hc34 k) ?_
          obtain ⟨x36, M35, hc38, hK37, h⟩ := h
          refine Xi.up (pc' := 156) (st' := [zi x36]) (fun _ _ k => x_callVK (ci := 10) (as := [zi (mI M 2239 ((mI M 2230 17) + 8).toNat), zi x32]) (st := []) hK33 k10_goesBehind lm10_197 dX10_move_153 rfl (by decide) (zs8 rfl) h0.1 ⟨_, _, rfl⟩ hc38 k) ?_
          exact Xi.ret ⟨dX10_move_156, Or.inl rfl⟩ h
        · refine Xi.up (pc' := 260) (fun _ _ k => x_tsIn (x := (mI M4 2232 (mI M 2239 ((mI M 2230 17) + 8).toNat).toNat)) (i := 4) dX10_move_38 (by omega) (by decide) rfl rfl k) ?_
          have h := h.2.2.2.2.2.2 (by omega)
          refine Xi.up (pc' := 261) (fun _ _ k => x_aload_n dX10_move_260 rfl rfl k) ?_
          refine Xi.up (pc' := 262) (fun _ _ k => x_iload_n dX10_move_261 rfl rfl k) ?_
          obtain ⟨x81, M80, hc83, hK82, h⟩ := h
          refine Xi.up (pc' := 265) (st' := [zi x81]) (fun _ _ k => x_callVK (ci := 10) (as := [zi (mI M 2239 ((mI M 2230 17) + 8).toNat)]) (st := []) hK6 k10_makes lm10_214 dX10_move_262 rfl (by decide) (zs8 rfl) h0.1 ⟨_, _, rfl⟩ hc83 k) ?_
          exact Xi.ret ⟨dX10_move_265, Or.inl rfl⟩ h
        · refine Xi.up (pc' := 260) (fun _ _ k => x_tsIn (x := (mI M4 2232 (mI M 2239 ((mI M 2230 17) + 8).toNat).toNat)) (i := 5) dX10_move_38 (by omega) (by decide) rfl rfl k) ?_
          have h := h.2.2.2.2.2.2 (by omega)
          refine Xi.up (pc' := 261) (fun _ _ k => x_aload_n dX10_move_260 rfl rfl k) ?_
          refine Xi.up (pc' := 262) (fun _ _ k => x_iload_n dX10_move_261 rfl rfl k) ?_
          obtain ⟨x81, M80, hc83, hK82, h⟩ := h
          refine Xi.up (pc' := 265) (st' := [zi x81]) (fun _ _ k => x_callVK (ci := 10) (as := [zi (mI M 2239 ((mI M 2230 17) + 8).toNat)]) (st := []) hK6 k10_makes lm10_214 dX10_move_262 rfl (by decide) (zs8 rfl) h0.1 ⟨_, _, rfl⟩ hc83 k) ?_
          exact Xi.ret ⟨dX10_move_265, Or.inl rfl⟩ h
        · refine Xi.up (pc' := 180) (fun _ _ k => x_tsIn (x := (mI M4 2232 (mI M 2239 ((mI M 2230 17) + 8).toNat).toNat)) (i := 6) dX10_move_38 (by omega) (by decide) rfl rfl k) ?_
          have h := h.2.2.1 (by omega)
          refine Xi.up (pc' := 181) (fun _ _ k => x_aload_n dX10_move_180 rfl rfl k) ?_
          refine Xi.up (pc' := 182) (fun _ _ k => x_iload_n dX10_move_181 rfl rfl k) ?_
          refine Xi.up (pc' := 183) (fun _ _ k => x_aload_n dX10_move_182 rfl rfl k) ?_
          refine Xi.up (pc' := 186) (fun _ _ k => x_getRK hK6 lf10_17 rfl dX10_move_183 h0.1 h0.2.2.2.1 k) ?_
          refine Xi.up (pc' := 187) (fun _ _ k => x_iload_n dX10_move_186 rfl rfl k) ?_
          obtain ⟨g39, h⟩ := h
          obtain ⟨g40, h⟩ := h
          refine Xi.up (pc' := 188) (fun _ _ k => x_ialoadK hK6 dX10_move_187 h0.2.2.2.2.2.2.2.2.2.2.2.2.2.1 g39 g40 k) ?_
          refine Xi.up (pc' := 189) (fun _ _ k => x_iconst dX10_move_188 (show inR 0 from ⟨by decide, by decide⟩) k) ?_
          obtain ⟨M41, hc43, hK42, h⟩ := h
          refine Xi.up (pc' := 192) (st' := []) (fun _ _ k => x_callVK (ci := 10) (as := [zi (mI M 2239 ((mI M 2230 17) + 8).toNat), zi (mI M4 2233 (mI M 2239 ((mI M 2230 17) + 8).toNat).toNat), zi 0]) (st := []) hK6 k10_enters lm10_204 dX10_move_189 rfl (by decide) (zs8 rfl) h0.1 ⟨_, _, rfl⟩ hc43 k) ?_
          refine Xi.up (pc' := 193) (fun _ _ k => x_iconst dX10_move_192 (show inR 0 from ⟨by decide, by decide⟩) k) ?_
          exact Xi.ret ⟨dX10_move_193, Or.inl rfl⟩ h
        · refine Xi.up (pc' := 215) (fun _ _ k => x_tsIn (x := (mI M4 2232 (mI M 2239 ((mI M 2230 17) + 8).toNat).toNat)) (i := 7) dX10_move_38 (by omega) (by decide) rfl rfl k) ?_
          have h := h.2.2.2.1 (by omega)
          refine Xi.up (pc' := 216) (fun _ _ k => x_aload_n dX10_move_215 rfl rfl k) ?_
          refine Xi.up (pc' := 219) (fun _ _ k => x_getIK hK6 lf10_160 rfl dX10_move_216 h0.1 k) ?_
          refine Xi.up (pc' := 220) (L' := [some (zr 2230), some (zi (mI M 2239 ((mI M 2230 17) + 8).toNat)), none, some (zi (mI M4 2230 17))]) (fun _ _ k => x_istore_n dX10_move_219 rfl (by decide) rfl k) ?_
          refine Xi.up (pc' := 221) (fun _ _ k => x_aload_n dX10_move_220 rfl rfl k) ?_
          refine Xi.up (pc' := 222) (fun _ _ k => x_aload_n dX10_move_221 rfl rfl k) ?_
          obtain ⟨x45, M44, hc47, hK46, h⟩ := h
          refine Xi.up (pc' := 225) (st' := [zi x45, zr 2230]) (fun _ _ k => x_callVK (ci := 10) (as := []) (st := [zr 2230]) hK6 k10_level lm10_166 dX10_move_222 rfl (by decide) (zs8 rfl) h0.1 ⟨_, _, rfl⟩ hc47 k) ?_
          refine Xi.up (pc' := 226) (fun _ _ k => x_iconst dX10_move_225 (show inR 1 from ⟨by decide, by decide⟩) k) ?_
          obtain ⟨g48, h⟩ := h
          refine Xi.up (pc' := 227) (fun _ _ k => x_iadd dX10_move_226 g48 k) ?_
          obtain ⟨M49, hc51, hK50, h⟩ := h
          refine Xi.up (pc' := 230) (st' := []) (fun _ _ k => x_callVK (ci := 10) (as := [zi (x45 + 1)]) (st := []) hK46 k10_atLevel lm10_208 dX10_move_227 rfl (by decide) (zs8 rfl) h0.1 ⟨_, _, rfl⟩ hc51 k) ?_
          refine Xi.up (pc' := 231) (fun _ _ k => x_aload_n dX10_move_230 rfl rfl k) ?_
          refine Xi.up (pc' := 234) (fun _ _ k => x_getRK hK50 lf10_35 rfl dX10_move_231 h0.1 h0.2.2.2.2.2.2.2.2.2.1 k) ?_
          refine Xi.up (pc' := 235) (fun _ _ k => x_iload_n dX10_move_234 rfl rfl k) ?_
          refine Xi.up (pc' := 236) (fun _ _ k => x_aload_n dX10_move_235 rfl rfl k) ?_
          refine Xi.up (pc' := 239) (fun _ _ k => x_getRK hK50 lf10_35 rfl dX10_move_236 h0.1 h0.2.2.2.2.2.2.2.2.2.1 k) ?_
          refine Xi.up (pc' := 240) (fun _ _ k => x_aload_n dX10_move_239 rfl rfl k) ?_
          refine Xi.up (pc' := 243) (fun _ _ k => x_getIK hK50 lf10_160 rfl dX10_move_240 h0.1 k) ?_
          refine Xi.up (pc' := 245) (fun _ _ k => x_bipush dX10_move_243 (show inR 35 from ⟨by decide, by decide⟩) (by decide) k) ?_
          obtain ⟨g52, h⟩ := h
          obtain ⟨g53, h⟩ := h
          obtain ⟨g54, h⟩ := h
          obtain ⟨g55, h⟩ := h
          refine Xi.up (pc' := 248) (fun _ _ k => x_copyK hK50 la10_173 dX10_move_245 h0.2.2.2.2.2.2.2.2.2.2.2.2.2.2.2.2.2.2.2.1 h0.2.2.2.2.2.2.2.2.2.2.2.2.2.2.2.2.2.2.2.1 g52 g53 (by decide) g54 g55 k) ?_
          have hK56 := KW.sA hK50 2239 (zCpy (mI M49 2239) (mI M49 2239) (mI M4 2230 17).toNat (mI M49 2230 17).toNat 35)
          refine Xi.up (pc' := 249) (fun _ _ k => x_aload_n dX10_move_248 rfl rfl k) ?_
          refine Xi.up (pc' := 250) (fun _ _ k => x_aload_n dX10_move_249 rfl rfl k) ?_
          refine Xi.up (pc' := 253) (fun _ _ k => x_getRK hK56 lf10_17 rfl dX10_move_250 h0.1 h0.2.2.2.1 k) ?_
          refine Xi.up (pc' := 254) (fun _ _ k => x_iload_n dX10_move_253 rfl rfl k) ?_
          obtain ⟨g57, h⟩ := h
          obtain ⟨g58, h⟩ := h
          refine Xi.up (pc' := 255) (fun _ _ k => x_ialoadK hK56 dX10_move_254 h0.2.2.2.2.2.2.2.2.2.2.2.2.2.1 g57 g58 k) ?_
          obtain ⟨M59, hc61, hK60, h⟩ := h
          refine Xi.up (pc' := 258) (st' := []) (fun _ _ k => x_callVK (ci := 10) (as := [zi (mI (sA M49 2239 (zCpy (mI M49 2239) (mI M49 2239) (mI M4 2230 17).toNat (mI M49 2230 17).toNat 35)) 2233 (mI M 2239 ((mI M 2230 17) + 8).toNat).toNat)]) (st := []) hK56 k10_begins lm10_211 dX10_move_255 rfl (by decide) (zs8 rfl) h0.1 ⟨_, _, rfl⟩ hc61 k) ?_
          refine Xi.up (pc' := 259) (fun _ _ k => x_iconst dX10_move_258 (show inR 0 from ⟨by decide, by decide⟩) k) ?_
          exact Xi.ret ⟨dX10_move_259, Or.inl rfl⟩ h
        · refine Xi.up (pc' := 157) (fun _ _ k => x_tsIn (x := (mI M4 2232 (mI M 2239 ((mI M 2230 17) + 8).toNat).toNat)) (i := 8) dX10_move_38 (by omega) (by decide) rfl rfl k) ?_
          have h := h.2.2.2.2.1 (by omega)
          refine Xi.up (pc' := 158) (fun _ _ k => x_aload_n dX10_move_157 rfl rfl k) ?_
          refine Xi.up (pc' := 159) (fun _ _ k => x_aload_n dX10_move_158 rfl rfl k) ?_
          refine Xi.up (pc' := 162) (fun _ _ k => x_getRK hK6 lf10_35 rfl dX10_move_159 h0.1 h0.2.2.2.2.2.2.2.2.2.1 k) ?_
          refine Xi.up (pc' := 163) (fun _ _ k => x_aload_n dX10_move_162 rfl rfl k) ?_
          refine Xi.up (pc' := 166) (fun _ _ k => x_getIK hK6 lf10_160 rfl dX10_move_163 h0.1 k) ?_
          refine Xi.up (pc' := 168) (fun _ _ k => x_bipush dX10_move_166 (show inR 31 from ⟨by decide, by decide⟩) (by decide) k) ?_
          obtain ⟨g62, h⟩ := h
          refine Xi.up (pc' := 169) (fun _ _ k => x_iadd dX10_move_168 g62 k) ?_
          obtain ⟨g63, h⟩ := h
          obtain ⟨g64, h⟩ := h
          refine Xi.up (pc' := 170) (fun _ _ k => x_ialoadK hK6 dX10_move_169 h0.2.2.2.2.2.2.2.2.2.2.2.2.2.2.2.2.2.2.2.1 g63 g64 k) ?_
          obtain ⟨M65, hc67, hK66, h⟩ := h
          refine Xi.up (pc' := 173) (st' := []) (fun _ _ k => x_callVK (ci := 10) (as := [zi (mI M4 2239 ((mI M4 2230 17) + 31).toNat)]) (st := []) hK6 k10_cuts lm10_191 dX10_move_170 rfl (by decide) (zs8 rfl) h0.1 ⟨_, _, rfl⟩ hc67 k) ?_
          refine Xi.up (pc' := 174) (fun _ _ k => x_aload_n dX10_move_173 rfl rfl k) ?_
          refine Xi.up (pc' := 175) (fun _ _ k => x_iload_n dX10_move_174 rfl rfl k) ?_
          refine Xi.up (pc' := 176) (fun _ _ k => x_iconst dX10_move_175 (show inR 1 from ⟨by decide, by decide⟩) k) ?_
          obtain ⟨x69, M68, hc71, hK70, h⟩ := h
          refine Xi.up (pc' := 179) (st' := [zi x69]) (fun _ _ k => x_callVK (ci := 10) (as := [zi (mI M 2239 ((mI M 2230 17) + 8).toNat), zi 1]) (st := []) hK66 k10_goesBehind lm10_197 dX10_move_176 rfl (by decide) (zs8 rfl) h0.1 ⟨_, _, rfl⟩ hc71 k) ?_
          exact Xi.ret ⟨dX10_move_179, Or.inl rfl⟩ h
        · refine Xi.up (pc' := 194) (fun _ _ k => x_tsIn (x := (mI M4 2232 (mI M 2239 ((mI M 2230 17) + 8).toNat).toNat)) (i := 9) dX10_move_38 (by omega) (by decide) rfl rfl k) ?_
          have h := h.2.2.2.2.2.1 (by omega)
          refine Xi.up (pc' := 195) (fun _ _ k => x_aload_n dX10_move_194 rfl rfl k) ?_
          refine Xi.up (pc' := 196) (fun _ _ k => x_iload_n dX10_move_195 rfl rfl k) ?_
          refine Xi.up (pc' := 197) (fun _ _ k => x_aload_n dX10_move_196 rfl rfl k) ?_
          refine Xi.up (pc' := 200) (fun _ _ k => x_getRK hK6 lf10_20 rfl dX10_move_197 h0.1 h0.2.2.2.2.1 k) ?_
          refine Xi.up (pc' := 201) (fun _ _ k => x_iload_n dX10_move_200 rfl rfl k) ?_
          obtain ⟨g72, h⟩ := h
          obtain ⟨g73, h⟩ := h
          refine Xi.up (pc' := 202) (fun _ _ k => x_ialoadK hK6 dX10_move_201 h0.2.2.2.2.2.2.2.2.2.2.2.2.2.2.1 g72 g73 k) ?_
          refine Xi.up (pc' := 203) (fun _ _ k => x_aload_n dX10_move_202 rfl rfl k) ?_
          refine Xi.up (pc' := 206) (fun _ _ k => x_getRK hK6 lf10_17 rfl dX10_move_203 h0.1 h0.2.2.2.1 k) ?_
          refine Xi.up (pc' := 207) (fun _ _ k => x_iload_n dX10_move_206 rfl rfl k) ?_
          obtain ⟨g74, h⟩ := h
          obtain ⟨g75, h⟩ := h
          refine Xi.up (pc' := 208) (fun _ _ k => x_ialoadK hK6 dX10_move_207 h0.2.2.2.2.2.2.2.2.2.2.2.2.2.1 g74 g75 k) ?_
          refine Xi.up (pc' := 209) (fun _ _ k => x_iconst dX10_move_208 (show inR 1 from ⟨by decide, by decide⟩) k) ?_
          obtain ⟨g76, h⟩ := h
          refine Xi.up (pc' := 210) (fun _ _ k => x_isub dX10_move_209 g76 k) ?_
          obtain ⟨M77, hc79, hK78, h⟩ := h
          refine Xi.up (pc' := 213) (st' := []) (fun _ _ k => x_callVK (ci := 10) (as := [zi (mI M 2239 ((mI M 2230 17) + 8).toNat), zi (mI M4 2234 (mI M 2239 ((mI M 2230 17) + 8).toNat).toNat), zi ((mI M4 2233 (mI M 2239 ((mI M 2230 17) + 8).toNat).toNat) - 1)]) (st := []) hK6 k10_enters lm10_204 dX10_move_210 rfl (by decide) (zs8 rfl) h0.1 ⟨_, _, rfl⟩ hc79 k) ?_
          refine Xi.up (pc' := 214) (fun _ _ k => x_iconst dX10_move_213 (show inR 0 from ⟨by decide, by decide⟩) k) ?_
          exact Xi.ret ⟨dX10_move_214, Or.inl rfl⟩ h
    · have h := h.2 c
      refine Xi.up (pc' := 31) (fun _ _ k => x_iconst dX10_move_30 (show inR 2 from ⟨by decide, by decide⟩) k) ?_
      exact Xi.ret ⟨dX10_move_31, Or.inl rfl⟩ h
  · have h := h.2 c
    refine Xi.up (pc' := 19) (fun _ _ k => x_aload_n dX10_move_18 rfl rfl k) ?_
    obtain ⟨x85, M84, hc87, hK86, h⟩ := h
    refine Xi.up (pc' := 22) (st' := [zi x85]) (fun _ _ k => x_callVK (ci := 10) (as := []) (st := []) hK k10_leaves lm10_194 dX10_move_19 rfl (by decide) (zs8 rfl) h0.1 ⟨_, _, rfl⟩ hc87 k) ?_
    exact Xi.ret ⟨dX10_move_22, Or.inl rfl⟩ h
set_option maxHeartbeats 4000000 in
set_option maxRecDepth 20000 in
theorem B10_goesBehind {d : Nat} {K M : ZMem} {Q : Int → ZMem → Prop} (a1 : Int) (a2 : Int) (hK : KW K M) (h0 : ModelAt K 2230) (h : (inR ((mI M 2230 17) + 8)) ∧ ((a2 = 0 → ((inR ((mI M 2230 17) + 8)) ∧ (0 ≤ ((mI M 2230 17) + 8)) ∧ (((mI M 2230 17) + 8) < 19245) ∧ (0 ≤ ((mI M 2230 17) + 8)) ∧ (((mI M 2230 17) + 8) < 19245) ∧ ((a2 = 0 → (Q 6 (sI M 2239 (((mI M 2230 17) + 8).toNat) (mI M 2239 ((mI M 2230 17) + 8).toNat)))) ∧ (¬ (a2 = 0) → (Q 0 (sI M 2239 (((mI M 2230 17) + 8).toNat) (mI M 2239 ((mI M 2230 17) + 8).toNat))))))) ∧ (¬ (a2 = 0) → ((0 ≤ a1) ∧ (a1 < 70200) ∧ (0 ≤ ((mI M 2230 17) + 8)) ∧ (((mI M 2230 17) + 8) < 19245) ∧ ((a2 = 0 → (Q 6 (sI M 2239 (((mI M 2230 17) + 8).toNat) (mI M 2236 a1.toNat)))) ∧ (¬ (a2 = 0) → (Q 0 (sI M 2239 (((mI M 2230 17) + 8).toNat) (mI M 2236 a1.toNat))))))))) : Ci d q10_goesBehind [zr 2230, zi a1, zi a2] M Q := by
  refine Ci.of rfl rfl (Nat.le_of_ble_eq_true rfl) (fun w hw x e => by subst e; simp at hw) (L := [some (zr 2230), some (zi a1), some (zi a2)]) rfl ?_
  refine Xi.up (pc' := 1) (fun _ _ k => x_aload_n dX10_goesBehind_0 rfl rfl k) ?_
  refine Xi.up (pc' := 4) (fun _ _ k => x_getRK hK lf10_35 rfl dX10_goesBehind_1 h0.1 h0.2.2.2.2.2.2.2.2.2.1 k) ?_
  refine Xi.up (pc' := 5) (fun _ _ k => x_aload_n dX10_goesBehind_4 rfl rfl k) ?_
  refine Xi.up (pc' := 8) (fun _ _ k => x_getIK hK lf10_160 rfl dX10_goesBehind_5 h0.1 k) ?_
  refine Xi.up (pc' := 10) (fun _ _ k => x_bipush dX10_goesBehind_8 (show inR 8 from ⟨by decide, by decide⟩) (by decide) k) ?_
  obtain ⟨g1, h⟩ := h
  refine Xi.up (pc' := 11) (fun _ _ k => x_iadd dX10_goesBehind_10 g1 k) ?_
  refine Xi.up (pc' := 12) (fun _ _ k => x_iload_n dX10_goesBehind_11 rfl rfl k) ?_
  refine Xi.br (tgt := 24) (pc' := 15) (a2 = 0) (fun _ _ kt kf => x_if_eq dX10_goesBehind_12 rfl kt kf) (fun c => ?_) (fun c => ?_)
  · have h := h.1 c
    refine Xi.up (pc' := 25) (fun _ _ k => x_aload_n dX10_goesBehind_24 rfl rfl k) ?_
    refine Xi.up (pc' := 28) (fun _ _ k => x_getRK hK lf10_35 rfl dX10_goesBehind_25 h0.1 h0.2.2.2.2.2.2.2.2.2.1 k) ?_
    refine Xi.up (pc' := 29) (fun _ _ k => x_aload_n dX10_goesBehind_28 rfl rfl k) ?_
    refine Xi.up (pc' := 32) (fun _ _ k => x_getIK hK lf10_160 rfl dX10_goesBehind_29 h0.1 k) ?_
    refine Xi.up (pc' := 34) (fun _ _ k => x_bipush dX10_goesBehind_32 (show inR 8 from ⟨by decide, by decide⟩) (by decide) k) ?_
    obtain ⟨g2, h⟩ := h
    refine Xi.up (pc' := 35) (fun _ _ k => x_iadd dX10_goesBehind_34 g2 k) ?_
    obtain ⟨g3, h⟩ := h
    obtain ⟨g4, h⟩ := h
    refine Xi.up (pc' := 36) (fun _ _ k => x_ialoadK hK dX10_goesBehind_35 h0.2.2.2.2.2.2.2.2.2.2.2.2.2.2.2.2.2.2.2.1 g3 g4 k) ?_
    obtain ⟨g5, h⟩ := h
    obtain ⟨g6, h⟩ := h
    refine Xi.up (pc' := 37) (fun _ _ k => x_iastoreK hK dX10_goesBehind_36 h0.2.2.2.2.2.2.2.2.2.2.2.2.2.2.2.2.2.2.2.1 g5 g6 k) ?_
    have hK7 := KW.sI hK 2239 (((mI M 2230 17) + 8).toNat) (mI M 2239 ((mI M 2230 17) + 8).toNat)
    refine Xi.up (pc' := 38) (fun _ _ k => x_iload_n dX10_goesBehind_37 rfl rfl k) ?_
    refine Xi.br (tgt := 45) (pc' := 41) (a2 = 0) (fun _ _ kt kf => x_if_eq dX10_goesBehind_38 rfl kt kf) (fun c => ?_) (fun c => ?_)
    · have h := h.1 c
      refine Xi.up (pc' := 47) (fun _ _ k => x_bipush dX10_goesBehind_45 (show inR 6 from ⟨by decide, by decide⟩) (by decide) k) ?_
      exact Xi.ret ⟨dX10_goesBehind_47, Or.inl rfl⟩ h
    · have h := h.2 c
      refine Xi.up (pc' := 42) (fun _ _ k => x_iconst dX10_goesBehind_41 (show inR 0 from ⟨by decide, by decide⟩) k) ?_
      refine Xi.up (pc' := 47) (fun _ _ k => x_goto dX10_goesBehind_42 rfl k) ?_
      exact Xi.ret ⟨dX10_goesBehind_47, Or.inl rfl⟩ h
  · have h := h.2 c
    refine Xi.up (pc' := 16) (fun _ _ k => x_aload_n dX10_goesBehind_15 rfl rfl k) ?_
    refine Xi.up (pc' := 19) (fun _ _ k => x_getRK hK lf10_26 rfl dX10_goesBehind_16 h0.1 h0.2.2.2.2.2.2.1 k) ?_
    refine Xi.up (pc' := 20) (fun _ _ k => x_iload_n dX10_goesBehind_19 rfl rfl k) ?_
    obtain ⟨g8, h⟩ := h
    obtain ⟨g9, h⟩ := h
    refine Xi.up (pc' := 21) (fun _ _ k => x_ialoadK hK dX10_goesBehind_20 h0.2.2.2.2.2.2.2.2.2.2.2.2.2.2.2.2.1 g8 g9 k) ?_
    refine Xi.up (pc' := 36) (fun _ _ k => x_goto dX10_goesBehind_21 rfl k) ?_
    obtain ⟨g10, h⟩ := h
    obtain ⟨g11, h⟩ := h
    refine Xi.up (pc' := 37) (fun _ _ k => x_iastoreK hK dX10_goesBehind_36 h0.2.2.2.2.2.2.2.2.2.2.2.2.2.2.2.2.2.2.2.1 g10 g11 k) ?_
    have hK12 := KW.sI hK 2239 (((mI M 2230 17) + 8).toNat) (mI M 2236 a1.toNat)
    refine Xi.up (pc' := 38) (fun _ _ k => x_iload_n dX10_goesBehind_37 rfl rfl k) ?_
    refine Xi.br (tgt := 45) (pc' := 41) (a2 = 0) (fun _ _ kt kf => x_if_eq dX10_goesBehind_38 rfl kt kf) (fun c => ?_) (fun c => ?_)
    · have h := h.1 c
      refine Xi.up (pc' := 47) (fun _ _ k => x_bipush dX10_goesBehind_45 (show inR 6 from ⟨by decide, by decide⟩) (by decide) k) ?_
      exact Xi.ret ⟨dX10_goesBehind_47, Or.inl rfl⟩ h
    · have h := h.2 c
      refine Xi.up (pc' := 42) (fun _ _ k => x_iconst dX10_goesBehind_41 (show inR 0 from ⟨by decide, by decide⟩) k) ?_
      refine Xi.up (pc' := 47) (fun _ _ k => x_goto dX10_goesBehind_42 rfl k) ?_
      exact Xi.ret ⟨dX10_goesBehind_47, Or.inl rfl⟩ h
set_option maxHeartbeats 4000000 in
set_option maxRecDepth 20000 in
theorem B10_isSo {d : Nat} {K M : ZMem} {Q : Int → ZMem → Prop} (a1 : Int) (hK : KW K M) (h0 : ModelAt K 2230) (h : (0 ≤ a1) ∧ (a1 < 70200) ∧ Ci d q10_works [zr 2230, zi (mI (sI M 2230 19 1) 2230 17), zi (mI (sI M 2230 19 1) 2233 a1.toNat)] (sI M 2230 19 1) (fun x5 M4 => KW K M4 ∧ (0 ≤ a1) ∧ (a1 < 70200) ∧ Ci d q10_works [zr 2230, zi (mI M4 2230 17), zi (mI M4 2234 a1.toNat)] M4 (fun x11 M10 => KW K M10 ∧ (((mI M10 2230 19) = 0 → (Q 0 M10)) ∧ (¬ ((mI M10 2230 19) = 0) → ((0 ≤ a1) ∧ (a1 < 70200) ∧ (((mI M10 2235 a1.toNat) ≠ 60 → ((0 ≤ a1) ∧ (a1 < 70200) ∧ (((mI M10 2235 a1.toNat) ≠ 61 → ((0 ≤ a1) ∧ (a1 < 70200) ∧ (((mI M10 2235 a1.toNat) ≠ 62 → ((x5 = x11 → (Q 0 M10)) ∧ (¬ (x5 = x11) → (Q 1 M10)))) ∧ (¬ ((mI M10 2235 a1.toNat) ≠ 62) → ((x5 ≤ x11 → (Q 0 M10)) ∧ (¬ (x5 ≤ x11) → (Q 1 M10))))))) ∧ (¬ ((mI M10 2235 a1.toNat) ≠ 61) → ((x5 ≠ x11 → (Q 0 M10)) ∧ (¬ (x5 ≠ x11) → (Q 1 M10))))))) ∧ (¬ ((mI M10 2235 a1.toNat) ≠ 60) → ((x11 ≤ x5 → (Q 0 M10)) ∧ (¬ (x11 ≤ x5) → (Q 1 M10))))))))))) : Ci (d + 1) q10_isSo [zr 2230, zi a1] M Q := by
  refine Ci.of rfl rfl (Nat.le_of_ble_eq_true rfl) (fun w hw x e => by subst e; simp at hw) (L := [some (zr 2230), some (zi a1), none, none]) rfl ?_
  refine Xi.up (pc' := 1) (fun _ _ k => x_aload_n dX10_isSo_0 rfl rfl k) ?_
  refine Xi.up (pc' := 2) (fun _ _ k => x_iconst dX10_isSo_1 (show inR 1 from ⟨by decide, by decide⟩) k) ?_
  refine Xi.up (pc' := 5) (fun _ _ k => x_putIK hK lf10_148 rfl rfl (Or.inr (Or.inr rfl)) dX10_isSo_2 h0.1 k) ?_
  have hK1 := KW.sI hK 2230 19 1
  refine Xi.up (pc' := 6) (fun _ _ k => x_aload_n dX10_isSo_5 rfl rfl k) ?_
  refine Xi.up (pc' := 7) (fun _ _ k => x_aload_n dX10_isSo_6 rfl rfl k) ?_
  refine Xi.up (pc' := 10) (fun _ _ k => x_getIK hK1 lf10_160 rfl dX10_isSo_7 h0.1 k) ?_
  refine Xi.up (pc' := 11) (fun _ _ k => x_aload_n dX10_isSo_10 rfl rfl k) ?_
  refine Xi.up (pc' := 14) (fun _ _ k => x_getRK hK1 lf10_17 rfl dX10_isSo_11 h0.1 h0.2.2.2.1 k) ?_
  refine Xi.up (pc' := 15) (fun _ _ k => x_iload_n dX10_isSo_14 rfl rfl k) ?_
  obtain ⟨g2, h⟩ := h
  obtain ⟨g3, h⟩ := h
  refine Xi.up (pc' := 16) (fun _ _ k => x_ialoadK hK1 dX10_isSo_15 h0.2.2.2.2.2.2.2.2.2.2.2.2.2.1 g2 g3 k) ?_
  obtain ⟨x5, M4, hc7, hK6, h⟩ := h
  refine Xi.up (pc' := 19) (st' := [zi x5]) (fun _ _ k => x_callVK (ci := 10) (as := [zi (mI (sI M 2230 19 1) 2230 17), zi (mI (sI M 2230 19 1) 2233 a1.toNat)]) (st := []) hK1 k10_works lm10_145 dX10_isSo_16 rfl (by decide) (zs8 rfl) h0.1 ⟨_, _, rfl⟩ hc7 k) ?_
  refine Xi.up (pc' := 20) (L' := [some (zr 2230), some (zi a1), some (zi x5), none]) (fun _ _ k => x_istore_n dX10_isSo_19 rfl (by decide) rfl k) ?_
  refine Xi.up (pc' := 21) (fun _ _ k => x_aload_n dX10_isSo_20 rfl rfl k) ?_
  refine Xi.up (pc' := 22) (fun _ _ k => x_aload_n dX10_isSo_21 rfl rfl k) ?_
  refine Xi.up (pc' := 25) (fun _ _ k => x_getIK hK6 lf10_160 rfl dX10_isSo_22 h0.1 k) ?_
  refine Xi.up (pc' := 26) (fun _ _ k => x_aload_n dX10_isSo_25 rfl rfl k) ?_
  refine Xi.up (pc' := 29) (fun _ _ k => x_getRK hK6 lf10_20 rfl dX10_isSo_26 h0.1 h0.2.2.2.2.1 k) ?_
  refine Xi.up (pc' := 30) (fun _ _ k => x_iload_n dX10_isSo_29 rfl rfl k) ?_
  obtain ⟨g8, h⟩ := h
  obtain ⟨g9, h⟩ := h
  refine Xi.up (pc' := 31) (fun _ _ k => x_ialoadK hK6 dX10_isSo_30 h0.2.2.2.2.2.2.2.2.2.2.2.2.2.2.1 g8 g9 k) ?_
  obtain ⟨x11, M10, hc13, hK12, h⟩ := h
  refine Xi.up (pc' := 34) (st' := [zi x11]) (fun _ _ k => x_callVK (ci := 10) (as := [zi (mI M4 2230 17), zi (mI M4 2234 a1.toNat)]) (st := []) hK6 k10_works lm10_145 dX10_isSo_31 rfl (by decide) (zs8 rfl) h0.1 ⟨_, _, rfl⟩ hc13 k) ?_
  refine Xi.up (pc' := 35) (L' := [some (zr 2230), some (zi a1), some (zi x5), some (zi x11)]) (fun _ _ k => x_istore_n dX10_isSo_34 rfl (by decide) rfl k) ?_
  refine Xi.up (pc' := 36) (fun _ _ k => x_aload_n dX10_isSo_35 rfl rfl k) ?_
  refine Xi.up (pc' := 39) (fun _ _ k => x_getIK hK12 lf10_148 rfl dX10_isSo_36 h0.1 k) ?_
  refine Xi.br (tgt := 108) (pc' := 42) ((mI M10 2230 19) = 0) (fun _ _ kt kf => x_if_eq dX10_isSo_39 rfl kt kf) (fun c => ?_) (fun c => ?_)
  · have h := h.1 c
    refine Xi.up (pc' := 109) (fun _ _ k => x_iconst dX10_isSo_108 (show inR 0 from ⟨by decide, by decide⟩) k) ?_
    exact Xi.ret ⟨dX10_isSo_109, Or.inr ⟨rfl, Or.inl rfl⟩⟩ h
  · have h := h.2 c
    refine Xi.up (pc' := 43) (fun _ _ k => x_aload_n dX10_isSo_42 rfl rfl k) ?_
    refine Xi.up (pc' := 46) (fun _ _ k => x_getRK hK12 lf10_23 rfl dX10_isSo_43 h0.1 h0.2.2.2.2.2.1 k) ?_
    refine Xi.up (pc' := 47) (fun _ _ k => x_iload_n dX10_isSo_46 rfl rfl k) ?_
    obtain ⟨g14, h⟩ := h
    obtain ⟨g15, h⟩ := h
    refine Xi.up (pc' := 48) (fun _ _ k => x_ialoadK hK12 dX10_isSo_47 h0.2.2.2.2.2.2.2.2.2.2.2.2.2.2.2.1 g14 g15 k) ?_
    refine Xi.up (pc' := 50) (fun _ _ k => x_bipush dX10_isSo_48 (show inR 60 from ⟨by decide, by decide⟩) (by decide) k) ?_
    refine Xi.br (tgt := 61) (pc' := 53) ((mI M10 2235 a1.toNat) ≠ 60) (fun _ _ kt kf => x_icmp_ne dX10_isSo_50 rfl kt kf) (fun c => ?_) (fun c => ?_)
    · have h := h.1 c
      refine Xi.up (pc' := 62) (fun _ _ k => x_aload_n dX10_isSo_61 rfl rfl k) ?_
      refine Xi.up (pc' := 65) (fun _ _ k => x_getRK hK12 lf10_23 rfl dX10_isSo_62 h0.1 h0.2.2.2.2.2.1 k) ?_
      refine Xi.up (pc' := 66) (fun _ _ k => x_iload_n dX10_isSo_65 rfl rfl k) ?_
      obtain ⟨g16, h⟩ := h
      obtain ⟨g17, h⟩ := h
      refine Xi.up (pc' := 67) (fun _ _ k => x_ialoadK hK12 dX10_isSo_66 h0.2.2.2.2.2.2.2.2.2.2.2.2.2.2.2.1 g16 g17 k) ?_
      refine Xi.up (pc' := 69) (fun _ _ k => x_bipush dX10_isSo_67 (show inR 61 from ⟨by decide, by decide⟩) (by decide) k) ?_
      refine Xi.br (tgt := 80) (pc' := 72) ((mI M10 2235 a1.toNat) ≠ 61) (fun _ _ kt kf => x_icmp_ne dX10_isSo_69 rfl kt kf) (fun c => ?_) (fun c => ?_)
      · have h := h.1 c
        refine Xi.up (pc' := 81) (fun _ _ k => x_aload_n dX10_isSo_80 rfl rfl k) ?_
        refine Xi.up (pc' := 84) (fun _ _ k => x_getRK hK12 lf10_23 rfl dX10_isSo_81 h0.1 h0.2.2.2.2.2.1 k) ?_
        refine Xi.up (pc' := 85) (fun _ _ k => x_iload_n dX10_isSo_84 rfl rfl k) ?_
        obtain ⟨g18, h⟩ := h
        obtain ⟨g19, h⟩ := h
        refine Xi.up (pc' := 86) (fun _ _ k => x_ialoadK hK12 dX10_isSo_85 h0.2.2.2.2.2.2.2.2.2.2.2.2.2.2.2.1 g18 g19 k) ?_
        refine Xi.up (pc' := 88) (fun _ _ k => x_bipush dX10_isSo_86 (show inR 62 from ⟨by decide, by decide⟩) (by decide) k) ?_
        refine Xi.br (tgt := 99) (pc' := 91) ((mI M10 2235 a1.toNat) ≠ 62) (fun _ _ kt kf => x_icmp_ne dX10_isSo_88 rfl kt kf) (fun c => ?_) (fun c => ?_)
        · have h := h.1 c
          refine Xi.up (pc' := 100) (fun _ _ k => x_iload_n dX10_isSo_99 rfl rfl k) ?_
          refine Xi.up (pc' := 101) (fun _ _ k => x_iload_n dX10_isSo_100 rfl rfl k) ?_
          refine Xi.br (tgt := 108) (pc' := 104) (x5 = x11) (fun _ _ kt kf => x_icmp_eq dX10_isSo_101 rfl kt kf) (fun c => ?_) (fun c => ?_)
          · have h := h.1 c
            refine Xi.up (pc' := 109) (fun _ _ k => x_iconst dX10_isSo_108 (show inR 0 from ⟨by decide, by decide⟩) k) ?_
            exact Xi.ret ⟨dX10_isSo_109, Or.inr ⟨rfl, Or.inl rfl⟩⟩ h
          · have h := h.2 c
            refine Xi.up (pc' := 105) (fun _ _ k => x_iconst dX10_isSo_104 (show inR 1 from ⟨by decide, by decide⟩) k) ?_
            refine Xi.up (pc' := 109) (fun _ _ k => x_goto dX10_isSo_105 rfl k) ?_
            exact Xi.ret ⟨dX10_isSo_109, Or.inr ⟨rfl, Or.inr rfl⟩⟩ h
        · have h := h.2 c
          refine Xi.up (pc' := 92) (fun _ _ k => x_iload_n dX10_isSo_91 rfl rfl k) ?_
          refine Xi.up (pc' := 93) (fun _ _ k => x_iload_n dX10_isSo_92 rfl rfl k) ?_
          refine Xi.br (tgt := 108) (pc' := 96) (x5 ≤ x11) (fun _ _ kt kf => x_icmp_le dX10_isSo_93 rfl kt kf) (fun c => ?_) (fun c => ?_)
          · have h := h.1 c
            refine Xi.up (pc' := 109) (fun _ _ k => x_iconst dX10_isSo_108 (show inR 0 from ⟨by decide, by decide⟩) k) ?_
            exact Xi.ret ⟨dX10_isSo_109, Or.inr ⟨rfl, Or.inl rfl⟩⟩ h
          · have h := h.2 c
            refine Xi.up (pc' := 104) (fun _ _ k => x_goto dX10_isSo_96 rfl k) ?_
            refine Xi.up (pc' := 105) (fun _ _ k => x_iconst dX10_isSo_104 (show inR 1 from ⟨by decide, by decide⟩) k) ?_
            refine Xi.up (pc' := 109) (fun _ _ k => x_goto dX10_isSo_105 rfl k) ?_
            exact Xi.ret ⟨dX10_isSo_109, Or.inr ⟨rfl, Or.inr rfl⟩⟩ h
      · have h := h.2 c
        refine Xi.up (pc' := 73) (fun _ _ k => x_iload_n dX10_isSo_72 rfl rfl k) ?_
        refine Xi.up (pc' := 74) (fun _ _ k => x_iload_n dX10_isSo_73 rfl rfl k) ?_
        refine Xi.br (tgt := 108) (pc' := 77) (x5 ≠ x11) (fun _ _ kt kf => x_icmp_ne dX10_isSo_74 rfl kt kf) (fun c => ?_) (fun c => ?_)
        · have h := h.1 c
          refine Xi.up (pc' := 109) (fun _ _ k => x_iconst dX10_isSo_108 (show inR 0 from ⟨by decide, by decide⟩) k) ?_
          exact Xi.ret ⟨dX10_isSo_109, Or.inr ⟨rfl, Or.inl rfl⟩⟩ h
        · have h := h.2 c
          refine Xi.up (pc' := 104) (fun _ _ k => x_goto dX10_isSo_77 rfl k) ?_
          refine Xi.up (pc' := 105) (fun _ _ k => x_iconst dX10_isSo_104 (show inR 1 from ⟨by decide, by decide⟩) k) ?_
          refine Xi.up (pc' := 109) (fun _ _ k => x_goto dX10_isSo_105 rfl k) ?_
          exact Xi.ret ⟨dX10_isSo_109, Or.inr ⟨rfl, Or.inr rfl⟩⟩ h
    · have h := h.2 c
      refine Xi.up (pc' := 54) (fun _ _ k => x_iload_n dX10_isSo_53 rfl rfl k) ?_
      refine Xi.up (pc' := 55) (fun _ _ k => x_iload_n dX10_isSo_54 rfl rfl k) ?_
      refine Xi.br (tgt := 108) (pc' := 58) (x11 ≤ x5) (fun _ _ kt kf => x_icmp_ge dX10_isSo_55 rfl kt kf) (fun c => ?_) (fun c => ?_)
      · have h := h.1 c
        refine Xi.up (pc' := 109) (fun _ _ k => x_iconst dX10_isSo_108 (show inR 0 from ⟨by decide, by decide⟩) k) ?_
        exact Xi.ret ⟨dX10_isSo_109, Or.inr ⟨rfl, Or.inl rfl⟩⟩ h
      · have h := h.2 c
        refine Xi.up (pc' := 104) (fun _ _ k => x_goto dX10_isSo_58 rfl k) ?_
        refine Xi.up (pc' := 105) (fun _ _ k => x_iconst dX10_isSo_104 (show inR 1 from ⟨by decide, by decide⟩) k) ?_
        refine Xi.up (pc' := 109) (fun _ _ k => x_goto dX10_isSo_105 rfl k) ?_
        exact Xi.ret ⟨dX10_isSo_109, Or.inr ⟨rfl, Or.inr rfl⟩⟩ h
set_option maxHeartbeats 4000000 in
set_option maxRecDepth 20000 in
theorem B10_choices {d : Nat} {K M : ZMem} {Q : Int → ZMem → Prop} (a1 : Int) (hK : KW K M) (h0 : ModelAt K 2230) (h : (0 ≤ a1) ∧ (a1 < 70200) ∧ (((mI M 2232 a1.toNat) ≠ 11 → ((0 ≤ a1) ∧ (a1 < 70200) ∧ (((mI (sI M 2230 19 1) 2232 a1.toNat) ≠ 8 → ((0 ≤ a1) ∧ (a1 < 70200) ∧ Xi (d + 1) q10_choices 90 [some (zr 2230), some (zi a1), some (zi 0), some (zi (mI (sI M 2230 19 1) 2234 a1.toNat))] [] (sI M 2230 19 1) Q)) ∧ (¬ ((mI (sI M 2230 19 1) 2232 a1.toNat) ≠ 8) → ((0 ≤ a1) ∧ (a1 < 70200) ∧ Ci d q10_works [zr 2230, zi (mI (sI M 2230 19 1) 2230 17), zi (mI (sI M 2230 19 1) 2234 a1.toNat)] (sI M 2230 19 1) (fun x11 M10 => KW K M10 ∧ (0 ≤ a1) ∧ (a1 < 70200) ∧ Ci d q10_works [zr 2230, zi (mI (sI M10 2240 0 x11) 2230 17), zi (mI (sI M10 2240 0 x11) 2235 a1.toNat)] (sI M10 2240 0 x11) (fun x20 M19 => KW K M19 ∧ (inR (x20 - (mI M19 2240 0))) ∧ (inR ((x20 - (mI M19 2240 0)) + 1)) ∧ (((mI M19 2230 19) = 0 → (Q (-1) M19)) ∧ (¬ ((mI M19 2230 19) = 0) → (Q ((x20 - (mI M19 2240 0)) + 1) M19)))))))))) ∧ (¬ ((mI M 2232 a1.toNat) ≠ 11) → ((0 ≤ a1) ∧ (a1 < 70200) ∧ Q (mI M 2234 a1.toNat) M)))) : Ci (d + 1) q10_choices [zr 2230, zi a1] M Q := by
  refine Ci.of rfl rfl (Nat.le_of_ble_eq_true rfl) (fun w hw x e => by subst e; simp at hw) (L := [some (zr 2230), some (zi a1), none, none]) rfl ?_
  refine Xi.up (pc' := 1) (fun _ _ k => x_aload_n dX10_choices_0 rfl rfl k) ?_
  refine Xi.up (pc' := 4) (fun _ _ k => x_getRK hK lf10_14 rfl dX10_choices_1 h0.1 h0.2.2.1 k) ?_
  refine Xi.up (pc' := 5) (fun _ _ k => x_iload_n dX10_choices_4 rfl rfl k) ?_
  obtain ⟨g1, h⟩ := h
  obtain ⟨g2, h⟩ := h
  refine Xi.up (pc' := 6) (fun _ _ k => x_ialoadK hK dX10_choices_5 h0.2.2.2.2.2.2.2.2.2.2.2.2.1 g1 g2 k) ?_
  refine Xi.up (pc' := 8) (fun _ _ k => x_bipush dX10_choices_6 (show inR 11 from ⟨by decide, by decide⟩) (by decide) k) ?_
  refine Xi.br (tgt := 18) (pc' := 11) ((mI M 2232 a1.toNat) ≠ 11) (fun _ _ kt kf => x_icmp_ne dX10_choices_8 rfl kt kf) (fun c => ?_) (fun c => ?_)
  · have h := h.1 c
    refine Xi.up (pc' := 19) (fun _ _ k => x_aload_n dX10_choices_18 rfl rfl k) ?_
    refine Xi.up (pc' := 20) (fun _ _ k => x_iconst dX10_choices_19 (show inR 1 from ⟨by decide, by decide⟩) k) ?_
    refine Xi.up (pc' := 23) (fun _ _ k => x_putIK hK lf10_148 rfl rfl (Or.inr (Or.inr rfl)) dX10_choices_20 h0.1 k) ?_
    have hK3 := KW.sI hK 2230 19 1
    refine Xi.up (pc' := 24) (fun _ _ k => x_iconst dX10_choices_23 (show inR 0 from ⟨by decide, by decide⟩) k) ?_
    refine Xi.up (pc' := 25) (L' := [some (zr 2230), some (zi a1), some (zi 0), none]) (fun _ _ k => x_istore_n dX10_choices_24 rfl (by decide) rfl k) ?_
    refine Xi.up (pc' := 26) (fun _ _ k => x_aload_n dX10_choices_25 rfl rfl k) ?_
    refine Xi.up (pc' := 29) (fun _ _ k => x_getRK hK3 lf10_14 rfl dX10_choices_26 h0.1 h0.2.2.1 k) ?_
    refine Xi.up (pc' := 30) (fun _ _ k => x_iload_n dX10_choices_29 rfl rfl k) ?_
    obtain ⟨g4, h⟩ := h
    obtain ⟨g5, h⟩ := h
    refine Xi.up (pc' := 31) (fun _ _ k => x_ialoadK hK3 dX10_choices_30 h0.2.2.2.2.2.2.2.2.2.2.2.2.1 g4 g5 k) ?_
    refine Xi.up (pc' := 33) (fun _ _ k => x_bipush dX10_choices_31 (show inR 8 from ⟨by decide, by decide⟩) (by decide) k) ?_
    refine Xi.br (tgt := 83) (pc' := 36) ((mI (sI M 2230 19 1) 2232 a1.toNat) ≠ 8) (fun _ _ kt kf => x_icmp_ne dX10_choices_33 rfl kt kf) (fun c => ?_) (fun c => ?_)
    · have h := h.1 c
      refine Xi.up (pc' := 84) (fun _ _ k => x_aload_n dX10_choices_83 rfl rfl k) ?_
      refine Xi.up (pc' := 87) (fun _ _ k => x_getRK hK3 lf10_20 rfl dX10_choices_84 h0.1 h0.2.2.2.2.1 k) ?_
      refine Xi.up (pc' := 88) (fun _ _ k => x_iload_n dX10_choices_87 rfl rfl k) ?_
      obtain ⟨g6, h⟩ := h
      obtain ⟨g7, h⟩ := h
      refine Xi.up (pc' := 89) (fun _ _ k => x_ialoadK hK3 dX10_choices_88 h0.2.2.2.2.2.2.2.2.2.2.2.2.2.2.1 g6 g7 k) ?_
      refine Xi.up (pc' := 90) (L' := [some (zr 2230), some (zi a1), some (zi 0), some (zi (mI (sI M 2230 19 1) 2234 a1.toNat))]) (fun _ _ k => x_istore_n dX10_choices_89 rfl (by decide) rfl k) ?_
      exact h
    · have h := h.2 c
      refine Xi.up (pc' := 37) (fun _ _ k => x_aload_n dX10_choices_36 rfl rfl k) ?_
      refine Xi.up (pc' := 40) (fun _ _ k => x_getRK hK3 lf10_38 rfl dX10_choices_37 h0.1 h0.2.2.2.2.2.2.2.2.2.2.1 k) ?_
      refine Xi.up (pc' := 41) (fun _ _ k => x_iconst dX10_choices_40 (show inR 0 from ⟨by decide, by decide⟩) k) ?_
      refine Xi.up (pc' := 42) (fun _ _ k => x_aload_n dX10_choices_41 rfl rfl k) ?_
      refine Xi.up (pc' := 43) (fun _ _ k => x_aload_n dX10_choices_42 rfl rfl k) ?_
      refine Xi.up (pc' := 46) (fun _ _ k => x_getIK hK3 lf10_160 rfl dX10_choices_43 h0.1 k) ?_
      refine Xi.up (pc' := 47) (fun _ _ k => x_aload_n dX10_choices_46 rfl rfl k) ?_
      refine Xi.up (pc' := 50) (fun _ _ k => x_getRK hK3 lf10_20 rfl dX10_choices_47 h0.1 h0.2.2.2.2.1 k) ?_
      refine Xi.up (pc' := 51) (fun _ _ k => x_iload_n dX10_choices_50 rfl rfl k) ?_
      obtain ⟨g8, h⟩ := h
      obtain ⟨g9, h⟩ := h
      refine Xi.up (pc' := 52) (fun _ _ k => x_ialoadK hK3 dX10_choices_51 h0.2.2.2.2.2.2.2.2.2.2.2.2.2.2.1 g8 g9 k) ?_
      obtain ⟨x11, M10, hc13, hK12, h⟩ := h
      refine Xi.up (pc' := 55) (st' := [zi x11, zi 0, zr 2240]) (fun _ _ k => x_callVK (ci := 10) (as := [zi (mI (sI M 2230 19 1) 2230 17), zi (mI (sI M 2230 19 1) 2234 a1.toNat)]) (st := [zi 0, zr 2240]) hK3 k10_works lm10_145 dX10_choices_52 rfl (by decide) (zs8 rfl) h0.1 ⟨_, _, rfl⟩ hc13 k) ?_
      refine Xi.up (pc' := 56) (fun _ _ k => x_iastoreK hK12 dX10_choices_55 h0.2.2.2.2.2.2.2.2.2.2.2.2.2.2.2.2.2.2.2.2 (by decide) (by decide) k) ?_
      have hK16 := KW.sI hK12 2240 0 x11
      refine Xi.up (pc' := 57) (fun _ _ k => x_aload_n dX10_choices_56 rfl rfl k) ?_
      refine Xi.up (pc' := 58) (fun _ _ k => x_aload_n dX10_choices_57 rfl rfl k) ?_
      refine Xi.up (pc' := 61) (fun _ _ k => x_getIK hK16 lf10_160 rfl dX10_choices_58 h0.1 k) ?_
      refine Xi.up (pc' := 62) (fun _ _ k => x_aload_n dX10_choices_61 rfl rfl k) ?_
      refine Xi.up (pc' := 65) (fun _ _ k => x_getRK hK16 lf10_23 rfl dX10_choices_62 h0.1 h0.2.2.2.2.2.1 k) ?_
      refine Xi.up (pc' := 66) (fun _ _ k => x_iload_n dX10_choices_65 rfl rfl k) ?_
      obtain ⟨g17, h⟩ := h
      obtain ⟨g18, h⟩ := h
      refine Xi.up (pc' := 67) (fun _ _ k => x_ialoadK hK16 dX10_choices_66 h0.2.2.2.2.2.2.2.2.2.2.2.2.2.2.2.1 g17 g18 k) ?_
      obtain ⟨x20, M19, hc22, hK21, h⟩ := h
      refine Xi.up (pc' := 70) (st' := [zi x20]) (fun _ _ k => x_callVK (ci := 10) (as := [zi (mI (sI M10 2240 0 x11) 2230 17), zi (mI (sI M10 2240 0 x11) 2235 a1.toNat)]) (st := []) hK16 k10_works lm10_145 dX10_choices_67 rfl (by decide) (zs8 rfl) h0.1 ⟨_, _, rfl⟩ hc22 k) ?_
      refine Xi.up (pc' := 71) (fun _ _ k => x_aload_n dX10_choices_70 rfl rfl k) ?_
      refine Xi.up (pc' := 74) (fun _ _ k => x_getRK hK21 lf10_38 rfl dX10_choices_71 h0.1 h0.2.2.2.2.2.2.2.2.2.2.1 k) ?_
      refine Xi.up (pc' := 75) (fun _ _ k => x_iconst dX10_choices_74 (show inR 0 from ⟨by decide, by decide⟩) k) ?_
      refine Xi.up (pc' := 76) (fun _ _ k => x_ialoadK hK21 dX10_choices_75 h0.2.2.2.2.2.2.2.2.2.2.2.2.2.2.2.2.2.2.2.2 (by decide) (by decide) k) ?_
      obtain ⟨g25, h⟩ := h
      refine Xi.up (pc' := 77) (fun _ _ k => x_isub dX10_choices_76 g25 k) ?_
      refine Xi.up (pc' := 78) (fun _ _ k => x_iconst dX10_choices_77 (show inR 1 from ⟨by decide, by decide⟩) k) ?_
      obtain ⟨g26, h⟩ := h
      refine Xi.up (pc' := 79) (fun _ _ k => x_iadd dX10_choices_78 g26 k) ?_
      refine Xi.up (pc' := 80) (L' := [some (zr 2230), some (zi a1), some (zi ((x20 - (mI M19 2240 0)) + 1)), none]) (fun _ _ k => x_istore_n dX10_choices_79 rfl (by decide) rfl k) ?_
      refine Xi.up (pc' := 137) (fun _ _ k => x_goto dX10_choices_80 rfl k) ?_
      refine Xi.up (pc' := 138) (fun _ _ k => x_aload_n dX10_choices_137 rfl rfl k) ?_
      refine Xi.up (pc' := 141) (fun _ _ k => x_getIK hK21 lf10_148 rfl dX10_choices_138 h0.1 k) ?_
      refine Xi.br (tgt := 148) (pc' := 144) ((mI M19 2230 19) = 0) (fun _ _ kt kf => x_if_eq dX10_choices_141 rfl kt kf) (fun c => ?_) (fun c => ?_)
      · have h := h.1 c
        refine Xi.up (pc' := 149) (fun _ _ k => x_iconst dX10_choices_148 (show inR (-1) from ⟨by decide, by decide⟩) k) ?_
        exact Xi.ret ⟨dX10_choices_149, Or.inl rfl⟩ h
      · have h := h.2 c
        refine Xi.up (pc' := 145) (fun _ _ k => x_iload_n dX10_choices_144 rfl rfl k) ?_
        refine Xi.up (pc' := 149) (fun _ _ k => x_goto dX10_choices_145 rfl k) ?_
        exact Xi.ret ⟨dX10_choices_149, Or.inl rfl⟩ h
  · have h := h.2 c
    refine Xi.up (pc' := 12) (fun _ _ k => x_aload_n dX10_choices_11 rfl rfl k) ?_
    refine Xi.up (pc' := 15) (fun _ _ k => x_getRK hK lf10_20 rfl dX10_choices_12 h0.1 h0.2.2.2.2.1 k) ?_
    refine Xi.up (pc' := 16) (fun _ _ k => x_iload_n dX10_choices_15 rfl rfl k) ?_
    obtain ⟨g27, h⟩ := h
    obtain ⟨g28, h⟩ := h
    refine Xi.up (pc' := 17) (fun _ _ k => x_ialoadK hK dX10_choices_16 h0.2.2.2.2.2.2.2.2.2.2.2.2.2.2.1 g27 g28 k) ?_
    exact Xi.ret ⟨dX10_choices_17, Or.inl rfl⟩ h
set_option maxHeartbeats 4000000 in
set_option maxRecDepth 20000 in
theorem B10_choices_90 {d : Nat} {K M : ZMem} {Q : Int → ZMem → Prop} (a1 : Int) (l2 : Int) (l3 : Int) (hK : KW K M) (h0 : ModelAt K 2230) (h : (0 ≤ a1) ∧ (a1 < 70200) ∧ (((mI M 2235 a1.toNat) ≤ 0 → (((mI M 2230 19) = 0 → (Q (-1) M)) ∧ (¬ ((mI M 2230 19) = 0) → (Q l2 M)))) ∧ (¬ ((mI M 2235 a1.toNat) ≤ 0) → ((l3 = (-1) → (((mI M 2230 19) = 0 → (Q (-1) M)) ∧ (¬ ((mI M 2230 19) = 0) → (Q l2 M)))) ∧ (¬ (l3 = (-1)) → ((0 ≤ l3) ∧ (l3 < 70200) ∧ Ci d q10_works [zr 2230, zi (mI M 2230 17), zi (mI M 2233 l3.toNat)] M (fun x6 M5 => KW K M5 ∧ (0 ≤ l2) ∧ (l2 < 6) ∧ (inR (l2 + 1)) ∧ (0 ≤ l3) ∧ (l3 < 70200) ∧ Xi (d + 1) q10_choices 90 [some (zr 2230), some (zi a1), some (zi (l2 + 1)), some (zi (mI (sI M5 2240 l2.toNat x6) 2236 l3.toNat))] [] (sI M5 2240 l2.toNat x6) Q))))))) : Xi (d + 1) q10_choices 90 [some (zr 2230), some (zi a1), some (zi l2), some (zi l3)] [] M Q := by
  refine Xi.up (pc' := 91) (fun _ _ k => x_aload_n dX10_choices_90 rfl rfl k) ?_
  refine Xi.up (pc' := 94) (fun _ _ k => x_getRK hK lf10_23 rfl dX10_choices_91 h0.1 h0.2.2.2.2.2.1 k) ?_
  refine Xi.up (pc' := 95) (fun _ _ k => x_iload_n dX10_choices_94 rfl rfl k) ?_
  obtain ⟨g1, h⟩ := h
  obtain ⟨g2, h⟩ := h
  refine Xi.up (pc' := 96) (fun _ _ k => x_ialoadK hK dX10_choices_95 h0.2.2.2.2.2.2.2.2.2.2.2.2.2.2.2.1 g1 g2 k) ?_
  refine Xi.br (tgt := 137) (pc' := 99) ((mI M 2235 a1.toNat) ≤ 0) (fun _ _ kt kf => x_if_le dX10_choices_96 rfl kt kf) (fun c => ?_) (fun c => ?_)
  · have h := h.1 c
    refine Xi.up (pc' := 138) (fun _ _ k => x_aload_n dX10_choices_137 rfl rfl k) ?_
    refine Xi.up (pc' := 141) (fun _ _ k => x_getIK hK lf10_148 rfl dX10_choices_138 h0.1 k) ?_
    refine Xi.br (tgt := 148) (pc' := 144) ((mI M 2230 19) = 0) (fun _ _ kt kf => x_if_eq dX10_choices_141 rfl kt kf) (fun c => ?_) (fun c => ?_)
    · have h := h.1 c
      refine Xi.up (pc' := 149) (fun _ _ k => x_iconst dX10_choices_148 (show inR (-1) from ⟨by decide, by decide⟩) k) ?_
      exact Xi.ret ⟨dX10_choices_149, Or.inl rfl⟩ h
    · have h := h.2 c
      refine Xi.up (pc' := 145) (fun _ _ k => x_iload_n dX10_choices_144 rfl rfl k) ?_
      refine Xi.up (pc' := 149) (fun _ _ k => x_goto dX10_choices_145 rfl k) ?_
      exact Xi.ret ⟨dX10_choices_149, Or.inl rfl⟩ h
  · have h := h.2 c
    refine Xi.up (pc' := 100) (fun _ _ k => x_iload_n dX10_choices_99 rfl rfl k) ?_
    refine Xi.up (pc' := 101) (fun _ _ k => x_iconst dX10_choices_100 (show inR (-1) from ⟨by decide, by decide⟩) k) ?_
    refine Xi.br (tgt := 137) (pc' := 104) (l3 = (-1)) (fun _ _ kt kf => x_icmp_eq dX10_choices_101 rfl kt kf) (fun c => ?_) (fun c => ?_)
    · have h := h.1 c
      refine Xi.up (pc' := 138) (fun _ _ k => x_aload_n dX10_choices_137 rfl rfl k) ?_
      refine Xi.up (pc' := 141) (fun _ _ k => x_getIK hK lf10_148 rfl dX10_choices_138 h0.1 k) ?_
      refine Xi.br (tgt := 148) (pc' := 144) ((mI M 2230 19) = 0) (fun _ _ kt kf => x_if_eq dX10_choices_141 rfl kt kf) (fun c => ?_) (fun c => ?_)
      · have h := h.1 c
        refine Xi.up (pc' := 149) (fun _ _ k => x_iconst dX10_choices_148 (show inR (-1) from ⟨by decide, by decide⟩) k) ?_
        exact Xi.ret ⟨dX10_choices_149, Or.inl rfl⟩ h
      · have h := h.2 c
        refine Xi.up (pc' := 145) (fun _ _ k => x_iload_n dX10_choices_144 rfl rfl k) ?_
        refine Xi.up (pc' := 149) (fun _ _ k => x_goto dX10_choices_145 rfl k) ?_
        exact Xi.ret ⟨dX10_choices_149, Or.inl rfl⟩ h
    · have h := h.2 c
      refine Xi.up (pc' := 105) (fun _ _ k => x_aload_n dX10_choices_104 rfl rfl k) ?_
      refine Xi.up (pc' := 108) (fun _ _ k => x_getRK hK lf10_38 rfl dX10_choices_105 h0.1 h0.2.2.2.2.2.2.2.2.2.2.1 k) ?_
      refine Xi.up (pc' := 109) (fun _ _ k => x_iload_n dX10_choices_108 rfl rfl k) ?_
      refine Xi.up (pc' := 110) (fun _ _ k => x_aload_n dX10_choices_109 rfl rfl k) ?_
      refine Xi.up (pc' := 111) (fun _ _ k => x_aload_n dX10_choices_110 rfl rfl k) ?_
      refine Xi.up (pc' := 114) (fun _ _ k => x_getIK hK lf10_160 rfl dX10_choices_111 h0.1 k) ?_
      refine Xi.up (pc' := 115) (fun _ _ k => x_aload_n dX10_choices_114 rfl rfl k) ?_
      refine Xi.up (pc' := 118) (fun _ _ k => x_getRK hK lf10_17 rfl dX10_choices_115 h0.1 h0.2.2.2.1 k) ?_
      refine Xi.up (pc' := 119) (fun _ _ k => x_iload_n dX10_choices_118 rfl rfl k) ?_
      obtain ⟨g3, h⟩ := h
      obtain ⟨g4, h⟩ := h
      refine Xi.up (pc' := 120) (fun _ _ k => x_ialoadK hK dX10_choices_119 h0.2.2.2.2.2.2.2.2.2.2.2.2.2.1 g3 g4 k) ?_
      obtain ⟨x6, M5, hc8, hK7, h⟩ := h
      refine Xi.up (pc' := 123) (st' := [zi x6, zi l2, zr 2240]) (fun _ _ k => x_callVK (ci := 10) (as := [zi (mI M 2230 17), zi (mI M 2233 l3.toNat)]) (st := [zi l2, zr 2240]) hK k10_works lm10_145 dX10_choices_120 rfl (by decide) (zs8 rfl) h0.1 ⟨_, _, rfl⟩ hc8 k) ?_
      obtain ⟨g9, h⟩ := h
      obtain ⟨g10, h⟩ := h
      refine Xi.up (pc' := 124) (fun _ _ k => x_iastoreK hK7 dX10_choices_123 h0.2.2.2.2.2.2.2.2.2.2.2.2.2.2.2.2.2.2.2.2 g9 g10 k) ?_
      have hK11 := KW.sI hK7 2240 l2.toNat x6
      obtain ⟨g12, h⟩ := h
      refine Xi.up (pc' := 127) (L' := [some (zr 2230), some (zi a1), some (zi (l2 + 1)), some (zi l3)]) (fun _ _ k => x_iinc dX10_choices_124 rfl g12 (by decide) rfl k) ?_
      refine Xi.up (pc' := 128) (fun _ _ k => x_aload_n dX10_choices_127 rfl rfl k) ?_
      refine Xi.up (pc' := 131) (fun _ _ k => x_getRK hK11 lf10_26 rfl dX10_choices_128 h0.1 h0.2.2.2.2.2.2.1 k) ?_
      refine Xi.up (pc' := 132) (fun _ _ k => x_iload_n dX10_choices_131 rfl rfl k) ?_
      obtain ⟨g13, h⟩ := h
      obtain ⟨g14, h⟩ := h
      refine Xi.up (pc' := 133) (fun _ _ k => x_ialoadK hK11 dX10_choices_132 h0.2.2.2.2.2.2.2.2.2.2.2.2.2.2.2.2.1 g13 g14 k) ?_
      refine Xi.up (pc' := 134) (L' := [some (zr 2230), some (zi a1), some (zi (l2 + 1)), some (zi (mI (sI M5 2240 l2.toNat x6) 2236 l3.toNat))]) (fun _ _ k => x_istore_n dX10_choices_133 rfl (by decide) rfl k) ?_
      refine Xi.up (pc' := 90) (fun _ _ k => x_goto dX10_choices_134 rfl k) ?_
      exact h
set_option maxHeartbeats 4000000 in
set_option maxRecDepth 20000 in
theorem B10_makes {d : Nat} {K M : ZMem} {Q : Int → ZMem → Prop} (a1 : Int) (hK : KW K M) (h0 : ModelAt K 2230) (h : Ci d q10_choices [zr 2230, zi a1] M (fun x2 M1 => KW K M1 ∧ ((0 < x2 → (Ci d q10_level [zr 2230] M1 (fun x6 M5 => KW K M5 ∧ ((x6 ≠ 0 → (Xi (d + 1) q10_makes 78 [some (zr 2230), some (zi a1), some (zi x2), none] [] M5 Q)) ∧ (¬ (x6 ≠ 0) → ((inR ((mI M5 2230 16) + 1)) ∧ (0 ≤ ((mI M5 2230 16) + 1)) ∧ (((mI M5 2230 16) + 1) < 19245) ∧ (((mI M5 2239 ((mI M5 2230 16) + 1).toNat) ≠ 5 → (Xi (d + 1) q10_makes 78 [some (zr 2230), some (zi a1), some (zi x2), none] [] M5 Q)) ∧ (¬ ((mI M5 2239 ((mI M5 2230 16) + 1).toNat) ≠ 5) → ((inR ((mI M5 2230 17) + 32)) ∧ (0 ≤ ((mI M5 2230 17) + 32)) ∧ (((mI M5 2230 17) + 32) < 19245) ∧ (inR ((mI M5 2230 16) + 9)) ∧ (0 ≤ ((mI M5 2230 16) + 9)) ∧ (((mI M5 2230 16) + 9) < 19245) ∧ (((mI M5 2239 ((mI M5 2230 17) + 32).toNat) < (mI M5 2239 ((mI M5 2230 16) + 9).toNat) → (Xi (d + 1) q10_makes 78 [some (zr 2230), some (zi a1), some (zi x2), none] [] M5 Q)) ∧ (¬ ((mI M5 2239 ((mI M5 2230 17) + 32).toNat) < (mI M5 2239 ((mI M5 2230 16) + 9).toNat)) → ((inR ((mI M5 2230 16) + 10)) ∧ (0 ≤ ((mI M5 2230 16) + 10)) ∧ (((mI M5 2230 16) + 10) < 19245) ∧ Q 6 (sI M5 2239 (((mI M5 2230 16) + 10).toNat) 1))))))))))))) ∧ (¬ (0 < x2) → (Q 6 M1))))) : Ci (d + 1) q10_makes [zr 2230, zi a1] M Q := by
  refine Ci.of rfl rfl (Nat.le_of_ble_eq_true rfl) (fun w hw x e => by subst e; simp at hw) (L := [some (zr 2230), some (zi a1), none, none]) rfl ?_
  refine Xi.up (pc' := 1) (fun _ _ k => x_aload_n dX10_makes_0 rfl rfl k) ?_
  refine Xi.up (pc' := 2) (fun _ _ k => x_iload_n dX10_makes_1 rfl rfl k) ?_
  obtain ⟨x2, M1, hc4, hK3, h⟩ := h
  refine Xi.up (pc' := 5) (st' := [zi x2]) (fun _ _ k => x_callVK (ci := 10) (as := [zi a1]) (st := []) hK k10_choices lm10_217 dX10_makes_2 rfl (by decide) (zs8 rfl) h0.1 ⟨_, _, rfl⟩ hc4 k) ?_
  refine Xi.up (pc' := 6) (L' := [some (zr 2230), some (zi a1), some (zi x2), none]) (fun _ _ k => x_istore_n dX10_makes_5 rfl (by decide) rfl k) ?_
  refine Xi.up (pc' := 7) (fun _ _ k => x_iload_n dX10_makes_6 rfl rfl k) ?_
  refine Xi.br (tgt := 13) (pc' := 10) (0 < x2) (fun _ _ kt kf => x_if_gt dX10_makes_7 rfl kt kf) (fun c => ?_) (fun c => ?_)
  · have h := h.1 c
    refine Xi.up (pc' := 14) (fun _ _ k => x_aload_n dX10_makes_13 rfl rfl k) ?_
    obtain ⟨x6, M5, hc8, hK7, h⟩ := h
    refine Xi.up (pc' := 17) (st' := [zi x6]) (fun _ _ k => x_callVK (ci := 10) (as := []) (st := []) hK3 k10_level lm10_166 dX10_makes_14 rfl (by decide) (zs8 rfl) h0.1 ⟨_, _, rfl⟩ hc8 k) ?_
    refine Xi.br (tgt := 78) (pc' := 20) (x6 ≠ 0) (fun _ _ kt kf => x_if_ne dX10_makes_17 rfl kt kf) (fun c => ?_) (fun c => ?_)
    · have h := h.1 c
      exact h
    · have h := h.2 c
      refine Xi.up (pc' := 21) (fun _ _ k => x_aload_n dX10_makes_20 rfl rfl k) ?_
      refine Xi.up (pc' := 24) (fun _ _ k => x_getRK hK7 lf10_35 rfl dX10_makes_21 h0.1 h0.2.2.2.2.2.2.2.2.2.1 k) ?_
      refine Xi.up (pc' := 25) (fun _ _ k => x_aload_n dX10_makes_24 rfl rfl k) ?_
      refine Xi.up (pc' := 28) (fun _ _ k => x_getIK hK7 lf10_156 rfl dX10_makes_25 h0.1 k) ?_
      refine Xi.up (pc' := 29) (fun _ _ k => x_iconst dX10_makes_28 (show inR 1 from ⟨by decide, by decide⟩) k) ?_
      obtain ⟨g9, h⟩ := h
      refine Xi.up (pc' := 30) (fun _ _ k => x_iadd dX10_makes_29 g9 k) ?_
      obtain ⟨g10, h⟩ := h
      obtain ⟨g11, h⟩ := h
      refine Xi.up (pc' := 31) (fun _ _ k => x_ialoadK hK7 dX10_makes_30 h0.2.2.2.2.2.2.2.2.2.2.2.2.2.2.2.2.2.2.2.1 g10 g11 k) ?_
      refine Xi.up (pc' := 32) (fun _ _ k => x_iconst dX10_makes_31 (show inR 5 from ⟨by decide, by decide⟩) k) ?_
      refine Xi.br (tgt := 78) (pc' := 35) ((mI M5 2239 ((mI M5 2230 16) + 1).toNat) ≠ 5) (fun _ _ kt kf => x_icmp_ne dX10_makes_32 rfl kt kf) (fun c => ?_) (fun c => ?_)
      · have h := h.1 c
        exact h
      · have h := h.2 c
        refine Xi.up (pc' := 36) (fun _ _ k => x_aload_n dX10_makes_35 rfl rfl k) ?_
        refine Xi.up (pc' := 39) (fun _ _ k => x_getRK hK7 lf10_35 rfl dX10_makes_36 h0.1 h0.2.2.2.2.2.2.2.2.2.1 k) ?_
        refine Xi.up (pc' := 40) (fun _ _ k => x_aload_n dX10_makes_39 rfl rfl k) ?_
        refine Xi.up (pc' := 43) (fun _ _ k => x_getIK hK7 lf10_160 rfl dX10_makes_40 h0.1 k) ?_
        refine Xi.up (pc' := 45) (fun _ _ k => x_bipush dX10_makes_43 (show inR 32 from ⟨by decide, by decide⟩) (by decide) k) ?_
        obtain ⟨g12, h⟩ := h
        refine Xi.up (pc' := 46) (fun _ _ k => x_iadd dX10_makes_45 g12 k) ?_
        obtain ⟨g13, h⟩ := h
        obtain ⟨g14, h⟩ := h
        refine Xi.up (pc' := 47) (fun _ _ k => x_ialoadK hK7 dX10_makes_46 h0.2.2.2.2.2.2.2.2.2.2.2.2.2.2.2.2.2.2.2.1 g13 g14 k) ?_
        refine Xi.up (pc' := 48) (fun _ _ k => x_aload_n dX10_makes_47 rfl rfl k) ?_
        refine Xi.up (pc' := 51) (fun _ _ k => x_getRK hK7 lf10_35 rfl dX10_makes_48 h0.1 h0.2.2.2.2.2.2.2.2.2.1 k) ?_
        refine Xi.up (pc' := 52) (fun _ _ k => x_aload_n dX10_makes_51 rfl rfl k) ?_
        refine Xi.up (pc' := 55) (fun _ _ k => x_getIK hK7 lf10_156 rfl dX10_makes_52 h0.1 k) ?_
        refine Xi.up (pc' := 57) (fun _ _ k => x_bipush dX10_makes_55 (show inR 9 from ⟨by decide, by decide⟩) (by decide) k) ?_
        obtain ⟨g15, h⟩ := h
        refine Xi.up (pc' := 58) (fun _ _ k => x_iadd dX10_makes_57 g15 k) ?_
        obtain ⟨g16, h⟩ := h
        obtain ⟨g17, h⟩ := h
        refine Xi.up (pc' := 59) (fun _ _ k => x_ialoadK hK7 dX10_makes_58 h0.2.2.2.2.2.2.2.2.2.2.2.2.2.2.2.2.2.2.2.1 g16 g17 k) ?_
        refine Xi.br (tgt := 78) (pc' := 62) ((mI M5 2239 ((mI M5 2230 17) + 32).toNat) < (mI M5 2239 ((mI M5 2230 16) + 9).toNat)) (fun _ _ kt kf => x_icmp_lt dX10_makes_59 rfl kt kf) (fun c => ?_) (fun c => ?_)
        · have h := h.1 c
          exact h
        · have h := h.2 c
          refine Xi.up (pc' := 63) (fun _ _ k => x_aload_n dX10_makes_62 rfl rfl k) ?_
          refine Xi.up (pc' := 66) (fun _ _ k => x_getRK hK7 lf10_35 rfl dX10_makes_63 h0.1 h0.2.2.2.2.2.2.2.2.2.1 k) ?_
          refine Xi.up (pc' := 67) (fun _ _ k => x_aload_n dX10_makes_66 rfl rfl k) ?_
          refine Xi.up (pc' := 70) (fun _ _ k => x_getIK hK7 lf10_156 rfl dX10_makes_67 h0.1 k) ?_
          refine Xi.up (pc' := 72) (fun _ _ k => x_bipush dX10_makes_70 (show inR 10 from ⟨by decide, by decide⟩) (by decide) k) ?_
          obtain ⟨g18, h⟩ := h
          refine Xi.up (pc' := 73) (fun _ _ k => x_iadd dX10_makes_72 g18 k) ?_
          refine Xi.up (pc' := 74) (fun _ _ k => x_iconst dX10_makes_73 (show inR 1 from ⟨by decide, by decide⟩) k) ?_
          obtain ⟨g19, h⟩ := h
          obtain ⟨g20, h⟩ := h
          refine Xi.up (pc' := 75) (fun _ _ k => x_iastoreK hK7 dX10_makes_74 h0.2.2.2.2.2.2.2.2.2.2.2.2.2.2.2.2.2.2.2.1 g19 g20 k) ?_
          have hK21 := KW.sI hK7 2239 (((mI M5 2230 16) + 10).toNat) 1
          refine Xi.up (pc' := 77) (fun _ _ k => x_bipush dX10_makes_75 (show inR 6 from ⟨by decide, by decide⟩) (by decide) k) ?_
          exact Xi.ret ⟨dX10_makes_77, Or.inl rfl⟩ h
  · have h := h.2 c
    refine Xi.up (pc' := 12) (fun _ _ k => x_bipush dX10_makes_10 (show inR 6 from ⟨by decide, by decide⟩) (by decide) k) ?_
    exact Xi.ret ⟨dX10_makes_12, Or.inl rfl⟩ h
set_option maxHeartbeats 4000000 in
set_option maxRecDepth 20000 in
theorem B10_makes_78 {d : Nat} {K M : ZMem} {Q : Int → ZMem → Prop} (a1 : Int) (l2 : Int) (hK : KW K M) (h0 : ModelAt K 2230) (h : Ci d q10_level [zr 2230] M (fun x2 M1 => KW K M1 ∧ ((x2 ≠ 0 → ((inR ((mI M1 2230 16) + 14)) ∧ (0 ≤ ((mI M1 2230 16) + 14)) ∧ (((mI M1 2230 16) + 14) < 19245) ∧ Ci d q10_openMany [zr 2230] M1 (fun x9 M8 => KW K M8 ∧ (inR ((mI M1 2239 ((mI M1 2230 16) + 14).toNat) - x9)) ∧ ((((mI M1 2239 ((mI M1 2230 16) + 14).toNat) - x9) ≠ 30 → (Xi (d + 1) q10_makes 116 [some (zr 2230), some (zi a1), some (zi l2), none] [] M8 Q)) ∧ (¬ (((mI M1 2239 ((mI M1 2230 16) + 14).toNat) - x9) ≠ 30) → (Q 4 M8)))))) ∧ (¬ (x2 ≠ 0) → (Ci d q10_openMany [zr 2230] M1 (fun x14 M13 => KW K M13 ∧ ((x14 ≠ 30 → (Xi (d + 1) q10_makes 116 [some (zr 2230), some (zi a1), some (zi l2), none] [] M13 Q)) ∧ (¬ (x14 ≠ 30) → (Q 4 M13))))))))) : Xi (d + 1) q10_makes 78 [some (zr 2230), some (zi a1), some (zi l2), none] [] M Q := by
  refine Xi.up (pc' := 79) (fun _ _ k => x_aload_n dX10_makes_78 rfl rfl k) ?_
  obtain ⟨x2, M1, hc4, hK3, h⟩ := h
  refine Xi.up (pc' := 82) (st' := [zi x2]) (fun _ _ k => x_callVK (ci := 10) (as := []) (st := []) hK k10_level lm10_166 dX10_makes_79 rfl (by decide) (zs8 rfl) h0.1 ⟨_, _, rfl⟩ hc4 k) ?_
  refine Xi.br (tgt := 92) (pc' := 85) (x2 ≠ 0) (fun _ _ kt kf => x_if_ne dX10_makes_82 rfl kt kf) (fun c => ?_) (fun c => ?_)
  · have h := h.1 c
    refine Xi.up (pc' := 93) (fun _ _ k => x_aload_n dX10_makes_92 rfl rfl k) ?_
    refine Xi.up (pc' := 96) (fun _ _ k => x_getRK hK3 lf10_35 rfl dX10_makes_93 h0.1 h0.2.2.2.2.2.2.2.2.2.1 k) ?_
    refine Xi.up (pc' := 97) (fun _ _ k => x_aload_n dX10_makes_96 rfl rfl k) ?_
    refine Xi.up (pc' := 100) (fun _ _ k => x_getIK hK3 lf10_156 rfl dX10_makes_97 h0.1 k) ?_
    refine Xi.up (pc' := 102) (fun _ _ k => x_bipush dX10_makes_100 (show inR 14 from ⟨by decide, by decide⟩) (by decide) k) ?_
    obtain ⟨g5, h⟩ := h
    refine Xi.up (pc' := 103) (fun _ _ k => x_iadd dX10_makes_102 g5 k) ?_
    obtain ⟨g6, h⟩ := h
    obtain ⟨g7, h⟩ := h
    refine Xi.up (pc' := 104) (fun _ _ k => x_ialoadK hK3 dX10_makes_103 h0.2.2.2.2.2.2.2.2.2.2.2.2.2.2.2.2.2.2.2.1 g6 g7 k) ?_
    refine Xi.up (pc' := 105) (fun _ _ k => x_aload_n dX10_makes_104 rfl rfl k) ?_
    obtain ⟨x9, M8, hc11, hK10, h⟩ := h
    refine Xi.up (pc' := 108) (st' := [zi x9, zi (mI M1 2239 ((mI M1 2230 16) + 14).toNat)]) (fun _ _ k => x_callVK (ci := 10) (as := []) (st := [zi (mI M1 2239 ((mI M1 2230 16) + 14).toNat)]) hK3 k10_openMany lm10_220 dX10_makes_105 rfl (by decide) (zs8 rfl) h0.1 ⟨_, _, rfl⟩ hc11 k) ?_
    obtain ⟨g12, h⟩ := h
    refine Xi.up (pc' := 109) (fun _ _ k => x_isub dX10_makes_108 g12 k) ?_
    refine Xi.up (pc' := 111) (fun _ _ k => x_bipush dX10_makes_109 (show inR 30 from ⟨by decide, by decide⟩) (by decide) k) ?_
    refine Xi.br (tgt := 116) (pc' := 114) (((mI M1 2239 ((mI M1 2230 16) + 14).toNat) - x9) ≠ 30) (fun _ _ kt kf => x_icmp_ne dX10_makes_111 rfl kt kf) (fun c => ?_) (fun c => ?_)
    · have h := h.1 c
      exact h
    · have h := h.2 c
      refine Xi.up (pc' := 115) (fun _ _ k => x_iconst dX10_makes_114 (show inR 4 from ⟨by decide, by decide⟩) k) ?_
      exact Xi.ret ⟨dX10_makes_115, Or.inl rfl⟩ h
  · have h := h.2 c
    refine Xi.up (pc' := 86) (fun _ _ k => x_aload_n dX10_makes_85 rfl rfl k) ?_
    obtain ⟨x14, M13, hc16, hK15, h⟩ := h
    refine Xi.up (pc' := 89) (st' := [zi x14]) (fun _ _ k => x_callVK (ci := 10) (as := []) (st := []) hK3 k10_openMany lm10_220 dX10_makes_86 rfl (by decide) (zs8 rfl) h0.1 ⟨_, _, rfl⟩ hc16 k) ?_
    refine Xi.up (pc' := 109) (fun _ _ k => x_goto dX10_makes_89 rfl k) ?_
    refine Xi.up (pc' := 111) (fun _ _ k => x_bipush dX10_makes_109 (show inR 30 from ⟨by decide, by decide⟩) (by decide) k) ?_
    refine Xi.br (tgt := 116) (pc' := 114) (x14 ≠ 30) (fun _ _ kt kf => x_icmp_ne dX10_makes_111 rfl kt kf) (fun c => ?_) (fun c => ?_)
    · have h := h.1 c
      exact h
    · have h := h.2 c
      refine Xi.up (pc' := 115) (fun _ _ k => x_iconst dX10_makes_114 (show inR 4 from ⟨by decide, by decide⟩) k) ?_
      exact Xi.ret ⟨dX10_makes_115, Or.inl rfl⟩ h
set_option maxHeartbeats 4000000 in
set_option maxRecDepth 20000 in
theorem B10_makes_116 {d : Nat} {K M : ZMem} {Q : Int → ZMem → Prop} (a1 : Int) (l2 : Int) (hK : KW K M) (h0 : ModelAt K 2230) (h : (inR ((mI M 2230 16) + 14)) ∧ (0 ≤ ((mI M 2230 16) + 14)) ∧ (((mI M 2230 16) + 14) < 19245) ∧ Ci d q10_pointAt [zr 2230, zi (mI M 2239 ((mI M 2230 16) + 14).toNat)] M (fun x5 M4 => KW K M4 ∧ (0 ≤ (mI M4 2230 17)) ∧ (0 ≤ x5) ∧ ((mI M4 2230 17) + 35 ≤ 19245) ∧ (x5 + 35 ≤ 19245) ∧ (inR (x5 + 35)) ∧ (0 ≤ (x5 + 35)) ∧ ((x5 + 35) < 19245) ∧ (inR (x5 + 36)) ∧ (0 ≤ (x5 + 36)) ∧ ((x5 + 36) < 19245) ∧ (inR (x5 + 37)) ∧ (0 ≤ (x5 + 37)) ∧ ((x5 + 37) < 19245) ∧ (inR (x5 + 38)) ∧ (0 ≤ (x5 + 38)) ∧ ((x5 + 38) + 6 ≤ 19245) ∧ (inR (x5 + 44)) ∧ (inR ((mI (sA (sI (sI (sI (sA M4 2239 (zCpy (mI M4 2239) (mI M4 2239) (mI M4 2230 17).toNat x5.toNat 35)) 2239 ((x5 + 35).toNat) a1) 2239 ((x5 + 36).toNat) 0) 2239 ((x5 + 37).toNat) l2) 2239 (zCpy (mI (sI (sI (sI (sA M4 2239 (zCpy (mI M4 2239) (mI M4 2239) (mI M4 2230 17).toNat x5.toNat 35)) 2239 ((x5 + 35).toNat) a1) 2239 ((x5 + 36).toNat) 0) 2239 ((x5 + 37).toNat) l2) 2240) (mI (sI (sI (sI (sA M4 2239 (zCpy (mI M4 2239) (mI M4 2239) (mI M4 2230 17).toNat x5.toNat 35)) 2239 ((x5 + 35).toNat) a1) 2239 ((x5 + 36).toNat) 0) 2239 ((x5 + 37).toNat) l2) 2239) 0 (x5 + 38).toNat 6)) 2230 16) + 16)) ∧ (0 ≤ ((mI (sA (sI (sI (sI (sA M4 2239 (zCpy (mI M4 2239) (mI M4 2239) (mI M4 2230 17).toNat x5.toNat 35)) 2239 ((x5 + 35).toNat) a1) 2239 ((x5 + 36).toNat) 0) 2239 ((x5 + 37).toNat) l2) 2239 (zCpy (mI (sI (sI (sI (sA M4 2239 (zCpy (mI M4 2239) (mI M4 2239) (mI M4 2230 17).toNat x5.toNat 35)) 2239 ((x5 + 35).toNat) a1) 2239 ((x5 + 36).toNat) 0) 2239 ((x5 + 37).toNat) l2) 2240) (mI (sI (sI (sI (sA M4 2239 (zCpy (mI M4 2239) (mI M4 2239) (mI M4 2230 17).toNat x5.toNat 35)) 2239 ((x5 + 35).toNat) a1) 2239 ((x5 + 36).toNat) 0) 2239 ((x5 + 37).toNat) l2) 2239) 0 (x5 + 38).toNat 6)) 2230 16) + 16)) ∧ (((mI (sA (sI (sI (sI (sA M4 2239 (zCpy (mI M4 2239) (mI M4 2239) (mI M4 2230 17).toNat x5.toNat 35)) 2239 ((x5 + 35).toNat) a1) 2239 ((x5 + 36).toNat) 0) 2239 ((x5 + 37).toNat) l2) 2239 (zCpy (mI (sI (sI (sI (sA M4 2239 (zCpy (mI M4 2239) (mI M4 2239) (mI M4 2230 17).toNat x5.toNat 35)) 2239 ((x5 + 35).toNat) a1) 2239 ((x5 + 36).toNat) 0) 2239 ((x5 + 37).toNat) l2) 2240) (mI (sI (sI (sI (sA M4 2239 (zCpy (mI M4 2239) (mI M4 2239) (mI M4 2230 17).toNat x5.toNat 35)) 2239 ((x5 + 35).toNat) a1) 2239 ((x5 + 36).toNat) 0) 2239 ((x5 + 37).toNat) l2) 2239) 0 (x5 + 38).toNat 6)) 2230 16) + 16) < 19245) ∧ (0 ≤ (x5 + 44)) ∧ ((x5 + 44) < 19245) ∧ (inR (x5 + 45)) ∧ Ci d q10_level [zr 2230] (sI (sA (sI (sI (sI (sA M4 2239 (zCpy (mI M4 2239) (mI M4 2239) (mI M4 2230 17).toNat x5.toNat 35)) 2239 ((x5 + 35).toNat) a1) 2239 ((x5 + 36).toNat) 0) 2239 ((x5 + 37).toNat) l2) 2239 (zCpy (mI (sI (sI (sI (sA M4 2239 (zCpy (mI M4 2239) (mI M4 2239) (mI M4 2230 17).toNat x5.toNat 35)) 2239 ((x5 + 35).toNat) a1) 2239 ((x5 + 36).toNat) 0) 2239 ((x5 + 37).toNat) l2) 2240) (mI (sI (sI (sI (sA M4 2239 (zCpy (mI M4 2239) (mI M4 2239) (mI M4 2230 17).toNat x5.toNat 35)) 2239 ((x5 + 35).toNat) a1) 2239 ((x5 + 36).toNat) 0) 2239 ((x5 + 37).toNat) l2) 2239) 0 (x5 + 38).toNat 6)) 2239 ((x5 + 44).toNat) (mI (sA (sI (sI (sI (sA M4 2239 (zCpy (mI M4 2239) (mI M4 2239) (mI M4 2230 17).toNat x5.toNat 35)) 2239 ((x5 + 35).toNat) a1) 2239 ((x5 + 36).toNat) 0) 2239 ((x5 + 37).toNat) l2) 2239 (zCpy (mI (sI (sI (sI (sA M4 2239 (zCpy (mI M4 2239) (mI M4 2239) (mI M4 2230 17).toNat x5.toNat 35)) 2239 ((x5 + 35).toNat) a1) 2239 ((x5 + 36).toNat) 0) 2239 ((x5 + 37).toNat) l2) 2240) (mI (sI (sI (sI (sA M4 2239 (zCpy (mI M4 2239) (mI M4 2239) (mI M4 2230 17).toNat x5.toNat 35)) 2239 ((x5 + 35).toNat) a1) 2239 ((x5 + 36).toNat) 0) 2239 ((x5 + 37).toNat) l2) 2239) 0 (x5 + 38).toNat 6)) 2239 ((mI (sA (sI (sI (sI (sA M4 2239 (zCpy (mI M4 2239) (mI M4 2239) (mI M4 2230 17).toNat x5.toNat 35)) 2239 ((x5 + 35).toNat) a1) 2239 ((x5 + 36).toNat) 0) 2239 ((x5 + 37).toNat) l2) 2239 (zCpy (mI (sI (sI (sI (sA M4 2239 (zCpy (mI M4 2239) (mI M4 2239) (mI M4 2230 17).toNat x5.toNat 35)) 2239 ((x5 + 35).toNat) a1) 2239 ((x5 + 36).toNat) 0) 2239 ((x5 + 37).toNat) l2) 2240) (mI (sI (sI (sI (sA M4 2239 (zCpy (mI M4 2239) (mI M4 2239) (mI M4 2230 17).toNat x5.toNat 35)) 2239 ((x5 + 35).toNat) a1) 2239 ((x5 + 36).toNat) 0) 2239 ((x5 + 37).toNat) l2) 2239) 0 (x5 + 38).toNat 6)) 2230 16) + 16).toNat)) (fun x38 M37 => KW K M37 ∧ (0 ≤ (x5 + 45)) ∧ ((x5 + 45) < 19245) ∧ (inR (x5 + 46)) ∧ Ci d q10_costOf [zr 2230, zi x5] (sI M37 2239 ((x5 + 45).toNat) x38) (fun x46 M45 => KW K M45 ∧ (0 ≤ (x5 + 46)) ∧ ((x5 + 46) < 19245) ∧ (inR ((mI (sI M45 2239 ((x5 + 46).toNat) x46) 2230 16) + 16)) ∧ (0 ≤ ((mI (sI M45 2239 ((x5 + 46).toNat) x46) 2230 16) + 16)) ∧ (((mI (sI M45 2239 ((x5 + 46).toNat) x46) 2230 16) + 16) < 19245) ∧ (inR ((mI (sI M45 2239 ((x5 + 46).toNat) x46) 2239 ((mI (sI M45 2239 ((x5 + 46).toNat) x46) 2230 16) + 16).toNat) + 1)) ∧ (0 ≤ ((mI (sI M45 2239 ((x5 + 46).toNat) x46) 2230 16) + 16)) ∧ (((mI (sI M45 2239 ((x5 + 46).toNat) x46) 2230 16) + 16) < 19245) ∧ (inR ((mI (sI (sI M45 2239 ((x5 + 46).toNat) x46) 2239 (((mI (sI M45 2239 ((x5 + 46).toNat) x46) 2230 16) + 16).toNat) ((mI (sI M45 2239 ((x5 + 46).toNat) x46) 2239 ((mI (sI M45 2239 ((x5 + 46).toNat) x46) 2230 16) + 16).toNat) + 1)) 2230 16) + 14)) ∧ (0 ≤ ((mI (sI (sI M45 2239 ((x5 + 46).toNat) x46) 2239 (((mI (sI M45 2239 ((x5 + 46).toNat) x46) 2230 16) + 16).toNat) ((mI (sI M45 2239 ((x5 + 46).toNat) x46) 2239 ((mI (sI M45 2239 ((x5 + 46).toNat) x46) 2230 16) + 16).toNat) + 1)) 2230 16) + 14)) ∧ (((mI (sI (sI M45 2239 ((x5 + 46).toNat) x46) 2239 (((mI (sI M45 2239 ((x5 + 46).toNat) x46) 2230 16) + 16).toNat) ((mI (sI M45 2239 ((x5 + 46).toNat) x46) 2239 ((mI (sI M45 2239 ((x5 + 46).toNat) x46) 2230 16) + 16).toNat) + 1)) 2230 16) + 14) < 19245) ∧ (inR ((mI (sI (sI M45 2239 ((x5 + 46).toNat) x46) 2239 (((mI (sI M45 2239 ((x5 + 46).toNat) x46) 2230 16) + 16).toNat) ((mI (sI M45 2239 ((x5 + 46).toNat) x46) 2239 ((mI (sI M45 2239 ((x5 + 46).toNat) x46) 2230 16) + 16).toNat) + 1)) 2239 ((mI (sI (sI M45 2239 ((x5 + 46).toNat) x46) 2239 (((mI (sI M45 2239 ((x5 + 46).toNat) x46) 2230 16) + 16).toNat) ((mI (sI M45 2239 ((x5 + 46).toNat) x46) 2239 ((mI (sI M45 2239 ((x5 + 46).toNat) x46) 2230 16) + 16).toNat) + 1)) 2230 16) + 14).toNat) + 1)) ∧ (0 ≤ ((mI (sI (sI M45 2239 ((x5 + 46).toNat) x46) 2239 (((mI (sI M45 2239 ((x5 + 46).toNat) x46) 2230 16) + 16).toNat) ((mI (sI M45 2239 ((x5 + 46).toNat) x46) 2239 ((mI (sI M45 2239 ((x5 + 46).toNat) x46) 2230 16) + 16).toNat) + 1)) 2230 16) + 14)) ∧ (((mI (sI (sI M45 2239 ((x5 + 46).toNat) x46) 2239 (((mI (sI M45 2239 ((x5 + 46).toNat) x46) 2230 16) + 16).toNat) ((mI (sI M45 2239 ((x5 + 46).toNat) x46) 2239 ((mI (sI M45 2239 ((x5 + 46).toNat) x46) 2230 16) + 16).toNat) + 1)) 2230 16) + 14) < 19245) ∧ Ci d q10_level [zr 2230] (sI (sI (sI M45 2239 ((x5 + 46).toNat) x46) 2239 (((mI (sI M45 2239 ((x5 + 46).toNat) x46) 2230 16) + 16).toNat) ((mI (sI M45 2239 ((x5 + 46).toNat) x46) 2239 ((mI (sI M45 2239 ((x5 + 46).toNat) x46) 2230 16) + 16).toNat) + 1)) 2239 (((mI (sI (sI M45 2239 ((x5 + 46).toNat) x46) 2239 (((mI (sI M45 2239 ((x5 + 46).toNat) x46) 2230 16) + 16).toNat) ((mI (sI M45 2239 ((x5 + 46).toNat) x46) 2239 ((mI (sI M45 2239 ((x5 + 46).toNat) x46) 2230 16) + 16).toNat) + 1)) 2230 16) + 14).toNat) ((mI (sI (sI M45 2239 ((x5 + 46).toNat) x46) 2239 (((mI (sI M45 2239 ((x5 + 46).toNat) x46) 2230 16) + 16).toNat) ((mI (sI M45 2239 ((x5 + 46).toNat) x46) 2239 ((mI (sI M45 2239 ((x5 + 46).toNat) x46) 2230 16) + 16).toNat) + 1)) 2239 ((mI (sI (sI M45 2239 ((x5 + 46).toNat) x46) 2239 (((mI (sI M45 2239 ((x5 + 46).toNat) x46) 2230 16) + 16).toNat) ((mI (sI M45 2239 ((x5 + 46).toNat) x46) 2239 ((mI (sI M45 2239 ((x5 + 46).toNat) x46) 2230 16) + 16).toNat) + 1)) 2230 16) + 14).toNat) + 1)) (fun x67 M66 => KW K M66 ∧ ((x67 ≠ 0 → (Q 6 M66)) ∧ (¬ (x67 ≠ 0) → ((inR ((mI M66 2230 16) + 5)) ∧ (0 ≤ ((mI M66 2230 16) + 5)) ∧ (((mI M66 2230 16) + 5) < 19245) ∧ (inR ((mI M66 2239 ((mI M66 2230 16) + 5).toNat) + 1)) ∧ (0 ≤ ((mI M66 2230 16) + 5)) ∧ (((mI M66 2230 16) + 5) < 19245) ∧ (inR ((mI (sI M66 2239 (((mI M66 2230 16) + 5).toNat) ((mI M66 2239 ((mI M66 2230 16) + 5).toNat) + 1)) 2230 16) + 11)) ∧ (inR ((mI (sI M66 2239 (((mI M66 2230 16) + 5).toNat) ((mI M66 2239 ((mI M66 2230 16) + 5).toNat) + 1)) 2230 16) + 11)) ∧ (0 ≤ ((mI (sI M66 2239 (((mI M66 2230 16) + 5).toNat) ((mI M66 2239 ((mI M66 2230 16) + 5).toNat) + 1)) 2230 16) + 11)) ∧ (((mI (sI M66 2239 (((mI M66 2230 16) + 5).toNat) ((mI M66 2239 ((mI M66 2230 16) + 5).toNat) + 1)) 2230 16) + 11) < 19245) ∧ Ci d q10_openMany [zr 2230] (sI M66 2239 (((mI M66 2230 16) + 5).toNat) ((mI M66 2239 ((mI M66 2230 16) + 5).toNat) + 1)) (fun x82 M81 => KW K M81 ∧ (0 ≤ ((mI (sI M66 2239 (((mI M66 2230 16) + 5).toNat) ((mI M66 2239 ((mI M66 2230 16) + 5).toNat) + 1)) 2230 16) + 11)) ∧ (((mI (sI M66 2239 (((mI M66 2230 16) + 5).toNat) ((mI M66 2239 ((mI M66 2230 16) + 5).toNat) + 1)) 2230 16) + 11) < 19245) ∧ Q 6 (sI M81 2239 (((mI (sI M66 2239 (((mI M66 2230 16) + 5).toNat) ((mI M66 2239 ((mI M66 2230 16) + 5).toNat) + 1)) 2230 16) + 11).toNat) (if (mI (sI M66 2239 (((mI M66 2230 16) + 5).toNat) ((mI M66 2239 ((mI M66 2230 16) + 5).toNat) + 1)) 2239 ((mI (sI M66 2239 (((mI M66 2230 16) + 5).toNat) ((mI M66 2239 ((mI M66 2230 16) + 5).toNat) + 1)) 2230 16) + 11).toNat) < x82 then x82 else (mI (sI M66 2239 (((mI M66 2230 16) + 5).toNat) ((mI M66 2239 ((mI M66 2230 16) + 5).toNat) + 1)) 2239 ((mI (sI M66 2239 (((mI M66 2230 16) + 5).toNat) ((mI M66 2239 ((mI M66 2230 16) + 5).toNat) + 1)) 2230 16) + 11).toNat)))))))))))) : Xi (d + 1) q10_makes 116 [some (zr 2230), some (zi a1), some (zi l2), none] [] M Q := by
  refine Xi.up (pc' := 117) (fun _ _ k => x_aload_n dX10_makes_116 rfl rfl k) ?_
  refine Xi.up (pc' := 118) (fun _ _ k => x_aload_n dX10_makes_117 rfl rfl k) ?_
  refine Xi.up (pc' := 121) (fun _ _ k => x_getRK hK lf10_35 rfl dX10_makes_118 h0.1 h0.2.2.2.2.2.2.2.2.2.1 k) ?_
  refine Xi.up (pc' := 122) (fun _ _ k => x_aload_n dX10_makes_121 rfl rfl k) ?_
  refine Xi.up (pc' := 125) (fun _ _ k => x_getIK hK lf10_156 rfl dX10_makes_122 h0.1 k) ?_
  refine Xi.up (pc' := 127) (fun _ _ k => x_bipush dX10_makes_125 (show inR 14 from ⟨by decide, by decide⟩) (by decide) k) ?_
  obtain ⟨g1, h⟩ := h
  refine Xi.up (pc' := 128) (fun _ _ k => x_iadd dX10_makes_127 g1 k) ?_
  obtain ⟨g2, h⟩ := h
  obtain ⟨g3, h⟩ := h
  refine Xi.up (pc' := 129) (fun _ _ k => x_ialoadK hK dX10_makes_128 h0.2.2.2.2.2.2.2.2.2.2.2.2.2.2.2.2.2.2.2.1 g2 g3 k) ?_
  obtain ⟨x5, M4, hc7, hK6, h⟩ := h
  refine Xi.up (pc' := 132) (st' := [zi x5]) (fun _ _ k => x_callVK (ci := 10) (as := [zi (mI M 2239 ((mI M 2230 16) + 14).toNat)]) (st := []) hK k10_pointAt lm10_163 dX10_makes_129 rfl (by decide) (zs8 rfl) h0.1 ⟨_, _, rfl⟩ hc7 k) ?_
  refine Xi.up (pc' := 133) (L' := [some (zr 2230), some (zi a1), some (zi l2), some (zi x5)]) (fun _ _ k => x_istore_n dX10_makes_132 rfl (by decide) rfl k) ?_
  refine Xi.up (pc' := 134) (fun _ _ k => x_aload_n dX10_makes_133 rfl rfl k) ?_
  refine Xi.up (pc' := 137) (fun _ _ k => x_getRK hK6 lf10_35 rfl dX10_makes_134 h0.1 h0.2.2.2.2.2.2.2.2.2.1 k) ?_
  refine Xi.up (pc' := 138) (fun _ _ k => x_aload_n dX10_makes_137 rfl rfl k) ?_
  refine Xi.up (pc' := 141) (fun _ _ k => x_getIK hK6 lf10_160 rfl dX10_makes_138 h0.1 k) ?_
  refine Xi.up (pc' := 142) (fun _ _ k => x_aload_n dX10_makes_141 rfl rfl k) ?_
  refine Xi.up (pc' := 145) (fun _ _ k => x_getRK hK6 lf10_35 rfl dX10_makes_142 h0.1 h0.2.2.2.2.2.2.2.2.2.1 k) ?_
  refine Xi.up (pc' := 146) (fun _ _ k => x_iload_n dX10_makes_145 rfl rfl k) ?_
  refine Xi.up (pc' := 148) (fun _ _ k => x_bipush dX10_makes_146 (show inR 35 from ⟨by decide, by decide⟩) (by decide) k) ?_
  obtain ⟨g8, h⟩ := h
  obtain ⟨g9, h⟩ := h
  obtain ⟨g10, h⟩ := h
  obtain ⟨g11, h⟩ := h
  refine Xi.up (pc' := 151) (fun _ _ k => x_copyK hK6 la10_173 dX10_makes_148 h0.2.2.2.2.2.2.2.2.2.2.2.2.2.2.2.2.2.2.2.1 h0.2.2.2.2.2.2.2.2.2.2.2.2.2.2.2.2.2.2.2.1 g8 g9 (by decide) g10 g11 k) ?_
  have hK12 := KW.sA hK6 2239 (zCpy (mI M4 2239) (mI M4 2239) (mI M4 2230 17).toNat x5.toNat 35)
  refine Xi.up (pc' := 152) (fun _ _ k => x_aload_n dX10_makes_151 rfl rfl k) ?_
  refine Xi.up (pc' := 155) (fun _ _ k => x_getRK hK12 lf10_35 rfl dX10_makes_152 h0.1 h0.2.2.2.2.2.2.2.2.2.1 k) ?_
  refine Xi.up (pc' := 156) (fun _ _ k => x_iload_n dX10_makes_155 rfl rfl k) ?_
  refine Xi.up (pc' := 158) (fun _ _ k => x_bipush dX10_makes_156 (show inR 35 from ⟨by decide, by decide⟩) (by decide) k) ?_
  obtain ⟨g13, h⟩ := h
  refine Xi.up (pc' := 159) (fun _ _ k => x_iadd dX10_makes_158 g13 k) ?_
  refine Xi.up (pc' := 160) (fun _ _ k => x_iload_n dX10_makes_159 rfl rfl k) ?_
  obtain ⟨g14, h⟩ := h
  obtain ⟨g15, h⟩ := h
  refine Xi.up (pc' := 161) (fun _ _ k => x_iastoreK hK12 dX10_makes_160 h0.2.2.2.2.2.2.2.2.2.2.2.2.2.2.2.2.2.2.2.1 g14 g15 k) ?_
  have hK16 := KW.sI hK12 2239 ((x5 + 35).toNat) a1
  refine Xi.up (pc' := 162) (fun _ _ k => x_aload_n dX10_makes_161 rfl rfl k) ?_
  refine Xi.up (pc' := 165) (fun _ _ k => x_getRK hK16 lf10_35 rfl dX10_makes_162 h0.1 h0.2.2.2.2.2.2.2.2.2.1 k) ?_
  refine Xi.up (pc' := 166) (fun _ _ k => x_iload_n dX10_makes_165 rfl rfl k) ?_
  refine Xi.up (pc' := 168) (fun _ _ k => x_bipush dX10_makes_166 (show inR 36 from ⟨by decide, by decide⟩) (by decide) k) ?_
  obtain ⟨g17, h⟩ := h
  refine Xi.up (pc' := 169) (fun _ _ k => x_iadd dX10_makes_168 g17 k) ?_
  refine Xi.up (pc' := 170) (fun _ _ k => x_iconst dX10_makes_169 (show inR 0 from ⟨by decide, by decide⟩) k) ?_
  obtain ⟨g18, h⟩ := h
  obtain ⟨g19, h⟩ := h
  refine Xi.up (pc' := 171) (fun _ _ k => x_iastoreK hK16 dX10_makes_170 h0.2.2.2.2.2.2.2.2.2.2.2.2.2.2.2.2.2.2.2.1 g18 g19 k) ?_
  have hK20 := KW.sI hK16 2239 ((x5 + 36).toNat) 0
  refine Xi.up (pc' := 172) (fun _ _ k => x_aload_n dX10_makes_171 rfl rfl k) ?_
  refine Xi.up (pc' := 175) (fun _ _ k => x_getRK hK20 lf10_35 rfl dX10_makes_172 h0.1 h0.2.2.2.2.2.2.2.2.2.1 k) ?_
  refine Xi.up (pc' := 176) (fun _ _ k => x_iload_n dX10_makes_175 rfl rfl k) ?_
  refine Xi.up (pc' := 178) (fun _ _ k => x_bipush dX10_makes_176 (show inR 37 from ⟨by decide, by decide⟩) (by decide) k) ?_
  obtain ⟨g21, h⟩ := h
  refine Xi.up (pc' := 179) (fun _ _ k => x_iadd dX10_makes_178 g21 k) ?_
  refine Xi.up (pc' := 180) (fun _ _ k => x_iload_n dX10_makes_179 rfl rfl k) ?_
  obtain ⟨g22, h⟩ := h
  obtain ⟨g23, h⟩ := h
  refine Xi.up (pc' := 181) (fun _ _ k => x_iastoreK hK20 dX10_makes_180 h0.2.2.2.2.2.2.2.2.2.2.2.2.2.2.2.2.2.2.2.1 g22 g23 k) ?_
  have hK24 := KW.sI hK20 2239 ((x5 + 37).toNat) l2
  refine Xi.up (pc' := 182) (fun _ _ k => x_aload_n dX10_makes_181 rfl rfl k) ?_
  refine Xi.up (pc' := 185) (fun _ _ k => x_getRK hK24 lf10_38 rfl dX10_makes_182 h0.1 h0.2.2.2.2.2.2.2.2.2.2.1 k) ?_
  refine Xi.up (pc' := 186) (fun _ _ k => x_iconst dX10_makes_185 (show inR 0 from ⟨by decide, by decide⟩) k) ?_
  refine Xi.up (pc' := 187) (fun _ _ k => x_aload_n dX10_makes_186 rfl rfl k) ?_
  refine Xi.up (pc' := 190) (fun _ _ k => x_getRK hK24 lf10_35 rfl dX10_makes_187 h0.1 h0.2.2.2.2.2.2.2.2.2.1 k) ?_
  refine Xi.up (pc' := 191) (fun _ _ k => x_iload_n dX10_makes_190 rfl rfl k) ?_
  refine Xi.up (pc' := 193) (fun _ _ k => x_bipush dX10_makes_191 (show inR 38 from ⟨by decide, by decide⟩) (by decide) k) ?_
  obtain ⟨g25, h⟩ := h
  refine Xi.up (pc' := 194) (fun _ _ k => x_iadd dX10_makes_193 g25 k) ?_
  refine Xi.up (pc' := 196) (fun _ _ k => x_bipush dX10_makes_194 (show inR 6 from ⟨by decide, by decide⟩) (by decide) k) ?_
  obtain ⟨g26, h⟩ := h
  obtain ⟨g27, h⟩ := h
  refine Xi.up (pc' := 199) (fun _ _ k => x_copyK hK24 la10_173 dX10_makes_196 h0.2.2.2.2.2.2.2.2.2.2.2.2.2.2.2.2.2.2.2.2 h0.2.2.2.2.2.2.2.2.2.2.2.2.2.2.2.2.2.2.2.1 (by decide) g26 (by decide) (by decide) g27 k) ?_
  have hK28 := KW.sA hK24 2239 (zCpy (mI (sI (sI (sI (sA M4 2239 (zCpy (mI M4 2239) (mI M4 2239) (mI M4 2230 17).toNat x5.toNat 35)) 2239 ((x5 + 35).toNat) a1) 2239 ((x5 + 36).toNat) 0) 2239 ((x5 + 37).toNat) l2) 2240) (mI (sI (sI (sI (sA M4 2239 (zCpy (mI M4 2239) (mI M4 2239) (mI M4 2230 17).toNat x5.toNat 35)) 2239 ((x5 + 35).toNat) a1) 2239 ((x5 + 36).toNat) 0) 2239 ((x5 + 37).toNat) l2) 2239) 0 (x5 + 38).toNat 6)
  refine Xi.up (pc' := 200) (fun _ _ k => x_aload_n dX10_makes_199 rfl rfl k) ?_
  refine Xi.up (pc' := 203) (fun _ _ k => x_getRK hK28 lf10_35 rfl dX10_makes_200 h0.1 h0.2.2.2.2.2.2.2.2.2.1 k) ?_
  refine Xi.up (pc' := 204) (fun _ _ k => x_iload_n dX10_makes_203 rfl rfl k) ?_
  refine Xi.up (pc' := 206) (fun _ _ k => x_bipush dX10_makes_204 (show inR 44 from ⟨by decide, by decide⟩) (by decide) k) ?_
  obtain ⟨g29, h⟩ := h
  refine Xi.up (pc' := 207) (fun _ _ k => x_iadd dX10_makes_206 g29 k) ?_
  refine Xi.up (pc' := 208) (fun _ _ k => x_aload_n dX10_makes_207 rfl rfl k) ?_
  refine Xi.up (pc' := 211) (fun _ _ k => x_getRK hK28 lf10_35 rfl dX10_makes_208 h0.1 h0.2.2.2.2.2.2.2.2.2.1 k) ?_
  refine Xi.up (pc' := 212) (fun _ _ k => x_aload_n dX10_makes_211 rfl rfl k) ?_
  refine Xi.up (pc' := 215) (fun _ _ k => x_getIK hK28 lf10_156 rfl dX10_makes_212 h0.1 k) ?_
  refine Xi.up (pc' := 217) (fun _ _ k => x_bipush dX10_makes_215 (show inR 16 from ⟨by decide, by decide⟩) (by decide) k) ?_
  obtain ⟨g30, h⟩ := h
  refine Xi.up (pc' := 218) (fun _ _ k => x_iadd dX10_makes_217 g30 k) ?_
  obtain ⟨g31, h⟩ := h
  obtain ⟨g32, h⟩ := h
  refine Xi.up (pc' := 219) (fun _ _ k => x_ialoadK hK28 dX10_makes_218 h0.2.2.2.2.2.2.2.2.2.2.2.2.2.2.2.2.2.2.2.1 g31 g32 k) ?_
  obtain ⟨g33, h⟩ := h
  obtain ⟨g34, h⟩ := h
  refine Xi.up (pc' := 220) (fun _ _ k => x_iastoreK hK28 dX10_makes_219 h0.2.2.2.2.2.2.2.2.2.2.2.2.2.2.2.2.2.2.2.1 g33 g34 k) ?_
  have hK35 := KW.sI hK28 2239 ((x5 + 44).toNat) (mI (sA (sI (sI (sI (sA M4 2239 (zCpy (mI M4 2239) (mI M4 2239) (mI M4 2230 17).toNat x5.toNat 35)) 2239 ((x5 + 35).toNat) a1) 2239 ((x5 + 36).toNat) 0) 2239 ((x5 + 37).toNat) l2) 2239 (zCpy (mI (sI (sI (sI (sA M4 2239 (zCpy (mI M4 2239) (mI M4 2239) (mI M4 2230 17).toNat x5.toNat 35)) 2239 ((x5 + 35).toNat) a1) 2239 ((x5 + 36).toNat) 0) 2239 ((x5 + 37).toNat) l2) 2240) (mI (sI (sI (sI (sA M4 2239 (zCpy (mI M4 2239) (mI M4 2239) (mI M4 2230 17).toNat x5.toNat 35)) 2239 ((x5 + 35).toNat) a1) 2239 ((x5 + 36).toNat) 0) 2239 ((x5 + 37).toNat) l2) 2239) 0 (x5 + 38).toNat 6)) 2239 ((mI (sA (sI (sI (sI (sA M4 2239 (zCpy (mI M4 2239) (mI M4 2239) (mI M4 2230 17).toNat x5.toNat 35)) 2239 ((x5 + 35).toNat) a1) 2239 ((x5 + 36).toNat) 0) 2239 ((x5 + 37).toNat) l2) 2239 (zCpy (mI (sI (sI (sI (sA M4 2239 (zCpy (mI M4 2239) (mI M4 2239) (mI M4 2230 17).toNat x5.toNat 35)) 2239 ((x5 + 35).toNat) a1) 2239 ((x5 + 36).toNat) 0) 2239 ((x5 + 37).toNat) l2) 2240) (mI (sI (sI (sI (sA M4 2239 (zCpy (mI M4 2239) (mI M4 2239) (mI M4 2230 17).toNat x5.toNat 35)) 2239 ((x5 + 35).toNat) a1) 2239 ((x5 + 36).toNat) 0) 2239 ((x5 + 37).toNat) l2) 2239) 0 (x5 + 38).toNat 6)) 2230 16) + 16).toNat)
  refine Xi.up (pc' := 221) (fun _ _ k => x_aload_n dX10_makes_220 rfl rfl k) ?_
  refine Xi.up (pc' := 224) (fun _ _ k => x_getRK hK35 lf10_35 rfl dX10_makes_221 h0.1 h0.2.2.2.2.2.2.2.2.2.1 k) ?_
  refine Xi.up (pc' := 225) (fun _ _ k => x_iload_n dX10_makes_224 rfl rfl k) ?_
  refine Xi.up (pc' := 227) (fun _ _ k => x_bipush dX10_makes_225 (show inR 45 from ⟨by decide, by decide⟩) (by decide) k) ?_
  obtain ⟨g36, h⟩ := h
  refine Xi.up (pc' := 228) (fun _ _ k => x_iadd dX10_makes_227 g36 k) ?_
  refine Xi.up (pc' := 229) (fun _ _ k => x_aload_n dX10_makes_228 rfl rfl k) ?_
  obtain ⟨x38, M37, hc40, hK39, h⟩ := h
  refine Xi.up (pc' := 232) (st' := [zi x38, zi (x5 + 45), zr 2239]) (fun _ _ k => x_callVK (ci := 10) (as := []) (st := [zi (x5 + 45), zr 2239]) hK35 k10_level lm10_166 dX10_makes_229 rfl (by decide) (zs8 rfl) h0.1 ⟨_, _, rfl⟩ hc40 k) ?_
  obtain ⟨g41, h⟩ := h
  obtain ⟨g42, h⟩ := h
  refine Xi.up (pc' := 233) (fun _ _ k => x_iastoreK hK39 dX10_makes_232 h0.2.2.2.2.2.2.2.2.2.2.2.2.2.2.2.2.2.2.2.1 g41 g42 k) ?_
  have hK43 := KW.sI hK39 2239 ((x5 + 45).toNat) x38
  refine Xi.up (pc' := 234) (fun _ _ k => x_aload_n dX10_makes_233 rfl rfl k) ?_
  refine Xi.up (pc' := 237) (fun _ _ k => x_getRK hK43 lf10_35 rfl dX10_makes_234 h0.1 h0.2.2.2.2.2.2.2.2.2.1 k) ?_
  refine Xi.up (pc' := 238) (fun _ _ k => x_iload_n dX10_makes_237 rfl rfl k) ?_
  refine Xi.up (pc' := 240) (fun _ _ k => x_bipush dX10_makes_238 (show inR 46 from ⟨by decide, by decide⟩) (by decide) k) ?_
  obtain ⟨g44, h⟩ := h
  refine Xi.up (pc' := 241) (fun _ _ k => x_iadd dX10_makes_240 g44 k) ?_
  refine Xi.up (pc' := 242) (fun _ _ k => x_aload_n dX10_makes_241 rfl rfl k) ?_
  refine Xi.up (pc' := 243) (fun _ _ k => x_iload_n dX10_makes_242 rfl rfl k) ?_
  obtain ⟨x46, M45, hc48, hK47, h⟩ := h
  refine Xi.up (pc' := 246) (st' := [zi x46, zi (x5 + 46), zr 2239]) (fun _ _ k => x_callVK (ci := 10) (as := [zi x5]) (st := [zi (x5 + 46), zr 2239]) hK43 k10_costOf lm10_223 dX10_makes_243 rfl (by decide) (zs8 rfl) h0.1 ⟨_, _, rfl⟩ hc48 k) ?_
  obtain ⟨g49, h⟩ := h
  obtain ⟨g50, h⟩ := h
  refine Xi.up (pc' := 247) (fun _ _ k => x_iastoreK hK47 dX10_makes_246 h0.2.2.2.2.2.2.2.2.2.2.2.2.2.2.2.2.2.2.2.1 g49 g50 k) ?_
  have hK51 := KW.sI hK47 2239 ((x5 + 46).toNat) x46
  refine Xi.up (pc' := 248) (fun _ _ k => x_aload_n dX10_makes_247 rfl rfl k) ?_
  refine Xi.up (pc' := 251) (fun _ _ k => x_getRK hK51 lf10_35 rfl dX10_makes_248 h0.1 h0.2.2.2.2.2.2.2.2.2.1 k) ?_
  refine Xi.up (pc' := 252) (fun _ _ k => x_aload_n dX10_makes_251 rfl rfl k) ?_
  refine Xi.up (pc' := 255) (fun _ _ k => x_getIK hK51 lf10_156 rfl dX10_makes_252 h0.1 k) ?_
  refine Xi.up (pc' := 257) (fun _ _ k => x_bipush dX10_makes_255 (show inR 16 from ⟨by decide, by decide⟩) (by decide) k) ?_
  obtain ⟨g52, h⟩ := h
  refine Xi.up (pc' := 258) (fun _ _ k => x_iadd dX10_makes_257 g52 k) ?_
  refine Xi.up (pc' := 259) (fun _ _ k => x_dup2 dX10_makes_258 k) ?_
  obtain ⟨g53, h⟩ := h
  obtain ⟨g54, h⟩ := h
  refine Xi.up (pc' := 260) (fun _ _ k => x_ialoadK hK51 dX10_makes_259 h0.2.2.2.2.2.2.2.2.2.2.2.2.2.2.2.2.2.2.2.1 g53 g54 k) ?_
  refine Xi.up (pc' := 261) (fun _ _ k => x_iconst dX10_makes_260 (show inR 1 from ⟨by decide, by decide⟩) k) ?_
  obtain ⟨g55, h⟩ := h
  refine Xi.up (pc' := 262) (fun _ _ k => x_iadd dX10_makes_261 g55 k) ?_
  obtain ⟨g56, h⟩ := h
  obtain ⟨g57, h⟩ := h
  refine Xi.up (pc' := 263) (fun _ _ k => x_iastoreK hK51 dX10_makes_262 h0.2.2.2.2.2.2.2.2.2.2.2.2.2.2.2.2.2.2.2.1 g56 g57 k) ?_
  have hK58 := KW.sI hK51 2239 (((mI (sI M45 2239 ((x5 + 46).toNat) x46) 2230 16) + 16).toNat) ((mI (sI M45 2239 ((x5 + 46).toNat) x46) 2239 ((mI (sI M45 2239 ((x5 + 46).toNat) x46) 2230 16) + 16).toNat) + 1)
  refine Xi.up (pc' := 264) (fun _ _ k => x_aload_n dX10_makes_263 rfl rfl k) ?_
  refine Xi.up (pc' := 267) (fun _ _ k => x_getRK hK58 lf10_35 rfl dX10_makes_264 h0.1 h0.2.2.2.2.2.2.2.2.2.1 k) ?_
  refine Xi.up (pc' := 268) (fun _ _ k => x_aload_n dX10_makes_267 rfl rfl k) ?_
  refine Xi.up (pc' := 271) (fun _ _ k => x_getIK hK58 lf10_156 rfl dX10_makes_268 h0.1 k) ?_
  refine Xi.up (pc' := 273) (fun _ _ k => x_bipush dX10_makes_271 (show inR 14 from ⟨by decide, by decide⟩) (by decide) k) ?_
  obtain ⟨g59, h⟩ := h
  refine Xi.up (pc' := 274) (fun _ _ k => x_iadd dX10_makes_273 g59 k) ?_
  refine Xi.up (pc' := 275) (fun _ _ k => x_dup2 dX10_makes_274 k) ?_
  obtain ⟨g60, h⟩ := h
  obtain ⟨g61, h⟩ := h
  refine Xi.up (pc' := 276) (fun _ _ k => x_ialoadK hK58 dX10_makes_275 h0.2.2.2.2.2.2.2.2.2.2.2.2.2.2.2.2.2.2.2.1 g60 g61 k) ?_
  refine Xi.up (pc' := 277) (fun _ _ k => x_iconst dX10_makes_276 (show inR 1 from ⟨by decide, by decide⟩) k) ?_
  obtain ⟨g62, h⟩ := h
  refine Xi.up (pc' := 278) (fun _ _ k => x_iadd dX10_makes_277 g62 k) ?_
  obtain ⟨g63, h⟩ := h
  obtain ⟨g64, h⟩ := h
  refine Xi.up (pc' := 279) (fun _ _ k => x_iastoreK hK58 dX10_makes_278 h0.2.2.2.2.2.2.2.2.2.2.2.2.2.2.2.2.2.2.2.1 g63 g64 k) ?_
  have hK65 := KW.sI hK58 2239 (((mI (sI (sI M45 2239 ((x5 + 46).toNat) x46) 2239 (((mI (sI M45 2239 ((x5 + 46).toNat) x46) 2230 16) + 16).toNat) ((mI (sI M45 2239 ((x5 + 46).toNat) x46) 2239 ((mI (sI M45 2239 ((x5 + 46).toNat) x46) 2230 16) + 16).toNat) + 1)) 2230 16) + 14).toNat) ((mI (sI (sI M45 2239 ((x5 + 46).toNat) x46) 2239 (((mI (sI M45 2239 ((x5 + 46).toNat) x46) 2230 16) + 16).toNat) ((mI (sI M45 2239 ((x5 + 46).toNat) x46) 2239 ((mI (sI M45 2239 ((x5 + 46).toNat) x46) 2230 16) + 16).toNat) + 1)) 2239 ((mI (sI (sI M45 2239 ((x5 + 46).toNat) x46) 2239 (((mI (sI M45 2239 ((x5 + 46).toNat) x46) 2230 16) + 16).toNat) ((mI (sI M45 2239 ((x5 + 46).toNat) x46) 2239 ((mI (sI M45 2239 ((x5 + 46).toNat) x46) 2230 16) + 16).toNat) + 1)) 2230 16) + 14).toNat) + 1)
  refine Xi.up (pc' := 280) (fun _ _ k => x_aload_n dX10_makes_279 rfl rfl k) ?_
  obtain ⟨x67, M66, hc69, hK68, h⟩ := h
  refine Xi.up (pc' := 283) (st' := [zi x67]) (fun _ _ k => x_callVK (ci := 10) (as := []) (st := []) hK65 k10_level lm10_166 dX10_makes_280 rfl (by decide) (zs8 rfl) h0.1 ⟨_, _, rfl⟩ hc69 k) ?_
  refine Xi.br (tgt := 332) (pc' := 286) (x67 ≠ 0) (fun _ _ kt kf => x_if_ne dX10_makes_283 rfl kt kf) (fun c => ?_) (fun c => ?_)
  · have h := h.1 c
    refine Xi.up (pc' := 334) (fun _ _ k => x_bipush dX10_makes_332 (show inR 6 from ⟨by decide, by decide⟩) (by decide) k) ?_
    exact Xi.ret ⟨dX10_makes_334, Or.inl rfl⟩ h
  · have h := h.2 c
    refine Xi.up (pc' := 287) (fun _ _ k => x_aload_n dX10_makes_286 rfl rfl k) ?_
    refine Xi.up (pc' := 290) (fun _ _ k => x_getRK hK68 lf10_35 rfl dX10_makes_287 h0.1 h0.2.2.2.2.2.2.2.2.2.1 k) ?_
    refine Xi.up (pc' := 291) (fun _ _ k => x_aload_n dX10_makes_290 rfl rfl k) ?_
    refine Xi.up (pc' := 294) (fun _ _ k => x_getIK hK68 lf10_156 rfl dX10_makes_291 h0.1 k) ?_
    refine Xi.up (pc' := 295) (fun _ _ k => x_iconst dX10_makes_294 (show inR 5 from ⟨by decide, by decide⟩) k) ?_
    obtain ⟨g70, h⟩ := h
    refine Xi.up (pc' := 296) (fun _ _ k => x_iadd dX10_makes_295 g70 k) ?_
    refine Xi.up (pc' := 297) (fun _ _ k => x_dup2 dX10_makes_296 k) ?_
    obtain ⟨g71, h⟩ := h
    obtain ⟨g72, h⟩ := h
    refine Xi.up (pc' := 298) (fun _ _ k => x_ialoadK hK68 dX10_makes_297 h0.2.2.2.2.2.2.2.2.2.2.2.2.2.2.2.2.2.2.2.1 g71 g72 k) ?_
    refine Xi.up (pc' := 299) (fun _ _ k => x_iconst dX10_makes_298 (show inR 1 from ⟨by decide, by decide⟩) k) ?_
    obtain ⟨g73, h⟩ := h
    refine Xi.up (pc' := 300) (fun _ _ k => x_iadd dX10_makes_299 g73 k) ?_
    obtain ⟨g74, h⟩ := h
    obtain ⟨g75, h⟩ := h
    refine Xi.up (pc' := 301) (fun _ _ k => x_iastoreK hK68 dX10_makes_300 h0.2.2.2.2.2.2.2.2.2.2.2.2.2.2.2.2.2.2.2.1 g74 g75 k) ?_
    have hK76 := KW.sI hK68 2239 (((mI M66 2230 16) + 5).toNat) ((mI M66 2239 ((mI M66 2230 16) + 5).toNat) + 1)
    refine Xi.up (pc' := 302) (fun _ _ k => x_aload_n dX10_makes_301 rfl rfl k) ?_
    refine Xi.up (pc' := 305) (fun _ _ k => x_getRK hK76 lf10_35 rfl dX10_makes_302 h0.1 h0.2.2.2.2.2.2.2.2.2.1 k) ?_
    refine Xi.up (pc' := 306) (fun _ _ k => x_aload_n dX10_makes_305 rfl rfl k) ?_
    refine Xi.up (pc' := 309) (fun _ _ k => x_getIK hK76 lf10_156 rfl dX10_makes_306 h0.1 k) ?_
    refine Xi.up (pc' := 311) (fun _ _ k => x_bipush dX10_makes_309 (show inR 11 from ⟨by decide, by decide⟩) (by decide) k) ?_
    obtain ⟨g77, h⟩ := h
    refine Xi.up (pc' := 312) (fun _ _ k => x_iadd dX10_makes_311 g77 k) ?_
    refine Xi.up (pc' := 313) (fun _ _ k => x_aload_n dX10_makes_312 rfl rfl k) ?_
    refine Xi.up (pc' := 316) (fun _ _ k => x_getRK hK76 lf10_35 rfl dX10_makes_313 h0.1 h0.2.2.2.2.2.2.2.2.2.1 k) ?_
    refine Xi.up (pc' := 317) (fun _ _ k => x_aload_n dX10_makes_316 rfl rfl k) ?_
    refine Xi.up (pc' := 320) (fun _ _ k => x_getIK hK76 lf10_156 rfl dX10_makes_317 h0.1 k) ?_
    refine Xi.up (pc' := 322) (fun _ _ k => x_bipush dX10_makes_320 (show inR 11 from ⟨by decide, by decide⟩) (by decide) k) ?_
    obtain ⟨g78, h⟩ := h
    refine Xi.up (pc' := 323) (fun _ _ k => x_iadd dX10_makes_322 g78 k) ?_
    obtain ⟨g79, h⟩ := h
    obtain ⟨g80, h⟩ := h
    refine Xi.up (pc' := 324) (fun _ _ k => x_ialoadK hK76 dX10_makes_323 h0.2.2.2.2.2.2.2.2.2.2.2.2.2.2.2.2.2.2.2.1 g79 g80 k) ?_
    refine Xi.up (pc' := 325) (fun _ _ k => x_aload_n dX10_makes_324 rfl rfl k) ?_
    obtain ⟨x82, M81, hc84, hK83, h⟩ := h
    refine Xi.up (pc' := 328) (st' := [zi x82, zi (mI (sI M66 2239 (((mI M66 2230 16) + 5).toNat) ((mI M66 2239 ((mI M66 2230 16) + 5).toNat) + 1)) 2239 ((mI (sI M66 2239 (((mI M66 2230 16) + 5).toNat) ((mI M66 2239 ((mI M66 2230 16) + 5).toNat) + 1)) 2230 16) + 11).toNat), zi ((mI (sI M66 2239 (((mI M66 2230 16) + 5).toNat) ((mI M66 2239 ((mI M66 2230 16) + 5).toNat) + 1)) 2230 16) + 11), zr 2239]) (fun _ _ k => x_callVK (ci := 10) (as := []) (st := [zi (mI (sI M66 2239 (((mI M66 2230 16) + 5).toNat) ((mI M66 2239 ((mI M66 2230 16) + 5).toNat) + 1)) 2239 ((mI (sI M66 2239 (((mI M66 2230 16) + 5).toNat) ((mI M66 2239 ((mI M66 2230 16) + 5).toNat) + 1)) 2230 16) + 11).toNat), zi ((mI (sI M66 2239 (((mI M66 2230 16) + 5).toNat) ((mI M66 2239 ((mI M66 2230 16) + 5).toNat) + 1)) 2230 16) + 11), zr 2239]) hK76 k10_openMany lm10_220 dX10_makes_325 rfl (by decide) (zs8 rfl) h0.1 ⟨_, _, rfl⟩ hc84 k) ?_
    refine Xi.up (pc' := 331) (fun _ _ k => x_max lx10_226 dX10_makes_328 (zs8 rfl) k) ?_
    obtain ⟨g85, h⟩ := h
    obtain ⟨g86, h⟩ := h
    refine Xi.up (pc' := 332) (fun _ _ k => x_iastoreK hK83 dX10_makes_331 h0.2.2.2.2.2.2.2.2.2.2.2.2.2.2.2.2.2.2.2.1 g85 g86 k) ?_
    have hK87 := KW.sI hK83 2239 (((mI (sI M66 2239 (((mI M66 2230 16) + 5).toNat) ((mI M66 2239 ((mI M66 2230 16) + 5).toNat) + 1)) 2230 16) + 11).toNat) (if (mI (sI M66 2239 (((mI M66 2230 16) + 5).toNat) ((mI M66 2239 ((mI M66 2230 16) + 5).toNat) + 1)) 2239 ((mI (sI M66 2239 (((mI M66 2230 16) + 5).toNat) ((mI M66 2239 ((mI M66 2230 16) + 5).toNat) + 1)) 2230 16) + 11).toNat) < x82 then x82 else (mI (sI M66 2239 (((mI M66 2230 16) + 5).toNat) ((mI M66 2239 ((mI M66 2230 16) + 5).toNat) + 1)) 2239 ((mI (sI M66 2239 (((mI M66 2230 16) + 5).toNat) ((mI M66 2239 ((mI M66 2230 16) + 5).toNat) + 1)) 2230 16) + 11).toNat))
    refine Xi.up (pc' := 334) (fun _ _ k => x_bipush dX10_makes_332 (show inR 6 from ⟨by decide, by decide⟩) (by decide) k) ?_
    exact Xi.ret ⟨dX10_makes_334, Or.inl rfl⟩ h
set_option maxHeartbeats 4000000 in
set_option maxRecDepth 20000 in
theorem B10_rank {d : Nat} {K M : ZMem} {Q : Int → ZMem → Prop} (a1 : Int) (hK : KW K M) (h0 : ModelAt K 2230) (h : (inR ((mI M 2230 16) + 1)) ∧ (0 ≤ ((mI M 2230 16) + 1)) ∧ (((mI M 2230 16) + 1) < 19245) ∧ (((mI M 2239 ((mI M 2230 16) + 1).toNat) = 2 ∨ (mI M 2239 ((mI M 2230 16) + 1).toNat) = 3 → ((inR (a1 + 46)) ∧ (0 ≤ (a1 + 46)) ∧ ((a1 + 46) < 19245) ∧ Q (mI M 2239 (a1 + 46).toNat) M)) ∧ ((mI M 2239 ((mI M 2230 16) + 1).toNat) = 4 → ((inR (a1 + 33)) ∧ (0 ≤ (a1 + 33)) ∧ ((a1 + 33) < 19245) ∧ (inR (a1 + 36)) ∧ (0 ≤ (a1 + 36)) ∧ ((a1 + 36) < 19245) ∧ (((mI M 2239 (a1 + 36).toNat) ≤ 0 → ((inR ((mI M 2239 (a1 + 33).toNat) + 0)) ∧ Q ((mI M 2239 (a1 + 33).toNat) + 0) M)) ∧ (¬ ((mI M 2239 (a1 + 36).toNat) ≤ 0) → ((inR ((mI M 2239 (a1 + 33).toNat) + 1)) ∧ Q ((mI M 2239 (a1 + 33).toNat) + 1) M))))) ∧ ((mI M 2239 ((mI M 2230 16) + 1).toNat) < 2 ∨ 4 < (mI M 2239 ((mI M 2230 16) + 1).toNat) → (Q 0 M)))) : Ci d q10_rank [zr 2230, zi a1] M Q := by
  refine Ci.of rfl rfl (Nat.le_of_ble_eq_true rfl) (fun w hw x e => by subst e; simp at hw) (L := [some (zr 2230), some (zi a1)]) rfl ?_
  refine Xi.up (pc' := 1) (fun _ _ k => x_aload_n dX10_rank_0 rfl rfl k) ?_
  refine Xi.up (pc' := 4) (fun _ _ k => x_getRK hK lf10_35 rfl dX10_rank_1 h0.1 h0.2.2.2.2.2.2.2.2.2.1 k) ?_
  refine Xi.up (pc' := 5) (fun _ _ k => x_aload_n dX10_rank_4 rfl rfl k) ?_
  refine Xi.up (pc' := 8) (fun _ _ k => x_getIK hK lf10_156 rfl dX10_rank_5 h0.1 k) ?_
  refine Xi.up (pc' := 9) (fun _ _ k => x_iconst dX10_rank_8 (show inR 1 from ⟨by decide, by decide⟩) k) ?_
  obtain ⟨g1, h⟩ := h
  refine Xi.up (pc' := 10) (fun _ _ k => x_iadd dX10_rank_9 g1 k) ?_
  obtain ⟨g2, h⟩ := h
  obtain ⟨g3, h⟩ := h
  refine Xi.up (pc' := 11) (fun _ _ k => x_ialoadK hK dX10_rank_10 h0.2.2.2.2.2.2.2.2.2.2.2.2.2.2.2.2.2.2.2.1 g2 g3 k) ?_
  by_cases c : (mI M 2239 ((mI M 2230 16) + 1).toNat) < 2 ∨ 4 < (mI M 2239 ((mI M 2230 16) + 1).toNat)
  · refine Xi.up (pc' := 74) (fun _ _ k => x_tsOut dX10_rank_11 c rfl k) ?_
    have h := h.2.2 (by omega)
    refine Xi.up (pc' := 75) (fun _ _ k => x_iconst dX10_rank_74 (show inR 0 from ⟨by decide, by decide⟩) k) ?_
    exact Xi.ret ⟨dX10_rank_75, Or.inl rfl⟩ h
  · rcases (show (mI M 2239 ((mI M 2230 16) + 1).toNat) = 2 ∨ (mI M 2239 ((mI M 2230 16) + 1).toNat) = 3 ∨ (mI M 2239 ((mI M 2230 16) + 1).toNat) = 4 by omega) with c | c | c
    · refine Xi.up (pc' := 36) (fun _ _ k => x_tsIn (x := (mI M 2239 ((mI M 2230 16) + 1).toNat)) (i := 0) dX10_rank_11 (by omega) (by decide) rfl rfl k) ?_
      have h := h.1 (by omega)
      refine Xi.up (pc' := 37) (fun _ _ k => x_aload_n dX10_rank_36 rfl rfl k) ?_
      refine Xi.up (pc' := 40) (fun _ _ k => x_getRK hK lf10_35 rfl dX10_rank_37 h0.1 h0.2.2.2.2.2.2.2.2.2.1 k) ?_
      refine Xi.up (pc' := 41) (fun _ _ k => x_iload_n dX10_rank_40 rfl rfl k) ?_
      refine Xi.up (pc' := 43) (fun _ _ k => x_bipush dX10_rank_41 (show inR 46 from ⟨by decide, by decide⟩) (by decide) k) ?_
      obtain ⟨g4, h⟩ := h
      refine Xi.up (pc' := 44) (fun _ _ k => x_iadd dX10_rank_43 g4 k) ?_
      obtain ⟨g5, h⟩ := h
      obtain ⟨g6, h⟩ := h
      refine Xi.up (pc' := 45) (fun _ _ k => x_ialoadK hK dX10_rank_44 h0.2.2.2.2.2.2.2.2.2.2.2.2.2.2.2.2.2.2.2.1 g5 g6 k) ?_
      exact Xi.ret ⟨dX10_rank_45, Or.inl rfl⟩ h
    · refine Xi.up (pc' := 36) (fun _ _ k => x_tsIn (x := (mI M 2239 ((mI M 2230 16) + 1).toNat)) (i := 1) dX10_rank_11 (by omega) (by decide) rfl rfl k) ?_
      have h := h.1 (by omega)
      refine Xi.up (pc' := 37) (fun _ _ k => x_aload_n dX10_rank_36 rfl rfl k) ?_
      refine Xi.up (pc' := 40) (fun _ _ k => x_getRK hK lf10_35 rfl dX10_rank_37 h0.1 h0.2.2.2.2.2.2.2.2.2.1 k) ?_
      refine Xi.up (pc' := 41) (fun _ _ k => x_iload_n dX10_rank_40 rfl rfl k) ?_
      refine Xi.up (pc' := 43) (fun _ _ k => x_bipush dX10_rank_41 (show inR 46 from ⟨by decide, by decide⟩) (by decide) k) ?_
      obtain ⟨g4, h⟩ := h
      refine Xi.up (pc' := 44) (fun _ _ k => x_iadd dX10_rank_43 g4 k) ?_
      obtain ⟨g5, h⟩ := h
      obtain ⟨g6, h⟩ := h
      refine Xi.up (pc' := 45) (fun _ _ k => x_ialoadK hK dX10_rank_44 h0.2.2.2.2.2.2.2.2.2.2.2.2.2.2.2.2.2.2.2.1 g5 g6 k) ?_
      exact Xi.ret ⟨dX10_rank_45, Or.inl rfl⟩ h
    · refine Xi.up (pc' := 46) (fun _ _ k => x_tsIn (x := (mI M 2239 ((mI M 2230 16) + 1).toNat)) (i := 2) dX10_rank_11 (by omega) (by decide) rfl rfl k) ?_
      have h := h.2.1 (by omega)
      refine Xi.up (pc' := 47) (fun _ _ k => x_aload_n dX10_rank_46 rfl rfl k) ?_
      refine Xi.up (pc' := 50) (fun _ _ k => x_getRK hK lf10_35 rfl dX10_rank_47 h0.1 h0.2.2.2.2.2.2.2.2.2.1 k) ?_
      refine Xi.up (pc' := 51) (fun _ _ k => x_iload_n dX10_rank_50 rfl rfl k) ?_
      refine Xi.up (pc' := 53) (fun _ _ k => x_bipush dX10_rank_51 (show inR 33 from ⟨by decide, by decide⟩) (by decide) k) ?_
      obtain ⟨g7, h⟩ := h
      refine Xi.up (pc' := 54) (fun _ _ k => x_iadd dX10_rank_53 g7 k) ?_
      obtain ⟨g8, h⟩ := h
      obtain ⟨g9, h⟩ := h
      refine Xi.up (pc' := 55) (fun _ _ k => x_ialoadK hK dX10_rank_54 h0.2.2.2.2.2.2.2.2.2.2.2.2.2.2.2.2.2.2.2.1 g8 g9 k) ?_
      refine Xi.up (pc' := 56) (fun _ _ k => x_aload_n dX10_rank_55 rfl rfl k) ?_
      refine Xi.up (pc' := 59) (fun _ _ k => x_getRK hK lf10_35 rfl dX10_rank_56 h0.1 h0.2.2.2.2.2.2.2.2.2.1 k) ?_
      refine Xi.up (pc' := 60) (fun _ _ k => x_iload_n dX10_rank_59 rfl rfl k) ?_
      refine Xi.up (pc' := 62) (fun _ _ k => x_bipush dX10_rank_60 (show inR 36 from ⟨by decide, by decide⟩) (by decide) k) ?_
      obtain ⟨g10, h⟩ := h
      refine Xi.up (pc' := 63) (fun _ _ k => x_iadd dX10_rank_62 g10 k) ?_
      obtain ⟨g11, h⟩ := h
      obtain ⟨g12, h⟩ := h
      refine Xi.up (pc' := 64) (fun _ _ k => x_ialoadK hK dX10_rank_63 h0.2.2.2.2.2.2.2.2.2.2.2.2.2.2.2.2.2.2.2.1 g11 g12 k) ?_
      refine Xi.br (tgt := 71) (pc' := 67) ((mI M 2239 (a1 + 36).toNat) ≤ 0) (fun _ _ kt kf => x_if_le dX10_rank_64 rfl kt kf) (fun c => ?_) (fun c => ?_)
      · have h := h.1 c
        refine Xi.up (pc' := 72) (fun _ _ k => x_iconst dX10_rank_71 (show inR 0 from ⟨by decide, by decide⟩) k) ?_
        obtain ⟨g13, h⟩ := h
        refine Xi.up (pc' := 73) (fun _ _ k => x_iadd dX10_rank_72 g13 k) ?_
        exact Xi.ret ⟨dX10_rank_73, Or.inl rfl⟩ h
      · have h := h.2 c
        refine Xi.up (pc' := 68) (fun _ _ k => x_iconst dX10_rank_67 (show inR 1 from ⟨by decide, by decide⟩) k) ?_
        refine Xi.up (pc' := 72) (fun _ _ k => x_goto dX10_rank_68 rfl k) ?_
        obtain ⟨g14, h⟩ := h
        refine Xi.up (pc' := 73) (fun _ _ k => x_iadd dX10_rank_72 g14 k) ?_
        exact Xi.ret ⟨dX10_rank_73, Or.inl rfl⟩ h
set_option maxHeartbeats 4000000 in
set_option maxRecDepth 20000 in
theorem B10_chosen {d : Nat} {K M : ZMem} {Q : Int → ZMem → Prop}  (hK : KW K M) (h0 : ModelAt K 2230) (h : Ci d q10_level [zr 2230] M (fun x2 M1 => KW K M1 ∧ ((x2 ≠ 0 → (Xi (d + 1) q10_chosen 39 [some (zr 2230), some (zi (-1)), some (zi 0), some (zi 0), none, none] [] M1 Q)) ∧ (¬ (x2 ≠ 0) → ((inR ((mI M1 2230 16) + 1)) ∧ (0 ≤ ((mI M1 2230 16) + 1)) ∧ (((mI M1 2230 16) + 1) < 19245) ∧ ((1 ≤ (mI M1 2239 ((mI M1 2230 16) + 1).toNat) ∧ (mI M1 2239 ((mI M1 2230 16) + 1).toNat) ≤ 2 → (Xi (d + 1) q10_chosen 39 [some (zr 2230), some (zi (-1)), some (zi 1), some (zi 0), none, none] [] M1 Q)) ∧ (¬ (1 ≤ (mI M1 2239 ((mI M1 2230 16) + 1).toNat) ∧ (mI M1 2239 ((mI M1 2230 16) + 1).toNat) ≤ 2) → (Xi (d + 1) q10_chosen 39 [some (zr 2230), some (zi (-1)), some (zi 0), some (zi 0), none, none] [] M1 Q)))))))) : Ci (d + 1) q10_chosen [zr 2230] M Q := by
  refine Ci.of rfl rfl (Nat.le_of_ble_eq_true rfl) (fun w hw x e => by subst e; simp at hw) (L := [some (zr 2230), none, none, none, none, none]) rfl ?_
  refine Xi.up (pc' := 1) (fun _ _ k => x_iconst dX10_chosen_0 (show inR (-1) from ⟨by decide, by decide⟩) k) ?_
  refine Xi.up (pc' := 2) (L' := [some (zr 2230), some (zi (-1)), none, none, none, none]) (fun _ _ k => x_istore_n dX10_chosen_1 rfl (by decide) rfl k) ?_
  refine Xi.up (pc' := 3) (fun _ _ k => x_aload_n dX10_chosen_2 rfl rfl k) ?_
  obtain ⟨x2, M1, hc4, hK3, h⟩ := h
  refine Xi.up (pc' := 6) (st' := [zi x2]) (fun _ _ k => x_callVK (ci := 10) (as := []) (st := []) hK k10_level lm10_166 dX10_chosen_3 rfl (by decide) (zs8 rfl) h0.1 ⟨_, _, rfl⟩ hc4 k) ?_
  refine Xi.br (tgt := 35) (pc' := 9) (x2 ≠ 0) (fun _ _ kt kf => x_if_ne dX10_chosen_6 rfl kt kf) (fun c => ?_) (fun c => ?_)
  · have h := h.1 c
    refine Xi.up (pc' := 36) (fun _ _ k => x_iconst dX10_chosen_35 (show inR 0 from ⟨by decide, by decide⟩) k) ?_
    refine Xi.up (pc' := 37) (L' := [some (zr 2230), some (zi (-1)), some (zi 0), none, none, none]) (fun _ _ k => x_istore_n dX10_chosen_36 rfl (by decide) rfl k) ?_
    refine Xi.up (pc' := 38) (fun _ _ k => x_iconst dX10_chosen_37 (show inR 0 from ⟨by decide, by decide⟩) k) ?_
    refine Xi.up (pc' := 39) (L' := [some (zr 2230), some (zi (-1)), some (zi 0), some (zi 0), none, none]) (fun _ _ k => x_istore_n dX10_chosen_38 rfl (by decide) rfl k) ?_
    exact h
  · have h := h.2 c
    refine Xi.up (pc' := 10) (fun _ _ k => x_aload_n dX10_chosen_9 rfl rfl k) ?_
    refine Xi.up (pc' := 13) (fun _ _ k => x_getRK hK3 lf10_35 rfl dX10_chosen_10 h0.1 h0.2.2.2.2.2.2.2.2.2.1 k) ?_
    refine Xi.up (pc' := 14) (fun _ _ k => x_aload_n dX10_chosen_13 rfl rfl k) ?_
    refine Xi.up (pc' := 17) (fun _ _ k => x_getIK hK3 lf10_156 rfl dX10_chosen_14 h0.1 k) ?_
    refine Xi.up (pc' := 18) (fun _ _ k => x_iconst dX10_chosen_17 (show inR 1 from ⟨by decide, by decide⟩) k) ?_
    obtain ⟨g5, h⟩ := h
    refine Xi.up (pc' := 19) (fun _ _ k => x_iadd dX10_chosen_18 g5 k) ?_
    obtain ⟨g6, h⟩ := h
    obtain ⟨g7, h⟩ := h
    refine Xi.up (pc' := 20) (fun _ _ k => x_ialoadK hK3 dX10_chosen_19 h0.2.2.2.2.2.2.2.2.2.2.2.2.2.2.2.2.2.2.2.1 g6 g7 k) ?_
    refine Xi.up (pc' := 21) (fun _ _ k => x_i2l dX10_chosen_20 k) ?_
    refine Xi.up (pc' := 22) (fun _ _ k => x_lconst (x := 1) dX10_chosen_21 ⟨by decide, by decide⟩ rfl k) ?_
    refine Xi.up (pc' := 25) (fun _ _ k => x_ldc2 ll10_231 dX10_chosen_22 (show inL 2 from ⟨by decide, by decide⟩) rfl k) ?_
    by_cases c : 1 ≤ (mI M1 2239 ((mI M1 2230 16) + 1).toNat) ∧ (mI M1 2239 ((mI M1 2230 16) + 1).toNat) ≤ 2
    · have h := h.1 c
      refine Xi.up (pc' := 28) (st' := [zi 1]) (fun _ _ k => x_in1 (st := []) lm10_43 dX10_chosen_25 (zs8 rfl) c k) ?_
      refine Xi.br (tgt := 35) (pc' := 31) ((1 : Int) = 0) (fun _ _ kt kf => x_if_eq dX10_chosen_28 rfl kt kf) (fun c => absurd c (by decide)) (fun _ => ?_)
      refine Xi.up (pc' := 32) (fun _ _ k => x_iconst dX10_chosen_31 (show inR 1 from ⟨by decide, by decide⟩) k) ?_
      refine Xi.up (pc' := 36) (fun _ _ k => x_goto dX10_chosen_32 rfl k) ?_
      refine Xi.up (pc' := 37) (L' := [some (zr 2230), some (zi (-1)), some (zi 1), none, none, none]) (fun _ _ k => x_istore_n dX10_chosen_36 rfl (by decide) rfl k) ?_
      refine Xi.up (pc' := 38) (fun _ _ k => x_iconst dX10_chosen_37 (show inR 0 from ⟨by decide, by decide⟩) k) ?_
      refine Xi.up (pc' := 39) (L' := [some (zr 2230), some (zi (-1)), some (zi 1), some (zi 0), none, none]) (fun _ _ k => x_istore_n dX10_chosen_38 rfl (by decide) rfl k) ?_
      exact h
    · have h := h.2 c
      refine Xi.up (pc' := 28) (st' := [zi 0]) (fun _ _ k => x_in0 (st := []) lm10_43 dX10_chosen_25 (zs8 rfl) c k) ?_
      refine Xi.br (tgt := 35) (pc' := 31) ((0 : Int) = 0) (fun _ _ kt kf => x_if_eq dX10_chosen_28 rfl kt kf) (fun _ => ?_) (fun c => absurd (by decide) c)
      refine Xi.up (pc' := 36) (fun _ _ k => x_iconst dX10_chosen_35 (show inR 0 from ⟨by decide, by decide⟩) k) ?_
      refine Xi.up (pc' := 37) (L' := [some (zr 2230), some (zi (-1)), some (zi 0), none, none, none]) (fun _ _ k => x_istore_n dX10_chosen_36 rfl (by decide) rfl k) ?_
      refine Xi.up (pc' := 38) (fun _ _ k => x_iconst dX10_chosen_37 (show inR 0 from ⟨by decide, by decide⟩) k) ?_
      refine Xi.up (pc' := 39) (L' := [some (zr 2230), some (zi (-1)), some (zi 0), some (zi 0), none, none]) (fun _ _ k => x_istore_n dX10_chosen_38 rfl (by decide) rfl k) ?_
      exact h
set_option maxHeartbeats 4000000 in
set_option maxRecDepth 20000 in
theorem B10_chosen_39 {d : Nat} {K M : ZMem} {Q : Int → ZMem → Prop} (l1 : Int) (l2 : Int) (l3 : Int) (hK : KW K M) (h0 : ModelAt K 2230) (h : (inR ((mI M 2230 16) + 14)) ∧ (0 ≤ ((mI M 2230 16) + 14)) ∧ (((mI M 2230 16) + 14) < 19245) ∧ (((mI M 2239 ((mI M 2230 16) + 14).toNat) ≤ l3 → (Q l1 M)) ∧ (¬ ((mI M 2239 ((mI M 2230 16) + 14).toNat) ≤ l3) → (Ci d q10_pointAt [zr 2230, zi l3] M (fun x5 M4 => KW K M4 ∧ (inR (x5 + 45)) ∧ (0 ≤ (x5 + 45)) ∧ ((x5 + 45) < 19245) ∧ Ci d q10_level [zr 2230] M4 (fun x12 M11 => KW K M11 ∧ (((mI M4 2239 (x5 + 45).toNat) = x12 → (Ci d q10_level [zr 2230] M11 (fun x16 M15 => KW K M15 ∧ ((x16 ≤ 0 → (Ci d q10_pointAt [zr 2230, zi l3] M15 (fun x20 M19 => KW K M19 ∧ Ci d q10_rank [zr 2230, zi x20] M19 (fun x24 M23 => KW K M23 ∧ ((l1 = (-1) → ((l1 = (-1) → ((inR (l3 + 1)) ∧ Xi (d + 1) q10_chosen 39 [some (zr 2230), some (zi l3), some (zi l2), some (zi (l3 + 1)), none, none] [] M23 Q)) ∧ (¬ (l1 = (-1)) → ((x24 < 0 → ((inR (l3 + 1)) ∧ Xi (d + 1) q10_chosen 39 [some (zr 2230), some (zi l3), some (zi l2), some (zi (l3 + 1)), none, none] [] M23 Q)) ∧ (¬ (x24 < 0) → ((x24 ≠ 0 → ((inR (l3 + 1)) ∧ Xi (d + 1) q10_chosen 39 [some (zr 2230), some (zi l1), some (zi l2), some (zi (l3 + 1)), none, none] [] M23 Q)) ∧ (¬ (x24 ≠ 0) → ((l2 ≠ 0 → ((inR (l3 + 1)) ∧ Xi (d + 1) q10_chosen 39 [some (zr 2230), some (zi l1), some (zi l2), some (zi (l3 + 1)), none, none] [] M23 Q)) ∧ (¬ (l2 ≠ 0) → ((inR (l3 + 1)) ∧ Xi (d + 1) q10_chosen 39 [some (zr 2230), some (zi l3), some (zi l2), some (zi (l3 + 1)), none, none] [] M23 Q)))))))))) ∧ (¬ (l1 = (-1)) → (Ci d q10_level [zr 2230] M23 (fun x33 M32 => KW K M32 ∧ ((x33 ≤ 0 → (Ci d q10_pointAt [zr 2230, zi l1] M32 (fun x37 M36 => KW K M36 ∧ Ci d q10_rank [zr 2230, zi x37] M36 (fun x41 M40 => KW K M40 ∧ ((l1 = (-1) → ((inR (l3 + 1)) ∧ Xi (d + 1) q10_chosen 39 [some (zr 2230), some (zi l3), some (zi l2), some (zi (l3 + 1)), none, none] [] M40 Q)) ∧ (¬ (l1 = (-1)) → ((x24 < x41 → ((inR (l3 + 1)) ∧ Xi (d + 1) q10_chosen 39 [some (zr 2230), some (zi l3), some (zi l2), some (zi (l3 + 1)), none, none] [] M40 Q)) ∧ (¬ (x24 < x41) → ((x24 ≠ x41 → ((inR (l3 + 1)) ∧ Xi (d + 1) q10_chosen 39 [some (zr 2230), some (zi l1), some (zi l2), some (zi (l3 + 1)), none, none] [] M40 Q)) ∧ (¬ (x24 ≠ x41) → ((l2 ≠ 0 → ((inR (l3 + 1)) ∧ Xi (d + 1) q10_chosen 39 [some (zr 2230), some (zi l1), some (zi l2), some (zi (l3 + 1)), none, none] [] M40 Q)) ∧ (¬ (l2 ≠ 0) → ((inR (l3 + 1)) ∧ Xi (d + 1) q10_chosen 39 [some (zr 2230), some (zi l3), some (zi l2), some (zi (l3 + 1)), none, none] [] M40 Q))))))))))))) ∧ (¬ (x33 ≤ 0) → ((l1 = (-1) → ((inR (l3 + 1)) ∧ Xi (d + 1) q10_chosen 39 [some (zr 2230), some (zi l3), some (zi l2), some (zi (l3 + 1)), none, none] [] M32 Q)) ∧ (¬ (l1 = (-1)) → ((x24 < 0 → ((inR (l3 + 1)) ∧ Xi (d + 1) q10_chosen 39 [some (zr 2230), some (zi l3), some (zi l2), some (zi (l3 + 1)), none, none] [] M32 Q)) ∧ (¬ (x24 < 0) → ((x24 ≠ 0 → ((inR (l3 + 1)) ∧ Xi (d + 1) q10_chosen 39 [some (zr 2230), some (zi l1), some (zi l2), some (zi (l3 + 1)), none, none] [] M32 Q)) ∧ (¬ (x24 ≠ 0) → ((l2 ≠ 0 → ((inR (l3 + 1)) ∧ Xi (d + 1) q10_chosen 39 [some (zr 2230), some (zi l1), some (zi l2), some (zi (l3 + 1)), none, none] [] M32 Q)) ∧ (¬ (l2 ≠ 0) → ((inR (l3 + 1)) ∧ Xi (d + 1) q10_chosen 39 [some (zr 2230), some (zi l3), some (zi l2), some (zi (l3 + 1)), none, none] [] M32 Q))))))))))))))))))) ∧ (¬ (x16 ≤ 0) → ((l1 = (-1) → ((l1 = (-1) → ((inR (l3 + 1)) ∧ Xi (d + 1) q10_chosen 39 [some (zr 2230), some (zi l3), some (zi l2), some (zi (l3 + 1)), none, none] [] M15 Q)) ∧ (¬ (l1 = (-1)) → ((l2 ≠ 0 → ((inR (l3 + 1)) ∧ Xi (d + 1) q10_chosen 39 [some (zr 2230), some (zi l1), some (zi l2), some (zi (l3 + 1)), none, none] [] M15 Q)) ∧ (¬ (l2 ≠ 0) → ((inR (l3 + 1)) ∧ Xi (d + 1) q10_chosen 39 [some (zr 2230), some (zi l3), some (zi l2), some (zi (l3 + 1)), none, none] [] M15 Q)))))) ∧ (¬ (l1 = (-1)) → (Ci d q10_level [zr 2230] M15 (fun x58 M57 => KW K M57 ∧ ((x58 ≤ 0 → (Ci d q10_pointAt [zr 2230, zi l1] M57 (fun x62 M61 => KW K M61 ∧ Ci d q10_rank [zr 2230, zi x62] M61 (fun x66 M65 => KW K M65 ∧ ((l1 = (-1) → ((inR (l3 + 1)) ∧ Xi (d + 1) q10_chosen 39 [some (zr 2230), some (zi l3), some (zi l2), some (zi (l3 + 1)), none, none] [] M65 Q)) ∧ (¬ (l1 = (-1)) → ((0 < x66 → ((inR (l3 + 1)) ∧ Xi (d + 1) q10_chosen 39 [some (zr 2230), some (zi l3), some (zi l2), some (zi (l3 + 1)), none, none] [] M65 Q)) ∧ (¬ (0 < x66) → ((0 ≠ x66 → ((inR (l3 + 1)) ∧ Xi (d + 1) q10_chosen 39 [some (zr 2230), some (zi l1), some (zi l2), some (zi (l3 + 1)), none, none] [] M65 Q)) ∧ (¬ (0 ≠ x66) → ((l2 ≠ 0 → ((inR (l3 + 1)) ∧ Xi (d + 1) q10_chosen 39 [some (zr 2230), some (zi l1), some (zi l2), some (zi (l3 + 1)), none, none] [] M65 Q)) ∧ (¬ (l2 ≠ 0) → ((inR (l3 + 1)) ∧ Xi (d + 1) q10_chosen 39 [some (zr 2230), some (zi l3), some (zi l2), some (zi (l3 + 1)), none, none] [] M65 Q))))))))))))) ∧ (¬ (x58 ≤ 0) → ((l1 = (-1) → ((inR (l3 + 1)) ∧ Xi (d + 1) q10_chosen 39 [some (zr 2230), some (zi l3), some (zi l2), some (zi (l3 + 1)), none, none] [] M57 Q)) ∧ (¬ (l1 = (-1)) → ((l2 ≠ 0 → ((inR (l3 + 1)) ∧ Xi (d + 1) q10_chosen 39 [some (zr 2230), some (zi l1), some (zi l2), some (zi (l3 + 1)), none, none] [] M57 Q)) ∧ (¬ (l2 ≠ 0) → ((inR (l3 + 1)) ∧ Xi (d + 1) q10_chosen 39 [some (zr 2230), some (zi l3), some (zi l2), some (zi (l3 + 1)), none, none] [] M57 Q)))))))))))))))) ∧ (¬ ((mI M4 2239 (x5 + 45).toNat) = x12) → ((inR (l3 + 1)) ∧ Xi (d + 1) q10_chosen 39 [some (zr 2230), some (zi l1), some (zi l2), some (zi (l3 + 1)), none, none] [] M11 Q))))))))) : Xi (d + 1) q10_chosen 39 [some (zr 2230), some (zi l1), some (zi l2), some (zi l3), none, none] [] M Q := by
  refine Xi.up (pc' := 40) (fun _ _ k => x_iload_n dX10_chosen_39 rfl rfl k) ?_
  refine Xi.up (pc' := 41) (fun _ _ k => x_aload_n dX10_chosen_40 rfl rfl k) ?_
  refine Xi.up (pc' := 44) (fun _ _ k => x_getRK hK lf10_35 rfl dX10_chosen_41 h0.1 h0.2.2.2.2.2.2.2.2.2.1 k) ?_
  refine Xi.up (pc' := 45) (fun _ _ k => x_aload_n dX10_chosen_44 rfl rfl k) ?_
  refine Xi.up (pc' := 48) (fun _ _ k => x_getIK hK lf10_156 rfl dX10_chosen_45 h0.1 k) ?_
  refine Xi.up (pc' := 50) (fun _ _ k => x_bipush dX10_chosen_48 (show inR 14 from ⟨by decide, by decide⟩) (by decide) k) ?_
  obtain ⟨g1, h⟩ := h
  refine Xi.up (pc' := 51) (fun _ _ k => x_iadd dX10_chosen_50 g1 k) ?_
  obtain ⟨g2, h⟩ := h
  obtain ⟨g3, h⟩ := h
  refine Xi.up (pc' := 52) (fun _ _ k => x_ialoadK hK dX10_chosen_51 h0.2.2.2.2.2.2.2.2.2.2.2.2.2.2.2.2.2.2.2.1 g2 g3 k) ?_
  refine Xi.br (tgt := 158) (pc' := 55) ((mI M 2239 ((mI M 2230 16) + 14).toNat) ≤ l3) (fun _ _ kt kf => x_icmp_ge dX10_chosen_52 rfl kt kf) (fun c => ?_) (fun c => ?_)
  · have h := h.1 c
    refine Xi.up (pc' := 159) (fun _ _ k => x_iload_n dX10_chosen_158 rfl rfl k) ?_
    exact Xi.ret ⟨dX10_chosen_159, Or.inl rfl⟩ h
  · have h := h.2 c
    refine Xi.up (pc' := 56) (fun _ _ k => x_aload_n dX10_chosen_55 rfl rfl k) ?_
    refine Xi.up (pc' := 59) (fun _ _ k => x_getRK hK lf10_35 rfl dX10_chosen_56 h0.1 h0.2.2.2.2.2.2.2.2.2.1 k) ?_
    refine Xi.up (pc' := 60) (fun _ _ k => x_aload_n dX10_chosen_59 rfl rfl k) ?_
    refine Xi.up (pc' := 61) (fun _ _ k => x_iload_n dX10_chosen_60 rfl rfl k) ?_
    obtain ⟨x5, M4, hc7, hK6, h⟩ := h
    refine Xi.up (pc' := 64) (st' := [zi x5, zr 2239]) (fun _ _ k => x_callVK (ci := 10) (as := [zi l3]) (st := [zr 2239]) hK k10_pointAt lm10_163 dX10_chosen_61 rfl (by decide) (zs8 rfl) h0.1 ⟨_, _, rfl⟩ hc7 k) ?_
    refine Xi.up (pc' := 66) (fun _ _ k => x_bipush dX10_chosen_64 (show inR 45 from ⟨by decide, by decide⟩) (by decide) k) ?_
    obtain ⟨g8, h⟩ := h
    refine Xi.up (pc' := 67) (fun _ _ k => x_iadd dX10_chosen_66 g8 k) ?_
    obtain ⟨g9, h⟩ := h
    obtain ⟨g10, h⟩ := h
    refine Xi.up (pc' := 68) (fun _ _ k => x_ialoadK hK6 dX10_chosen_67 h0.2.2.2.2.2.2.2.2.2.2.2.2.2.2.2.2.2.2.2.1 g9 g10 k) ?_
    refine Xi.up (pc' := 69) (fun _ _ k => x_aload_n dX10_chosen_68 rfl rfl k) ?_
    obtain ⟨x12, M11, hc14, hK13, h⟩ := h
    refine Xi.up (pc' := 72) (st' := [zi x12, zi (mI M4 2239 (x5 + 45).toNat)]) (fun _ _ k => x_callVK (ci := 10) (as := []) (st := [zi (mI M4 2239 (x5 + 45).toNat)]) hK6 k10_level lm10_166 dX10_chosen_69 rfl (by decide) (zs8 rfl) h0.1 ⟨_, _, rfl⟩ hc14 k) ?_
    refine Xi.br (tgt := 78) (pc' := 75) ((mI M4 2239 (x5 + 45).toNat) = x12) (fun _ _ kt kf => x_icmp_eq dX10_chosen_72 rfl kt kf) (fun c => ?_) (fun c => ?_)
    · have h := h.1 c
      refine Xi.up (pc' := 79) (fun _ _ k => x_aload_n dX10_chosen_78 rfl rfl k) ?_
      obtain ⟨x16, M15, hc18, hK17, h⟩ := h
      refine Xi.up (pc' := 82) (st' := [zi x16]) (fun _ _ k => x_callVK (ci := 10) (as := []) (st := []) hK13 k10_level lm10_166 dX10_chosen_79 rfl (by decide) (zs8 rfl) h0.1 ⟨_, _, rfl⟩ hc18 k) ?_
      refine Xi.br (tgt := 89) (pc' := 85) (x16 ≤ 0) (fun _ _ kt kf => x_if_le dX10_chosen_82 rfl kt kf) (fun c => ?_) (fun c => ?_)
      · have h := h.1 c
        refine Xi.up (pc' := 90) (fun _ _ k => x_aload_n dX10_chosen_89 rfl rfl k) ?_
        refine Xi.up (pc' := 91) (fun _ _ k => x_aload_n dX10_chosen_90 rfl rfl k) ?_
        refine Xi.up (pc' := 92) (fun _ _ k => x_iload_n dX10_chosen_91 rfl rfl k) ?_
        obtain ⟨x20, M19, hc22, hK21, h⟩ := h
        refine Xi.up (pc' := 95) (st' := [zi x20, zr 2230]) (fun _ _ k => x_callVK (ci := 10) (as := [zi l3]) (st := [zr 2230]) hK17 k10_pointAt lm10_163 dX10_chosen_92 rfl (by decide) (zs8 rfl) h0.1 ⟨_, _, rfl⟩ hc22 k) ?_
        obtain ⟨x24, M23, hc26, hK25, h⟩ := h
        refine Xi.up (pc' := 98) (st' := [zi x24]) (fun _ _ k => x_callVK (ci := 10) (as := [zi x20]) (st := []) hK21 k10_rank lm10_233 dX10_chosen_95 rfl (by decide) (zs8 rfl) h0.1 ⟨_, _, rfl⟩ hc26 k) ?_
        refine Xi.up (pc' := 100) (L' := [some (zr 2230), some (zi l1), some (zi l2), some (zi l3), some (zi x24), none]) (fun _ _ k => x_istore dX10_chosen_98 (by decide) rfl k) ?_
        refine Xi.up (pc' := 101) (fun _ _ k => x_iload_n dX10_chosen_100 rfl rfl k) ?_
        refine Xi.up (pc' := 102) (fun _ _ k => x_iconst dX10_chosen_101 (show inR (-1) from ⟨by decide, by decide⟩) k) ?_
        refine Xi.br (tgt := 112) (pc' := 105) (l1 = (-1)) (fun _ _ kt kf => x_icmp_eq dX10_chosen_102 rfl kt kf) (fun c => ?_) (fun c => ?_)
        · have h := h.1 c
          refine Xi.up (pc' := 113) (fun _ _ k => x_iconst dX10_chosen_112 (show inR 0 from ⟨by decide, by decide⟩) k) ?_
          refine Xi.up (pc' := 125) (fun _ _ k => x_goto dX10_chosen_113 rfl k) ?_
          refine Xi.up (pc' := 127) (L' := [some (zr 2230), some (zi l1), some (zi l2), some (zi l3), some (zi x24), some (zi 0)]) (fun _ _ k => x_istore dX10_chosen_125 (by decide) rfl k) ?_
          refine Xi.up (pc' := 128) (fun _ _ k => x_iload_n dX10_chosen_127 rfl rfl k) ?_
          refine Xi.up (pc' := 129) (fun _ _ k => x_iconst dX10_chosen_128 (show inR (-1) from ⟨by decide, by decide⟩) k) ?_
          refine Xi.br (tgt := 150) (pc' := 132) (l1 = (-1)) (fun _ _ kt kf => x_icmp_eq dX10_chosen_129 rfl kt kf) (fun c => ?_) (fun c => ?_)
          · have h := h.1 c
            refine Xi.up (pc' := 151) (fun _ _ k => x_iload_n dX10_chosen_150 rfl rfl k) ?_
            refine Xi.up (pc' := 152) (L' := [some (zr 2230), some (zi l3), some (zi l2), some (zi l3), some (zi x24), some (zi 0)]) (fun _ _ k => x_istore_n dX10_chosen_151 rfl (by decide) rfl k) ?_
            obtain ⟨g27, h⟩ := h
            refine Xi.up (pc' := 155) (L' := [some (zr 2230), some (zi l3), some (zi l2), some (zi (l3 + 1)), some (zi x24), some (zi 0)]) (fun _ _ k => x_iinc dX10_chosen_152 rfl g27 (by decide) rfl k) ?_
            refine Xi.up (pc' := 39) (fun _ _ k => x_goto dX10_chosen_155 rfl k) ?_
            exact Xi.up (fun _ _ k => x_less (L' := [some (zr 2230), some (zi l3), some (zi l2), some (zi (l3 + 1)), none, none]) (⟨rfl, ⟨rfl, ⟨rfl, ⟨rfl, trivial⟩⟩⟩⟩) k) h
          · have h := h.2 c
            refine Xi.up (pc' := 134) (fun _ _ k => x_iload dX10_chosen_132 rfl k) ?_
            refine Xi.up (pc' := 136) (fun _ _ k => x_iload dX10_chosen_134 rfl k) ?_
            refine Xi.br (tgt := 150) (pc' := 139) (x24 < 0) (fun _ _ kt kf => x_icmp_lt dX10_chosen_136 rfl kt kf) (fun c => ?_) (fun c => ?_)
            · have h := h.1 c
              refine Xi.up (pc' := 151) (fun _ _ k => x_iload_n dX10_chosen_150 rfl rfl k) ?_
              refine Xi.up (pc' := 152) (L' := [some (zr 2230), some (zi l3), some (zi l2), some (zi l3), some (zi x24), some (zi 0)]) (fun _ _ k => x_istore_n dX10_chosen_151 rfl (by decide) rfl k) ?_
              obtain ⟨g28, h⟩ := h
              refine Xi.up (pc' := 155) (L' := [some (zr 2230), some (zi l3), some (zi l2), some (zi (l3 + 1)), some (zi x24), some (zi 0)]) (fun _ _ k => x_iinc dX10_chosen_152 rfl g28 (by decide) rfl k) ?_
              refine Xi.up (pc' := 39) (fun _ _ k => x_goto dX10_chosen_155 rfl k) ?_
              exact Xi.up (fun _ _ k => x_less (L' := [some (zr 2230), some (zi l3), some (zi l2), some (zi (l3 + 1)), none, none]) (⟨rfl, ⟨rfl, ⟨rfl, ⟨rfl, trivial⟩⟩⟩⟩) k) h
            · have h := h.2 c
              refine Xi.up (pc' := 141) (fun _ _ k => x_iload dX10_chosen_139 rfl k) ?_
              refine Xi.up (pc' := 143) (fun _ _ k => x_iload dX10_chosen_141 rfl k) ?_
              refine Xi.br (tgt := 152) (pc' := 146) (x24 ≠ 0) (fun _ _ kt kf => x_icmp_ne dX10_chosen_143 rfl kt kf) (fun c => ?_) (fun c => ?_)
              · have h := h.1 c
                obtain ⟨g29, h⟩ := h
                refine Xi.up (pc' := 155) (L' := [some (zr 2230), some (zi l1), some (zi l2), some (zi (l3 + 1)), some (zi x24), some (zi 0)]) (fun _ _ k => x_iinc dX10_chosen_152 rfl g29 (by decide) rfl k) ?_
                refine Xi.up (pc' := 39) (fun _ _ k => x_goto dX10_chosen_155 rfl k) ?_
                exact Xi.up (fun _ _ k => x_less (L' := [some (zr 2230), some (zi l1), some (zi l2), some (zi (l3 + 1)), none, none]) (⟨rfl, ⟨rfl, ⟨rfl, ⟨rfl, trivial⟩⟩⟩⟩) k) h
              · have h := h.2 c
                refine Xi.up (pc' := 147) (fun _ _ k => x_iload_n dX10_chosen_146 rfl rfl k) ?_
                refine Xi.br (tgt := 152) (pc' := 150) (l2 ≠ 0) (fun _ _ kt kf => x_if_ne dX10_chosen_147 rfl kt kf) (fun c => ?_) (fun c => ?_)
                · have h := h.1 c
                  obtain ⟨g30, h⟩ := h
                  refine Xi.up (pc' := 155) (L' := [some (zr 2230), some (zi l1), some (zi l2), some (zi (l3 + 1)), some (zi x24), some (zi 0)]) (fun _ _ k => x_iinc dX10_chosen_152 rfl g30 (by decide) rfl k) ?_
                  refine Xi.up (pc' := 39) (fun _ _ k => x_goto dX10_chosen_155 rfl k) ?_
                  exact Xi.up (fun _ _ k => x_less (L' := [some (zr 2230), some (zi l1), some (zi l2), some (zi (l3 + 1)), none, none]) (⟨rfl, ⟨rfl, ⟨rfl, ⟨rfl, trivial⟩⟩⟩⟩) k) h
                · have h := h.2 c
                  refine Xi.up (pc' := 151) (fun _ _ k => x_iload_n dX10_chosen_150 rfl rfl k) ?_
                  refine Xi.up (pc' := 152) (L' := [some (zr 2230), some (zi l3), some (zi l2), some (zi l3), some (zi x24), some (zi 0)]) (fun _ _ k => x_istore_n dX10_chosen_151 rfl (by decide) rfl k) ?_
                  obtain ⟨g31, h⟩ := h
                  refine Xi.up (pc' := 155) (L' := [some (zr 2230), some (zi l3), some (zi l2), some (zi (l3 + 1)), some (zi x24), some (zi 0)]) (fun _ _ k => x_iinc dX10_chosen_152 rfl g31 (by decide) rfl k) ?_
                  refine Xi.up (pc' := 39) (fun _ _ k => x_goto dX10_chosen_155 rfl k) ?_
                  exact Xi.up (fun _ _ k => x_less (L' := [some (zr 2230), some (zi l3), some (zi l2), some (zi (l3 + 1)), none, none]) (⟨rfl, ⟨rfl, ⟨rfl, ⟨rfl, trivial⟩⟩⟩⟩) k) h
        · have h := h.2 c
          refine Xi.up (pc' := 106) (fun _ _ k => x_aload_n dX10_chosen_105 rfl rfl k) ?_
          obtain ⟨x33, M32, hc35, hK34, h⟩ := h
          refine Xi.up (pc' := 109) (st' := [zi x33]) (fun _ _ k => x_callVK (ci := 10) (as := []) (st := []) hK25 k10_level lm10_166 dX10_chosen_106 rfl (by decide) (zs8 rfl) h0.1 ⟨_, _, rfl⟩ hc35 k) ?_
          refine Xi.br (tgt := 116) (pc' := 112) (x33 ≤ 0) (fun _ _ kt kf => x_if_le dX10_chosen_109 rfl kt kf) (fun c => ?_) (fun c => ?_)
          · have h := h.1 c
            refine Xi.up (pc' := 117) (fun _ _ k => x_aload_n dX10_chosen_116 rfl rfl k) ?_
            refine Xi.up (pc' := 118) (fun _ _ k => x_aload_n dX10_chosen_117 rfl rfl k) ?_
            refine Xi.up (pc' := 119) (fun _ _ k => x_iload_n dX10_chosen_118 rfl rfl k) ?_
            obtain ⟨x37, M36, hc39, hK38, h⟩ := h
            refine Xi.up (pc' := 122) (st' := [zi x37, zr 2230]) (fun _ _ k => x_callVK (ci := 10) (as := [zi l1]) (st := [zr 2230]) hK34 k10_pointAt lm10_163 dX10_chosen_119 rfl (by decide) (zs8 rfl) h0.1 ⟨_, _, rfl⟩ hc39 k) ?_
            obtain ⟨x41, M40, hc43, hK42, h⟩ := h
            refine Xi.up (pc' := 125) (st' := [zi x41]) (fun _ _ k => x_callVK (ci := 10) (as := [zi x37]) (st := []) hK38 k10_rank lm10_233 dX10_chosen_122 rfl (by decide) (zs8 rfl) h0.1 ⟨_, _, rfl⟩ hc43 k) ?_
            refine Xi.up (pc' := 127) (L' := [some (zr 2230), some (zi l1), some (zi l2), some (zi l3), some (zi x24), some (zi x41)]) (fun _ _ k => x_istore dX10_chosen_125 (by decide) rfl k) ?_
            refine Xi.up (pc' := 128) (fun _ _ k => x_iload_n dX10_chosen_127 rfl rfl k) ?_
            refine Xi.up (pc' := 129) (fun _ _ k => x_iconst dX10_chosen_128 (show inR (-1) from ⟨by decide, by decide⟩) k) ?_
            refine Xi.br (tgt := 150) (pc' := 132) (l1 = (-1)) (fun _ _ kt kf => x_icmp_eq dX10_chosen_129 rfl kt kf) (fun c => ?_) (fun c => ?_)
            · have h := h.1 c
              refine Xi.up (pc' := 151) (fun _ _ k => x_iload_n dX10_chosen_150 rfl rfl k) ?_
              refine Xi.up (pc' := 152) (L' := [some (zr 2230), some (zi l3), some (zi l2), some (zi l3), some (zi x24), some (zi x41)]) (fun _ _ k => x_istore_n dX10_chosen_151 rfl (by decide) rfl k) ?_
              obtain ⟨g44, h⟩ := h
              refine Xi.up (pc' := 155) (L' := [some (zr 2230), some (zi l3), some (zi l2), some (zi (l3 + 1)), some (zi x24), some (zi x41)]) (fun _ _ k => x_iinc dX10_chosen_152 rfl g44 (by decide) rfl k) ?_
              refine Xi.up (pc' := 39) (fun _ _ k => x_goto dX10_chosen_155 rfl k) ?_
              exact Xi.up (fun _ _ k => x_less (L' := [some (zr 2230), some (zi l3), some (zi l2), some (zi (l3 + 1)), none, none]) (⟨rfl, ⟨rfl, ⟨rfl, ⟨rfl, trivial⟩⟩⟩⟩) k) h
            · have h := h.2 c
              refine Xi.up (pc' := 134) (fun _ _ k => x_iload dX10_chosen_132 rfl k) ?_
              refine Xi.up (pc' := 136) (fun _ _ k => x_iload dX10_chosen_134 rfl k) ?_
              refine Xi.br (tgt := 150) (pc' := 139) (x24 < x41) (fun _ _ kt kf => x_icmp_lt dX10_chosen_136 rfl kt kf) (fun c => ?_) (fun c => ?_)
              · have h := h.1 c
                refine Xi.up (pc' := 151) (fun _ _ k => x_iload_n dX10_chosen_150 rfl rfl k) ?_
                refine Xi.up (pc' := 152) (L' := [some (zr 2230), some (zi l3), some (zi l2), some (zi l3), some (zi x24), some (zi x41)]) (fun _ _ k => x_istore_n dX10_chosen_151 rfl (by decide) rfl k) ?_
                obtain ⟨g45, h⟩ := h
                refine Xi.up (pc' := 155) (L' := [some (zr 2230), some (zi l3), some (zi l2), some (zi (l3 + 1)), some (zi x24), some (zi x41)]) (fun _ _ k => x_iinc dX10_chosen_152 rfl g45 (by decide) rfl k) ?_
                refine Xi.up (pc' := 39) (fun _ _ k => x_goto dX10_chosen_155 rfl k) ?_
                exact Xi.up (fun _ _ k => x_less (L' := [some (zr 2230), some (zi l3), some (zi l2), some (zi (l3 + 1)), none, none]) (⟨rfl, ⟨rfl, ⟨rfl, ⟨rfl, trivial⟩⟩⟩⟩) k) h
              · have h := h.2 c
                refine Xi.up (pc' := 141) (fun _ _ k => x_iload dX10_chosen_139 rfl k) ?_
                refine Xi.up (pc' := 143) (fun _ _ k => x_iload dX10_chosen_141 rfl k) ?_
                refine Xi.br (tgt := 152) (pc' := 146) (x24 ≠ x41) (fun _ _ kt kf => x_icmp_ne dX10_chosen_143 rfl kt kf) (fun c => ?_) (fun c => ?_)
                · have h := h.1 c
                  obtain ⟨g46, h⟩ := h
                  refine Xi.up (pc' := 155) (L' := [some (zr 2230), some (zi l1), some (zi l2), some (zi (l3 + 1)), some (zi x24), some (zi x41)]) (fun _ _ k => x_iinc dX10_chosen_152 rfl g46 (by decide) rfl k) ?_
                  refine Xi.up (pc' := 39) (fun _ _ k => x_goto dX10_chosen_155 rfl k) ?_
                  exact Xi.up (fun _ _ k => x_less (L' := [some (zr 2230), some (zi l1), some (zi l2), some (zi (l3 + 1)), none, none]) (⟨rfl, ⟨rfl, ⟨rfl, ⟨rfl, trivial⟩⟩⟩⟩) k) h
                · have h := h.2 c
                  refine Xi.up (pc' := 147) (fun _ _ k => x_iload_n dX10_chosen_146 rfl rfl k) ?_
                  refine Xi.br (tgt := 152) (pc' := 150) (l2 ≠ 0) (fun _ _ kt kf => x_if_ne dX10_chosen_147 rfl kt kf) (fun c => ?_) (fun c => ?_)
                  · have h := h.1 c
                    obtain ⟨g47, h⟩ := h
                    refine Xi.up (pc' := 155) (L' := [some (zr 2230), some (zi l1), some (zi l2), some (zi (l3 + 1)), some (zi x24), some (zi x41)]) (fun _ _ k => x_iinc dX10_chosen_152 rfl g47 (by decide) rfl k) ?_
                    refine Xi.up (pc' := 39) (fun _ _ k => x_goto dX10_chosen_155 rfl k) ?_
                    exact Xi.up (fun _ _ k => x_less (L' := [some (zr 2230), some (zi l1), some (zi l2), some (zi (l3 + 1)), none, none]) (⟨rfl, ⟨rfl, ⟨rfl, ⟨rfl, trivial⟩⟩⟩⟩) k) h
                  · have h := h.2 c
                    refine Xi.up (pc' := 151) (fun _ _ k => x_iload_n dX10_chosen_150 rfl rfl k) ?_
                    refine Xi.up (pc' := 152) (L' := [some (zr 2230), some (zi l3), some (zi l2), some (zi l3), some (zi x24), some (zi x41)]) (fun _ _ k => x_istore_n dX10_chosen_151 rfl (by decide) rfl k) ?_
                    obtain ⟨g48, h⟩ := h
                    refine Xi.up (pc' := 155) (L' := [some (zr 2230), some (zi l3), some (zi l2), some (zi (l3 + 1)), some (zi x24), some (zi x41)]) (fun _ _ k => x_iinc dX10_chosen_152 rfl g48 (by decide) rfl k) ?_
                    refine Xi.up (pc' := 39) (fun _ _ k => x_goto dX10_chosen_155 rfl k) ?_
                    exact Xi.up (fun _ _ k => x_less (L' := [some (zr 2230), some (zi l3), some (zi l2), some (zi (l3 + 1)), none, none]) (⟨rfl, ⟨rfl, ⟨rfl, ⟨rfl, trivial⟩⟩⟩⟩) k) h
          · have h := h.2 c
            refine Xi.up (pc' := 113) (fun _ _ k => x_iconst dX10_chosen_112 (show inR 0 from ⟨by decide, by decide⟩) k) ?_
            refine Xi.up (pc' := 125) (fun _ _ k => x_goto dX10_chosen_113 rfl k) ?_
            refine Xi.up (pc' := 127) (L' := [some (zr 2230), some (zi l1), some (zi l2), some (zi l3), some (zi x24), some (zi 0)]) (fun _ _ k => x_istore dX10_chosen_125 (by decide) rfl k) ?_
            refine Xi.up (pc' := 128) (fun _ _ k => x_iload_n dX10_chosen_127 rfl rfl k) ?_
            refine Xi.up (pc' := 129) (fun _ _ k => x_iconst dX10_chosen_128 (show inR (-1) from ⟨by decide, by decide⟩) k) ?_
            refine Xi.br (tgt := 150) (pc' := 132) (l1 = (-1)) (fun _ _ kt kf => x_icmp_eq dX10_chosen_129 rfl kt kf) (fun c => ?_) (fun c => ?_)
            · have h := h.1 c
              refine Xi.up (pc' := 151) (fun _ _ k => x_iload_n dX10_chosen_150 rfl rfl k) ?_
              refine Xi.up (pc' := 152) (L' := [some (zr 2230), some (zi l3), some (zi l2), some (zi l3), some (zi x24), some (zi 0)]) (fun _ _ k => x_istore_n dX10_chosen_151 rfl (by decide) rfl k) ?_
              obtain ⟨g49, h⟩ := h
              refine Xi.up (pc' := 155) (L' := [some (zr 2230), some (zi l3), some (zi l2), some (zi (l3 + 1)), some (zi x24), some (zi 0)]) (fun _ _ k => x_iinc dX10_chosen_152 rfl g49 (by decide) rfl k) ?_
              refine Xi.up (pc' := 39) (fun _ _ k => x_goto dX10_chosen_155 rfl k) ?_
              exact Xi.up (fun _ _ k => x_less (L' := [some (zr 2230), some (zi l3), some (zi l2), some (zi (l3 + 1)), none, none]) (⟨rfl, ⟨rfl, ⟨rfl, ⟨rfl, trivial⟩⟩⟩⟩) k) h
            · have h := h.2 c
              refine Xi.up (pc' := 134) (fun _ _ k => x_iload dX10_chosen_132 rfl k) ?_
              refine Xi.up (pc' := 136) (fun _ _ k => x_iload dX10_chosen_134 rfl k) ?_
              refine Xi.br (tgt := 150) (pc' := 139) (x24 < 0) (fun _ _ kt kf => x_icmp_lt dX10_chosen_136 rfl kt kf) (fun c => ?_) (fun c => ?_)
              · have h := h.1 c
                refine Xi.up (pc' := 151) (fun _ _ k => x_iload_n dX10_chosen_150 rfl rfl k) ?_
                refine Xi.up (pc' := 152) (L' := [some (zr 2230), some (zi l3), some (zi l2), some (zi l3), some (zi x24), some (zi 0)]) (fun _ _ k => x_istore_n dX10_chosen_151 rfl (by decide) rfl k) ?_
                obtain ⟨g50, h⟩ := h
                refine Xi.up (pc' := 155) (L' := [some (zr 2230), some (zi l3), some (zi l2), some (zi (l3 + 1)), some (zi x24), some (zi 0)]) (fun _ _ k => x_iinc dX10_chosen_152 rfl g50 (by decide) rfl k) ?_
                refine Xi.up (pc' := 39) (fun _ _ k => x_goto dX10_chosen_155 rfl k) ?_
                exact Xi.up (fun _ _ k => x_less (L' := [some (zr 2230), some (zi l3), some (zi l2), some (zi (l3 + 1)), none, none]) (⟨rfl, ⟨rfl, ⟨rfl, ⟨rfl, trivial⟩⟩⟩⟩) k) h
              · have h := h.2 c
                refine Xi.up (pc' := 141) (fun _ _ k => x_iload dX10_chosen_139 rfl k) ?_
                refine Xi.up (pc' := 143) (fun _ _ k => x_iload dX10_chosen_141 rfl k) ?_
                refine Xi.br (tgt := 152) (pc' := 146) (x24 ≠ 0) (fun _ _ kt kf => x_icmp_ne dX10_chosen_143 rfl kt kf) (fun c => ?_) (fun c => ?_)
                · have h := h.1 c
                  obtain ⟨g51, h⟩ := h
                  refine Xi.up (pc' := 155) (L' := [some (zr 2230), some (zi l1), some (zi l2), some (zi (l3 + 1)), some (zi x24), some (zi 0)]) (fun _ _ k => x_iinc dX10_chosen_152 rfl g51 (by decide) rfl k) ?_
                  refine Xi.up (pc' := 39) (fun _ _ k => x_goto dX10_chosen_155 rfl k) ?_
                  exact Xi.up (fun _ _ k => x_less (L' := [some (zr 2230), some (zi l1), some (zi l2), some (zi (l3 + 1)), none, none]) (⟨rfl, ⟨rfl, ⟨rfl, ⟨rfl, trivial⟩⟩⟩⟩) k) h
                · have h := h.2 c
                  refine Xi.up (pc' := 147) (fun _ _ k => x_iload_n dX10_chosen_146 rfl rfl k) ?_
                  refine Xi.br (tgt := 152) (pc' := 150) (l2 ≠ 0) (fun _ _ kt kf => x_if_ne dX10_chosen_147 rfl kt kf) (fun c => ?_) (fun c => ?_)
                  · have h := h.1 c
                    obtain ⟨g52, h⟩ := h
                    refine Xi.up (pc' := 155) (L' := [some (zr 2230), some (zi l1), some (zi l2), some (zi (l3 + 1)), some (zi x24), some (zi 0)]) (fun _ _ k => x_iinc dX10_chosen_152 rfl g52 (by decide) rfl k) ?_
                    refine Xi.up (pc' := 39) (fun _ _ k => x_goto dX10_chosen_155 rfl k) ?_
                    exact Xi.up (fun _ _ k => x_less (L' := [some (zr 2230), some (zi l1), some (zi l2), some (zi (l3 + 1)), none, none]) (⟨rfl, ⟨rfl, ⟨rfl, ⟨rfl, trivial⟩⟩⟩⟩) k) h
                  · have h := h.2 c
                    refine Xi.up (pc' := 151) (fun _ _ k => x_iload_n dX10_chosen_150 rfl rfl k) ?_
                    refine Xi.up (pc' := 152) (L' := [some (zr 2230), some (zi l3), some (zi l2), some (zi l3), some (zi x24), some (zi 0)]) (fun _ _ k => x_istore_n dX10_chosen_151 rfl (by decide) rfl k) ?_
                    obtain ⟨g53, h⟩ := h
                    refine Xi.up (pc' := 155) (L' := [some (zr 2230), some (zi l3), some (zi l2), some (zi (l3 + 1)), some (zi x24), some (zi 0)]) (fun _ _ k => x_iinc dX10_chosen_152 rfl g53 (by decide) rfl k) ?_
                    refine Xi.up (pc' := 39) (fun _ _ k => x_goto dX10_chosen_155 rfl k) ?_
                    exact Xi.up (fun _ _ k => x_less (L' := [some (zr 2230), some (zi l3), some (zi l2), some (zi (l3 + 1)), none, none]) (⟨rfl, ⟨rfl, ⟨rfl, ⟨rfl, trivial⟩⟩⟩⟩) k) h
      · have h := h.2 c
        refine Xi.up (pc' := 86) (fun _ _ k => x_iconst dX10_chosen_85 (show inR 0 from ⟨by decide, by decide⟩) k) ?_
        refine Xi.up (pc' := 98) (fun _ _ k => x_goto dX10_chosen_86 rfl k) ?_
        refine Xi.up (pc' := 100) (L' := [some (zr 2230), some (zi l1), some (zi l2), some (zi l3), some (zi 0), none]) (fun _ _ k => x_istore dX10_chosen_98 (by decide) rfl k) ?_
        refine Xi.up (pc' := 101) (fun _ _ k => x_iload_n dX10_chosen_100 rfl rfl k) ?_
        refine Xi.up (pc' := 102) (fun _ _ k => x_iconst dX10_chosen_101 (show inR (-1) from ⟨by decide, by decide⟩) k) ?_
        refine Xi.br (tgt := 112) (pc' := 105) (l1 = (-1)) (fun _ _ kt kf => x_icmp_eq dX10_chosen_102 rfl kt kf) (fun c => ?_) (fun c => ?_)
        · have h := h.1 c
          refine Xi.up (pc' := 113) (fun _ _ k => x_iconst dX10_chosen_112 (show inR 0 from ⟨by decide, by decide⟩) k) ?_
          refine Xi.up (pc' := 125) (fun _ _ k => x_goto dX10_chosen_113 rfl k) ?_
          refine Xi.up (pc' := 127) (L' := [some (zr 2230), some (zi l1), some (zi l2), some (zi l3), some (zi 0), some (zi 0)]) (fun _ _ k => x_istore dX10_chosen_125 (by decide) rfl k) ?_
          refine Xi.up (pc' := 128) (fun _ _ k => x_iload_n dX10_chosen_127 rfl rfl k) ?_
          refine Xi.up (pc' := 129) (fun _ _ k => x_iconst dX10_chosen_128 (show inR (-1) from ⟨by decide, by decide⟩) k) ?_
          refine Xi.br (tgt := 150) (pc' := 132) (l1 = (-1)) (fun _ _ kt kf => x_icmp_eq dX10_chosen_129 rfl kt kf) (fun c => ?_) (fun c => ?_)
          · have h := h.1 c
            refine Xi.up (pc' := 151) (fun _ _ k => x_iload_n dX10_chosen_150 rfl rfl k) ?_
            refine Xi.up (pc' := 152) (L' := [some (zr 2230), some (zi l3), some (zi l2), some (zi l3), some (zi 0), some (zi 0)]) (fun _ _ k => x_istore_n dX10_chosen_151 rfl (by decide) rfl k) ?_
            obtain ⟨g54, h⟩ := h
            refine Xi.up (pc' := 155) (L' := [some (zr 2230), some (zi l3), some (zi l2), some (zi (l3 + 1)), some (zi 0), some (zi 0)]) (fun _ _ k => x_iinc dX10_chosen_152 rfl g54 (by decide) rfl k) ?_
            refine Xi.up (pc' := 39) (fun _ _ k => x_goto dX10_chosen_155 rfl k) ?_
            exact Xi.up (fun _ _ k => x_less (L' := [some (zr 2230), some (zi l3), some (zi l2), some (zi (l3 + 1)), none, none]) (⟨rfl, ⟨rfl, ⟨rfl, ⟨rfl, trivial⟩⟩⟩⟩) k) h
          · have h := h.2 c
            refine Xi.up (pc' := 134) (fun _ _ k => x_iload dX10_chosen_132 rfl k) ?_
            refine Xi.up (pc' := 136) (fun _ _ k => x_iload dX10_chosen_134 rfl k) ?_
            refine Xi.br (tgt := 150) (pc' := 139) ((0 : Int) < 0) (fun _ _ kt kf => x_icmp_lt dX10_chosen_136 rfl kt kf) (fun c => absurd c (by decide)) (fun _ => ?_)
            refine Xi.up (pc' := 141) (fun _ _ k => x_iload dX10_chosen_139 rfl k) ?_
            refine Xi.up (pc' := 143) (fun _ _ k => x_iload dX10_chosen_141 rfl k) ?_
            refine Xi.br (tgt := 152) (pc' := 146) ((0 : Int) ≠ 0) (fun _ _ kt kf => x_icmp_ne dX10_chosen_143 rfl kt kf) (fun c => absurd c (by decide)) (fun _ => ?_)
            refine Xi.up (pc' := 147) (fun _ _ k => x_iload_n dX10_chosen_146 rfl rfl k) ?_
            refine Xi.br (tgt := 152) (pc' := 150) (l2 ≠ 0) (fun _ _ kt kf => x_if_ne dX10_chosen_147 rfl kt kf) (fun c => ?_) (fun c => ?_)
            · have h := h.1 c
              obtain ⟨g55, h⟩ := h
              refine Xi.up (pc' := 155) (L' := [some (zr 2230), some (zi l1), some (zi l2), some (zi (l3 + 1)), some (zi 0), some (zi 0)]) (fun _ _ k => x_iinc dX10_chosen_152 rfl g55 (by decide) rfl k) ?_
              refine Xi.up (pc' := 39) (fun _ _ k => x_goto dX10_chosen_155 rfl k) ?_
              exact Xi.up (fun _ _ k => x_less (L' := [some (zr 2230), some (zi l1), some (zi l2), some (zi (l3 + 1)), none, none]) (⟨rfl, ⟨rfl, ⟨rfl, ⟨rfl, trivial⟩⟩⟩⟩) k) h
            · have h := h.2 c
              refine Xi.up (pc' := 151) (fun _ _ k => x_iload_n dX10_chosen_150 rfl rfl k) ?_
              refine Xi.up (pc' := 152) (L' := [some (zr 2230), some (zi l3), some (zi l2), some (zi l3), some (zi 0), some (zi 0)]) (fun _ _ k => x_istore_n dX10_chosen_151 rfl (by decide) rfl k) ?_
              obtain ⟨g56, h⟩ := h
              refine Xi.up (pc' := 155) (L' := [some (zr 2230), some (zi l3), some (zi l2), some (zi (l3 + 1)), some (zi 0), some (zi 0)]) (fun _ _ k => x_iinc dX10_chosen_152 rfl g56 (by decide) rfl k) ?_
              refine Xi.up (pc' := 39) (fun _ _ k => x_goto dX10_chosen_155 rfl k) ?_
              exact Xi.up (fun _ _ k => x_less (L' := [some (zr 2230), some (zi l3), some (zi l2), some (zi (l3 + 1)), none, none]) (⟨rfl, ⟨rfl, ⟨rfl, ⟨rfl, trivial⟩⟩⟩⟩) k) h
        · have h := h.2 c
          refine Xi.up (pc' := 106) (fun _ _ k => x_aload_n dX10_chosen_105 rfl rfl k) ?_
          obtain ⟨x58, M57, hc60, hK59, h⟩ := h
          refine Xi.up (pc' := 109) (st' := [zi x58]) (fun _ _ k => x_callVK (ci := 10) (as := []) (st := []) hK17 k10_level lm10_166 dX10_chosen_106 rfl (by decide) (zs8 rfl) h0.1 ⟨_, _, rfl⟩ hc60 k) ?_
          refine Xi.br (tgt := 116) (pc' := 112) (x58 ≤ 0) (fun _ _ kt kf => x_if_le dX10_chosen_109 rfl kt kf) (fun c => ?_) (fun c => ?_)
          · have h := h.1 c
            refine Xi.up (pc' := 117) (fun _ _ k => x_aload_n dX10_chosen_116 rfl rfl k) ?_
            refine Xi.up (pc' := 118) (fun _ _ k => x_aload_n dX10_chosen_117 rfl rfl k) ?_
            refine Xi.up (pc' := 119) (fun _ _ k => x_iload_n dX10_chosen_118 rfl rfl k) ?_
            obtain ⟨x62, M61, hc64, hK63, h⟩ := h
            refine Xi.up (pc' := 122) (st' := [zi x62, zr 2230]) (fun _ _ k => x_callVK (ci := 10) (as := [zi l1]) (st := [zr 2230]) hK59 k10_pointAt lm10_163 dX10_chosen_119 rfl (by decide) (zs8 rfl) h0.1 ⟨_, _, rfl⟩ hc64 k) ?_
            obtain ⟨x66, M65, hc68, hK67, h⟩ := h
            refine Xi.up (pc' := 125) (st' := [zi x66]) (fun _ _ k => x_callVK (ci := 10) (as := [zi x62]) (st := []) hK63 k10_rank lm10_233 dX10_chosen_122 rfl (by decide) (zs8 rfl) h0.1 ⟨_, _, rfl⟩ hc68 k) ?_
            refine Xi.up (pc' := 127) (L' := [some (zr 2230), some (zi l1), some (zi l2), some (zi l3), some (zi 0), some (zi x66)]) (fun _ _ k => x_istore dX10_chosen_125 (by decide) rfl k) ?_
            refine Xi.up (pc' := 128) (fun _ _ k => x_iload_n dX10_chosen_127 rfl rfl k) ?_
            refine Xi.up (pc' := 129) (fun _ _ k => x_iconst dX10_chosen_128 (show inR (-1) from ⟨by decide, by decide⟩) k) ?_
            refine Xi.br (tgt := 150) (pc' := 132) (l1 = (-1)) (fun _ _ kt kf => x_icmp_eq dX10_chosen_129 rfl kt kf) (fun c => ?_) (fun c => ?_)
            · have h := h.1 c
              refine Xi.up (pc' := 151) (fun _ _ k => x_iload_n dX10_chosen_150 rfl rfl k) ?_
              refine Xi.up (pc' := 152) (L' := [some (zr 2230), some (zi l3), some (zi l2), some (zi l3), some (zi 0), some (zi x66)]) (fun _ _ k => x_istore_n dX10_chosen_151 rfl (by decide) rfl k) ?_
              obtain ⟨g69, h⟩ := h
              refine Xi.up (pc' := 155) (L' := [some (zr 2230), some (zi l3), some (zi l2), some (zi (l3 + 1)), some (zi 0), some (zi x66)]) (fun _ _ k => x_iinc dX10_chosen_152 rfl g69 (by decide) rfl k) ?_
              refine Xi.up (pc' := 39) (fun _ _ k => x_goto dX10_chosen_155 rfl k) ?_
              exact Xi.up (fun _ _ k => x_less (L' := [some (zr 2230), some (zi l3), some (zi l2), some (zi (l3 + 1)), none, none]) (⟨rfl, ⟨rfl, ⟨rfl, ⟨rfl, trivial⟩⟩⟩⟩) k) h
            · have h := h.2 c
              refine Xi.up (pc' := 134) (fun _ _ k => x_iload dX10_chosen_132 rfl k) ?_
              refine Xi.up (pc' := 136) (fun _ _ k => x_iload dX10_chosen_134 rfl k) ?_
              refine Xi.br (tgt := 150) (pc' := 139) ((0 : Int) < x66) (fun _ _ kt kf => x_icmp_lt dX10_chosen_136 rfl kt kf) (fun c => ?_) (fun c => ?_)
              · have h := h.1 c
                refine Xi.up (pc' := 151) (fun _ _ k => x_iload_n dX10_chosen_150 rfl rfl k) ?_
                refine Xi.up (pc' := 152) (L' := [some (zr 2230), some (zi l3), some (zi l2), some (zi l3), some (zi 0), some (zi x66)]) (fun _ _ k => x_istore_n dX10_chosen_151 rfl (by decide) rfl k) ?_
                obtain ⟨g70, h⟩ := h
                refine Xi.up (pc' := 155) (L' := [some (zr 2230), some (zi l3), some (zi l2), some (zi (l3 + 1)), some (zi 0), some (zi x66)]) (fun _ _ k => x_iinc dX10_chosen_152 rfl g70 (by decide) rfl k) ?_
                refine Xi.up (pc' := 39) (fun _ _ k => x_goto dX10_chosen_155 rfl k) ?_
                exact Xi.up (fun _ _ k => x_less (L' := [some (zr 2230), some (zi l3), some (zi l2), some (zi (l3 + 1)), none, none]) (⟨rfl, ⟨rfl, ⟨rfl, ⟨rfl, trivial⟩⟩⟩⟩) k) h
              · have h := h.2 c
                refine Xi.up (pc' := 141) (fun _ _ k => x_iload dX10_chosen_139 rfl k) ?_
                refine Xi.up (pc' := 143) (fun _ _ k => x_iload dX10_chosen_141 rfl k) ?_
                refine Xi.br (tgt := 152) (pc' := 146) ((0 : Int) ≠ x66) (fun _ _ kt kf => x_icmp_ne dX10_chosen_143 rfl kt kf) (fun c => ?_) (fun c => ?_)
                · have h := h.1 c
                  obtain ⟨g71, h⟩ := h
                  refine Xi.up (pc' := 155) (L' := [some (zr 2230), some (zi l1), some (zi l2), some (zi (l3 + 1)), some (zi 0), some (zi x66)]) (fun _ _ k => x_iinc dX10_chosen_152 rfl g71 (by decide) rfl k) ?_
                  refine Xi.up (pc' := 39) (fun _ _ k => x_goto dX10_chosen_155 rfl k) ?_
                  exact Xi.up (fun _ _ k => x_less (L' := [some (zr 2230), some (zi l1), some (zi l2), some (zi (l3 + 1)), none, none]) (⟨rfl, ⟨rfl, ⟨rfl, ⟨rfl, trivial⟩⟩⟩⟩) k) h
                · have h := h.2 c
                  refine Xi.up (pc' := 147) (fun _ _ k => x_iload_n dX10_chosen_146 rfl rfl k) ?_
                  refine Xi.br (tgt := 152) (pc' := 150) (l2 ≠ 0) (fun _ _ kt kf => x_if_ne dX10_chosen_147 rfl kt kf) (fun c => ?_) (fun c => ?_)
                  · have h := h.1 c
                    obtain ⟨g72, h⟩ := h
                    refine Xi.up (pc' := 155) (L' := [some (zr 2230), some (zi l1), some (zi l2), some (zi (l3 + 1)), some (zi 0), some (zi x66)]) (fun _ _ k => x_iinc dX10_chosen_152 rfl g72 (by decide) rfl k) ?_
                    refine Xi.up (pc' := 39) (fun _ _ k => x_goto dX10_chosen_155 rfl k) ?_
                    exact Xi.up (fun _ _ k => x_less (L' := [some (zr 2230), some (zi l1), some (zi l2), some (zi (l3 + 1)), none, none]) (⟨rfl, ⟨rfl, ⟨rfl, ⟨rfl, trivial⟩⟩⟩⟩) k) h
                  · have h := h.2 c
                    refine Xi.up (pc' := 151) (fun _ _ k => x_iload_n dX10_chosen_150 rfl rfl k) ?_
                    refine Xi.up (pc' := 152) (L' := [some (zr 2230), some (zi l3), some (zi l2), some (zi l3), some (zi 0), some (zi x66)]) (fun _ _ k => x_istore_n dX10_chosen_151 rfl (by decide) rfl k) ?_
                    obtain ⟨g73, h⟩ := h
                    refine Xi.up (pc' := 155) (L' := [some (zr 2230), some (zi l3), some (zi l2), some (zi (l3 + 1)), some (zi 0), some (zi x66)]) (fun _ _ k => x_iinc dX10_chosen_152 rfl g73 (by decide) rfl k) ?_
                    refine Xi.up (pc' := 39) (fun _ _ k => x_goto dX10_chosen_155 rfl k) ?_
                    exact Xi.up (fun _ _ k => x_less (L' := [some (zr 2230), some (zi l3), some (zi l2), some (zi (l3 + 1)), none, none]) (⟨rfl, ⟨rfl, ⟨rfl, ⟨rfl, trivial⟩⟩⟩⟩) k) h
          · have h := h.2 c
            refine Xi.up (pc' := 113) (fun _ _ k => x_iconst dX10_chosen_112 (show inR 0 from ⟨by decide, by decide⟩) k) ?_
            refine Xi.up (pc' := 125) (fun _ _ k => x_goto dX10_chosen_113 rfl k) ?_
            refine Xi.up (pc' := 127) (L' := [some (zr 2230), some (zi l1), some (zi l2), some (zi l3), some (zi 0), some (zi 0)]) (fun _ _ k => x_istore dX10_chosen_125 (by decide) rfl k) ?_
            refine Xi.up (pc' := 128) (fun _ _ k => x_iload_n dX10_chosen_127 rfl rfl k) ?_
            refine Xi.up (pc' := 129) (fun _ _ k => x_iconst dX10_chosen_128 (show inR (-1) from ⟨by decide, by decide⟩) k) ?_
            refine Xi.br (tgt := 150) (pc' := 132) (l1 = (-1)) (fun _ _ kt kf => x_icmp_eq dX10_chosen_129 rfl kt kf) (fun c => ?_) (fun c => ?_)
            · have h := h.1 c
              refine Xi.up (pc' := 151) (fun _ _ k => x_iload_n dX10_chosen_150 rfl rfl k) ?_
              refine Xi.up (pc' := 152) (L' := [some (zr 2230), some (zi l3), some (zi l2), some (zi l3), some (zi 0), some (zi 0)]) (fun _ _ k => x_istore_n dX10_chosen_151 rfl (by decide) rfl k) ?_
              obtain ⟨g74, h⟩ := h
              refine Xi.up (pc' := 155) (L' := [some (zr 2230), some (zi l3), some (zi l2), some (zi (l3 + 1)), some (zi 0), some (zi 0)]) (fun _ _ k => x_iinc dX10_chosen_152 rfl g74 (by decide) rfl k) ?_
              refine Xi.up (pc' := 39) (fun _ _ k => x_goto dX10_chosen_155 rfl k) ?_
              exact Xi.up (fun _ _ k => x_less (L' := [some (zr 2230), some (zi l3), some (zi l2), some (zi (l3 + 1)), none, none]) (⟨rfl, ⟨rfl, ⟨rfl, ⟨rfl, trivial⟩⟩⟩⟩) k) h
            · have h := h.2 c
              refine Xi.up (pc' := 134) (fun _ _ k => x_iload dX10_chosen_132 rfl k) ?_
              refine Xi.up (pc' := 136) (fun _ _ k => x_iload dX10_chosen_134 rfl k) ?_
              refine Xi.br (tgt := 150) (pc' := 139) ((0 : Int) < 0) (fun _ _ kt kf => x_icmp_lt dX10_chosen_136 rfl kt kf) (fun c => absurd c (by decide)) (fun _ => ?_)
              refine Xi.up (pc' := 141) (fun _ _ k => x_iload dX10_chosen_139 rfl k) ?_
              refine Xi.up (pc' := 143) (fun _ _ k => x_iload dX10_chosen_141 rfl k) ?_
              refine Xi.br (tgt := 152) (pc' := 146) ((0 : Int) ≠ 0) (fun _ _ kt kf => x_icmp_ne dX10_chosen_143 rfl kt kf) (fun c => absurd c (by decide)) (fun _ => ?_)
              refine Xi.up (pc' := 147) (fun _ _ k => x_iload_n dX10_chosen_146 rfl rfl k) ?_
              refine Xi.br (tgt := 152) (pc' := 150) (l2 ≠ 0) (fun _ _ kt kf => x_if_ne dX10_chosen_147 rfl kt kf) (fun c => ?_) (fun c => ?_)
              · have h := h.1 c
                obtain ⟨g75, h⟩ := h
                refine Xi.up (pc' := 155) (L' := [some (zr 2230), some (zi l1), some (zi l2), some (zi (l3 + 1)), some (zi 0), some (zi 0)]) (fun _ _ k => x_iinc dX10_chosen_152 rfl g75 (by decide) rfl k) ?_
                refine Xi.up (pc' := 39) (fun _ _ k => x_goto dX10_chosen_155 rfl k) ?_
                exact Xi.up (fun _ _ k => x_less (L' := [some (zr 2230), some (zi l1), some (zi l2), some (zi (l3 + 1)), none, none]) (⟨rfl, ⟨rfl, ⟨rfl, ⟨rfl, trivial⟩⟩⟩⟩) k) h
              · have h := h.2 c
                refine Xi.up (pc' := 151) (fun _ _ k => x_iload_n dX10_chosen_150 rfl rfl k) ?_
                refine Xi.up (pc' := 152) (L' := [some (zr 2230), some (zi l3), some (zi l2), some (zi l3), some (zi 0), some (zi 0)]) (fun _ _ k => x_istore_n dX10_chosen_151 rfl (by decide) rfl k) ?_
                obtain ⟨g76, h⟩ := h
                refine Xi.up (pc' := 155) (L' := [some (zr 2230), some (zi l3), some (zi l2), some (zi (l3 + 1)), some (zi 0), some (zi 0)]) (fun _ _ k => x_iinc dX10_chosen_152 rfl g76 (by decide) rfl k) ?_
                refine Xi.up (pc' := 39) (fun _ _ k => x_goto dX10_chosen_155 rfl k) ?_
                exact Xi.up (fun _ _ k => x_less (L' := [some (zr 2230), some (zi l3), some (zi l2), some (zi (l3 + 1)), none, none]) (⟨rfl, ⟨rfl, ⟨rfl, ⟨rfl, trivial⟩⟩⟩⟩) k) h
    · have h := h.2 c
      refine Xi.up (pc' := 152) (fun _ _ k => x_goto dX10_chosen_75 rfl k) ?_
      obtain ⟨g77, h⟩ := h
      refine Xi.up (pc' := 155) (L' := [some (zr 2230), some (zi l1), some (zi l2), some (zi (l3 + 1)), none, none]) (fun _ _ k => x_iinc dX10_chosen_152 rfl g77 (by decide) rfl k) ?_
      refine Xi.up (pc' := 39) (fun _ _ k => x_goto dX10_chosen_155 rfl k) ?_
      exact h
set_option maxHeartbeats 4000000 in
set_option maxRecDepth 20000 in
theorem B10_takesPoint {d : Nat} {K M : ZMem} {Q : ZMem → Prop} (a1 : Int) (hK : KW K M) (h0 : ModelAt K 2230) (h : Ci d q10_pointAt [zr 2230, zi a1] M (fun x2 M1 => KW K M1 ∧ Ci d q10_level [zr 2230] M1 (fun x6 M5 => KW K M5 ∧ ((x6 ≠ 0 → (Xv (d + 1) q10_takesPoint 85 [some (zr 2230), some (zi a1), some (zi x2), none, none, none, none] [] M5 Q)) ∧ (¬ (x6 ≠ 0) → ((inR ((mI M5 2230 16) + 6)) ∧ (0 ≤ ((mI M5 2230 16) + 6)) ∧ (((mI M5 2230 16) + 6) < 19245) ∧ (inR ((mI M5 2239 ((mI M5 2230 16) + 6).toNat) + 1)) ∧ (0 ≤ ((mI M5 2230 16) + 6)) ∧ (((mI M5 2230 16) + 6) < 19245) ∧ Xv (d + 1) q10_takesPoint 31 [some (zr 2230), some (zi a1), some (zi x2), some (zi 0), none, none, none] [] (sI M5 2239 (((mI M5 2230 16) + 6).toNat) ((mI M5 2239 ((mI M5 2230 16) + 6).toNat) + 1)) Q)))))) : Cv (d + 1) q10_takesPoint [zr 2230, zi a1] M Q := by
  refine Cv.of rfl rfl (Nat.le_of_ble_eq_true rfl) (fun w hw x e => by subst e; simp at hw) (L := [some (zr 2230), some (zi a1), none, none, none, none, none]) rfl ?_
  refine Xv.up (pc' := 1) (fun _ _ k => x_aload_n dX10_takesPoint_0 rfl rfl k) ?_
  refine Xv.up (pc' := 2) (fun _ _ k => x_iload_n dX10_takesPoint_1 rfl rfl k) ?_
  obtain ⟨x2, M1, hc4, hK3, h⟩ := h
  refine Xv.up (pc' := 5) (st' := [zi x2]) (fun _ _ k => x_callVK (ci := 10) (as := [zi a1]) (st := []) hK k10_pointAt lm10_163 dX10_takesPoint_2 rfl (by decide) (zs8 rfl) h0.1 ⟨_, _, rfl⟩ hc4 k) ?_
  refine Xv.up (pc' := 6) (L' := [some (zr 2230), some (zi a1), some (zi x2), none, none, none, none]) (fun _ _ k => x_istore_n dX10_takesPoint_5 rfl (by decide) rfl k) ?_
  refine Xv.up (pc' := 7) (fun _ _ k => x_aload_n dX10_takesPoint_6 rfl rfl k) ?_
  obtain ⟨x6, M5, hc8, hK7, h⟩ := h
  refine Xv.up (pc' := 10) (st' := [zi x6]) (fun _ _ k => x_callVK (ci := 10) (as := []) (st := []) hK3 k10_level lm10_166 dX10_takesPoint_7 rfl (by decide) (zs8 rfl) h0.1 ⟨_, _, rfl⟩ hc8 k) ?_
  refine Xv.br (tgt := 85) (pc' := 13) (x6 ≠ 0) (fun _ _ kt kf => x_if_ne dX10_takesPoint_10 rfl kt kf) (fun c => ?_) (fun c => ?_)
  · have h := h.1 c
    exact h
  · have h := h.2 c
    refine Xv.up (pc' := 14) (fun _ _ k => x_aload_n dX10_takesPoint_13 rfl rfl k) ?_
    refine Xv.up (pc' := 17) (fun _ _ k => x_getRK hK7 lf10_35 rfl dX10_takesPoint_14 h0.1 h0.2.2.2.2.2.2.2.2.2.1 k) ?_
    refine Xv.up (pc' := 18) (fun _ _ k => x_aload_n dX10_takesPoint_17 rfl rfl k) ?_
    refine Xv.up (pc' := 21) (fun _ _ k => x_getIK hK7 lf10_156 rfl dX10_takesPoint_18 h0.1 k) ?_
    refine Xv.up (pc' := 23) (fun _ _ k => x_bipush dX10_takesPoint_21 (show inR 6 from ⟨by decide, by decide⟩) (by decide) k) ?_
    obtain ⟨g9, h⟩ := h
    refine Xv.up (pc' := 24) (fun _ _ k => x_iadd dX10_takesPoint_23 g9 k) ?_
    refine Xv.up (pc' := 25) (fun _ _ k => x_dup2 dX10_takesPoint_24 k) ?_
    obtain ⟨g10, h⟩ := h
    obtain ⟨g11, h⟩ := h
    refine Xv.up (pc' := 26) (fun _ _ k => x_ialoadK hK7 dX10_takesPoint_25 h0.2.2.2.2.2.2.2.2.2.2.2.2.2.2.2.2.2.2.2.1 g10 g11 k) ?_
    refine Xv.up (pc' := 27) (fun _ _ k => x_iconst dX10_takesPoint_26 (show inR 1 from ⟨by decide, by decide⟩) k) ?_
    obtain ⟨g12, h⟩ := h
    refine Xv.up (pc' := 28) (fun _ _ k => x_iadd dX10_takesPoint_27 g12 k) ?_
    obtain ⟨g13, h⟩ := h
    obtain ⟨g14, h⟩ := h
    refine Xv.up (pc' := 29) (fun _ _ k => x_iastoreK hK7 dX10_takesPoint_28 h0.2.2.2.2.2.2.2.2.2.2.2.2.2.2.2.2.2.2.2.1 g13 g14 k) ?_
    have hK15 := KW.sI hK7 2239 (((mI M5 2230 16) + 6).toNat) ((mI M5 2239 ((mI M5 2230 16) + 6).toNat) + 1)
    refine Xv.up (pc' := 30) (fun _ _ k => x_iconst dX10_takesPoint_29 (show inR 0 from ⟨by decide, by decide⟩) k) ?_
    refine Xv.up (pc' := 31) (L' := [some (zr 2230), some (zi a1), some (zi x2), some (zi 0), none, none, none]) (fun _ _ k => x_istore_n dX10_takesPoint_30 rfl (by decide) rfl k) ?_
    exact h
set_option maxHeartbeats 4000000 in
set_option maxRecDepth 20000 in
theorem B10_takesPoint_31 {d : Nat} {K M : ZMem} {Q : ZMem → Prop} (a1 : Int) (l2 : Int) (l3 : Int) (hK : KW K M) (h0 : ModelAt K 2230) (h : ((8 ≤ l3 → (Xv (d + 1) q10_takesPoint 85 [some (zr 2230), some (zi a1), some (zi l2), none, none, none, none] [] M Q)) ∧ (¬ (8 ≤ l3) → ((inR ((mI M 2230 16) + 8)) ∧ (0 ≤ ((mI M 2230 16) + 8)) ∧ (((mI M 2230 16) + 8) < 19245) ∧ (inR ((mI M 2230 17) + l3)) ∧ (0 ≤ ((mI M 2230 17) + l3)) ∧ (((mI M 2230 17) + l3) < 19245) ∧ (inR (l2 + l3)) ∧ (0 ≤ (l2 + l3)) ∧ ((l2 + l3) < 19245) ∧ (((mI M 2239 ((mI M 2230 17) + l3).toNat) ≠ (mI M 2239 (l2 + l3).toNat) → ((inR ((mI M 2239 ((mI M 2230 16) + 8).toNat) + 1)) ∧ (0 ≤ ((mI M 2230 16) + 8)) ∧ (((mI M 2230 16) + 8) < 19245) ∧ (inR (l3 + 1)) ∧ Xv (d + 1) q10_takesPoint 31 [some (zr 2230), some (zi a1), some (zi l2), some (zi (l3 + 1)), none, none, none] [] (sI M 2239 (((mI M 2230 16) + 8).toNat) ((mI M 2239 ((mI M 2230 16) + 8).toNat) + 1)) Q)) ∧ (¬ ((mI M 2239 ((mI M 2230 17) + l3).toNat) ≠ (mI M 2239 (l2 + l3).toNat)) → ((inR ((mI M 2239 ((mI M 2230 16) + 8).toNat) + 0)) ∧ (0 ≤ ((mI M 2230 16) + 8)) ∧ (((mI M 2230 16) + 8) < 19245) ∧ (inR (l3 + 1)) ∧ Xv (d + 1) q10_takesPoint 31 [some (zr 2230), some (zi a1), some (zi l2), some (zi (l3 + 1)), none, none, none] [] (sI M 2239 (((mI M 2230 16) + 8).toNat) ((mI M 2239 ((mI M 2230 16) + 8).toNat) + 0)) Q))))))) : Xv (d + 1) q10_takesPoint 31 [some (zr 2230), some (zi a1), some (zi l2), some (zi l3), none, none, none] [] M Q := by
  refine Xv.up (pc' := 32) (fun _ _ k => x_iload_n dX10_takesPoint_31 rfl rfl k) ?_
  refine Xv.up (pc' := 34) (fun _ _ k => x_bipush dX10_takesPoint_32 (show inR 8 from ⟨by decide, by decide⟩) (by decide) k) ?_
  refine Xv.br (tgt := 85) (pc' := 37) (8 ≤ l3) (fun _ _ kt kf => x_icmp_ge dX10_takesPoint_34 rfl kt kf) (fun c => ?_) (fun c => ?_)
  · have h := h.1 c
    exact Xv.up (fun _ _ k => x_less (L' := [some (zr 2230), some (zi a1), some (zi l2), none, none, none, none]) (⟨rfl, ⟨rfl, ⟨rfl, trivial⟩⟩⟩) k) h
  · have h := h.2 c
    refine Xv.up (pc' := 38) (fun _ _ k => x_aload_n dX10_takesPoint_37 rfl rfl k) ?_
    refine Xv.up (pc' := 41) (fun _ _ k => x_getRK hK lf10_35 rfl dX10_takesPoint_38 h0.1 h0.2.2.2.2.2.2.2.2.2.1 k) ?_
    refine Xv.up (pc' := 42) (fun _ _ k => x_aload_n dX10_takesPoint_41 rfl rfl k) ?_
    refine Xv.up (pc' := 45) (fun _ _ k => x_getIK hK lf10_156 rfl dX10_takesPoint_42 h0.1 k) ?_
    refine Xv.up (pc' := 47) (fun _ _ k => x_bipush dX10_takesPoint_45 (show inR 8 from ⟨by decide, by decide⟩) (by decide) k) ?_
    obtain ⟨g1, h⟩ := h
    refine Xv.up (pc' := 48) (fun _ _ k => x_iadd dX10_takesPoint_47 g1 k) ?_
    refine Xv.up (pc' := 49) (fun _ _ k => x_dup2 dX10_takesPoint_48 k) ?_
    obtain ⟨g2, h⟩ := h
    obtain ⟨g3, h⟩ := h
    refine Xv.up (pc' := 50) (fun _ _ k => x_ialoadK hK dX10_takesPoint_49 h0.2.2.2.2.2.2.2.2.2.2.2.2.2.2.2.2.2.2.2.1 g2 g3 k) ?_
    refine Xv.up (pc' := 51) (fun _ _ k => x_aload_n dX10_takesPoint_50 rfl rfl k) ?_
    refine Xv.up (pc' := 54) (fun _ _ k => x_getRK hK lf10_35 rfl dX10_takesPoint_51 h0.1 h0.2.2.2.2.2.2.2.2.2.1 k) ?_
    refine Xv.up (pc' := 55) (fun _ _ k => x_aload_n dX10_takesPoint_54 rfl rfl k) ?_
    refine Xv.up (pc' := 58) (fun _ _ k => x_getIK hK lf10_160 rfl dX10_takesPoint_55 h0.1 k) ?_
    refine Xv.up (pc' := 59) (fun _ _ k => x_iload_n dX10_takesPoint_58 rfl rfl k) ?_
    obtain ⟨g4, h⟩ := h
    refine Xv.up (pc' := 60) (fun _ _ k => x_iadd dX10_takesPoint_59 g4 k) ?_
    obtain ⟨g5, h⟩ := h
    obtain ⟨g6, h⟩ := h
    refine Xv.up (pc' := 61) (fun _ _ k => x_ialoadK hK dX10_takesPoint_60 h0.2.2.2.2.2.2.2.2.2.2.2.2.2.2.2.2.2.2.2.1 g5 g6 k) ?_
    refine Xv.up (pc' := 62) (fun _ _ k => x_aload_n dX10_takesPoint_61 rfl rfl k) ?_
    refine Xv.up (pc' := 65) (fun _ _ k => x_getRK hK lf10_35 rfl dX10_takesPoint_62 h0.1 h0.2.2.2.2.2.2.2.2.2.1 k) ?_
    refine Xv.up (pc' := 66) (fun _ _ k => x_iload_n dX10_takesPoint_65 rfl rfl k) ?_
    refine Xv.up (pc' := 67) (fun _ _ k => x_iload_n dX10_takesPoint_66 rfl rfl k) ?_
    obtain ⟨g7, h⟩ := h
    refine Xv.up (pc' := 68) (fun _ _ k => x_iadd dX10_takesPoint_67 g7 k) ?_
    obtain ⟨g8, h⟩ := h
    obtain ⟨g9, h⟩ := h
    refine Xv.up (pc' := 69) (fun _ _ k => x_ialoadK hK dX10_takesPoint_68 h0.2.2.2.2.2.2.2.2.2.2.2.2.2.2.2.2.2.2.2.1 g8 g9 k) ?_
    refine Xv.br (tgt := 76) (pc' := 72) ((mI M 2239 ((mI M 2230 17) + l3).toNat) ≠ (mI M 2239 (l2 + l3).toNat)) (fun _ _ kt kf => x_icmp_ne dX10_takesPoint_69 rfl kt kf) (fun c => ?_) (fun c => ?_)
    · have h := h.1 c
      refine Xv.up (pc' := 77) (fun _ _ k => x_iconst dX10_takesPoint_76 (show inR 1 from ⟨by decide, by decide⟩) k) ?_
      obtain ⟨g10, h⟩ := h
      refine Xv.up (pc' := 78) (fun _ _ k => x_iadd dX10_takesPoint_77 g10 k) ?_
      obtain ⟨g11, h⟩ := h
      obtain ⟨g12, h⟩ := h
      refine Xv.up (pc' := 79) (fun _ _ k => x_iastoreK hK dX10_takesPoint_78 h0.2.2.2.2.2.2.2.2.2.2.2.2.2.2.2.2.2.2.2.1 g11 g12 k) ?_
      have hK13 := KW.sI hK 2239 (((mI M 2230 16) + 8).toNat) ((mI M 2239 ((mI M 2230 16) + 8).toNat) + 1)
      obtain ⟨g14, h⟩ := h
      refine Xv.up (pc' := 82) (L' := [some (zr 2230), some (zi a1), some (zi l2), some (zi (l3 + 1)), none, none, none]) (fun _ _ k => x_iinc dX10_takesPoint_79 rfl g14 (by decide) rfl k) ?_
      refine Xv.up (pc' := 31) (fun _ _ k => x_goto dX10_takesPoint_82 rfl k) ?_
      exact h
    · have h := h.2 c
      refine Xv.up (pc' := 73) (fun _ _ k => x_iconst dX10_takesPoint_72 (show inR 0 from ⟨by decide, by decide⟩) k) ?_
      refine Xv.up (pc' := 77) (fun _ _ k => x_goto dX10_takesPoint_73 rfl k) ?_
      obtain ⟨g15, h⟩ := h
      refine Xv.up (pc' := 78) (fun _ _ k => x_iadd dX10_takesPoint_77 g15 k) ?_
      obtain ⟨g16, h⟩ := h
      obtain ⟨g17, h⟩ := h
      refine Xv.up (pc' := 79) (fun _ _ k => x_iastoreK hK dX10_takesPoint_78 h0.2.2.2.2.2.2.2.2.2.2.2.2.2.2.2.2.2.2.2.1 g16 g17 k) ?_
      have hK18 := KW.sI hK 2239 (((mI M 2230 16) + 8).toNat) ((mI M 2239 ((mI M 2230 16) + 8).toNat) + 0)
      obtain ⟨g19, h⟩ := h
      refine Xv.up (pc' := 82) (L' := [some (zr 2230), some (zi a1), some (zi l2), some (zi (l3 + 1)), none, none, none]) (fun _ _ k => x_iinc dX10_takesPoint_79 rfl g19 (by decide) rfl k) ?_
      refine Xv.up (pc' := 31) (fun _ _ k => x_goto dX10_takesPoint_82 rfl k) ?_
      exact h
set_option maxHeartbeats 4000000 in
set_option maxRecDepth 20000 in
theorem B10_takesPoint_85 {d : Nat} {K M : ZMem} {Q : ZMem → Prop} (a1 : Int) (l2 : Int) (hK : KW K M) (h0 : ModelAt K 2230) (h : (inR (l2 + 35)) ∧ (0 ≤ (l2 + 35)) ∧ ((l2 + 35) < 19245) ∧ Xv (d + 1) q10_takesPoint 95 [some (zr 2230), some (zi a1), some (zi l2), some (zi (mI M 2239 (l2 + 35).toNat)), none, none, none] [] M Q) : Xv (d + 1) q10_takesPoint 85 [some (zr 2230), some (zi a1), some (zi l2), none, none, none, none] [] M Q := by
  refine Xv.up (pc' := 86) (fun _ _ k => x_aload_n dX10_takesPoint_85 rfl rfl k) ?_
  refine Xv.up (pc' := 89) (fun _ _ k => x_getRK hK lf10_35 rfl dX10_takesPoint_86 h0.1 h0.2.2.2.2.2.2.2.2.2.1 k) ?_
  refine Xv.up (pc' := 90) (fun _ _ k => x_iload_n dX10_takesPoint_89 rfl rfl k) ?_
  refine Xv.up (pc' := 92) (fun _ _ k => x_bipush dX10_takesPoint_90 (show inR 35 from ⟨by decide, by decide⟩) (by decide) k) ?_
  obtain ⟨g1, h⟩ := h
  refine Xv.up (pc' := 93) (fun _ _ k => x_iadd dX10_takesPoint_92 g1 k) ?_
  obtain ⟨g2, h⟩ := h
  obtain ⟨g3, h⟩ := h
  refine Xv.up (pc' := 94) (fun _ _ k => x_ialoadK hK dX10_takesPoint_93 h0.2.2.2.2.2.2.2.2.2.2.2.2.2.2.2.2.2.2.2.1 g2 g3 k) ?_
  refine Xv.up (pc' := 95) (L' := [some (zr 2230), some (zi a1), some (zi l2), some (zi (mI M 2239 (l2 + 35).toNat)), none, none, none]) (fun _ _ k => x_istore_n dX10_takesPoint_94 rfl (by decide) rfl k) ?_
  exact h
set_option maxHeartbeats 4000000 in
set_option maxRecDepth 20000 in
theorem B10_takesPoint_95 {d : Nat} {K M : ZMem} {Q : ZMem → Prop} (a1 : Int) (l2 : Int) (l3 : Int) (hK : KW K M) (h0 : ModelAt K 2230) (h : (inR (l2 + 36)) ∧ (0 ≤ (l2 + 36)) ∧ ((l2 + 36) < 19245) ∧ Xv (d + 1) q10_takesPoint 106 [some (zr 2230), some (zi a1), some (zi l2), some (zi l3), some (zi (mI M 2239 (l2 + 36).toNat)), none, none] [] M Q) : Xv (d + 1) q10_takesPoint 95 [some (zr 2230), some (zi a1), some (zi l2), some (zi l3), none, none, none] [] M Q := by
  refine Xv.up (pc' := 96) (fun _ _ k => x_aload_n dX10_takesPoint_95 rfl rfl k) ?_
  refine Xv.up (pc' := 99) (fun _ _ k => x_getRK hK lf10_35 rfl dX10_takesPoint_96 h0.1 h0.2.2.2.2.2.2.2.2.2.1 k) ?_
  refine Xv.up (pc' := 100) (fun _ _ k => x_iload_n dX10_takesPoint_99 rfl rfl k) ?_
  refine Xv.up (pc' := 102) (fun _ _ k => x_bipush dX10_takesPoint_100 (show inR 36 from ⟨by decide, by decide⟩) (by decide) k) ?_
  obtain ⟨g1, h⟩ := h
  refine Xv.up (pc' := 103) (fun _ _ k => x_iadd dX10_takesPoint_102 g1 k) ?_
  obtain ⟨g2, h⟩ := h
  obtain ⟨g3, h⟩ := h
  refine Xv.up (pc' := 104) (fun _ _ k => x_ialoadK hK dX10_takesPoint_103 h0.2.2.2.2.2.2.2.2.2.2.2.2.2.2.2.2.2.2.2.1 g2 g3 k) ?_
  refine Xv.up (pc' := 106) (L' := [some (zr 2230), some (zi a1), some (zi l2), some (zi l3), some (zi (mI M 2239 (l2 + 36).toNat)), none, none]) (fun _ _ k => x_istore dX10_takesPoint_104 (by decide) rfl k) ?_
  exact h
set_option maxHeartbeats 4000000 in
set_option maxRecDepth 20000 in
theorem B10_takesPoint_106 {d : Nat} {K M : ZMem} {Q : ZMem → Prop} (a1 : Int) (l2 : Int) (l3 : Int) (l4 : Int) (hK : KW K M) (h0 : ModelAt K 2230) (h : (0 ≤ l2) ∧ (0 ≤ (mI M 2230 17)) ∧ (l2 + 35 ≤ 19245) ∧ ((mI M 2230 17) + 35 ≤ 19245) ∧ Xv (d + 1) q10_takesPoint 124 [some (zr 2230), some (zi a1), some (zi l2), some (zi l3), some (zi l4), none, none] [] (sA M 2239 (zCpy (mI M 2239) (mI M 2239) l2.toNat (mI M 2230 17).toNat 35)) Q) : Xv (d + 1) q10_takesPoint 106 [some (zr 2230), some (zi a1), some (zi l2), some (zi l3), some (zi l4), none, none] [] M Q := by
  refine Xv.up (pc' := 107) (fun _ _ k => x_aload_n dX10_takesPoint_106 rfl rfl k) ?_
  refine Xv.up (pc' := 110) (fun _ _ k => x_getRK hK lf10_35 rfl dX10_takesPoint_107 h0.1 h0.2.2.2.2.2.2.2.2.2.1 k) ?_
  refine Xv.up (pc' := 111) (fun _ _ k => x_iload_n dX10_takesPoint_110 rfl rfl k) ?_
  refine Xv.up (pc' := 112) (fun _ _ k => x_aload_n dX10_takesPoint_111 rfl rfl k) ?_
  refine Xv.up (pc' := 115) (fun _ _ k => x_getRK hK lf10_35 rfl dX10_takesPoint_112 h0.1 h0.2.2.2.2.2.2.2.2.2.1 k) ?_
  refine Xv.up (pc' := 116) (fun _ _ k => x_aload_n dX10_takesPoint_115 rfl rfl k) ?_
  refine Xv.up (pc' := 119) (fun _ _ k => x_getIK hK lf10_160 rfl dX10_takesPoint_116 h0.1 k) ?_
  refine Xv.up (pc' := 121) (fun _ _ k => x_bipush dX10_takesPoint_119 (show inR 35 from ⟨by decide, by decide⟩) (by decide) k) ?_
  obtain ⟨g1, h⟩ := h
  obtain ⟨g2, h⟩ := h
  obtain ⟨g3, h⟩ := h
  obtain ⟨g4, h⟩ := h
  refine Xv.up (pc' := 124) (fun _ _ k => x_copyK hK la10_173 dX10_takesPoint_121 h0.2.2.2.2.2.2.2.2.2.2.2.2.2.2.2.2.2.2.2.1 h0.2.2.2.2.2.2.2.2.2.2.2.2.2.2.2.2.2.2.2.1 g1 g2 (by decide) g3 g4 k) ?_
  have hK5 := KW.sA hK 2239 (zCpy (mI M 2239) (mI M 2239) l2.toNat (mI M 2230 17).toNat 35)
  exact h
set_option maxHeartbeats 4000000 in
set_option maxRecDepth 20000 in
theorem B10_takesPoint_124 {d : Nat} {K M : ZMem} {Q : ZMem → Prop} (a1 : Int) (l2 : Int) (l3 : Int) (l4 : Int) (hK : KW K M) (h0 : ModelAt K 2230) (h : (inR ((mI M 2230 17) + 34)) ∧ (inR (l2 + 44)) ∧ (0 ≤ (l2 + 44)) ∧ ((l2 + 44) < 19245) ∧ (0 ≤ ((mI M 2230 17) + 34)) ∧ (((mI M 2230 17) + 34) < 19245) ∧ Xv (d + 1) q10_takesPoint 145 [some (zr 2230), some (zi a1), some (zi l2), some (zi l3), some (zi l4), none, none] [] (sI M 2239 (((mI M 2230 17) + 34).toNat) (mI M 2239 (l2 + 44).toNat)) Q) : Xv (d + 1) q10_takesPoint 124 [some (zr 2230), some (zi a1), some (zi l2), some (zi l3), some (zi l4), none, none] [] M Q := by
  refine Xv.up (pc' := 125) (fun _ _ k => x_aload_n dX10_takesPoint_124 rfl rfl k) ?_
  refine Xv.up (pc' := 128) (fun _ _ k => x_getRK hK lf10_35 rfl dX10_takesPoint_125 h0.1 h0.2.2.2.2.2.2.2.2.2.1 k) ?_
  refine Xv.up (pc' := 129) (fun _ _ k => x_aload_n dX10_takesPoint_128 rfl rfl k) ?_
  refine Xv.up (pc' := 132) (fun _ _ k => x_getIK hK lf10_160 rfl dX10_takesPoint_129 h0.1 k) ?_
  refine Xv.up (pc' := 134) (fun _ _ k => x_bipush dX10_takesPoint_132 (show inR 34 from ⟨by decide, by decide⟩) (by decide) k) ?_
  obtain ⟨g1, h⟩ := h
  refine Xv.up (pc' := 135) (fun _ _ k => x_iadd dX10_takesPoint_134 g1 k) ?_
  refine Xv.up (pc' := 136) (fun _ _ k => x_aload_n dX10_takesPoint_135 rfl rfl k) ?_
  refine Xv.up (pc' := 139) (fun _ _ k => x_getRK hK lf10_35 rfl dX10_takesPoint_136 h0.1 h0.2.2.2.2.2.2.2.2.2.1 k) ?_
  refine Xv.up (pc' := 140) (fun _ _ k => x_iload_n dX10_takesPoint_139 rfl rfl k) ?_
  refine Xv.up (pc' := 142) (fun _ _ k => x_bipush dX10_takesPoint_140 (show inR 44 from ⟨by decide, by decide⟩) (by decide) k) ?_
  obtain ⟨g2, h⟩ := h
  refine Xv.up (pc' := 143) (fun _ _ k => x_iadd dX10_takesPoint_142 g2 k) ?_
  obtain ⟨g3, h⟩ := h
  obtain ⟨g4, h⟩ := h
  refine Xv.up (pc' := 144) (fun _ _ k => x_ialoadK hK dX10_takesPoint_143 h0.2.2.2.2.2.2.2.2.2.2.2.2.2.2.2.2.2.2.2.1 g3 g4 k) ?_
  obtain ⟨g5, h⟩ := h
  obtain ⟨g6, h⟩ := h
  refine Xv.up (pc' := 145) (fun _ _ k => x_iastoreK hK dX10_takesPoint_144 h0.2.2.2.2.2.2.2.2.2.2.2.2.2.2.2.2.2.2.2.1 g5 g6 k) ?_
  have hK7 := KW.sI hK 2239 (((mI M 2230 17) + 34).toNat) (mI M 2239 (l2 + 44).toNat)
  exact h
set_option maxHeartbeats 4000000 in
set_option maxRecDepth 20000 in
theorem B10_takesPoint_145 {d : Nat} {K M : ZMem} {Q : ZMem → Prop} (a1 : Int) (l2 : Int) (l3 : Int) (l4 : Int) (hK : KW K M) (h0 : ModelAt K 2230) (h : (inR ((mI M 2230 17) + 32)) ∧ (0 ≤ ((mI M 2230 17) + 32)) ∧ (((mI M 2230 17) + 32) < 19245) ∧ (inR ((mI M 2239 ((mI M 2230 17) + 32).toNat) + 1)) ∧ (0 ≤ ((mI M 2230 17) + 32)) ∧ (((mI M 2230 17) + 32) < 19245) ∧ Xv (d + 1) q10_takesPoint 161 [some (zr 2230), some (zi a1), some (zi l2), some (zi l3), some (zi l4), none, none] [] (sI M 2239 (((mI M 2230 17) + 32).toNat) ((mI M 2239 ((mI M 2230 17) + 32).toNat) + 1)) Q) : Xv (d + 1) q10_takesPoint 145 [some (zr 2230), some (zi a1), some (zi l2), some (zi l3), some (zi l4), none, none] [] M Q := by
  refine Xv.up (pc' := 146) (fun _ _ k => x_aload_n dX10_takesPoint_145 rfl rfl k) ?_
  refine Xv.up (pc' := 149) (fun _ _ k => x_getRK hK lf10_35 rfl dX10_takesPoint_146 h0.1 h0.2.2.2.2.2.2.2.2.2.1 k) ?_
  refine Xv.up (pc' := 150) (fun _ _ k => x_aload_n dX10_takesPoint_149 rfl rfl k) ?_
  refine Xv.up (pc' := 153) (fun _ _ k => x_getIK hK lf10_160 rfl dX10_takesPoint_150 h0.1 k) ?_
  refine Xv.up (pc' := 155) (fun _ _ k => x_bipush dX10_takesPoint_153 (show inR 32 from ⟨by decide, by decide⟩) (by decide) k) ?_
  obtain ⟨g1, h⟩ := h
  refine Xv.up (pc' := 156) (fun _ _ k => x_iadd dX10_takesPoint_155 g1 k) ?_
  refine Xv.up (pc' := 157) (fun _ _ k => x_dup2 dX10_takesPoint_156 k) ?_
  obtain ⟨g2, h⟩ := h
  obtain ⟨g3, h⟩ := h
  refine Xv.up (pc' := 158) (fun _ _ k => x_ialoadK hK dX10_takesPoint_157 h0.2.2.2.2.2.2.2.2.2.2.2.2.2.2.2.2.2.2.2.1 g2 g3 k) ?_
  refine Xv.up (pc' := 159) (fun _ _ k => x_iconst dX10_takesPoint_158 (show inR 1 from ⟨by decide, by decide⟩) k) ?_
  obtain ⟨g4, h⟩ := h
  refine Xv.up (pc' := 160) (fun _ _ k => x_iadd dX10_takesPoint_159 g4 k) ?_
  obtain ⟨g5, h⟩ := h
  obtain ⟨g6, h⟩ := h
  refine Xv.up (pc' := 161) (fun _ _ k => x_iastoreK hK dX10_takesPoint_160 h0.2.2.2.2.2.2.2.2.2.2.2.2.2.2.2.2.2.2.2.1 g5 g6 k) ?_
  have hK7 := KW.sI hK 2239 (((mI M 2230 17) + 32).toNat) ((mI M 2239 ((mI M 2230 17) + 32).toNat) + 1)
  exact h
set_option maxHeartbeats 4000000 in
set_option maxRecDepth 20000 in
theorem B10_takesPoint_161 {d : Nat} {K M : ZMem} {Q : ZMem → Prop} (a1 : Int) (l2 : Int) (l3 : Int) (l4 : Int) (hK : KW K M) (h0 : ModelAt K 2230) (h : (inR ((mI M 2230 17) + 33)) ∧ (0 ≤ ((mI M 2230 17) + 33)) ∧ (((mI M 2230 17) + 33) < 19245) ∧ ((l4 ≤ 0 → ((inR ((mI M 2239 ((mI M 2230 17) + 33).toNat) + 0)) ∧ (0 ≤ ((mI M 2230 17) + 33)) ∧ (((mI M 2230 17) + 33) < 19245) ∧ Xv (d + 1) q10_takesPoint 186 [some (zr 2230), some (zi a1), some (zi l2), some (zi l3), some (zi l4), none, none] [] (sI M 2239 (((mI M 2230 17) + 33).toNat) ((mI M 2239 ((mI M 2230 17) + 33).toNat) + 0)) Q)) ∧ (¬ (l4 ≤ 0) → ((inR ((mI M 2239 ((mI M 2230 17) + 33).toNat) + 1)) ∧ (0 ≤ ((mI M 2230 17) + 33)) ∧ (((mI M 2230 17) + 33) < 19245) ∧ Xv (d + 1) q10_takesPoint 186 [some (zr 2230), some (zi a1), some (zi l2), some (zi l3), some (zi l4), none, none] [] (sI M 2239 (((mI M 2230 17) + 33).toNat) ((mI M 2239 ((mI M 2230 17) + 33).toNat) + 1)) Q)))) : Xv (d + 1) q10_takesPoint 161 [some (zr 2230), some (zi a1), some (zi l2), some (zi l3), some (zi l4), none, none] [] M Q := by
  refine Xv.up (pc' := 162) (fun _ _ k => x_aload_n dX10_takesPoint_161 rfl rfl k) ?_
  refine Xv.up (pc' := 165) (fun _ _ k => x_getRK hK lf10_35 rfl dX10_takesPoint_162 h0.1 h0.2.2.2.2.2.2.2.2.2.1 k) ?_
  refine Xv.up (pc' := 166) (fun _ _ k => x_aload_n dX10_takesPoint_165 rfl rfl k) ?_
  refine Xv.up (pc' := 169) (fun _ _ k => x_getIK hK lf10_160 rfl dX10_takesPoint_166 h0.1 k) ?_
  refine Xv.up (pc' := 171) (fun _ _ k => x_bipush dX10_takesPoint_169 (show inR 33 from ⟨by decide, by decide⟩) (by decide) k) ?_
  obtain ⟨g1, h⟩ := h
  refine Xv.up (pc' := 172) (fun _ _ k => x_iadd dX10_takesPoint_171 g1 k) ?_
  refine Xv.up (pc' := 173) (fun _ _ k => x_dup2 dX10_takesPoint_172 k) ?_
  obtain ⟨g2, h⟩ := h
  obtain ⟨g3, h⟩ := h
  refine Xv.up (pc' := 174) (fun _ _ k => x_ialoadK hK dX10_takesPoint_173 h0.2.2.2.2.2.2.2.2.2.2.2.2.2.2.2.2.2.2.2.1 g2 g3 k) ?_
  refine Xv.up (pc' := 176) (fun _ _ k => x_iload dX10_takesPoint_174 rfl k) ?_
  refine Xv.br (tgt := 183) (pc' := 179) (l4 ≤ 0) (fun _ _ kt kf => x_if_le dX10_takesPoint_176 rfl kt kf) (fun c => ?_) (fun c => ?_)
  · have h := h.1 c
    refine Xv.up (pc' := 184) (fun _ _ k => x_iconst dX10_takesPoint_183 (show inR 0 from ⟨by decide, by decide⟩) k) ?_
    obtain ⟨g4, h⟩ := h
    refine Xv.up (pc' := 185) (fun _ _ k => x_iadd dX10_takesPoint_184 g4 k) ?_
    obtain ⟨g5, h⟩ := h
    obtain ⟨g6, h⟩ := h
    refine Xv.up (pc' := 186) (fun _ _ k => x_iastoreK hK dX10_takesPoint_185 h0.2.2.2.2.2.2.2.2.2.2.2.2.2.2.2.2.2.2.2.1 g5 g6 k) ?_
    have hK7 := KW.sI hK 2239 (((mI M 2230 17) + 33).toNat) ((mI M 2239 ((mI M 2230 17) + 33).toNat) + 0)
    exact h
  · have h := h.2 c
    refine Xv.up (pc' := 180) (fun _ _ k => x_iconst dX10_takesPoint_179 (show inR 1 from ⟨by decide, by decide⟩) k) ?_
    refine Xv.up (pc' := 184) (fun _ _ k => x_goto dX10_takesPoint_180 rfl k) ?_
    obtain ⟨g8, h⟩ := h
    refine Xv.up (pc' := 185) (fun _ _ k => x_iadd dX10_takesPoint_184 g8 k) ?_
    obtain ⟨g9, h⟩ := h
    obtain ⟨g10, h⟩ := h
    refine Xv.up (pc' := 186) (fun _ _ k => x_iastoreK hK dX10_takesPoint_185 h0.2.2.2.2.2.2.2.2.2.2.2.2.2.2.2.2.2.2.2.1 g9 g10 k) ?_
    have hK11 := KW.sI hK 2239 (((mI M 2230 17) + 33).toNat) ((mI M 2239 ((mI M 2230 17) + 33).toNat) + 1)
    exact h
set_option maxHeartbeats 4000000 in
set_option maxRecDepth 20000 in
theorem B10_takesPoint_186 {d : Nat} {K M : ZMem} {Q : ZMem → Prop} (a1 : Int) (l2 : Int) (l3 : Int) (l4 : Int) (hK : KW K M) (h0 : ModelAt K 2230) (h : (0 ≤ l3) ∧ (l3 < 70200) ∧ (((mI M 2232 l3.toNat) ≠ 11 → (Xv (d + 1) q10_takesPoint 246 [some (zr 2230), some (zi a1), some (zi l2), some (zi l3), some (zi l4), none, none] [] M Q)) ∧ (¬ ((mI M 2232 l3.toNat) ≠ 11) → ((0 ≤ l3) ∧ (l3 < 70200) ∧ Xv (d + 1) q10_takesPoint 208 [some (zr 2230), some (zi a1), some (zi l2), some (zi l3), some (zi l4), some (zi (mI M 2233 l3.toNat)), some (zi 0)] [] M Q)))) : Xv (d + 1) q10_takesPoint 186 [some (zr 2230), some (zi a1), some (zi l2), some (zi l3), some (zi l4), none, none] [] M Q := by
  refine Xv.up (pc' := 187) (fun _ _ k => x_aload_n dX10_takesPoint_186 rfl rfl k) ?_
  refine Xv.up (pc' := 190) (fun _ _ k => x_getRK hK lf10_14 rfl dX10_takesPoint_187 h0.1 h0.2.2.1 k) ?_
  refine Xv.up (pc' := 191) (fun _ _ k => x_iload_n dX10_takesPoint_190 rfl rfl k) ?_
  obtain ⟨g1, h⟩ := h
  obtain ⟨g2, h⟩ := h
  refine Xv.up (pc' := 192) (fun _ _ k => x_ialoadK hK dX10_takesPoint_191 h0.2.2.2.2.2.2.2.2.2.2.2.2.1 g1 g2 k) ?_
  refine Xv.up (pc' := 194) (fun _ _ k => x_bipush dX10_takesPoint_192 (show inR 11 from ⟨by decide, by decide⟩) (by decide) k) ?_
  refine Xv.br (tgt := 246) (pc' := 197) ((mI M 2232 l3.toNat) ≠ 11) (fun _ _ kt kf => x_icmp_ne dX10_takesPoint_194 rfl kt kf) (fun c => ?_) (fun c => ?_)
  · have h := h.1 c
    exact h
  · have h := h.2 c
    refine Xv.up (pc' := 198) (fun _ _ k => x_aload_n dX10_takesPoint_197 rfl rfl k) ?_
    refine Xv.up (pc' := 201) (fun _ _ k => x_getRK hK lf10_17 rfl dX10_takesPoint_198 h0.1 h0.2.2.2.1 k) ?_
    refine Xv.up (pc' := 202) (fun _ _ k => x_iload_n dX10_takesPoint_201 rfl rfl k) ?_
    obtain ⟨g3, h⟩ := h
    obtain ⟨g4, h⟩ := h
    refine Xv.up (pc' := 203) (fun _ _ k => x_ialoadK hK dX10_takesPoint_202 h0.2.2.2.2.2.2.2.2.2.2.2.2.2.1 g3 g4 k) ?_
    refine Xv.up (pc' := 205) (L' := [some (zr 2230), some (zi a1), some (zi l2), some (zi l3), some (zi l4), some (zi (mI M 2233 l3.toNat)), none]) (fun _ _ k => x_istore dX10_takesPoint_203 (by decide) rfl k) ?_
    refine Xv.up (pc' := 206) (fun _ _ k => x_iconst dX10_takesPoint_205 (show inR 0 from ⟨by decide, by decide⟩) k) ?_
    refine Xv.up (pc' := 208) (L' := [some (zr 2230), some (zi a1), some (zi l2), some (zi l3), some (zi l4), some (zi (mI M 2233 l3.toNat)), some (zi 0)]) (fun _ _ k => x_istore dX10_takesPoint_206 (by decide) rfl k) ?_
    exact h
set_option maxHeartbeats 4000000 in
set_option maxRecDepth 20000 in
theorem B10_takesPoint_208 {d : Nat} {K M : ZMem} {Q : ZMem → Prop} (a1 : Int) (l2 : Int) (l3 : Int) (l4 : Int) (l5 : Int) (l6 : Int) (hK : KW K M) (h0 : ModelAt K 2230) (h : ((l4 ≤ l6 → ((0 ≤ l5) ∧ (l5 < 70200) ∧ Cv d q10_enters [zr 2230, zi l3, zi (mI M 2233 l5.toNat), zi 0] M (fun M3 => KW K M3 ∧ Xv (d + 1) q10_takesPoint 318 [some (zr 2230), some (zi a1), some (zi l2), none, none, none, none] [] M3 Q))) ∧ (¬ (l4 ≤ l6) → ((0 ≤ l5) ∧ (l5 < 70200) ∧ (inR (l6 + 1)) ∧ Xv (d + 1) q10_takesPoint 208 [some (zr 2230), some (zi a1), some (zi l2), some (zi l3), some (zi l4), some (zi (mI M 2236 l5.toNat)), some (zi (l6 + 1))] [] M Q)))) : Xv (d + 1) q10_takesPoint 208 [some (zr 2230), some (zi a1), some (zi l2), some (zi l3), some (zi l4), some (zi l5), some (zi l6)] [] M Q := by
  refine Xv.up (pc' := 210) (fun _ _ k => x_iload dX10_takesPoint_208 rfl k) ?_
  refine Xv.up (pc' := 212) (fun _ _ k => x_iload dX10_takesPoint_210 rfl k) ?_
  refine Xv.br (tgt := 230) (pc' := 215) (l4 ≤ l6) (fun _ _ kt kf => x_icmp_ge dX10_takesPoint_212 rfl kt kf) (fun c => ?_) (fun c => ?_)
  · have h := h.1 c
    refine Xv.up (pc' := 231) (fun _ _ k => x_aload_n dX10_takesPoint_230 rfl rfl k) ?_
    refine Xv.up (pc' := 232) (fun _ _ k => x_iload_n dX10_takesPoint_231 rfl rfl k) ?_
    refine Xv.up (pc' := 233) (fun _ _ k => x_aload_n dX10_takesPoint_232 rfl rfl k) ?_
    refine Xv.up (pc' := 236) (fun _ _ k => x_getRK hK lf10_17 rfl dX10_takesPoint_233 h0.1 h0.2.2.2.1 k) ?_
    refine Xv.up (pc' := 238) (fun _ _ k => x_iload dX10_takesPoint_236 rfl k) ?_
    obtain ⟨g1, h⟩ := h
    obtain ⟨g2, h⟩ := h
    refine Xv.up (pc' := 239) (fun _ _ k => x_ialoadK hK dX10_takesPoint_238 h0.2.2.2.2.2.2.2.2.2.2.2.2.2.1 g1 g2 k) ?_
    refine Xv.up (pc' := 240) (fun _ _ k => x_iconst dX10_takesPoint_239 (show inR 0 from ⟨by decide, by decide⟩) k) ?_
    obtain ⟨M3, hc5, hK4, h⟩ := h
    refine Xv.up (pc' := 243) (st' := []) (fun _ _ k => x_callVK (ci := 10) (as := [zi l3, zi (mI M 2233 l5.toNat), zi 0]) (st := []) hK k10_enters lm10_204 dX10_takesPoint_240 rfl (by decide) (zs8 rfl) h0.1 ⟨_, _, rfl⟩ hc5 k) ?_
    refine Xv.up (pc' := 318) (fun _ _ k => x_goto dX10_takesPoint_243 rfl k) ?_
    exact Xv.up (fun _ _ k => x_less (L' := [some (zr 2230), some (zi a1), some (zi l2), none, none, none, none]) (⟨rfl, ⟨rfl, ⟨rfl, trivial⟩⟩⟩) k) h
  · have h := h.2 c
    refine Xv.up (pc' := 216) (fun _ _ k => x_aload_n dX10_takesPoint_215 rfl rfl k) ?_
    refine Xv.up (pc' := 219) (fun _ _ k => x_getRK hK lf10_26 rfl dX10_takesPoint_216 h0.1 h0.2.2.2.2.2.2.1 k) ?_
    refine Xv.up (pc' := 221) (fun _ _ k => x_iload dX10_takesPoint_219 rfl k) ?_
    obtain ⟨g6, h⟩ := h
    obtain ⟨g7, h⟩ := h
    refine Xv.up (pc' := 222) (fun _ _ k => x_ialoadK hK dX10_takesPoint_221 h0.2.2.2.2.2.2.2.2.2.2.2.2.2.2.2.2.1 g6 g7 k) ?_
    refine Xv.up (pc' := 224) (L' := [some (zr 2230), some (zi a1), some (zi l2), some (zi l3), some (zi l4), some (zi (mI M 2236 l5.toNat)), some (zi l6)]) (fun _ _ k => x_istore dX10_takesPoint_222 (by decide) rfl k) ?_
    obtain ⟨g8, h⟩ := h
    refine Xv.up (pc' := 227) (L' := [some (zr 2230), some (zi a1), some (zi l2), some (zi l3), some (zi l4), some (zi (mI M 2236 l5.toNat)), some (zi (l6 + 1))]) (fun _ _ k => x_iinc dX10_takesPoint_224 rfl g8 (by decide) rfl k) ?_
    refine Xv.up (pc' := 208) (fun _ _ k => x_goto dX10_takesPoint_227 rfl k) ?_
    exact h
set_option maxHeartbeats 4000000 in
set_option maxRecDepth 20000 in
theorem B10_takesPoint_246 {d : Nat} {K M : ZMem} {Q : ZMem → Prop} (a1 : Int) (l2 : Int) (l3 : Int) (l4 : Int) (hK : KW K M) (h0 : ModelAt K 2230) (h : (0 ≤ l3) ∧ (l3 < 70200) ∧ (inR ((mI M 2230 17) + (mI M 2233 l3.toNat))) ∧ (0 ≤ l3) ∧ (l3 < 70200) ∧ (((mI M 2232 l3.toNat) ≠ 8 → ((inR (l2 + 38)) ∧ (inR ((l2 + 38) + l4)) ∧ (0 ≤ ((l2 + 38) + l4)) ∧ (((l2 + 38) + l4) < 19245) ∧ (0 ≤ ((mI M 2230 17) + (mI M 2233 l3.toNat))) ∧ (((mI M 2230 17) + (mI M 2233 l3.toNat)) < 19245) ∧ Xv (d + 1) q10_takesPoint 300 [some (zr 2230), some (zi a1), some (zi l2), some (zi l3), none, none, none] [] (sI M 2239 (((mI M 2230 17) + (mI M 2233 l3.toNat)).toNat) (mI M 2239 ((l2 + 38) + l4).toNat)) Q)) ∧ (¬ ((mI M 2232 l3.toNat) ≠ 8) → ((inR (l2 + 38)) ∧ (0 ≤ (l2 + 38)) ∧ ((l2 + 38) < 19245) ∧ (inR ((mI M 2239 (l2 + 38).toNat) + l4)) ∧ (0 ≤ ((mI M 2230 17) + (mI M 2233 l3.toNat))) ∧ (((mI M 2230 17) + (mI M 2233 l3.toNat)) < 19245) ∧ Xv (d + 1) q10_takesPoint 300 [some (zr 2230), some (zi a1), some (zi l2), some (zi l3), none, none, none] [] (sI M 2239 (((mI M 2230 17) + (mI M 2233 l3.toNat)).toNat) ((mI M 2239 (l2 + 38).toNat) + l4)) Q)))) : Xv (d + 1) q10_takesPoint 246 [some (zr 2230), some (zi a1), some (zi l2), some (zi l3), some (zi l4), none, none] [] M Q := by
  refine Xv.up (pc' := 247) (fun _ _ k => x_aload_n dX10_takesPoint_246 rfl rfl k) ?_
  refine Xv.up (pc' := 250) (fun _ _ k => x_getRK hK lf10_35 rfl dX10_takesPoint_247 h0.1 h0.2.2.2.2.2.2.2.2.2.1 k) ?_
  refine Xv.up (pc' := 251) (fun _ _ k => x_aload_n dX10_takesPoint_250 rfl rfl k) ?_
  refine Xv.up (pc' := 254) (fun _ _ k => x_getIK hK lf10_160 rfl dX10_takesPoint_251 h0.1 k) ?_
  refine Xv.up (pc' := 255) (fun _ _ k => x_aload_n dX10_takesPoint_254 rfl rfl k) ?_
  refine Xv.up (pc' := 258) (fun _ _ k => x_getRK hK lf10_17 rfl dX10_takesPoint_255 h0.1 h0.2.2.2.1 k) ?_
  refine Xv.up (pc' := 259) (fun _ _ k => x_iload_n dX10_takesPoint_258 rfl rfl k) ?_
  obtain ⟨g1, h⟩ := h
  obtain ⟨g2, h⟩ := h
  refine Xv.up (pc' := 260) (fun _ _ k => x_ialoadK hK dX10_takesPoint_259 h0.2.2.2.2.2.2.2.2.2.2.2.2.2.1 g1 g2 k) ?_
  obtain ⟨g3, h⟩ := h
  refine Xv.up (pc' := 261) (fun _ _ k => x_iadd dX10_takesPoint_260 g3 k) ?_
  refine Xv.up (pc' := 262) (fun _ _ k => x_aload_n dX10_takesPoint_261 rfl rfl k) ?_
  refine Xv.up (pc' := 265) (fun _ _ k => x_getRK hK lf10_14 rfl dX10_takesPoint_262 h0.1 h0.2.2.1 k) ?_
  refine Xv.up (pc' := 266) (fun _ _ k => x_iload_n dX10_takesPoint_265 rfl rfl k) ?_
  obtain ⟨g4, h⟩ := h
  obtain ⟨g5, h⟩ := h
  refine Xv.up (pc' := 267) (fun _ _ k => x_ialoadK hK dX10_takesPoint_266 h0.2.2.2.2.2.2.2.2.2.2.2.2.1 g4 g5 k) ?_
  refine Xv.up (pc' := 269) (fun _ _ k => x_bipush dX10_takesPoint_267 (show inR 8 from ⟨by decide, by decide⟩) (by decide) k) ?_
  refine Xv.br (tgt := 287) (pc' := 272) ((mI M 2232 l3.toNat) ≠ 8) (fun _ _ kt kf => x_icmp_ne dX10_takesPoint_269 rfl kt kf) (fun c => ?_) (fun c => ?_)
  · have h := h.1 c
    refine Xv.up (pc' := 288) (fun _ _ k => x_aload_n dX10_takesPoint_287 rfl rfl k) ?_
    refine Xv.up (pc' := 291) (fun _ _ k => x_getRK hK lf10_35 rfl dX10_takesPoint_288 h0.1 h0.2.2.2.2.2.2.2.2.2.1 k) ?_
    refine Xv.up (pc' := 292) (fun _ _ k => x_iload_n dX10_takesPoint_291 rfl rfl k) ?_
    refine Xv.up (pc' := 294) (fun _ _ k => x_bipush dX10_takesPoint_292 (show inR 38 from ⟨by decide, by decide⟩) (by decide) k) ?_
    obtain ⟨g6, h⟩ := h
    refine Xv.up (pc' := 295) (fun _ _ k => x_iadd dX10_takesPoint_294 g6 k) ?_
    refine Xv.up (pc' := 297) (fun _ _ k => x_iload dX10_takesPoint_295 rfl k) ?_
    obtain ⟨g7, h⟩ := h
    refine Xv.up (pc' := 298) (fun _ _ k => x_iadd dX10_takesPoint_297 g7 k) ?_
    obtain ⟨g8, h⟩ := h
    obtain ⟨g9, h⟩ := h
    refine Xv.up (pc' := 299) (fun _ _ k => x_ialoadK hK dX10_takesPoint_298 h0.2.2.2.2.2.2.2.2.2.2.2.2.2.2.2.2.2.2.2.1 g8 g9 k) ?_
    obtain ⟨g10, h⟩ := h
    obtain ⟨g11, h⟩ := h
    refine Xv.up (pc' := 300) (fun _ _ k => x_iastoreK hK dX10_takesPoint_299 h0.2.2.2.2.2.2.2.2.2.2.2.2.2.2.2.2.2.2.2.1 g10 g11 k) ?_
    have hK12 := KW.sI hK 2239 (((mI M 2230 17) + (mI M 2233 l3.toNat)).toNat) (mI M 2239 ((l2 + 38) + l4).toNat)
    exact Xv.up (fun _ _ k => x_less (L' := [some (zr 2230), some (zi a1), some (zi l2), some (zi l3), none, none, none]) (⟨rfl, ⟨rfl, ⟨rfl, ⟨rfl, trivial⟩⟩⟩⟩) k) h
  · have h := h.2 c
    refine Xv.up (pc' := 273) (fun _ _ k => x_aload_n dX10_takesPoint_272 rfl rfl k) ?_
    refine Xv.up (pc' := 276) (fun _ _ k => x_getRK hK lf10_35 rfl dX10_takesPoint_273 h0.1 h0.2.2.2.2.2.2.2.2.2.1 k) ?_
    refine Xv.up (pc' := 277) (fun _ _ k => x_iload_n dX10_takesPoint_276 rfl rfl k) ?_
    refine Xv.up (pc' := 279) (fun _ _ k => x_bipush dX10_takesPoint_277 (show inR 38 from ⟨by decide, by decide⟩) (by decide) k) ?_
    obtain ⟨g13, h⟩ := h
    refine Xv.up (pc' := 280) (fun _ _ k => x_iadd dX10_takesPoint_279 g13 k) ?_
    obtain ⟨g14, h⟩ := h
    obtain ⟨g15, h⟩ := h
    refine Xv.up (pc' := 281) (fun _ _ k => x_ialoadK hK dX10_takesPoint_280 h0.2.2.2.2.2.2.2.2.2.2.2.2.2.2.2.2.2.2.2.1 g14 g15 k) ?_
    refine Xv.up (pc' := 283) (fun _ _ k => x_iload dX10_takesPoint_281 rfl k) ?_
    obtain ⟨g16, h⟩ := h
    refine Xv.up (pc' := 284) (fun _ _ k => x_iadd dX10_takesPoint_283 g16 k) ?_
    refine Xv.up (pc' := 299) (fun _ _ k => x_goto dX10_takesPoint_284 rfl k) ?_
    obtain ⟨g17, h⟩ := h
    obtain ⟨g18, h⟩ := h
    refine Xv.up (pc' := 300) (fun _ _ k => x_iastoreK hK dX10_takesPoint_299 h0.2.2.2.2.2.2.2.2.2.2.2.2.2.2.2.2.2.2.2.1 g17 g18 k) ?_
    have hK19 := KW.sI hK 2239 (((mI M 2230 17) + (mI M 2233 l3.toNat)).toNat) ((mI M 2239 (l2 + 38).toNat) + l4)
    exact Xv.up (fun _ _ k => x_less (L' := [some (zr 2230), some (zi a1), some (zi l2), some (zi l3), none, none, none]) (⟨rfl, ⟨rfl, ⟨rfl, ⟨rfl, trivial⟩⟩⟩⟩) k) h
set_option maxHeartbeats 4000000 in
set_option maxRecDepth 20000 in
theorem B10_takesPoint_300 {d : Nat} {K M : ZMem} {Q : ZMem → Prop} (a1 : Int) (l2 : Int) (l3 : Int) (hK : KW K M) (h0 : ModelAt K 2230) (h : (inR ((mI M 2230 17) + 8)) ∧ (0 ≤ l3) ∧ (l3 < 70200) ∧ (0 ≤ ((mI M 2230 17) + 8)) ∧ (((mI M 2230 17) + 8) < 19245) ∧ Xv (d + 1) q10_takesPoint 318 [some (zr 2230), some (zi a1), some (zi l2), none, none, none, none] [] (sI M 2239 (((mI M 2230 17) + 8).toNat) (mI M 2236 l3.toNat)) Q) : Xv (d + 1) q10_takesPoint 300 [some (zr 2230), some (zi a1), some (zi l2), some (zi l3), none, none, none] [] M Q := by
  refine Xv.up (pc' := 301) (fun _ _ k => x_aload_n dX10_takesPoint_300 rfl rfl k) ?_
  refine Xv.up (pc' := 304) (fun _ _ k => x_getRK hK lf10_35 rfl dX10_takesPoint_301 h0.1 h0.2.2.2.2.2.2.2.2.2.1 k) ?_
  refine Xv.up (pc' := 305) (fun _ _ k => x_aload_n dX10_takesPoint_304 rfl rfl k) ?_
  refine Xv.up (pc' := 308) (fun _ _ k => x_getIK hK lf10_160 rfl dX10_takesPoint_305 h0.1 k) ?_
  refine Xv.up (pc' := 310) (fun _ _ k => x_bipush dX10_takesPoint_308 (show inR 8 from ⟨by decide, by decide⟩) (by decide) k) ?_
  obtain ⟨g1, h⟩ := h
  refine Xv.up (pc' := 311) (fun _ _ k => x_iadd dX10_takesPoint_310 g1 k) ?_
  refine Xv.up (pc' := 312) (fun _ _ k => x_aload_n dX10_takesPoint_311 rfl rfl k) ?_
  refine Xv.up (pc' := 315) (fun _ _ k => x_getRK hK lf10_26 rfl dX10_takesPoint_312 h0.1 h0.2.2.2.2.2.2.1 k) ?_
  refine Xv.up (pc' := 316) (fun _ _ k => x_iload_n dX10_takesPoint_315 rfl rfl k) ?_
  obtain ⟨g2, h⟩ := h
  obtain ⟨g3, h⟩ := h
  refine Xv.up (pc' := 317) (fun _ _ k => x_ialoadK hK dX10_takesPoint_316 h0.2.2.2.2.2.2.2.2.2.2.2.2.2.2.2.2.1 g2 g3 k) ?_
  obtain ⟨g4, h⟩ := h
  obtain ⟨g5, h⟩ := h
  refine Xv.up (pc' := 318) (fun _ _ k => x_iastoreK hK dX10_takesPoint_317 h0.2.2.2.2.2.2.2.2.2.2.2.2.2.2.2.2.2.2.2.1 g4 g5 k) ?_
  have hK6 := KW.sI hK 2239 (((mI M 2230 17) + 8).toNat) (mI M 2236 l3.toNat)
  exact Xv.up (fun _ _ k => x_less (L' := [some (zr 2230), some (zi a1), some (zi l2), none, none, none, none]) (⟨rfl, ⟨rfl, ⟨rfl, trivial⟩⟩⟩) k) h
set_option maxHeartbeats 4000000 in
set_option maxRecDepth 20000 in
theorem B10_takesPoint_318 {d : Nat} {K M : ZMem} {Q : ZMem → Prop} (a1 : Int) (l2 : Int) (hK : KW K M) (h0 : ModelAt K 2230) (h : (inR (l2 + 36)) ∧ (0 ≤ (l2 + 36)) ∧ ((l2 + 36) < 19245) ∧ (inR ((mI M 2239 (l2 + 36).toNat) + 1)) ∧ (0 ≤ (l2 + 36)) ∧ ((l2 + 36) < 19245) ∧ (inR (l2 + 36)) ∧ (0 ≤ (l2 + 36)) ∧ ((l2 + 36) < 19245) ∧ (inR (l2 + 37)) ∧ (0 ≤ (l2 + 37)) ∧ ((l2 + 37) < 19245) ∧ (((mI (sI M 2239 ((l2 + 36).toNat) ((mI M 2239 (l2 + 36).toNat) + 1)) 2239 (l2 + 36).toNat) ≠ (mI (sI M 2239 ((l2 + 36).toNat) ((mI M 2239 (l2 + 36).toNat) + 1)) 2239 (l2 + 37).toNat) → (Q (sI M 2239 ((l2 + 36).toNat) ((mI M 2239 (l2 + 36).toNat) + 1)))) ∧ (¬ ((mI (sI M 2239 ((l2 + 36).toNat) ((mI M 2239 (l2 + 36).toNat) + 1)) 2239 (l2 + 36).toNat) ≠ (mI (sI M 2239 ((l2 + 36).toNat) ((mI M 2239 (l2 + 36).toNat) + 1)) 2239 (l2 + 37).toNat)) → (Cv d q10_takesOff [zr 2230, zi a1] (sI M 2239 ((l2 + 36).toNat) ((mI M 2239 (l2 + 36).toNat) + 1)) (fun M14 => KW K M14 ∧ Q M14))))) : Xv (d + 1) q10_takesPoint 318 [some (zr 2230), some (zi a1), some (zi l2), none, none, none, none] [] M Q := by
  refine Xv.up (pc' := 319) (fun _ _ k => x_aload_n dX10_takesPoint_318 rfl rfl k) ?_
  refine Xv.up (pc' := 322) (fun _ _ k => x_getRK hK lf10_35 rfl dX10_takesPoint_319 h0.1 h0.2.2.2.2.2.2.2.2.2.1 k) ?_
  refine Xv.up (pc' := 323) (fun _ _ k => x_iload_n dX10_takesPoint_322 rfl rfl k) ?_
  refine Xv.up (pc' := 325) (fun _ _ k => x_bipush dX10_takesPoint_323 (show inR 36 from ⟨by decide, by decide⟩) (by decide) k) ?_
  obtain ⟨g1, h⟩ := h
  refine Xv.up (pc' := 326) (fun _ _ k => x_iadd dX10_takesPoint_325 g1 k) ?_
  refine Xv.up (pc' := 327) (fun _ _ k => x_dup2 dX10_takesPoint_326 k) ?_
  obtain ⟨g2, h⟩ := h
  obtain ⟨g3, h⟩ := h
  refine Xv.up (pc' := 328) (fun _ _ k => x_ialoadK hK dX10_takesPoint_327 h0.2.2.2.2.2.2.2.2.2.2.2.2.2.2.2.2.2.2.2.1 g2 g3 k) ?_
  refine Xv.up (pc' := 329) (fun _ _ k => x_iconst dX10_takesPoint_328 (show inR 1 from ⟨by decide, by decide⟩) k) ?_
  obtain ⟨g4, h⟩ := h
  refine Xv.up (pc' := 330) (fun _ _ k => x_iadd dX10_takesPoint_329 g4 k) ?_
  obtain ⟨g5, h⟩ := h
  obtain ⟨g6, h⟩ := h
  refine Xv.up (pc' := 331) (fun _ _ k => x_iastoreK hK dX10_takesPoint_330 h0.2.2.2.2.2.2.2.2.2.2.2.2.2.2.2.2.2.2.2.1 g5 g6 k) ?_
  have hK7 := KW.sI hK 2239 ((l2 + 36).toNat) ((mI M 2239 (l2 + 36).toNat) + 1)
  refine Xv.up (pc' := 332) (fun _ _ k => x_aload_n dX10_takesPoint_331 rfl rfl k) ?_
  refine Xv.up (pc' := 335) (fun _ _ k => x_getRK hK7 lf10_35 rfl dX10_takesPoint_332 h0.1 h0.2.2.2.2.2.2.2.2.2.1 k) ?_
  refine Xv.up (pc' := 336) (fun _ _ k => x_iload_n dX10_takesPoint_335 rfl rfl k) ?_
  refine Xv.up (pc' := 338) (fun _ _ k => x_bipush dX10_takesPoint_336 (show inR 36 from ⟨by decide, by decide⟩) (by decide) k) ?_
  obtain ⟨g8, h⟩ := h
  refine Xv.up (pc' := 339) (fun _ _ k => x_iadd dX10_takesPoint_338 g8 k) ?_
  obtain ⟨g9, h⟩ := h
  obtain ⟨g10, h⟩ := h
  refine Xv.up (pc' := 340) (fun _ _ k => x_ialoadK hK7 dX10_takesPoint_339 h0.2.2.2.2.2.2.2.2.2.2.2.2.2.2.2.2.2.2.2.1 g9 g10 k) ?_
  refine Xv.up (pc' := 341) (fun _ _ k => x_aload_n dX10_takesPoint_340 rfl rfl k) ?_
  refine Xv.up (pc' := 344) (fun _ _ k => x_getRK hK7 lf10_35 rfl dX10_takesPoint_341 h0.1 h0.2.2.2.2.2.2.2.2.2.1 k) ?_
  refine Xv.up (pc' := 345) (fun _ _ k => x_iload_n dX10_takesPoint_344 rfl rfl k) ?_
  refine Xv.up (pc' := 347) (fun _ _ k => x_bipush dX10_takesPoint_345 (show inR 37 from ⟨by decide, by decide⟩) (by decide) k) ?_
  obtain ⟨g11, h⟩ := h
  refine Xv.up (pc' := 348) (fun _ _ k => x_iadd dX10_takesPoint_347 g11 k) ?_
  obtain ⟨g12, h⟩ := h
  obtain ⟨g13, h⟩ := h
  refine Xv.up (pc' := 349) (fun _ _ k => x_ialoadK hK7 dX10_takesPoint_348 h0.2.2.2.2.2.2.2.2.2.2.2.2.2.2.2.2.2.2.2.1 g12 g13 k) ?_
  refine Xv.br (tgt := 357) (pc' := 352) ((mI (sI M 2239 ((l2 + 36).toNat) ((mI M 2239 (l2 + 36).toNat) + 1)) 2239 (l2 + 36).toNat) ≠ (mI (sI M 2239 ((l2 + 36).toNat) ((mI M 2239 (l2 + 36).toNat) + 1)) 2239 (l2 + 37).toNat)) (fun _ _ kt kf => x_icmp_ne dX10_takesPoint_349 rfl kt kf) (fun c => ?_) (fun c => ?_)
  · have h := h.1 c
    exact Xv.ret ⟨dX10_takesPoint_357, rfl⟩ h
  · have h := h.2 c
    refine Xv.up (pc' := 353) (fun _ _ k => x_aload_n dX10_takesPoint_352 rfl rfl k) ?_
    refine Xv.up (pc' := 354) (fun _ _ k => x_iload_n dX10_takesPoint_353 rfl rfl k) ?_
    obtain ⟨M14, hc16, hK15, h⟩ := h
    refine Xv.up (pc' := 357) (st' := []) (fun _ _ k => x_callVK (ci := 10) (as := [zi a1]) (st := []) hK7 k10_takesOff lm10_182 dX10_takesPoint_354 rfl (by decide) (zs8 rfl) h0.1 ⟨_, _, rfl⟩ hc16 k) ?_
    exact Xv.ret ⟨dX10_takesPoint_357, rfl⟩ h
set_option maxHeartbeats 4000000 in
set_option maxRecDepth 20000 in
theorem B10_takesNext {d : Nat} {K M : ZMem} {Q : Int → ZMem → Prop}  (hK : KW K M) (h0 : ModelAt K 2230) (h : Ci d q10_chosen [zr 2230] M (fun x2 M1 => KW K M1 ∧ ((x2 = (-1) → (Ci d q10_level [zr 2230] M1 (fun x6 M5 => KW K M5 ∧ ((x6 ≤ 0 → ((inR ((mI M5 2230 16) + 1)) ∧ (0 ≤ ((mI M5 2230 16) + 1)) ∧ (((mI M5 2230 16) + 1) < 19245) ∧ (((mI M5 2239 ((mI M5 2230 16) + 1).toNat) ≠ 5 → (Q 3 M5)) ∧ (¬ ((mI M5 2239 ((mI M5 2230 16) + 1).toNat) ≠ 5) → ((inR ((mI M5 2230 16) + 10)) ∧ (0 ≤ ((mI M5 2230 16) + 10)) ∧ (((mI M5 2230 16) + 10) < 19245) ∧ (((mI M5 2239 ((mI M5 2230 16) + 10).toNat) ≠ 1 → (Q 3 M5)) ∧ (¬ ((mI M5 2239 ((mI M5 2230 16) + 10).toNat) ≠ 1) → ((inR ((mI M5 2230 16) + 10)) ∧ (0 ≤ ((mI M5 2230 16) + 10)) ∧ (((mI M5 2230 16) + 10) < 19245) ∧ (inR ((mI (sI M5 2239 (((mI M5 2230 16) + 10).toNat) 0) 2230 16) + 9)) ∧ (0 ≤ ((mI (sI M5 2239 (((mI M5 2230 16) + 10).toNat) 0) 2230 16) + 9)) ∧ (((mI (sI M5 2239 (((mI M5 2230 16) + 10).toNat) 0) 2230 16) + 9) < 19245) ∧ (inR ((mI (sI M5 2239 (((mI M5 2230 16) + 10).toNat) 0) 2239 ((mI (sI M5 2239 (((mI M5 2230 16) + 10).toNat) 0) 2230 16) + 9).toNat) + 1)) ∧ (0 ≤ ((mI (sI M5 2239 (((mI M5 2230 16) + 10).toNat) 0) 2230 16) + 9)) ∧ (((mI (sI M5 2239 (((mI M5 2230 16) + 10).toNat) 0) 2230 16) + 9) < 19245) ∧ Cv d q10_startsAnew [zr 2230] (sI (sI M5 2239 (((mI M5 2230 16) + 10).toNat) 0) 2239 (((mI (sI M5 2239 (((mI M5 2230 16) + 10).toNat) 0) 2230 16) + 9).toNat) ((mI (sI M5 2239 (((mI M5 2230 16) + 10).toNat) 0) 2239 ((mI (sI M5 2239 (((mI M5 2230 16) + 10).toNat) 0) 2230 16) + 9).toNat) + 1)) (fun M26 => KW K M26 ∧ Q 0 M26))))))))) ∧ (¬ (x6 ≤ 0) → (Ci d q10_level [zr 2230] M5 (fun x30 M29 => KW K M29 ∧ (inR (x30 - 1)) ∧ Cv d q10_atLevel [zr 2230, zi (x30 - 1)] M29 (fun M34 => KW K M34 ∧ (inR ((mI M34 2230 17) + 8)) ∧ (inR ((mI M34 2230 17) + 8)) ∧ (0 ≤ ((mI M34 2230 17) + 8)) ∧ (((mI M34 2230 17) + 8) < 19245) ∧ (0 ≤ (mI M34 2239 ((mI M34 2230 17) + 8).toNat)) ∧ ((mI M34 2239 ((mI M34 2230 17) + 8).toNat) < 70200) ∧ (0 ≤ ((mI M34 2230 17) + 8)) ∧ (((mI M34 2230 17) + 8) < 19245) ∧ (inR ((mI (sI M34 2239 (((mI M34 2230 17) + 8).toNat) (mI M34 2236 (mI M34 2239 ((mI M34 2230 17) + 8).toNat).toNat)) 2230 16) + 12)) ∧ (0 ≤ ((mI (sI M34 2239 (((mI M34 2230 17) + 8).toNat) (mI M34 2236 (mI M34 2239 ((mI M34 2230 17) + 8).toNat).toNat)) 2230 16) + 12)) ∧ (((mI (sI M34 2239 (((mI M34 2230 17) + 8).toNat) (mI M34 2236 (mI M34 2239 ((mI M34 2230 17) + 8).toNat).toNat)) 2230 16) + 12) < 19245) ∧ Q 0 (sI (sI M34 2239 (((mI M34 2230 17) + 8).toNat) (mI M34 2236 (mI M34 2239 ((mI M34 2230 17) + 8).toNat).toNat)) 2239 (((mI (sI M34 2239 (((mI M34 2230 17) + 8).toNat) (mI M34 2236 (mI M34 2239 ((mI M34 2230 17) + 8).toNat).toNat)) 2230 16) + 12).toNat) 1))))))))) ∧ (¬ (x2 = (-1)) → (Ci d q10_mayStep [zr 2230] M1 (fun x51 M50 => KW K M50 ∧ ((x51 ≠ 0 → (Cv d q10_takesPoint [zr 2230, zi x2] M50 (fun M54 => KW K M54 ∧ (inR ((mI M54 2230 16) + 12)) ∧ (0 ≤ ((mI M54 2230 16) + 12)) ∧ (((mI M54 2230 16) + 12) < 19245) ∧ Q 0 (sI M54 2239 (((mI M54 2230 16) + 12).toNat) 1)))) ∧ (¬ (x51 ≠ 0) → (Q 2 M50))))))))) : Ci (d + 1) q10_takesNext [zr 2230] M Q := by
  refine Ci.of rfl rfl (Nat.le_of_ble_eq_true rfl) (fun w hw x e => by subst e; simp at hw) (L := [some (zr 2230), none]) rfl ?_
  refine Xi.up (pc' := 1) (fun _ _ k => x_aload_n dX10_takesNext_0 rfl rfl k) ?_
  obtain ⟨x2, M1, hc4, hK3, h⟩ := h
  refine Xi.up (pc' := 4) (st' := [zi x2]) (fun _ _ k => x_callVK (ci := 10) (as := []) (st := []) hK k10_chosen lm10_236 dX10_takesNext_1 rfl (by decide) (zs8 rfl) h0.1 ⟨_, _, rfl⟩ hc4 k) ?_
  refine Xi.up (pc' := 5) (L' := [some (zr 2230), some (zi x2)]) (fun _ _ k => x_istore_n dX10_takesNext_4 rfl (by decide) rfl k) ?_
  refine Xi.up (pc' := 6) (fun _ _ k => x_iload_n dX10_takesNext_5 rfl rfl k) ?_
  refine Xi.up (pc' := 7) (fun _ _ k => x_iconst dX10_takesNext_6 (show inR (-1) from ⟨by decide, by decide⟩) k) ?_
  refine Xi.br (tgt := 39) (pc' := 10) (x2 = (-1)) (fun _ _ kt kf => x_icmp_eq dX10_takesNext_7 rfl kt kf) (fun c => ?_) (fun c => ?_)
  · have h := h.1 c
    refine Xi.up (pc' := 40) (fun _ _ k => x_aload_n dX10_takesNext_39 rfl rfl k) ?_
    obtain ⟨x6, M5, hc8, hK7, h⟩ := h
    refine Xi.up (pc' := 43) (st' := [zi x6]) (fun _ _ k => x_callVK (ci := 10) (as := []) (st := []) hK3 k10_level lm10_166 dX10_takesNext_40 rfl (by decide) (zs8 rfl) h0.1 ⟨_, _, rfl⟩ hc8 k) ?_
    refine Xi.br (tgt := 100) (pc' := 46) (x6 ≤ 0) (fun _ _ kt kf => x_if_le dX10_takesNext_43 rfl kt kf) (fun c => ?_) (fun c => ?_)
    · have h := h.1 c
      refine Xi.up (pc' := 101) (fun _ _ k => x_aload_n dX10_takesNext_100 rfl rfl k) ?_
      refine Xi.up (pc' := 104) (fun _ _ k => x_getRK hK7 lf10_35 rfl dX10_takesNext_101 h0.1 h0.2.2.2.2.2.2.2.2.2.1 k) ?_
      refine Xi.up (pc' := 105) (fun _ _ k => x_aload_n dX10_takesNext_104 rfl rfl k) ?_
      refine Xi.up (pc' := 108) (fun _ _ k => x_getIK hK7 lf10_156 rfl dX10_takesNext_105 h0.1 k) ?_
      refine Xi.up (pc' := 109) (fun _ _ k => x_iconst dX10_takesNext_108 (show inR 1 from ⟨by decide, by decide⟩) k) ?_
      obtain ⟨g9, h⟩ := h
      refine Xi.up (pc' := 110) (fun _ _ k => x_iadd dX10_takesNext_109 g9 k) ?_
      obtain ⟨g10, h⟩ := h
      obtain ⟨g11, h⟩ := h
      refine Xi.up (pc' := 111) (fun _ _ k => x_ialoadK hK7 dX10_takesNext_110 h0.2.2.2.2.2.2.2.2.2.2.2.2.2.2.2.2.2.2.2.1 g10 g11 k) ?_
      refine Xi.up (pc' := 112) (fun _ _ k => x_iconst dX10_takesNext_111 (show inR 5 from ⟨by decide, by decide⟩) k) ?_
      refine Xi.br (tgt := 166) (pc' := 115) ((mI M5 2239 ((mI M5 2230 16) + 1).toNat) ≠ 5) (fun _ _ kt kf => x_icmp_ne dX10_takesNext_112 rfl kt kf) (fun c => ?_) (fun c => ?_)
      · have h := h.1 c
        refine Xi.up (pc' := 167) (fun _ _ k => x_iconst dX10_takesNext_166 (show inR 3 from ⟨by decide, by decide⟩) k) ?_
        exact Xi.ret ⟨dX10_takesNext_167, Or.inl rfl⟩ h
      · have h := h.2 c
        refine Xi.up (pc' := 116) (fun _ _ k => x_aload_n dX10_takesNext_115 rfl rfl k) ?_
        refine Xi.up (pc' := 119) (fun _ _ k => x_getRK hK7 lf10_35 rfl dX10_takesNext_116 h0.1 h0.2.2.2.2.2.2.2.2.2.1 k) ?_
        refine Xi.up (pc' := 120) (fun _ _ k => x_aload_n dX10_takesNext_119 rfl rfl k) ?_
        refine Xi.up (pc' := 123) (fun _ _ k => x_getIK hK7 lf10_156 rfl dX10_takesNext_120 h0.1 k) ?_
        refine Xi.up (pc' := 125) (fun _ _ k => x_bipush dX10_takesNext_123 (show inR 10 from ⟨by decide, by decide⟩) (by decide) k) ?_
        obtain ⟨g12, h⟩ := h
        refine Xi.up (pc' := 126) (fun _ _ k => x_iadd dX10_takesNext_125 g12 k) ?_
        obtain ⟨g13, h⟩ := h
        obtain ⟨g14, h⟩ := h
        refine Xi.up (pc' := 127) (fun _ _ k => x_ialoadK hK7 dX10_takesNext_126 h0.2.2.2.2.2.2.2.2.2.2.2.2.2.2.2.2.2.2.2.1 g13 g14 k) ?_
        refine Xi.up (pc' := 128) (fun _ _ k => x_iconst dX10_takesNext_127 (show inR 1 from ⟨by decide, by decide⟩) k) ?_
        refine Xi.br (tgt := 166) (pc' := 131) ((mI M5 2239 ((mI M5 2230 16) + 10).toNat) ≠ 1) (fun _ _ kt kf => x_icmp_ne dX10_takesNext_128 rfl kt kf) (fun c => ?_) (fun c => ?_)
        · have h := h.1 c
          refine Xi.up (pc' := 167) (fun _ _ k => x_iconst dX10_takesNext_166 (show inR 3 from ⟨by decide, by decide⟩) k) ?_
          exact Xi.ret ⟨dX10_takesNext_167, Or.inl rfl⟩ h
        · have h := h.2 c
          refine Xi.up (pc' := 132) (fun _ _ k => x_aload_n dX10_takesNext_131 rfl rfl k) ?_
          refine Xi.up (pc' := 135) (fun _ _ k => x_getRK hK7 lf10_35 rfl dX10_takesNext_132 h0.1 h0.2.2.2.2.2.2.2.2.2.1 k) ?_
          refine Xi.up (pc' := 136) (fun _ _ k => x_aload_n dX10_takesNext_135 rfl rfl k) ?_
          refine Xi.up (pc' := 139) (fun _ _ k => x_getIK hK7 lf10_156 rfl dX10_takesNext_136 h0.1 k) ?_
          refine Xi.up (pc' := 141) (fun _ _ k => x_bipush dX10_takesNext_139 (show inR 10 from ⟨by decide, by decide⟩) (by decide) k) ?_
          obtain ⟨g15, h⟩ := h
          refine Xi.up (pc' := 142) (fun _ _ k => x_iadd dX10_takesNext_141 g15 k) ?_
          refine Xi.up (pc' := 143) (fun _ _ k => x_iconst dX10_takesNext_142 (show inR 0 from ⟨by decide, by decide⟩) k) ?_
          obtain ⟨g16, h⟩ := h
          obtain ⟨g17, h⟩ := h
          refine Xi.up (pc' := 144) (fun _ _ k => x_iastoreK hK7 dX10_takesNext_143 h0.2.2.2.2.2.2.2.2.2.2.2.2.2.2.2.2.2.2.2.1 g16 g17 k) ?_
          have hK18 := KW.sI hK7 2239 (((mI M5 2230 16) + 10).toNat) 0
          refine Xi.up (pc' := 145) (fun _ _ k => x_aload_n dX10_takesNext_144 rfl rfl k) ?_
          refine Xi.up (pc' := 148) (fun _ _ k => x_getRK hK18 lf10_35 rfl dX10_takesNext_145 h0.1 h0.2.2.2.2.2.2.2.2.2.1 k) ?_
          refine Xi.up (pc' := 149) (fun _ _ k => x_aload_n dX10_takesNext_148 rfl rfl k) ?_
          refine Xi.up (pc' := 152) (fun _ _ k => x_getIK hK18 lf10_156 rfl dX10_takesNext_149 h0.1 k) ?_
          refine Xi.up (pc' := 154) (fun _ _ k => x_bipush dX10_takesNext_152 (show inR 9 from ⟨by decide, by decide⟩) (by decide) k) ?_
          obtain ⟨g19, h⟩ := h
          refine Xi.up (pc' := 155) (fun _ _ k => x_iadd dX10_takesNext_154 g19 k) ?_
          refine Xi.up (pc' := 156) (fun _ _ k => x_dup2 dX10_takesNext_155 k) ?_
          obtain ⟨g20, h⟩ := h
          obtain ⟨g21, h⟩ := h
          refine Xi.up (pc' := 157) (fun _ _ k => x_ialoadK hK18 dX10_takesNext_156 h0.2.2.2.2.2.2.2.2.2.2.2.2.2.2.2.2.2.2.2.1 g20 g21 k) ?_
          refine Xi.up (pc' := 158) (fun _ _ k => x_iconst dX10_takesNext_157 (show inR 1 from ⟨by decide, by decide⟩) k) ?_
          obtain ⟨g22, h⟩ := h
          refine Xi.up (pc' := 159) (fun _ _ k => x_iadd dX10_takesNext_158 g22 k) ?_
          obtain ⟨g23, h⟩ := h
          obtain ⟨g24, h⟩ := h
          refine Xi.up (pc' := 160) (fun _ _ k => x_iastoreK hK18 dX10_takesNext_159 h0.2.2.2.2.2.2.2.2.2.2.2.2.2.2.2.2.2.2.2.1 g23 g24 k) ?_
          have hK25 := KW.sI hK18 2239 (((mI (sI M5 2239 (((mI M5 2230 16) + 10).toNat) 0) 2230 16) + 9).toNat) ((mI (sI M5 2239 (((mI M5 2230 16) + 10).toNat) 0) 2239 ((mI (sI M5 2239 (((mI M5 2230 16) + 10).toNat) 0) 2230 16) + 9).toNat) + 1)
          refine Xi.up (pc' := 161) (fun _ _ k => x_aload_n dX10_takesNext_160 rfl rfl k) ?_
          obtain ⟨M26, hc28, hK27, h⟩ := h
          refine Xi.up (pc' := 164) (st' := []) (fun _ _ k => x_callVK (ci := 10) (as := []) (st := []) hK25 k10_startsAnew lm10_242 dX10_takesNext_161 rfl (by decide) (zs8 rfl) h0.1 ⟨_, _, rfl⟩ hc28 k) ?_
          refine Xi.up (pc' := 165) (fun _ _ k => x_iconst dX10_takesNext_164 (show inR 0 from ⟨by decide, by decide⟩) k) ?_
          exact Xi.ret ⟨dX10_takesNext_165, Or.inl rfl⟩ h
    · have h := h.2 c
      refine Xi.up (pc' := 47) (fun _ _ k => x_aload_n dX10_takesNext_46 rfl rfl k) ?_
      refine Xi.up (pc' := 48) (fun _ _ k => x_aload_n dX10_takesNext_47 rfl rfl k) ?_
      obtain ⟨x30, M29, hc32, hK31, h⟩ := h
      refine Xi.up (pc' := 51) (st' := [zi x30, zr 2230]) (fun _ _ k => x_callVK (ci := 10) (as := []) (st := [zr 2230]) hK7 k10_level lm10_166 dX10_takesNext_48 rfl (by decide) (zs8 rfl) h0.1 ⟨_, _, rfl⟩ hc32 k) ?_
      refine Xi.up (pc' := 52) (fun _ _ k => x_iconst dX10_takesNext_51 (show inR 1 from ⟨by decide, by decide⟩) k) ?_
      obtain ⟨g33, h⟩ := h
      refine Xi.up (pc' := 53) (fun _ _ k => x_isub dX10_takesNext_52 g33 k) ?_
      obtain ⟨M34, hc36, hK35, h⟩ := h
      refine Xi.up (pc' := 56) (st' := []) (fun _ _ k => x_callVK (ci := 10) (as := [zi (x30 - 1)]) (st := []) hK31 k10_atLevel lm10_208 dX10_takesNext_53 rfl (by decide) (zs8 rfl) h0.1 ⟨_, _, rfl⟩ hc36 k) ?_
      refine Xi.up (pc' := 57) (fun _ _ k => x_aload_n dX10_takesNext_56 rfl rfl k) ?_
      refine Xi.up (pc' := 60) (fun _ _ k => x_getRK hK35 lf10_35 rfl dX10_takesNext_57 h0.1 h0.2.2.2.2.2.2.2.2.2.1 k) ?_
      refine Xi.up (pc' := 61) (fun _ _ k => x_aload_n dX10_takesNext_60 rfl rfl k) ?_
      refine Xi.up (pc' := 64) (fun _ _ k => x_getIK hK35 lf10_160 rfl dX10_takesNext_61 h0.1 k) ?_
      refine Xi.up (pc' := 66) (fun _ _ k => x_bipush dX10_takesNext_64 (show inR 8 from ⟨by decide, by decide⟩) (by decide) k) ?_
      obtain ⟨g37, h⟩ := h
      refine Xi.up (pc' := 67) (fun _ _ k => x_iadd dX10_takesNext_66 g37 k) ?_
      refine Xi.up (pc' := 68) (fun _ _ k => x_aload_n dX10_takesNext_67 rfl rfl k) ?_
      refine Xi.up (pc' := 71) (fun _ _ k => x_getRK hK35 lf10_26 rfl dX10_takesNext_68 h0.1 h0.2.2.2.2.2.2.1 k) ?_
      refine Xi.up (pc' := 72) (fun _ _ k => x_aload_n dX10_takesNext_71 rfl rfl k) ?_
      refine Xi.up (pc' := 75) (fun _ _ k => x_getRK hK35 lf10_35 rfl dX10_takesNext_72 h0.1 h0.2.2.2.2.2.2.2.2.2.1 k) ?_
      refine Xi.up (pc' := 76) (fun _ _ k => x_aload_n dX10_takesNext_75 rfl rfl k) ?_
      refine Xi.up (pc' := 79) (fun _ _ k => x_getIK hK35 lf10_160 rfl dX10_takesNext_76 h0.1 k) ?_
      refine Xi.up (pc' := 81) (fun _ _ k => x_bipush dX10_takesNext_79 (show inR 8 from ⟨by decide, by decide⟩) (by decide) k) ?_
      obtain ⟨g38, h⟩ := h
      refine Xi.up (pc' := 82) (fun _ _ k => x_iadd dX10_takesNext_81 g38 k) ?_
      obtain ⟨g39, h⟩ := h
      obtain ⟨g40, h⟩ := h
      refine Xi.up (pc' := 83) (fun _ _ k => x_ialoadK hK35 dX10_takesNext_82 h0.2.2.2.2.2.2.2.2.2.2.2.2.2.2.2.2.2.2.2.1 g39 g40 k) ?_
      obtain ⟨g41, h⟩ := h
      obtain ⟨g42, h⟩ := h
      refine Xi.up (pc' := 84) (fun _ _ k => x_ialoadK hK35 dX10_takesNext_83 h0.2.2.2.2.2.2.2.2.2.2.2.2.2.2.2.2.1 g41 g42 k) ?_
      obtain ⟨g43, h⟩ := h
      obtain ⟨g44, h⟩ := h
      refine Xi.up (pc' := 85) (fun _ _ k => x_iastoreK hK35 dX10_takesNext_84 h0.2.2.2.2.2.2.2.2.2.2.2.2.2.2.2.2.2.2.2.1 g43 g44 k) ?_
      have hK45 := KW.sI hK35 2239 (((mI M34 2230 17) + 8).toNat) (mI M34 2236 (mI M34 2239 ((mI M34 2230 17) + 8).toNat).toNat)
      refine Xi.up (pc' := 86) (fun _ _ k => x_aload_n dX10_takesNext_85 rfl rfl k) ?_
      refine Xi.up (pc' := 89) (fun _ _ k => x_getRK hK45 lf10_35 rfl dX10_takesNext_86 h0.1 h0.2.2.2.2.2.2.2.2.2.1 k) ?_
      refine Xi.up (pc' := 90) (fun _ _ k => x_aload_n dX10_takesNext_89 rfl rfl k) ?_
      refine Xi.up (pc' := 93) (fun _ _ k => x_getIK hK45 lf10_156 rfl dX10_takesNext_90 h0.1 k) ?_
      refine Xi.up (pc' := 95) (fun _ _ k => x_bipush dX10_takesNext_93 (show inR 12 from ⟨by decide, by decide⟩) (by decide) k) ?_
      obtain ⟨g46, h⟩ := h
      refine Xi.up (pc' := 96) (fun _ _ k => x_iadd dX10_takesNext_95 g46 k) ?_
      refine Xi.up (pc' := 97) (fun _ _ k => x_iconst dX10_takesNext_96 (show inR 1 from ⟨by decide, by decide⟩) k) ?_
      obtain ⟨g47, h⟩ := h
      obtain ⟨g48, h⟩ := h
      refine Xi.up (pc' := 98) (fun _ _ k => x_iastoreK hK45 dX10_takesNext_97 h0.2.2.2.2.2.2.2.2.2.2.2.2.2.2.2.2.2.2.2.1 g47 g48 k) ?_
      have hK49 := KW.sI hK45 2239 (((mI (sI M34 2239 (((mI M34 2230 17) + 8).toNat) (mI M34 2236 (mI M34 2239 ((mI M34 2230 17) + 8).toNat).toNat)) 2230 16) + 12).toNat) 1
      refine Xi.up (pc' := 99) (fun _ _ k => x_iconst dX10_takesNext_98 (show inR 0 from ⟨by decide, by decide⟩) k) ?_
      exact Xi.ret ⟨dX10_takesNext_99, Or.inl rfl⟩ h
  · have h := h.2 c
    refine Xi.up (pc' := 11) (fun _ _ k => x_aload_n dX10_takesNext_10 rfl rfl k) ?_
    obtain ⟨x51, M50, hc53, hK52, h⟩ := h
    refine Xi.up (pc' := 14) (st' := [zi x51]) (fun _ _ k => x_callVK (ci := 10) (as := []) (st := []) hK3 k10_mayStep lm10_188 dX10_takesNext_11 rfl (by decide) (zs8 rfl) h0.1 ⟨_, _, rfl⟩ hc53 k) ?_
    refine Xi.br (tgt := 19) (pc' := 17) (x51 ≠ 0) (fun _ _ kt kf => x_if_ne dX10_takesNext_14 rfl kt kf) (fun c => ?_) (fun c => ?_)
    · have h := h.1 c
      refine Xi.up (pc' := 20) (fun _ _ k => x_aload_n dX10_takesNext_19 rfl rfl k) ?_
      refine Xi.up (pc' := 21) (fun _ _ k => x_iload_n dX10_takesNext_20 rfl rfl k) ?_
      obtain ⟨M54, hc56, hK55, h⟩ := h
      refine Xi.up (pc' := 24) (st' := []) (fun _ _ k => x_callVK (ci := 10) (as := [zi x2]) (st := []) hK52 k10_takesPoint lm10_239 dX10_takesNext_21 rfl (by decide) (zs8 rfl) h0.1 ⟨_, _, rfl⟩ hc56 k) ?_
      refine Xi.up (pc' := 25) (fun _ _ k => x_aload_n dX10_takesNext_24 rfl rfl k) ?_
      refine Xi.up (pc' := 28) (fun _ _ k => x_getRK hK55 lf10_35 rfl dX10_takesNext_25 h0.1 h0.2.2.2.2.2.2.2.2.2.1 k) ?_
      refine Xi.up (pc' := 29) (fun _ _ k => x_aload_n dX10_takesNext_28 rfl rfl k) ?_
      refine Xi.up (pc' := 32) (fun _ _ k => x_getIK hK55 lf10_156 rfl dX10_takesNext_29 h0.1 k) ?_
      refine Xi.up (pc' := 34) (fun _ _ k => x_bipush dX10_takesNext_32 (show inR 12 from ⟨by decide, by decide⟩) (by decide) k) ?_
      obtain ⟨g57, h⟩ := h
      refine Xi.up (pc' := 35) (fun _ _ k => x_iadd dX10_takesNext_34 g57 k) ?_
      refine Xi.up (pc' := 36) (fun _ _ k => x_iconst dX10_takesNext_35 (show inR 1 from ⟨by decide, by decide⟩) k) ?_
      obtain ⟨g58, h⟩ := h
      obtain ⟨g59, h⟩ := h
      refine Xi.up (pc' := 37) (fun _ _ k => x_iastoreK hK55 dX10_takesNext_36 h0.2.2.2.2.2.2.2.2.2.2.2.2.2.2.2.2.2.2.2.1 g58 g59 k) ?_
      have hK60 := KW.sI hK55 2239 (((mI M54 2230 16) + 12).toNat) 1
      refine Xi.up (pc' := 38) (fun _ _ k => x_iconst dX10_takesNext_37 (show inR 0 from ⟨by decide, by decide⟩) k) ?_
      exact Xi.ret ⟨dX10_takesNext_38, Or.inl rfl⟩ h
    · have h := h.2 c
      refine Xi.up (pc' := 18) (fun _ _ k => x_iconst dX10_takesNext_17 (show inR 2 from ⟨by decide, by decide⟩) k) ?_
      exact Xi.ret ⟨dX10_takesNext_18, Or.inl rfl⟩ h
set_option maxHeartbeats 4000000 in
set_option maxRecDepth 20000 in
theorem B10_startsAnew {d : Nat} {K M : ZMem} {Q : ZMem → Prop}  (hK : KW K M) (h0 : ModelAt K 2230) (h : Xv (d + 1) q10_startsAnew 2 [some (zr 2230), some (zi 0)] [] M Q) : Cv (d + 1) q10_startsAnew [zr 2230] M Q := by
  refine Cv.of rfl rfl (Nat.le_of_ble_eq_true rfl) (fun w hw x e => by subst e; simp at hw) (L := [some (zr 2230), none]) rfl ?_
  refine Xv.up (pc' := 1) (fun _ _ k => x_iconst dX10_startsAnew_0 (show inR 0 from ⟨by decide, by decide⟩) k) ?_
  refine Xv.up (pc' := 2) (L' := [some (zr 2230), some (zi 0)]) (fun _ _ k => x_istore_n dX10_startsAnew_1 rfl (by decide) rfl k) ?_
  exact h
set_option maxHeartbeats 4000000 in
set_option maxRecDepth 20000 in
theorem B10_startsAnew_2 {d : Nat} {K M : ZMem} {Q : ZMem → Prop} (l1 : Int) (hK : KW K M) (h0 : ModelAt K 2230) (h : ((8 ≤ l1 → ((inR ((mI M 2230 16) + 2)) ∧ (0 ≤ ((mI M 2230 16) + 2)) ∧ (((mI M 2230 16) + 2) < 19245) ∧ Cv d q10_begins [zr 2230, zi (mI M 2239 ((mI M 2230 16) + 2).toNat)] M (fun M4 => KW K M4 ∧ (inR ((mI M4 2230 16) + 12)) ∧ (0 ≤ ((mI M4 2230 16) + 12)) ∧ (((mI M4 2230 16) + 12) < 19245) ∧ Q (sI M4 2239 (((mI M4 2230 16) + 12).toNat) 1)))) ∧ (¬ (8 ≤ l1) → ((inR ((mI M 2230 17) + l1)) ∧ (0 ≤ ((mI M 2230 17) + l1)) ∧ (((mI M 2230 17) + l1) < 19245) ∧ (inR (l1 + 1)) ∧ Xv (d + 1) q10_startsAnew 2 [some (zr 2230), some (zi (l1 + 1))] [] (sI M 2239 (((mI M 2230 17) + l1).toNat) 0) Q)))) : Xv (d + 1) q10_startsAnew 2 [some (zr 2230), some (zi l1)] [] M Q := by
  refine Xv.up (pc' := 3) (fun _ _ k => x_iload_n dX10_startsAnew_2 rfl rfl k) ?_
  refine Xv.up (pc' := 5) (fun _ _ k => x_bipush dX10_startsAnew_3 (show inR 8 from ⟨by decide, by decide⟩) (by decide) k) ?_
  refine Xv.br (tgt := 26) (pc' := 8) (8 ≤ l1) (fun _ _ kt kf => x_icmp_ge dX10_startsAnew_5 rfl kt kf) (fun c => ?_) (fun c => ?_)
  · have h := h.1 c
    refine Xv.up (pc' := 27) (fun _ _ k => x_aload_n dX10_startsAnew_26 rfl rfl k) ?_
    refine Xv.up (pc' := 28) (fun _ _ k => x_aload_n dX10_startsAnew_27 rfl rfl k) ?_
    refine Xv.up (pc' := 31) (fun _ _ k => x_getRK hK lf10_35 rfl dX10_startsAnew_28 h0.1 h0.2.2.2.2.2.2.2.2.2.1 k) ?_
    refine Xv.up (pc' := 32) (fun _ _ k => x_aload_n dX10_startsAnew_31 rfl rfl k) ?_
    refine Xv.up (pc' := 35) (fun _ _ k => x_getIK hK lf10_156 rfl dX10_startsAnew_32 h0.1 k) ?_
    refine Xv.up (pc' := 36) (fun _ _ k => x_iconst dX10_startsAnew_35 (show inR 2 from ⟨by decide, by decide⟩) k) ?_
    obtain ⟨g1, h⟩ := h
    refine Xv.up (pc' := 37) (fun _ _ k => x_iadd dX10_startsAnew_36 g1 k) ?_
    obtain ⟨g2, h⟩ := h
    obtain ⟨g3, h⟩ := h
    refine Xv.up (pc' := 38) (fun _ _ k => x_ialoadK hK dX10_startsAnew_37 h0.2.2.2.2.2.2.2.2.2.2.2.2.2.2.2.2.2.2.2.1 g2 g3 k) ?_
    obtain ⟨M4, hc6, hK5, h⟩ := h
    refine Xv.up (pc' := 41) (st' := []) (fun _ _ k => x_callVK (ci := 10) (as := [zi (mI M 2239 ((mI M 2230 16) + 2).toNat)]) (st := []) hK k10_begins lm10_211 dX10_startsAnew_38 rfl (by decide) (zs8 rfl) h0.1 ⟨_, _, rfl⟩ hc6 k) ?_
    refine Xv.up (pc' := 42) (fun _ _ k => x_aload_n dX10_startsAnew_41 rfl rfl k) ?_
    refine Xv.up (pc' := 45) (fun _ _ k => x_getRK hK5 lf10_35 rfl dX10_startsAnew_42 h0.1 h0.2.2.2.2.2.2.2.2.2.1 k) ?_
    refine Xv.up (pc' := 46) (fun _ _ k => x_aload_n dX10_startsAnew_45 rfl rfl k) ?_
    refine Xv.up (pc' := 49) (fun _ _ k => x_getIK hK5 lf10_156 rfl dX10_startsAnew_46 h0.1 k) ?_
    refine Xv.up (pc' := 51) (fun _ _ k => x_bipush dX10_startsAnew_49 (show inR 12 from ⟨by decide, by decide⟩) (by decide) k) ?_
    obtain ⟨g7, h⟩ := h
    refine Xv.up (pc' := 52) (fun _ _ k => x_iadd dX10_startsAnew_51 g7 k) ?_
    refine Xv.up (pc' := 53) (fun _ _ k => x_iconst dX10_startsAnew_52 (show inR 1 from ⟨by decide, by decide⟩) k) ?_
    obtain ⟨g8, h⟩ := h
    obtain ⟨g9, h⟩ := h
    refine Xv.up (pc' := 54) (fun _ _ k => x_iastoreK hK5 dX10_startsAnew_53 h0.2.2.2.2.2.2.2.2.2.2.2.2.2.2.2.2.2.2.2.1 g8 g9 k) ?_
    have hK10 := KW.sI hK5 2239 (((mI M4 2230 16) + 12).toNat) 1
    exact Xv.ret ⟨dX10_startsAnew_54, rfl⟩ h
  · have h := h.2 c
    refine Xv.up (pc' := 9) (fun _ _ k => x_aload_n dX10_startsAnew_8 rfl rfl k) ?_
    refine Xv.up (pc' := 12) (fun _ _ k => x_getRK hK lf10_35 rfl dX10_startsAnew_9 h0.1 h0.2.2.2.2.2.2.2.2.2.1 k) ?_
    refine Xv.up (pc' := 13) (fun _ _ k => x_aload_n dX10_startsAnew_12 rfl rfl k) ?_
    refine Xv.up (pc' := 16) (fun _ _ k => x_getIK hK lf10_160 rfl dX10_startsAnew_13 h0.1 k) ?_
    refine Xv.up (pc' := 17) (fun _ _ k => x_iload_n dX10_startsAnew_16 rfl rfl k) ?_
    obtain ⟨g11, h⟩ := h
    refine Xv.up (pc' := 18) (fun _ _ k => x_iadd dX10_startsAnew_17 g11 k) ?_
    refine Xv.up (pc' := 19) (fun _ _ k => x_iconst dX10_startsAnew_18 (show inR 0 from ⟨by decide, by decide⟩) k) ?_
    obtain ⟨g12, h⟩ := h
    obtain ⟨g13, h⟩ := h
    refine Xv.up (pc' := 20) (fun _ _ k => x_iastoreK hK dX10_startsAnew_19 h0.2.2.2.2.2.2.2.2.2.2.2.2.2.2.2.2.2.2.2.1 g12 g13 k) ?_
    have hK14 := KW.sI hK 2239 (((mI M 2230 17) + l1).toNat) 0
    obtain ⟨g15, h⟩ := h
    refine Xv.up (pc' := 23) (L' := [some (zr 2230), some (zi (l1 + 1))]) (fun _ _ k => x_iinc dX10_startsAnew_20 rfl g15 (by decide) rfl k) ?_
    refine Xv.up (pc' := 2) (fun _ _ k => x_goto dX10_startsAnew_23 rfl k) ?_
    exact h
set_option maxHeartbeats 4000000 in
set_option maxRecDepth 20000 in
theorem B10_leavesNever {d : Nat} {K M : ZMem} {Q : ZMem → Prop}  (hK : KW K M) (h0 : ModelAt K 2230) (h : Ci d q10_level [zr 2230] M (fun x2 M1 => KW K M1 ∧ (inR ((mI M1 2230 16) + 14)) ∧ (0 ≤ ((mI M1 2230 16) + 14)) ∧ (((mI M1 2230 16) + 14) < 19245) ∧ (inR ((mI M1 2239 ((mI M1 2230 16) + 14).toNat) - 1)) ∧ Xv (d + 1) q10_leavesNever 20 [some (zr 2230), some (zi x2), some (zi ((mI M1 2239 ((mI M1 2230 16) + 14).toNat) - 1))] [] M1 Q)) : Cv (d + 1) q10_leavesNever [zr 2230] M Q := by
  refine Cv.of rfl rfl (Nat.le_of_ble_eq_true rfl) (fun w hw x e => by subst e; simp at hw) (L := [some (zr 2230), none, none]) rfl ?_
  refine Xv.up (pc' := 1) (fun _ _ k => x_aload_n dX10_leavesNever_0 rfl rfl k) ?_
  obtain ⟨x2, M1, hc4, hK3, h⟩ := h
  refine Xv.up (pc' := 4) (st' := [zi x2]) (fun _ _ k => x_callVK (ci := 10) (as := []) (st := []) hK k10_level lm10_166 dX10_leavesNever_1 rfl (by decide) (zs8 rfl) h0.1 ⟨_, _, rfl⟩ hc4 k) ?_
  refine Xv.up (pc' := 5) (L' := [some (zr 2230), some (zi x2), none]) (fun _ _ k => x_istore_n dX10_leavesNever_4 rfl (by decide) rfl k) ?_
  refine Xv.up (pc' := 6) (fun _ _ k => x_aload_n dX10_leavesNever_5 rfl rfl k) ?_
  refine Xv.up (pc' := 9) (fun _ _ k => x_getRK hK3 lf10_35 rfl dX10_leavesNever_6 h0.1 h0.2.2.2.2.2.2.2.2.2.1 k) ?_
  refine Xv.up (pc' := 10) (fun _ _ k => x_aload_n dX10_leavesNever_9 rfl rfl k) ?_
  refine Xv.up (pc' := 13) (fun _ _ k => x_getIK hK3 lf10_156 rfl dX10_leavesNever_10 h0.1 k) ?_
  refine Xv.up (pc' := 15) (fun _ _ k => x_bipush dX10_leavesNever_13 (show inR 14 from ⟨by decide, by decide⟩) (by decide) k) ?_
  obtain ⟨g5, h⟩ := h
  refine Xv.up (pc' := 16) (fun _ _ k => x_iadd dX10_leavesNever_15 g5 k) ?_
  obtain ⟨g6, h⟩ := h
  obtain ⟨g7, h⟩ := h
  refine Xv.up (pc' := 17) (fun _ _ k => x_ialoadK hK3 dX10_leavesNever_16 h0.2.2.2.2.2.2.2.2.2.2.2.2.2.2.2.2.2.2.2.1 g6 g7 k) ?_
  refine Xv.up (pc' := 18) (fun _ _ k => x_iconst dX10_leavesNever_17 (show inR 1 from ⟨by decide, by decide⟩) k) ?_
  obtain ⟨g8, h⟩ := h
  refine Xv.up (pc' := 19) (fun _ _ k => x_isub dX10_leavesNever_18 g8 k) ?_
  refine Xv.up (pc' := 20) (L' := [some (zr 2230), some (zi x2), some (zi ((mI M1 2239 ((mI M1 2230 16) + 14).toNat) - 1))]) (fun _ _ k => x_istore_n dX10_leavesNever_19 rfl (by decide) rfl k) ?_
  exact h
set_option maxHeartbeats 4000000 in
set_option maxRecDepth 20000 in
theorem B10_leavesNever_20 {d : Nat} {K M : ZMem} {Q : ZMem → Prop} (l1 : Int) (l2 : Int) (hK : KW K M) (h0 : ModelAt K 2230) (h : ((l2 < 0 → ((inR (l1 - 1)) ∧ Cv d q10_atLevel [zr 2230, zi (l1 - 1)] M (fun M2 => KW K M2 ∧ (inR ((mI M2 2230 16) + 12)) ∧ (0 ≤ ((mI M2 2230 16) + 12)) ∧ (((mI M2 2230 16) + 12) < 19245) ∧ Q (sI M2 2239 (((mI M2 2230 16) + 12).toNat) 0)))) ∧ (¬ (l2 < 0) → (Ci d q10_pointAt [zr 2230, zi l2] M (fun x10 M9 => KW K M9 ∧ (inR (x10 + 45)) ∧ (0 ≤ (x10 + 45)) ∧ ((x10 + 45) < 19245) ∧ (((mI M9 2239 (x10 + 45).toNat) < l1 → ((inR (l2 + (-1))) ∧ Xv (d + 1) q10_leavesNever 20 [some (zr 2230), some (zi l1), some (zi (l2 + (-1)))] [] M9 Q)) ∧ (¬ ((mI M9 2239 (x10 + 45).toNat) < l1) → (Cv d q10_takesOff [zr 2230, zi l2] M9 (fun M17 => KW K M17 ∧ (inR (l2 + (-1))) ∧ Xv (d + 1) q10_leavesNever 20 [some (zr 2230), some (zi l1), some (zi (l2 + (-1)))] [] M17 Q))))))))) : Xv (d + 1) q10_leavesNever 20 [some (zr 2230), some (zi l1), some (zi l2)] [] M Q := by
  refine Xv.up (pc' := 21) (fun _ _ k => x_iload_n dX10_leavesNever_20 rfl rfl k) ?_
  refine Xv.br (tgt := 52) (pc' := 24) (l2 < 0) (fun _ _ kt kf => x_if_lt dX10_leavesNever_21 rfl kt kf) (fun c => ?_) (fun c => ?_)
  · have h := h.1 c
    refine Xv.up (pc' := 53) (fun _ _ k => x_aload_n dX10_leavesNever_52 rfl rfl k) ?_
    refine Xv.up (pc' := 54) (fun _ _ k => x_iload_n dX10_leavesNever_53 rfl rfl k) ?_
    refine Xv.up (pc' := 55) (fun _ _ k => x_iconst dX10_leavesNever_54 (show inR 1 from ⟨by decide, by decide⟩) k) ?_
    obtain ⟨g1, h⟩ := h
    refine Xv.up (pc' := 56) (fun _ _ k => x_isub dX10_leavesNever_55 g1 k) ?_
    obtain ⟨M2, hc4, hK3, h⟩ := h
    refine Xv.up (pc' := 59) (st' := []) (fun _ _ k => x_callVK (ci := 10) (as := [zi (l1 - 1)]) (st := []) hK k10_atLevel lm10_208 dX10_leavesNever_56 rfl (by decide) (zs8 rfl) h0.1 ⟨_, _, rfl⟩ hc4 k) ?_
    refine Xv.up (pc' := 60) (fun _ _ k => x_aload_n dX10_leavesNever_59 rfl rfl k) ?_
    refine Xv.up (pc' := 63) (fun _ _ k => x_getRK hK3 lf10_35 rfl dX10_leavesNever_60 h0.1 h0.2.2.2.2.2.2.2.2.2.1 k) ?_
    refine Xv.up (pc' := 64) (fun _ _ k => x_aload_n dX10_leavesNever_63 rfl rfl k) ?_
    refine Xv.up (pc' := 67) (fun _ _ k => x_getIK hK3 lf10_156 rfl dX10_leavesNever_64 h0.1 k) ?_
    refine Xv.up (pc' := 69) (fun _ _ k => x_bipush dX10_leavesNever_67 (show inR 12 from ⟨by decide, by decide⟩) (by decide) k) ?_
    obtain ⟨g5, h⟩ := h
    refine Xv.up (pc' := 70) (fun _ _ k => x_iadd dX10_leavesNever_69 g5 k) ?_
    refine Xv.up (pc' := 71) (fun _ _ k => x_iconst dX10_leavesNever_70 (show inR 0 from ⟨by decide, by decide⟩) k) ?_
    obtain ⟨g6, h⟩ := h
    obtain ⟨g7, h⟩ := h
    refine Xv.up (pc' := 72) (fun _ _ k => x_iastoreK hK3 dX10_leavesNever_71 h0.2.2.2.2.2.2.2.2.2.2.2.2.2.2.2.2.2.2.2.1 g6 g7 k) ?_
    have hK8 := KW.sI hK3 2239 (((mI M2 2230 16) + 12).toNat) 0
    exact Xv.ret ⟨dX10_leavesNever_72, rfl⟩ h
  · have h := h.2 c
    refine Xv.up (pc' := 25) (fun _ _ k => x_aload_n dX10_leavesNever_24 rfl rfl k) ?_
    refine Xv.up (pc' := 28) (fun _ _ k => x_getRK hK lf10_35 rfl dX10_leavesNever_25 h0.1 h0.2.2.2.2.2.2.2.2.2.1 k) ?_
    refine Xv.up (pc' := 29) (fun _ _ k => x_aload_n dX10_leavesNever_28 rfl rfl k) ?_
    refine Xv.up (pc' := 30) (fun _ _ k => x_iload_n dX10_leavesNever_29 rfl rfl k) ?_
    obtain ⟨x10, M9, hc12, hK11, h⟩ := h
    refine Xv.up (pc' := 33) (st' := [zi x10, zr 2239]) (fun _ _ k => x_callVK (ci := 10) (as := [zi l2]) (st := [zr 2239]) hK k10_pointAt lm10_163 dX10_leavesNever_30 rfl (by decide) (zs8 rfl) h0.1 ⟨_, _, rfl⟩ hc12 k) ?_
    refine Xv.up (pc' := 35) (fun _ _ k => x_bipush dX10_leavesNever_33 (show inR 45 from ⟨by decide, by decide⟩) (by decide) k) ?_
    obtain ⟨g13, h⟩ := h
    refine Xv.up (pc' := 36) (fun _ _ k => x_iadd dX10_leavesNever_35 g13 k) ?_
    obtain ⟨g14, h⟩ := h
    obtain ⟨g15, h⟩ := h
    refine Xv.up (pc' := 37) (fun _ _ k => x_ialoadK hK11 dX10_leavesNever_36 h0.2.2.2.2.2.2.2.2.2.2.2.2.2.2.2.2.2.2.2.1 g14 g15 k) ?_
    refine Xv.up (pc' := 38) (fun _ _ k => x_iload_n dX10_leavesNever_37 rfl rfl k) ?_
    refine Xv.br (tgt := 46) (pc' := 41) ((mI M9 2239 (x10 + 45).toNat) < l1) (fun _ _ kt kf => x_icmp_lt dX10_leavesNever_38 rfl kt kf) (fun c => ?_) (fun c => ?_)
    · have h := h.1 c
      obtain ⟨g16, h⟩ := h
      refine Xv.up (pc' := 49) (L' := [some (zr 2230), some (zi l1), some (zi (l2 + (-1)))]) (fun _ _ k => x_iinc dX10_leavesNever_46 rfl g16 (by decide) rfl k) ?_
      refine Xv.up (pc' := 20) (fun _ _ k => x_goto dX10_leavesNever_49 rfl k) ?_
      exact h
    · have h := h.2 c
      refine Xv.up (pc' := 42) (fun _ _ k => x_aload_n dX10_leavesNever_41 rfl rfl k) ?_
      refine Xv.up (pc' := 43) (fun _ _ k => x_iload_n dX10_leavesNever_42 rfl rfl k) ?_
      obtain ⟨M17, hc19, hK18, h⟩ := h
      refine Xv.up (pc' := 46) (st' := []) (fun _ _ k => x_callVK (ci := 10) (as := [zi l2]) (st := []) hK11 k10_takesOff lm10_182 dX10_leavesNever_43 rfl (by decide) (zs8 rfl) h0.1 ⟨_, _, rfl⟩ hc19 k) ?_
      obtain ⟨g20, h⟩ := h
      refine Xv.up (pc' := 49) (L' := [some (zr 2230), some (zi l1), some (zi (l2 + (-1)))]) (fun _ _ k => x_iinc dX10_leavesNever_46 rfl g20 (by decide) rfl k) ?_
      refine Xv.up (pc' := 20) (fun _ _ k => x_goto dX10_leavesNever_49 rfl k) ?_
      exact h
set_option maxHeartbeats 4000000 in
set_option maxRecDepth 20000 in
theorem B10_answers {d : Nat} {K M : ZMem} {Q : Int → ZMem → Prop}  (hK : KW K M) (h0 : ModelAt K 2230) (h : (inR ((mI M 2230 16) + 12)) ∧ (0 ≤ ((mI M 2230 16) + 12)) ∧ (((mI M 2230 16) + 12) < 19245) ∧ (inR ((mI (sI M 2239 (((mI M 2230 16) + 12).toNat) 0) 2230 16) + 1)) ∧ (0 ≤ ((mI (sI M 2239 (((mI M 2230 16) + 12).toNat) 0) 2230 16) + 1)) ∧ (((mI (sI M 2239 (((mI M 2230 16) + 12).toNat) 0) 2230 16) + 1) < 19245) ∧ (((mI (sI M 2239 (((mI M 2230 16) + 12).toNat) 0) 2239 ((mI (sI M 2239 (((mI M 2230 16) + 12).toNat) 0) 2230 16) + 1).toNat) ≠ 5 → ((inR ((mI (sI M 2239 (((mI M 2230 16) + 12).toNat) 0) 2230 16) + 15)) ∧ (0 ≤ ((mI (sI M 2239 (((mI M 2230 16) + 12).toNat) 0) 2230 16) + 15)) ∧ (((mI (sI M 2239 (((mI M 2230 16) + 12).toNat) 0) 2230 16) + 15) < 19245) ∧ (((mI (sI M 2239 (((mI M 2230 16) + 12).toNat) 0) 2239 ((mI (sI M 2239 (((mI M 2230 16) + 12).toNat) 0) 2230 16) + 15).toNat) ≠ 60 → (Xi (d + 1) q10_answers 76 [some (zr 2230), none] [] (sI M 2239 (((mI M 2230 16) + 12).toNat) 0) Q)) ∧ (¬ ((mI (sI M 2239 (((mI M 2230 16) + 12).toNat) 0) 2239 ((mI (sI M 2239 (((mI M 2230 16) + 12).toNat) 0) 2230 16) + 15).toNat) ≠ 60) → (Q 5 (sI M 2239 (((mI M 2230 16) + 12).toNat) 0)))))) ∧ (¬ ((mI (sI M 2239 (((mI M 2230 16) + 12).toNat) 0) 2239 ((mI (sI M 2239 (((mI M 2230 16) + 12).toNat) 0) 2230 16) + 1).toNat) ≠ 5) → ((inR ((mI (sI M 2239 (((mI M 2230 16) + 12).toNat) 0) 2230 17) + 32)) ∧ (0 ≤ ((mI (sI M 2239 (((mI M 2230 16) + 12).toNat) 0) 2230 17) + 32)) ∧ (((mI (sI M 2239 (((mI M 2230 16) + 12).toNat) 0) 2230 17) + 32) < 19245) ∧ (inR ((mI (sI M 2239 (((mI M 2230 16) + 12).toNat) 0) 2230 16) + 9)) ∧ (0 ≤ ((mI (sI M 2239 (((mI M 2230 16) + 12).toNat) 0) 2230 16) + 9)) ∧ (((mI (sI M 2239 (((mI M 2230 16) + 12).toNat) 0) 2230 16) + 9) < 19245) ∧ (((mI (sI M 2239 (((mI M 2230 16) + 12).toNat) 0) 2239 ((mI (sI M 2239 (((mI M 2230 16) + 12).toNat) 0) 2230 17) + 32).toNat) = (mI (sI M 2239 (((mI M 2230 16) + 12).toNat) 0) 2239 ((mI (sI M 2239 (((mI M 2230 16) + 12).toNat) 0) 2230 16) + 9).toNat) → ((inR ((mI (sI M 2239 (((mI M 2230 16) + 12).toNat) 0) 2230 16) + 15)) ∧ (0 ≤ ((mI (sI M 2239 (((mI M 2230 16) + 12).toNat) 0) 2230 16) + 15)) ∧ (((mI (sI M 2239 (((mI M 2230 16) + 12).toNat) 0) 2230 16) + 15) < 19245) ∧ (((mI (sI M 2239 (((mI M 2230 16) + 12).toNat) 0) 2239 ((mI (sI M 2239 (((mI M 2230 16) + 12).toNat) 0) 2230 16) + 15).toNat) ≠ 60 → (Xi (d + 1) q10_answers 76 [some (zr 2230), none] [] (sI M 2239 (((mI M 2230 16) + 12).toNat) 0) Q)) ∧ (¬ ((mI (sI M 2239 (((mI M 2230 16) + 12).toNat) 0) 2239 ((mI (sI M 2239 (((mI M 2230 16) + 12).toNat) 0) 2230 16) + 15).toNat) ≠ 60) → (Q 5 (sI M 2239 (((mI M 2230 16) + 12).toNat) 0)))))) ∧ (¬ ((mI (sI M 2239 (((mI M 2230 16) + 12).toNat) 0) 2239 ((mI (sI M 2239 (((mI M 2230 16) + 12).toNat) 0) 2230 17) + 32).toNat) = (mI (sI M 2239 (((mI M 2230 16) + 12).toNat) 0) 2239 ((mI (sI M 2239 (((mI M 2230 16) + 12).toNat) 0) 2230 16) + 9).toNat)) → (Q 0 (sI M 2239 (((mI M 2230 16) + 12).toNat) 0)))))))) : Ci (d + 1) q10_answers [zr 2230] M Q := by
  refine Ci.of rfl rfl (Nat.le_of_ble_eq_true rfl) (fun w hw x e => by subst e; simp at hw) (L := [some (zr 2230), none]) rfl ?_
  refine Xi.up (pc' := 1) (fun _ _ k => x_aload_n dX10_answers_0 rfl rfl k) ?_
  refine Xi.up (pc' := 4) (fun _ _ k => x_getRK hK lf10_35 rfl dX10_answers_1 h0.1 h0.2.2.2.2.2.2.2.2.2.1 k) ?_
  refine Xi.up (pc' := 5) (fun _ _ k => x_aload_n dX10_answers_4 rfl rfl k) ?_
  refine Xi.up (pc' := 8) (fun _ _ k => x_getIK hK lf10_156 rfl dX10_answers_5 h0.1 k) ?_
  refine Xi.up (pc' := 10) (fun _ _ k => x_bipush dX10_answers_8 (show inR 12 from ⟨by decide, by decide⟩) (by decide) k) ?_
  obtain ⟨g1, h⟩ := h
  refine Xi.up (pc' := 11) (fun _ _ k => x_iadd dX10_answers_10 g1 k) ?_
  refine Xi.up (pc' := 12) (fun _ _ k => x_iconst dX10_answers_11 (show inR 0 from ⟨by decide, by decide⟩) k) ?_
  obtain ⟨g2, h⟩ := h
  obtain ⟨g3, h⟩ := h
  refine Xi.up (pc' := 13) (fun _ _ k => x_iastoreK hK dX10_answers_12 h0.2.2.2.2.2.2.2.2.2.2.2.2.2.2.2.2.2.2.2.1 g2 g3 k) ?_
  have hK4 := KW.sI hK 2239 (((mI M 2230 16) + 12).toNat) 0
  refine Xi.up (pc' := 14) (fun _ _ k => x_aload_n dX10_answers_13 rfl rfl k) ?_
  refine Xi.up (pc' := 17) (fun _ _ k => x_getRK hK4 lf10_35 rfl dX10_answers_14 h0.1 h0.2.2.2.2.2.2.2.2.2.1 k) ?_
  refine Xi.up (pc' := 18) (fun _ _ k => x_aload_n dX10_answers_17 rfl rfl k) ?_
  refine Xi.up (pc' := 21) (fun _ _ k => x_getIK hK4 lf10_156 rfl dX10_answers_18 h0.1 k) ?_
  refine Xi.up (pc' := 22) (fun _ _ k => x_iconst dX10_answers_21 (show inR 1 from ⟨by decide, by decide⟩) k) ?_
  obtain ⟨g5, h⟩ := h
  refine Xi.up (pc' := 23) (fun _ _ k => x_iadd dX10_answers_22 g5 k) ?_
  obtain ⟨g6, h⟩ := h
  obtain ⟨g7, h⟩ := h
  refine Xi.up (pc' := 24) (fun _ _ k => x_ialoadK hK4 dX10_answers_23 h0.2.2.2.2.2.2.2.2.2.2.2.2.2.2.2.2.2.2.2.1 g6 g7 k) ?_
  refine Xi.up (pc' := 25) (fun _ _ k => x_iconst dX10_answers_24 (show inR 5 from ⟨by decide, by decide⟩) k) ?_
  refine Xi.br (tgt := 57) (pc' := 28) ((mI (sI M 2239 (((mI M 2230 16) + 12).toNat) 0) 2239 ((mI (sI M 2239 (((mI M 2230 16) + 12).toNat) 0) 2230 16) + 1).toNat) ≠ 5) (fun _ _ kt kf => x_icmp_ne dX10_answers_25 rfl kt kf) (fun c => ?_) (fun c => ?_)
  · have h := h.1 c
    refine Xi.up (pc' := 58) (fun _ _ k => x_aload_n dX10_answers_57 rfl rfl k) ?_
    refine Xi.up (pc' := 61) (fun _ _ k => x_getRK hK4 lf10_35 rfl dX10_answers_58 h0.1 h0.2.2.2.2.2.2.2.2.2.1 k) ?_
    refine Xi.up (pc' := 62) (fun _ _ k => x_aload_n dX10_answers_61 rfl rfl k) ?_
    refine Xi.up (pc' := 65) (fun _ _ k => x_getIK hK4 lf10_156 rfl dX10_answers_62 h0.1 k) ?_
    refine Xi.up (pc' := 67) (fun _ _ k => x_bipush dX10_answers_65 (show inR 15 from ⟨by decide, by decide⟩) (by decide) k) ?_
    obtain ⟨g8, h⟩ := h
    refine Xi.up (pc' := 68) (fun _ _ k => x_iadd dX10_answers_67 g8 k) ?_
    obtain ⟨g9, h⟩ := h
    obtain ⟨g10, h⟩ := h
    refine Xi.up (pc' := 69) (fun _ _ k => x_ialoadK hK4 dX10_answers_68 h0.2.2.2.2.2.2.2.2.2.2.2.2.2.2.2.2.2.2.2.1 g9 g10 k) ?_
    refine Xi.up (pc' := 71) (fun _ _ k => x_bipush dX10_answers_69 (show inR 60 from ⟨by decide, by decide⟩) (by decide) k) ?_
    refine Xi.br (tgt := 76) (pc' := 74) ((mI (sI M 2239 (((mI M 2230 16) + 12).toNat) 0) 2239 ((mI (sI M 2239 (((mI M 2230 16) + 12).toNat) 0) 2230 16) + 15).toNat) ≠ 60) (fun _ _ kt kf => x_icmp_ne dX10_answers_71 rfl kt kf) (fun c => ?_) (fun c => ?_)
    · have h := h.1 c
      exact h
    · have h := h.2 c
      refine Xi.up (pc' := 75) (fun _ _ k => x_iconst dX10_answers_74 (show inR 5 from ⟨by decide, by decide⟩) k) ?_
      exact Xi.ret ⟨dX10_answers_75, Or.inl rfl⟩ h
  · have h := h.2 c
    refine Xi.up (pc' := 29) (fun _ _ k => x_aload_n dX10_answers_28 rfl rfl k) ?_
    refine Xi.up (pc' := 32) (fun _ _ k => x_getRK hK4 lf10_35 rfl dX10_answers_29 h0.1 h0.2.2.2.2.2.2.2.2.2.1 k) ?_
    refine Xi.up (pc' := 33) (fun _ _ k => x_aload_n dX10_answers_32 rfl rfl k) ?_
    refine Xi.up (pc' := 36) (fun _ _ k => x_getIK hK4 lf10_160 rfl dX10_answers_33 h0.1 k) ?_
    refine Xi.up (pc' := 38) (fun _ _ k => x_bipush dX10_answers_36 (show inR 32 from ⟨by decide, by decide⟩) (by decide) k) ?_
    obtain ⟨g11, h⟩ := h
    refine Xi.up (pc' := 39) (fun _ _ k => x_iadd dX10_answers_38 g11 k) ?_
    obtain ⟨g12, h⟩ := h
    obtain ⟨g13, h⟩ := h
    refine Xi.up (pc' := 40) (fun _ _ k => x_ialoadK hK4 dX10_answers_39 h0.2.2.2.2.2.2.2.2.2.2.2.2.2.2.2.2.2.2.2.1 g12 g13 k) ?_
    refine Xi.up (pc' := 41) (fun _ _ k => x_aload_n dX10_answers_40 rfl rfl k) ?_
    refine Xi.up (pc' := 44) (fun _ _ k => x_getRK hK4 lf10_35 rfl dX10_answers_41 h0.1 h0.2.2.2.2.2.2.2.2.2.1 k) ?_
    refine Xi.up (pc' := 45) (fun _ _ k => x_aload_n dX10_answers_44 rfl rfl k) ?_
    refine Xi.up (pc' := 48) (fun _ _ k => x_getIK hK4 lf10_156 rfl dX10_answers_45 h0.1 k) ?_
    refine Xi.up (pc' := 50) (fun _ _ k => x_bipush dX10_answers_48 (show inR 9 from ⟨by decide, by decide⟩) (by decide) k) ?_
    obtain ⟨g14, h⟩ := h
    refine Xi.up (pc' := 51) (fun _ _ k => x_iadd dX10_answers_50 g14 k) ?_
    obtain ⟨g15, h⟩ := h
    obtain ⟨g16, h⟩ := h
    refine Xi.up (pc' := 52) (fun _ _ k => x_ialoadK hK4 dX10_answers_51 h0.2.2.2.2.2.2.2.2.2.2.2.2.2.2.2.2.2.2.2.1 g15 g16 k) ?_
    refine Xi.br (tgt := 57) (pc' := 55) ((mI (sI M 2239 (((mI M 2230 16) + 12).toNat) 0) 2239 ((mI (sI M 2239 (((mI M 2230 16) + 12).toNat) 0) 2230 17) + 32).toNat) = (mI (sI M 2239 (((mI M 2230 16) + 12).toNat) 0) 2239 ((mI (sI M 2239 (((mI M 2230 16) + 12).toNat) 0) 2230 16) + 9).toNat)) (fun _ _ kt kf => x_icmp_eq dX10_answers_52 rfl kt kf) (fun c => ?_) (fun c => ?_)
    · have h := h.1 c
      refine Xi.up (pc' := 58) (fun _ _ k => x_aload_n dX10_answers_57 rfl rfl k) ?_
      refine Xi.up (pc' := 61) (fun _ _ k => x_getRK hK4 lf10_35 rfl dX10_answers_58 h0.1 h0.2.2.2.2.2.2.2.2.2.1 k) ?_
      refine Xi.up (pc' := 62) (fun _ _ k => x_aload_n dX10_answers_61 rfl rfl k) ?_
      refine Xi.up (pc' := 65) (fun _ _ k => x_getIK hK4 lf10_156 rfl dX10_answers_62 h0.1 k) ?_
      refine Xi.up (pc' := 67) (fun _ _ k => x_bipush dX10_answers_65 (show inR 15 from ⟨by decide, by decide⟩) (by decide) k) ?_
      obtain ⟨g17, h⟩ := h
      refine Xi.up (pc' := 68) (fun _ _ k => x_iadd dX10_answers_67 g17 k) ?_
      obtain ⟨g18, h⟩ := h
      obtain ⟨g19, h⟩ := h
      refine Xi.up (pc' := 69) (fun _ _ k => x_ialoadK hK4 dX10_answers_68 h0.2.2.2.2.2.2.2.2.2.2.2.2.2.2.2.2.2.2.2.1 g18 g19 k) ?_
      refine Xi.up (pc' := 71) (fun _ _ k => x_bipush dX10_answers_69 (show inR 60 from ⟨by decide, by decide⟩) (by decide) k) ?_
      refine Xi.br (tgt := 76) (pc' := 74) ((mI (sI M 2239 (((mI M 2230 16) + 12).toNat) 0) 2239 ((mI (sI M 2239 (((mI M 2230 16) + 12).toNat) 0) 2230 16) + 15).toNat) ≠ 60) (fun _ _ kt kf => x_icmp_ne dX10_answers_71 rfl kt kf) (fun c => ?_) (fun c => ?_)
      · have h := h.1 c
        exact h
      · have h := h.2 c
        refine Xi.up (pc' := 75) (fun _ _ k => x_iconst dX10_answers_74 (show inR 5 from ⟨by decide, by decide⟩) k) ?_
        exact Xi.ret ⟨dX10_answers_75, Or.inl rfl⟩ h
    · have h := h.2 c
      refine Xi.up (pc' := 56) (fun _ _ k => x_iconst dX10_answers_55 (show inR 0 from ⟨by decide, by decide⟩) k) ?_
      exact Xi.ret ⟨dX10_answers_56, Or.inl rfl⟩ h
set_option maxHeartbeats 4000000 in
set_option maxRecDepth 20000 in
theorem B10_answers_76 {d : Nat} {K M : ZMem} {Q : Int → ZMem → Prop}  (hK : KW K M) (h0 : ModelAt K 2230) (h : (inR ((mI M 2230 16) + 3129)) ∧ (inR ((mI M 2230 16) + 15)) ∧ (0 ≤ ((mI M 2230 16) + 15)) ∧ (((mI M 2230 16) + 15) < 19245) ∧ (inR (12 * (mI M 2239 ((mI M 2230 16) + 15).toNat))) ∧ (inR (((mI M 2230 16) + 3129) + (12 * (mI M 2239 ((mI M 2230 16) + 15).toNat)))) ∧ Xi (d + 1) q10_answers 101 [some (zr 2230), some (zi (((mI M 2230 16) + 3129) + (12 * (mI M 2239 ((mI M 2230 16) + 15).toNat))))] [] M Q) : Xi (d + 1) q10_answers 76 [some (zr 2230), none] [] M Q := by
  refine Xi.up (pc' := 77) (fun _ _ k => x_aload_n dX10_answers_76 rfl rfl k) ?_
  refine Xi.up (pc' := 80) (fun _ _ k => x_getIK hK lf10_156 rfl dX10_answers_77 h0.1 k) ?_
  refine Xi.up (pc' := 83) (fun _ _ k => x_sipush dX10_answers_80 (show inR 3129 from ⟨by decide, by decide⟩) (by decide) k) ?_
  obtain ⟨g1, h⟩ := h
  refine Xi.up (pc' := 84) (fun _ _ k => x_iadd dX10_answers_83 g1 k) ?_
  refine Xi.up (pc' := 86) (fun _ _ k => x_bipush dX10_answers_84 (show inR 12 from ⟨by decide, by decide⟩) (by decide) k) ?_
  refine Xi.up (pc' := 87) (fun _ _ k => x_aload_n dX10_answers_86 rfl rfl k) ?_
  refine Xi.up (pc' := 90) (fun _ _ k => x_getRK hK lf10_35 rfl dX10_answers_87 h0.1 h0.2.2.2.2.2.2.2.2.2.1 k) ?_
  refine Xi.up (pc' := 91) (fun _ _ k => x_aload_n dX10_answers_90 rfl rfl k) ?_
  refine Xi.up (pc' := 94) (fun _ _ k => x_getIK hK lf10_156 rfl dX10_answers_91 h0.1 k) ?_
  refine Xi.up (pc' := 96) (fun _ _ k => x_bipush dX10_answers_94 (show inR 15 from ⟨by decide, by decide⟩) (by decide) k) ?_
  obtain ⟨g2, h⟩ := h
  refine Xi.up (pc' := 97) (fun _ _ k => x_iadd dX10_answers_96 g2 k) ?_
  obtain ⟨g3, h⟩ := h
  obtain ⟨g4, h⟩ := h
  refine Xi.up (pc' := 98) (fun _ _ k => x_ialoadK hK dX10_answers_97 h0.2.2.2.2.2.2.2.2.2.2.2.2.2.2.2.2.2.2.2.1 g3 g4 k) ?_
  obtain ⟨g5, h⟩ := h
  refine Xi.up (pc' := 99) (fun _ _ k => x_imul dX10_answers_98 g5 k) ?_
  obtain ⟨g6, h⟩ := h
  refine Xi.up (pc' := 100) (fun _ _ k => x_iadd dX10_answers_99 g6 k) ?_
  refine Xi.up (pc' := 101) (L' := [some (zr 2230), some (zi (((mI M 2230 16) + 3129) + (12 * (mI M 2239 ((mI M 2230 16) + 15).toNat))))]) (fun _ _ k => x_istore_n dX10_answers_100 rfl (by decide) rfl k) ?_
  exact h
set_option maxHeartbeats 4000000 in
set_option maxRecDepth 20000 in
theorem B10_answers_101 {d : Nat} {K M : ZMem} {Q : Int → ZMem → Prop} (l1 : Int) (hK : KW K M) (h0 : ModelAt K 2230) (h : (0 ≤ (mI M 2230 17)) ∧ (0 ≤ l1) ∧ ((mI M 2230 17) + 8 ≤ 19245) ∧ (l1 + 8 ≤ 19245) ∧ Xi (d + 1) q10_answers 119 [some (zr 2230), some (zi l1)] [] (sA M 2239 (zCpy (mI M 2239) (mI M 2239) (mI M 2230 17).toNat l1.toNat 8)) Q) : Xi (d + 1) q10_answers 101 [some (zr 2230), some (zi l1)] [] M Q := by
  refine Xi.up (pc' := 102) (fun _ _ k => x_aload_n dX10_answers_101 rfl rfl k) ?_
  refine Xi.up (pc' := 105) (fun _ _ k => x_getRK hK lf10_35 rfl dX10_answers_102 h0.1 h0.2.2.2.2.2.2.2.2.2.1 k) ?_
  refine Xi.up (pc' := 106) (fun _ _ k => x_aload_n dX10_answers_105 rfl rfl k) ?_
  refine Xi.up (pc' := 109) (fun _ _ k => x_getIK hK lf10_160 rfl dX10_answers_106 h0.1 k) ?_
  refine Xi.up (pc' := 110) (fun _ _ k => x_aload_n dX10_answers_109 rfl rfl k) ?_
  refine Xi.up (pc' := 113) (fun _ _ k => x_getRK hK lf10_35 rfl dX10_answers_110 h0.1 h0.2.2.2.2.2.2.2.2.2.1 k) ?_
  refine Xi.up (pc' := 114) (fun _ _ k => x_iload_n dX10_answers_113 rfl rfl k) ?_
  refine Xi.up (pc' := 116) (fun _ _ k => x_bipush dX10_answers_114 (show inR 8 from ⟨by decide, by decide⟩) (by decide) k) ?_
  obtain ⟨g1, h⟩ := h
  obtain ⟨g2, h⟩ := h
  obtain ⟨g3, h⟩ := h
  obtain ⟨g4, h⟩ := h
  refine Xi.up (pc' := 119) (fun _ _ k => x_copyK hK la10_173 dX10_answers_116 h0.2.2.2.2.2.2.2.2.2.2.2.2.2.2.2.2.2.2.2.1 h0.2.2.2.2.2.2.2.2.2.2.2.2.2.2.2.2.2.2.2.1 g1 g2 (by decide) g3 g4 k) ?_
  have hK5 := KW.sA hK 2239 (zCpy (mI M 2239) (mI M 2239) (mI M 2230 17).toNat l1.toNat 8)
  exact h
set_option maxHeartbeats 4000000 in
set_option maxRecDepth 20000 in
theorem B10_answers_119 {d : Nat} {K M : ZMem} {Q : Int → ZMem → Prop} (l1 : Int) (hK : KW K M) (h0 : ModelAt K 2230) (h : (inR (l1 + 8)) ∧ (inR ((mI M 2230 17) + 32)) ∧ (0 ≤ ((mI M 2230 17) + 32)) ∧ (((mI M 2230 17) + 32) < 19245) ∧ (0 ≤ (l1 + 8)) ∧ ((l1 + 8) < 19245) ∧ Xi (d + 1) q10_answers 140 [some (zr 2230), some (zi l1)] [] (sI M 2239 ((l1 + 8).toNat) (mI M 2239 ((mI M 2230 17) + 32).toNat)) Q) : Xi (d + 1) q10_answers 119 [some (zr 2230), some (zi l1)] [] M Q := by
  refine Xi.up (pc' := 120) (fun _ _ k => x_aload_n dX10_answers_119 rfl rfl k) ?_
  refine Xi.up (pc' := 123) (fun _ _ k => x_getRK hK lf10_35 rfl dX10_answers_120 h0.1 h0.2.2.2.2.2.2.2.2.2.1 k) ?_
  refine Xi.up (pc' := 124) (fun _ _ k => x_iload_n dX10_answers_123 rfl rfl k) ?_
  refine Xi.up (pc' := 126) (fun _ _ k => x_bipush dX10_answers_124 (show inR 8 from ⟨by decide, by decide⟩) (by decide) k) ?_
  obtain ⟨g1, h⟩ := h
  refine Xi.up (pc' := 127) (fun _ _ k => x_iadd dX10_answers_126 g1 k) ?_
  refine Xi.up (pc' := 128) (fun _ _ k => x_aload_n dX10_answers_127 rfl rfl k) ?_
  refine Xi.up (pc' := 131) (fun _ _ k => x_getRK hK lf10_35 rfl dX10_answers_128 h0.1 h0.2.2.2.2.2.2.2.2.2.1 k) ?_
  refine Xi.up (pc' := 132) (fun _ _ k => x_aload_n dX10_answers_131 rfl rfl k) ?_
  refine Xi.up (pc' := 135) (fun _ _ k => x_getIK hK lf10_160 rfl dX10_answers_132 h0.1 k) ?_
  refine Xi.up (pc' := 137) (fun _ _ k => x_bipush dX10_answers_135 (show inR 32 from ⟨by decide, by decide⟩) (by decide) k) ?_
  obtain ⟨g2, h⟩ := h
  refine Xi.up (pc' := 138) (fun _ _ k => x_iadd dX10_answers_137 g2 k) ?_
  obtain ⟨g3, h⟩ := h
  obtain ⟨g4, h⟩ := h
  refine Xi.up (pc' := 139) (fun _ _ k => x_ialoadK hK dX10_answers_138 h0.2.2.2.2.2.2.2.2.2.2.2.2.2.2.2.2.2.2.2.1 g3 g4 k) ?_
  obtain ⟨g5, h⟩ := h
  obtain ⟨g6, h⟩ := h
  refine Xi.up (pc' := 140) (fun _ _ k => x_iastoreK hK dX10_answers_139 h0.2.2.2.2.2.2.2.2.2.2.2.2.2.2.2.2.2.2.2.1 g5 g6 k) ?_
  have hK7 := KW.sI hK 2239 ((l1 + 8).toNat) (mI M 2239 ((mI M 2230 17) + 32).toNat)
  exact h
set_option maxHeartbeats 4000000 in
set_option maxRecDepth 20000 in
theorem B10_answers_140 {d : Nat} {K M : ZMem} {Q : Int → ZMem → Prop} (l1 : Int) (hK : KW K M) (h0 : ModelAt K 2230) (h : (inR (l1 + 9)) ∧ (inR ((mI M 2230 17) + 33)) ∧ (0 ≤ ((mI M 2230 17) + 33)) ∧ (((mI M 2230 17) + 33) < 19245) ∧ (0 ≤ (l1 + 9)) ∧ ((l1 + 9) < 19245) ∧ Xi (d + 1) q10_answers 161 [some (zr 2230), some (zi l1)] [] (sI M 2239 ((l1 + 9).toNat) (mI M 2239 ((mI M 2230 17) + 33).toNat)) Q) : Xi (d + 1) q10_answers 140 [some (zr 2230), some (zi l1)] [] M Q := by
  refine Xi.up (pc' := 141) (fun _ _ k => x_aload_n dX10_answers_140 rfl rfl k) ?_
  refine Xi.up (pc' := 144) (fun _ _ k => x_getRK hK lf10_35 rfl dX10_answers_141 h0.1 h0.2.2.2.2.2.2.2.2.2.1 k) ?_
  refine Xi.up (pc' := 145) (fun _ _ k => x_iload_n dX10_answers_144 rfl rfl k) ?_
  refine Xi.up (pc' := 147) (fun _ _ k => x_bipush dX10_answers_145 (show inR 9 from ⟨by decide, by decide⟩) (by decide) k) ?_
  obtain ⟨g1, h⟩ := h
  refine Xi.up (pc' := 148) (fun _ _ k => x_iadd dX10_answers_147 g1 k) ?_
  refine Xi.up (pc' := 149) (fun _ _ k => x_aload_n dX10_answers_148 rfl rfl k) ?_
  refine Xi.up (pc' := 152) (fun _ _ k => x_getRK hK lf10_35 rfl dX10_answers_149 h0.1 h0.2.2.2.2.2.2.2.2.2.1 k) ?_
  refine Xi.up (pc' := 153) (fun _ _ k => x_aload_n dX10_answers_152 rfl rfl k) ?_
  refine Xi.up (pc' := 156) (fun _ _ k => x_getIK hK lf10_160 rfl dX10_answers_153 h0.1 k) ?_
  refine Xi.up (pc' := 158) (fun _ _ k => x_bipush dX10_answers_156 (show inR 33 from ⟨by decide, by decide⟩) (by decide) k) ?_
  obtain ⟨g2, h⟩ := h
  refine Xi.up (pc' := 159) (fun _ _ k => x_iadd dX10_answers_158 g2 k) ?_
  obtain ⟨g3, h⟩ := h
  obtain ⟨g4, h⟩ := h
  refine Xi.up (pc' := 160) (fun _ _ k => x_ialoadK hK dX10_answers_159 h0.2.2.2.2.2.2.2.2.2.2.2.2.2.2.2.2.2.2.2.1 g3 g4 k) ?_
  obtain ⟨g5, h⟩ := h
  obtain ⟨g6, h⟩ := h
  refine Xi.up (pc' := 161) (fun _ _ k => x_iastoreK hK dX10_answers_160 h0.2.2.2.2.2.2.2.2.2.2.2.2.2.2.2.2.2.2.2.1 g5 g6 k) ?_
  have hK7 := KW.sI hK 2239 ((l1 + 9).toNat) (mI M 2239 ((mI M 2230 17) + 33).toNat)
  exact h
set_option maxHeartbeats 4000000 in
set_option maxRecDepth 20000 in
theorem B10_answers_161 {d : Nat} {K M : ZMem} {Q : Int → ZMem → Prop} (l1 : Int) (hK : KW K M) (h0 : ModelAt K 2230) (h : (inR (l1 + 10)) ∧ Ci d q10_costOf [zr 2230, zi (mI M 2230 17)] M (fun x3 M2 => KW K M2 ∧ (0 ≤ (l1 + 10)) ∧ ((l1 + 10) < 19245) ∧ Xi (d + 1) q10_answers 178 [some (zr 2230), some (zi l1)] [] (sI M2 2239 ((l1 + 10).toNat) x3) Q)) : Xi (d + 1) q10_answers 161 [some (zr 2230), some (zi l1)] [] M Q := by
  refine Xi.up (pc' := 162) (fun _ _ k => x_aload_n dX10_answers_161 rfl rfl k) ?_
  refine Xi.up (pc' := 165) (fun _ _ k => x_getRK hK lf10_35 rfl dX10_answers_162 h0.1 h0.2.2.2.2.2.2.2.2.2.1 k) ?_
  refine Xi.up (pc' := 166) (fun _ _ k => x_iload_n dX10_answers_165 rfl rfl k) ?_
  refine Xi.up (pc' := 168) (fun _ _ k => x_bipush dX10_answers_166 (show inR 10 from ⟨by decide, by decide⟩) (by decide) k) ?_
  obtain ⟨g1, h⟩ := h
  refine Xi.up (pc' := 169) (fun _ _ k => x_iadd dX10_answers_168 g1 k) ?_
  refine Xi.up (pc' := 170) (fun _ _ k => x_aload_n dX10_answers_169 rfl rfl k) ?_
  refine Xi.up (pc' := 171) (fun _ _ k => x_aload_n dX10_answers_170 rfl rfl k) ?_
  refine Xi.up (pc' := 174) (fun _ _ k => x_getIK hK lf10_160 rfl dX10_answers_171 h0.1 k) ?_
  obtain ⟨x3, M2, hc5, hK4, h⟩ := h
  refine Xi.up (pc' := 177) (st' := [zi x3, zi (l1 + 10), zr 2239]) (fun _ _ k => x_callVK (ci := 10) (as := [zi (mI M 2230 17)]) (st := [zi (l1 + 10), zr 2239]) hK k10_costOf lm10_223 dX10_answers_174 rfl (by decide) (zs8 rfl) h0.1 ⟨_, _, rfl⟩ hc5 k) ?_
  obtain ⟨g6, h⟩ := h
  obtain ⟨g7, h⟩ := h
  refine Xi.up (pc' := 178) (fun _ _ k => x_iastoreK hK4 dX10_answers_177 h0.2.2.2.2.2.2.2.2.2.2.2.2.2.2.2.2.2.2.2.1 g6 g7 k) ?_
  have hK8 := KW.sI hK4 2239 ((l1 + 10).toNat) x3
  exact h
set_option maxHeartbeats 4000000 in
set_option maxRecDepth 20000 in
theorem B10_answers_178 {d : Nat} {K M : ZMem} {Q : Int → ZMem → Prop} (l1 : Int) (hK : KW K M) (h0 : ModelAt K 2230) (h : (inR (l1 + 11)) ∧ (inR ((mI M 2230 16) + 4)) ∧ (0 ≤ ((mI M 2230 16) + 4)) ∧ (((mI M 2230 16) + 4) < 19245) ∧ (0 ≤ (l1 + 11)) ∧ ((l1 + 11) < 19245) ∧ Xi (d + 1) q10_answers 198 [some (zr 2230), none] [] (sI M 2239 ((l1 + 11).toNat) (mI M 2239 ((mI M 2230 16) + 4).toNat)) Q) : Xi (d + 1) q10_answers 178 [some (zr 2230), some (zi l1)] [] M Q := by
  refine Xi.up (pc' := 179) (fun _ _ k => x_aload_n dX10_answers_178 rfl rfl k) ?_
  refine Xi.up (pc' := 182) (fun _ _ k => x_getRK hK lf10_35 rfl dX10_answers_179 h0.1 h0.2.2.2.2.2.2.2.2.2.1 k) ?_
  refine Xi.up (pc' := 183) (fun _ _ k => x_iload_n dX10_answers_182 rfl rfl k) ?_
  refine Xi.up (pc' := 185) (fun _ _ k => x_bipush dX10_answers_183 (show inR 11 from ⟨by decide, by decide⟩) (by decide) k) ?_
  obtain ⟨g1, h⟩ := h
  refine Xi.up (pc' := 186) (fun _ _ k => x_iadd dX10_answers_185 g1 k) ?_
  refine Xi.up (pc' := 187) (fun _ _ k => x_aload_n dX10_answers_186 rfl rfl k) ?_
  refine Xi.up (pc' := 190) (fun _ _ k => x_getRK hK lf10_35 rfl dX10_answers_187 h0.1 h0.2.2.2.2.2.2.2.2.2.1 k) ?_
  refine Xi.up (pc' := 191) (fun _ _ k => x_aload_n dX10_answers_190 rfl rfl k) ?_
  refine Xi.up (pc' := 194) (fun _ _ k => x_getIK hK lf10_156 rfl dX10_answers_191 h0.1 k) ?_
  refine Xi.up (pc' := 195) (fun _ _ k => x_iconst dX10_answers_194 (show inR 4 from ⟨by decide, by decide⟩) k) ?_
  obtain ⟨g2, h⟩ := h
  refine Xi.up (pc' := 196) (fun _ _ k => x_iadd dX10_answers_195 g2 k) ?_
  obtain ⟨g3, h⟩ := h
  obtain ⟨g4, h⟩ := h
  refine Xi.up (pc' := 197) (fun _ _ k => x_ialoadK hK dX10_answers_196 h0.2.2.2.2.2.2.2.2.2.2.2.2.2.2.2.2.2.2.2.1 g3 g4 k) ?_
  obtain ⟨g5, h⟩ := h
  obtain ⟨g6, h⟩ := h
  refine Xi.up (pc' := 198) (fun _ _ k => x_iastoreK hK dX10_answers_197 h0.2.2.2.2.2.2.2.2.2.2.2.2.2.2.2.2.2.2.2.1 g5 g6 k) ?_
  have hK7 := KW.sI hK 2239 ((l1 + 11).toNat) (mI M 2239 ((mI M 2230 16) + 4).toNat)
  exact Xi.up (fun _ _ k => x_less (L' := [some (zr 2230), none]) (⟨rfl, trivial⟩) k) h
set_option maxHeartbeats 4000000 in
set_option maxRecDepth 20000 in
theorem B10_answers_198 {d : Nat} {K M : ZMem} {Q : Int → ZMem → Prop}  (hK : KW K M) (h0 : ModelAt K 2230) (h : (inR ((mI M 2230 16) + 15)) ∧ (0 ≤ ((mI M 2230 16) + 15)) ∧ (((mI M 2230 16) + 15) < 19245) ∧ (inR ((mI M 2239 ((mI M 2230 16) + 15).toNat) + 1)) ∧ (0 ≤ ((mI M 2230 16) + 15)) ∧ (((mI M 2230 16) + 15) < 19245) ∧ Q 1 (sI M 2239 (((mI M 2230 16) + 15).toNat) ((mI M 2239 ((mI M 2230 16) + 15).toNat) + 1))) : Xi (d + 1) q10_answers 198 [some (zr 2230), none] [] M Q := by
  refine Xi.up (pc' := 199) (fun _ _ k => x_aload_n dX10_answers_198 rfl rfl k) ?_
  refine Xi.up (pc' := 202) (fun _ _ k => x_getRK hK lf10_35 rfl dX10_answers_199 h0.1 h0.2.2.2.2.2.2.2.2.2.1 k) ?_
  refine Xi.up (pc' := 203) (fun _ _ k => x_aload_n dX10_answers_202 rfl rfl k) ?_
  refine Xi.up (pc' := 206) (fun _ _ k => x_getIK hK lf10_156 rfl dX10_answers_203 h0.1 k) ?_
  refine Xi.up (pc' := 208) (fun _ _ k => x_bipush dX10_answers_206 (show inR 15 from ⟨by decide, by decide⟩) (by decide) k) ?_
  obtain ⟨g1, h⟩ := h
  refine Xi.up (pc' := 209) (fun _ _ k => x_iadd dX10_answers_208 g1 k) ?_
  refine Xi.up (pc' := 210) (fun _ _ k => x_dup2 dX10_answers_209 k) ?_
  obtain ⟨g2, h⟩ := h
  obtain ⟨g3, h⟩ := h
  refine Xi.up (pc' := 211) (fun _ _ k => x_ialoadK hK dX10_answers_210 h0.2.2.2.2.2.2.2.2.2.2.2.2.2.2.2.2.2.2.2.1 g2 g3 k) ?_
  refine Xi.up (pc' := 212) (fun _ _ k => x_iconst dX10_answers_211 (show inR 1 from ⟨by decide, by decide⟩) k) ?_
  obtain ⟨g4, h⟩ := h
  refine Xi.up (pc' := 213) (fun _ _ k => x_iadd dX10_answers_212 g4 k) ?_
  obtain ⟨g5, h⟩ := h
  obtain ⟨g6, h⟩ := h
  refine Xi.up (pc' := 214) (fun _ _ k => x_iastoreK hK dX10_answers_213 h0.2.2.2.2.2.2.2.2.2.2.2.2.2.2.2.2.2.2.2.1 g5 g6 k) ?_
  have hK7 := KW.sI hK 2239 (((mI M 2230 16) + 15).toNat) ((mI M 2239 ((mI M 2230 16) + 15).toNat) + 1)
  refine Xi.up (pc' := 215) (fun _ _ k => x_iconst dX10_answers_214 (show inR 1 from ⟨by decide, by decide⟩) k) ?_
  exact Xi.ret ⟨dX10_answers_215, Or.inl rfl⟩ h
set_option maxHeartbeats 4000000 in
set_option maxRecDepth 20000 in
theorem B10_goesOnce {d : Nat} {K M : ZMem} {Q : Int → ZMem → Prop}  (hK : KW K M) (h0 : ModelAt K 2230) (h : (inR ((mI M 2230 16) + 12)) ∧ (0 ≤ ((mI M 2230 16) + 12)) ∧ (((mI M 2230 16) + 12) < 19245) ∧ (((mI M 2239 ((mI M 2230 16) + 12).toNat) ≠ 0 → (Ci d q10_move [zr 2230] M (fun x5 M4 => KW K M4 ∧ ((x5 ≠ 6 → ((x5 = 7 → (Ci d q10_level [zr 2230] M4 (fun x9 M8 => KW K M8 ∧ ((x9 ≤ 0 → (Ci d q10_answers [zr 2230] M8 (fun x13 M12 => KW K M12 ∧ Q x13 M12))) ∧ (¬ (x9 ≤ 0) → (Cv d q10_leavesNever [zr 2230] M8 (fun M16 => KW K M16 ∧ Q 0 M16))))))) ∧ (¬ (x5 = 7) → (Q x5 M4)))) ∧ (¬ (x5 ≠ 6) → ((inR ((mI M4 2230 16) + 12)) ∧ (0 ≤ ((mI M4 2230 16) + 12)) ∧ (((mI M4 2230 16) + 12) < 19245) ∧ Q 0 (sI M4 2239 (((mI M4 2230 16) + 12).toNat) 0))))))) ∧ (¬ ((mI M 2239 ((mI M 2230 16) + 12).toNat) ≠ 0) → (Ci d q10_takesNext [zr 2230] M (fun x24 M23 => KW K M23 ∧ Q x24 M23))))) : Ci (d + 1) q10_goesOnce [zr 2230] M Q := by
  refine Ci.of rfl rfl (Nat.le_of_ble_eq_true rfl) (fun w hw x e => by subst e; simp at hw) (L := [some (zr 2230), none]) rfl ?_
  refine Xi.up (pc' := 1) (fun _ _ k => x_aload_n dX10_goesOnce_0 rfl rfl k) ?_
  refine Xi.up (pc' := 4) (fun _ _ k => x_getRK hK lf10_35 rfl dX10_goesOnce_1 h0.1 h0.2.2.2.2.2.2.2.2.2.1 k) ?_
  refine Xi.up (pc' := 5) (fun _ _ k => x_aload_n dX10_goesOnce_4 rfl rfl k) ?_
  refine Xi.up (pc' := 8) (fun _ _ k => x_getIK hK lf10_156 rfl dX10_goesOnce_5 h0.1 k) ?_
  refine Xi.up (pc' := 10) (fun _ _ k => x_bipush dX10_goesOnce_8 (show inR 12 from ⟨by decide, by decide⟩) (by decide) k) ?_
  obtain ⟨g1, h⟩ := h
  refine Xi.up (pc' := 11) (fun _ _ k => x_iadd dX10_goesOnce_10 g1 k) ?_
  obtain ⟨g2, h⟩ := h
  obtain ⟨g3, h⟩ := h
  refine Xi.up (pc' := 12) (fun _ _ k => x_ialoadK hK dX10_goesOnce_11 h0.2.2.2.2.2.2.2.2.2.2.2.2.2.2.2.2.2.2.2.1 g2 g3 k) ?_
  refine Xi.br (tgt := 20) (pc' := 15) ((mI M 2239 ((mI M 2230 16) + 12).toNat) ≠ 0) (fun _ _ kt kf => x_if_ne dX10_goesOnce_12 rfl kt kf) (fun c => ?_) (fun c => ?_)
  · have h := h.1 c
    refine Xi.up (pc' := 21) (fun _ _ k => x_aload_n dX10_goesOnce_20 rfl rfl k) ?_
    obtain ⟨x5, M4, hc7, hK6, h⟩ := h
    refine Xi.up (pc' := 24) (st' := [zi x5]) (fun _ _ k => x_callVK (ci := 10) (as := []) (st := []) hK k10_move lm10_248 dX10_goesOnce_21 rfl (by decide) (zs8 rfl) h0.1 ⟨_, _, rfl⟩ hc7 k) ?_
    refine Xi.up (pc' := 25) (L' := [some (zr 2230), some (zi x5)]) (fun _ _ k => x_istore_n dX10_goesOnce_24 rfl (by decide) rfl k) ?_
    refine Xi.up (pc' := 26) (fun _ _ k => x_iload_n dX10_goesOnce_25 rfl rfl k) ?_
    refine Xi.up (pc' := 28) (fun _ _ k => x_bipush dX10_goesOnce_26 (show inR 6 from ⟨by decide, by decide⟩) (by decide) k) ?_
    refine Xi.br (tgt := 46) (pc' := 31) (x5 ≠ 6) (fun _ _ kt kf => x_icmp_ne dX10_goesOnce_28 rfl kt kf) (fun c => ?_) (fun c => ?_)
    · have h := h.1 c
      refine Xi.up (pc' := 47) (fun _ _ k => x_iload_n dX10_goesOnce_46 rfl rfl k) ?_
      refine Xi.up (pc' := 49) (fun _ _ k => x_bipush dX10_goesOnce_47 (show inR 7 from ⟨by decide, by decide⟩) (by decide) k) ?_
      refine Xi.br (tgt := 54) (pc' := 52) (x5 = 7) (fun _ _ kt kf => x_icmp_eq dX10_goesOnce_49 rfl kt kf) (fun c => ?_) (fun c => ?_)
      · have h := h.1 c
        refine Xi.up (pc' := 55) (fun _ _ k => x_aload_n dX10_goesOnce_54 rfl rfl k) ?_
        obtain ⟨x9, M8, hc11, hK10, h⟩ := h
        refine Xi.up (pc' := 58) (st' := [zi x9]) (fun _ _ k => x_callVK (ci := 10) (as := []) (st := []) hK6 k10_level lm10_166 dX10_goesOnce_55 rfl (by decide) (zs8 rfl) h0.1 ⟨_, _, rfl⟩ hc11 k) ?_
        refine Xi.br (tgt := 67) (pc' := 61) (x9 ≤ 0) (fun _ _ kt kf => x_if_le dX10_goesOnce_58 rfl kt kf) (fun c => ?_) (fun c => ?_)
        · have h := h.1 c
          refine Xi.up (pc' := 68) (fun _ _ k => x_aload_n dX10_goesOnce_67 rfl rfl k) ?_
          obtain ⟨x13, M12, hc15, hK14, h⟩ := h
          refine Xi.up (pc' := 71) (st' := [zi x13]) (fun _ _ k => x_callVK (ci := 10) (as := []) (st := []) hK10 k10_answers lm10_254 dX10_goesOnce_68 rfl (by decide) (zs8 rfl) h0.1 ⟨_, _, rfl⟩ hc15 k) ?_
          exact Xi.ret ⟨dX10_goesOnce_71, Or.inl rfl⟩ h
        · have h := h.2 c
          refine Xi.up (pc' := 62) (fun _ _ k => x_aload_n dX10_goesOnce_61 rfl rfl k) ?_
          obtain ⟨M16, hc18, hK17, h⟩ := h
          refine Xi.up (pc' := 65) (st' := []) (fun _ _ k => x_callVK (ci := 10) (as := []) (st := []) hK10 k10_leavesNever lm10_251 dX10_goesOnce_62 rfl (by decide) (zs8 rfl) h0.1 ⟨_, _, rfl⟩ hc18 k) ?_
          refine Xi.up (pc' := 66) (fun _ _ k => x_iconst dX10_goesOnce_65 (show inR 0 from ⟨by decide, by decide⟩) k) ?_
          exact Xi.ret ⟨dX10_goesOnce_66, Or.inl rfl⟩ h
      · have h := h.2 c
        refine Xi.up (pc' := 53) (fun _ _ k => x_iload_n dX10_goesOnce_52 rfl rfl k) ?_
        exact Xi.ret ⟨dX10_goesOnce_53, Or.inl rfl⟩ h
    · have h := h.2 c
      refine Xi.up (pc' := 32) (fun _ _ k => x_aload_n dX10_goesOnce_31 rfl rfl k) ?_
      refine Xi.up (pc' := 35) (fun _ _ k => x_getRK hK6 lf10_35 rfl dX10_goesOnce_32 h0.1 h0.2.2.2.2.2.2.2.2.2.1 k) ?_
      refine Xi.up (pc' := 36) (fun _ _ k => x_aload_n dX10_goesOnce_35 rfl rfl k) ?_
      refine Xi.up (pc' := 39) (fun _ _ k => x_getIK hK6 lf10_156 rfl dX10_goesOnce_36 h0.1 k) ?_
      refine Xi.up (pc' := 41) (fun _ _ k => x_bipush dX10_goesOnce_39 (show inR 12 from ⟨by decide, by decide⟩) (by decide) k) ?_
      obtain ⟨g19, h⟩ := h
      refine Xi.up (pc' := 42) (fun _ _ k => x_iadd dX10_goesOnce_41 g19 k) ?_
      refine Xi.up (pc' := 43) (fun _ _ k => x_iconst dX10_goesOnce_42 (show inR 0 from ⟨by decide, by decide⟩) k) ?_
      obtain ⟨g20, h⟩ := h
      obtain ⟨g21, h⟩ := h
      refine Xi.up (pc' := 44) (fun _ _ k => x_iastoreK hK6 dX10_goesOnce_43 h0.2.2.2.2.2.2.2.2.2.2.2.2.2.2.2.2.2.2.2.1 g20 g21 k) ?_
      have hK22 := KW.sI hK6 2239 (((mI M4 2230 16) + 12).toNat) 0
      refine Xi.up (pc' := 45) (fun _ _ k => x_iconst dX10_goesOnce_44 (show inR 0 from ⟨by decide, by decide⟩) k) ?_
      exact Xi.ret ⟨dX10_goesOnce_45, Or.inl rfl⟩ h
  · have h := h.2 c
    refine Xi.up (pc' := 16) (fun _ _ k => x_aload_n dX10_goesOnce_15 rfl rfl k) ?_
    obtain ⟨x24, M23, hc26, hK25, h⟩ := h
    refine Xi.up (pc' := 19) (st' := [zi x24]) (fun _ _ k => x_callVK (ci := 10) (as := []) (st := []) hK k10_takesNext lm10_245 dX10_goesOnce_16 rfl (by decide) (zs8 rfl) h0.1 ⟨_, _, rfl⟩ hc26 k) ?_
    exact Xi.ret ⟨dX10_goesOnce_19, Or.inl rfl⟩ h
set_option maxHeartbeats 4000000 in
set_option maxRecDepth 20000 in
theorem B10_goes {d : Nat} {K M : ZMem} {Q : Int → ZMem → Prop}  (hK : KW K M) (h0 : ModelAt K 2230) (h : Xi (d + 1) q10_goes 2 [some (zr 2230), some (zi 0)] [] M Q) : Ci (d + 1) q10_goes [zr 2230] M Q := by
  refine Ci.of rfl rfl (Nat.le_of_ble_eq_true rfl) (fun w hw x e => by subst e; simp at hw) (L := [some (zr 2230), none]) rfl ?_
  refine Xi.up (pc' := 1) (fun _ _ k => x_iconst dX10_goes_0 (show inR 0 from ⟨by decide, by decide⟩) k) ?_
  refine Xi.up (pc' := 2) (L' := [some (zr 2230), some (zi 0)]) (fun _ _ k => x_istore_n dX10_goes_1 rfl (by decide) rfl k) ?_
  exact h
set_option maxHeartbeats 4000000 in
set_option maxRecDepth 20000 in
theorem B10_goes_2 {d : Nat} {K M : ZMem} {Q : Int → ZMem → Prop} (l1 : Int) (hK : KW K M) (h0 : ModelAt K 2230) (h : ((l1 ≠ 0 → ((l1 ≤ 2 → (Q l1 M)) ∧ (¬ (l1 ≤ 2) → ((inR ((mI M 2230 16) + 0)) ∧ (0 ≤ ((mI M 2230 16) + 0)) ∧ (((mI M 2230 16) + 0) < 19245) ∧ (inR ((mI (sI M 2239 (((mI M 2230 16) + 0).toNat) 2) 2230 16) + 12)) ∧ (0 ≤ ((mI (sI M 2239 (((mI M 2230 16) + 0).toNat) 2) 2230 16) + 12)) ∧ (((mI (sI M 2239 (((mI M 2230 16) + 0).toNat) 2) 2230 16) + 12) < 19245) ∧ Q l1 (sI (sI M 2239 (((mI M 2230 16) + 0).toNat) 2) 2239 (((mI (sI M 2239 (((mI M 2230 16) + 0).toNat) 2) 2230 16) + 12).toNat) 0))))) ∧ (¬ (l1 ≠ 0) → (Ci d q10_goesOnce [zr 2230] M (fun x10 M9 => KW K M9 ∧ Xi (d + 1) q10_goes 2 [some (zr 2230), some (zi x10)] [] M9 Q))))) : Xi (d + 1) q10_goes 2 [some (zr 2230), some (zi l1)] [] M Q := by
  refine Xi.up (pc' := 3) (fun _ _ k => x_iload_n dX10_goes_2 rfl rfl k) ?_
  refine Xi.br (tgt := 14) (pc' := 6) (l1 ≠ 0) (fun _ _ kt kf => x_if_ne dX10_goes_3 rfl kt kf) (fun c => ?_) (fun c => ?_)
  · have h := h.1 c
    refine Xi.up (pc' := 15) (fun _ _ k => x_iload_n dX10_goes_14 rfl rfl k) ?_
    refine Xi.up (pc' := 16) (fun _ _ k => x_iconst dX10_goes_15 (show inR 2 from ⟨by decide, by decide⟩) k) ?_
    refine Xi.br (tgt := 44) (pc' := 19) (l1 ≤ 2) (fun _ _ kt kf => x_icmp_le dX10_goes_16 rfl kt kf) (fun c => ?_) (fun c => ?_)
    · have h := h.1 c
      refine Xi.up (pc' := 45) (fun _ _ k => x_iload_n dX10_goes_44 rfl rfl k) ?_
      exact Xi.ret ⟨dX10_goes_45, Or.inl rfl⟩ h
    · have h := h.2 c
      refine Xi.up (pc' := 20) (fun _ _ k => x_aload_n dX10_goes_19 rfl rfl k) ?_
      refine Xi.up (pc' := 23) (fun _ _ k => x_getRK hK lf10_35 rfl dX10_goes_20 h0.1 h0.2.2.2.2.2.2.2.2.2.1 k) ?_
      refine Xi.up (pc' := 24) (fun _ _ k => x_aload_n dX10_goes_23 rfl rfl k) ?_
      refine Xi.up (pc' := 27) (fun _ _ k => x_getIK hK lf10_156 rfl dX10_goes_24 h0.1 k) ?_
      refine Xi.up (pc' := 28) (fun _ _ k => x_iconst dX10_goes_27 (show inR 0 from ⟨by decide, by decide⟩) k) ?_
      obtain ⟨g1, h⟩ := h
      refine Xi.up (pc' := 29) (fun _ _ k => x_iadd dX10_goes_28 g1 k) ?_
      refine Xi.up (pc' := 30) (fun _ _ k => x_iconst dX10_goes_29 (show inR 2 from ⟨by decide, by decide⟩) k) ?_
      obtain ⟨g2, h⟩ := h
      obtain ⟨g3, h⟩ := h
      refine Xi.up (pc' := 31) (fun _ _ k => x_iastoreK hK dX10_goes_30 h0.2.2.2.2.2.2.2.2.2.2.2.2.2.2.2.2.2.2.2.1 g2 g3 k) ?_
      have hK4 := KW.sI hK 2239 (((mI M 2230 16) + 0).toNat) 2
      refine Xi.up (pc' := 32) (fun _ _ k => x_aload_n dX10_goes_31 rfl rfl k) ?_
      refine Xi.up (pc' := 35) (fun _ _ k => x_getRK hK4 lf10_35 rfl dX10_goes_32 h0.1 h0.2.2.2.2.2.2.2.2.2.1 k) ?_
      refine Xi.up (pc' := 36) (fun _ _ k => x_aload_n dX10_goes_35 rfl rfl k) ?_
      refine Xi.up (pc' := 39) (fun _ _ k => x_getIK hK4 lf10_156 rfl dX10_goes_36 h0.1 k) ?_
      refine Xi.up (pc' := 41) (fun _ _ k => x_bipush dX10_goes_39 (show inR 12 from ⟨by decide, by decide⟩) (by decide) k) ?_
      obtain ⟨g5, h⟩ := h
      refine Xi.up (pc' := 42) (fun _ _ k => x_iadd dX10_goes_41 g5 k) ?_
      refine Xi.up (pc' := 43) (fun _ _ k => x_iconst dX10_goes_42 (show inR 0 from ⟨by decide, by decide⟩) k) ?_
      obtain ⟨g6, h⟩ := h
      obtain ⟨g7, h⟩ := h
      refine Xi.up (pc' := 44) (fun _ _ k => x_iastoreK hK4 dX10_goes_43 h0.2.2.2.2.2.2.2.2.2.2.2.2.2.2.2.2.2.2.2.1 g6 g7 k) ?_
      have hK8 := KW.sI hK4 2239 (((mI (sI M 2239 (((mI M 2230 16) + 0).toNat) 2) 2230 16) + 12).toNat) 0
      refine Xi.up (pc' := 45) (fun _ _ k => x_iload_n dX10_goes_44 rfl rfl k) ?_
      exact Xi.ret ⟨dX10_goes_45, Or.inl rfl⟩ h
  · have h := h.2 c
    refine Xi.up (pc' := 7) (fun _ _ k => x_aload_n dX10_goes_6 rfl rfl k) ?_
    obtain ⟨x10, M9, hc12, hK11, h⟩ := h
    refine Xi.up (pc' := 10) (st' := [zi x10]) (fun _ _ k => x_callVK (ci := 10) (as := []) (st := []) hK k10_goesOnce lm10_257 dX10_goes_7 rfl (by decide) (zs8 rfl) h0.1 ⟨_, _, rfl⟩ hc12 k) ?_
    refine Xi.up (pc' := 11) (L' := [some (zr 2230), some (zi x10)]) (fun _ _ k => x_istore_n dX10_goes_10 rfl (by decide) rfl k) ?_
    refine Xi.up (pc' := 2) (fun _ _ k => x_goto dX10_goes_11 rfl k) ?_
    exact h
set_option maxHeartbeats 4000000 in
set_option maxRecDepth 20000 in
theorem B10_choosesSearch {d : Nat} {K M : ZMem} {Q : ZMem → Prop} (a1 : Int) (hK : KW K M) (h0 : ModelAt K 2230) (h : (inR (3849 * a1)) ∧ (inR ((mI (sI M 2230 16 (3849 * a1)) 2230 16) + 17)) ∧ Ci d q10_level [zr 2230] (sI M 2230 16 (3849 * a1)) (fun x5 M4 => KW K M4 ∧ (inR (35 * x5)) ∧ (inR (((mI (sI M 2230 16 (3849 * a1)) 2230 16) + 17) + (35 * x5))) ∧ Q (sI M4 2230 17 (((mI (sI M 2230 16 (3849 * a1)) 2230 16) + 17) + (35 * x5))))) : Cv (d + 1) q10_choosesSearch [zr 2230, zi a1] M Q := by
  refine Cv.of rfl rfl (Nat.le_of_ble_eq_true rfl) (fun w hw x e => by subst e; simp at hw) (L := [some (zr 2230), some (zi a1)]) rfl ?_
  refine Xv.up (pc' := 1) (fun _ _ k => x_aload_n dX10_choosesSearch_0 rfl rfl k) ?_
  refine Xv.up (pc' := 4) (fun _ _ k => x_sipush dX10_choosesSearch_1 (show inR 3849 from ⟨by decide, by decide⟩) (by decide) k) ?_
  refine Xv.up (pc' := 5) (fun _ _ k => x_iload_n dX10_choosesSearch_4 rfl rfl k) ?_
  obtain ⟨g1, h⟩ := h
  refine Xv.up (pc' := 6) (fun _ _ k => x_imul dX10_choosesSearch_5 g1 k) ?_
  refine Xv.up (pc' := 9) (fun _ _ k => x_putIK hK lf10_156 rfl rfl (Or.inl rfl) dX10_choosesSearch_6 h0.1 k) ?_
  have hK2 := KW.sI hK 2230 16 (3849 * a1)
  refine Xv.up (pc' := 10) (fun _ _ k => x_aload_n dX10_choosesSearch_9 rfl rfl k) ?_
  refine Xv.up (pc' := 11) (fun _ _ k => x_aload_n dX10_choosesSearch_10 rfl rfl k) ?_
  refine Xv.up (pc' := 14) (fun _ _ k => x_getIK hK2 lf10_156 rfl dX10_choosesSearch_11 h0.1 k) ?_
  refine Xv.up (pc' := 16) (fun _ _ k => x_bipush dX10_choosesSearch_14 (show inR 17 from ⟨by decide, by decide⟩) (by decide) k) ?_
  obtain ⟨g3, h⟩ := h
  refine Xv.up (pc' := 17) (fun _ _ k => x_iadd dX10_choosesSearch_16 g3 k) ?_
  refine Xv.up (pc' := 19) (fun _ _ k => x_bipush dX10_choosesSearch_17 (show inR 35 from ⟨by decide, by decide⟩) (by decide) k) ?_
  refine Xv.up (pc' := 20) (fun _ _ k => x_aload_n dX10_choosesSearch_19 rfl rfl k) ?_
  obtain ⟨x5, M4, hc7, hK6, h⟩ := h
  refine Xv.up (pc' := 23) (st' := [zi x5, zi 35, zi ((mI (sI M 2230 16 (3849 * a1)) 2230 16) + 17), zr 2230]) (fun _ _ k => x_callVK (ci := 10) (as := []) (st := [zi 35, zi ((mI (sI M 2230 16 (3849 * a1)) 2230 16) + 17), zr 2230]) hK2 k10_level lm10_166 dX10_choosesSearch_20 rfl (by decide) (zs8 rfl) h0.1 ⟨_, _, rfl⟩ hc7 k) ?_
  obtain ⟨g8, h⟩ := h
  refine Xv.up (pc' := 24) (fun _ _ k => x_imul dX10_choosesSearch_23 g8 k) ?_
  obtain ⟨g9, h⟩ := h
  refine Xv.up (pc' := 25) (fun _ _ k => x_iadd dX10_choosesSearch_24 g9 k) ?_
  refine Xv.up (pc' := 28) (fun _ _ k => x_putIK hK6 lf10_160 rfl rfl (Or.inl rfl) dX10_choosesSearch_25 h0.1 k) ?_
  have hK10 := KW.sI hK6 2230 17 (((mI (sI M 2230 16 (3849 * a1)) 2230 16) + 17) + (35 * x5))
  exact Xv.ret ⟨dX10_choosesSearch_28, rfl⟩ h
set_option maxHeartbeats 4000000 in
set_option maxRecDepth 20000 in
theorem B10_isSearch {d : Nat} {K M : ZMem} {Q : Int → ZMem → Prop} (a1 : Int) (hK : KW K M)  (h : ((0 ≤ a1 ∧ a1 ≤ 3 → (Q 1 M)) ∧ (¬ (0 ≤ a1 ∧ a1 ≤ 3) → (Q 0 M)))) : Ci (d + 1) q10_isSearch [zi a1] M Q := by
  refine Ci.of rfl rfl (Nat.le_of_ble_eq_true rfl) (fun w hw x e => by subst e; simp at hw) (L := [some (zi a1)]) rfl ?_
  refine Xi.up (pc' := 1) (fun _ _ k => x_iload_n dX10_isSearch_0 rfl rfl k) ?_
  refine Xi.up (pc' := 2) (fun _ _ k => x_i2l dX10_isSearch_1 k) ?_
  refine Xi.up (pc' := 3) (fun _ _ k => x_lconst (x := 0) dX10_isSearch_2 ⟨by decide, by decide⟩ rfl k) ?_
  refine Xi.up (pc' := 6) (fun _ _ k => x_ldc2 ll10_137 dX10_isSearch_3 (show inL 3 from ⟨by decide, by decide⟩) rfl k) ?_
  by_cases c : 0 ≤ a1 ∧ a1 ≤ 3
  · have h := h.1 c
    refine Xi.up (pc' := 9) (st' := [zi 1]) (fun _ _ k => x_in1 (st := []) lm10_43 dX10_isSearch_6 (zs8 rfl) c k) ?_
    exact Xi.ret ⟨dX10_isSearch_9, Or.inr ⟨rfl, Or.inr rfl⟩⟩ h
  · have h := h.2 c
    refine Xi.up (pc' := 9) (st' := [zi 0]) (fun _ _ k => x_in0 (st := []) lm10_43 dX10_isSearch_6 (zs8 rfl) c k) ?_
    exact Xi.ret ⟨dX10_isSearch_9, Or.inr ⟨rfl, Or.inl rfl⟩⟩ h
set_option maxHeartbeats 4000000 in
set_option maxRecDepth 20000 in
theorem B10_isNone {d : Nat} {K M : ZMem} {Q : Int → ZMem → Prop} (a1 : Int) (hK : KW K M) (h0 : ModelAt K 2230) (h : (inR (3849 * a1)) ∧ (inR ((3849 * a1) + 0)) ∧ (0 ≤ ((3849 * a1) + 0)) ∧ (((3849 * a1) + 0) < 19245) ∧ (((mI M 2239 ((3849 * a1) + 0).toNat) ≠ 0 → (Q 0 M)) ∧ (¬ ((mI M 2239 ((3849 * a1) + 0).toNat) ≠ 0) → (Q 1 M)))) : Ci d q10_isNone [zr 2230, zi a1] M Q := by
  refine Ci.of rfl rfl (Nat.le_of_ble_eq_true rfl) (fun w hw x e => by subst e; simp at hw) (L := [some (zr 2230), some (zi a1)]) rfl ?_
  refine Xi.up (pc' := 1) (fun _ _ k => x_aload_n dX10_isNone_0 rfl rfl k) ?_
  refine Xi.up (pc' := 4) (fun _ _ k => x_getRK hK lf10_35 rfl dX10_isNone_1 h0.1 h0.2.2.2.2.2.2.2.2.2.1 k) ?_
  refine Xi.up (pc' := 7) (fun _ _ k => x_sipush dX10_isNone_4 (show inR 3849 from ⟨by decide, by decide⟩) (by decide) k) ?_
  refine Xi.up (pc' := 8) (fun _ _ k => x_iload_n dX10_isNone_7 rfl rfl k) ?_
  obtain ⟨g1, h⟩ := h
  refine Xi.up (pc' := 9) (fun _ _ k => x_imul dX10_isNone_8 g1 k) ?_
  refine Xi.up (pc' := 10) (fun _ _ k => x_iconst dX10_isNone_9 (show inR 0 from ⟨by decide, by decide⟩) k) ?_
  obtain ⟨g2, h⟩ := h
  refine Xi.up (pc' := 11) (fun _ _ k => x_iadd dX10_isNone_10 g2 k) ?_
  obtain ⟨g3, h⟩ := h
  obtain ⟨g4, h⟩ := h
  refine Xi.up (pc' := 12) (fun _ _ k => x_ialoadK hK dX10_isNone_11 h0.2.2.2.2.2.2.2.2.2.2.2.2.2.2.2.2.2.2.2.1 g3 g4 k) ?_
  refine Xi.br (tgt := 19) (pc' := 15) ((mI M 2239 ((3849 * a1) + 0).toNat) ≠ 0) (fun _ _ kt kf => x_if_ne dX10_isNone_12 rfl kt kf) (fun c => ?_) (fun c => ?_)
  · have h := h.1 c
    refine Xi.up (pc' := 20) (fun _ _ k => x_iconst dX10_isNone_19 (show inR 0 from ⟨by decide, by decide⟩) k) ?_
    exact Xi.ret ⟨dX10_isNone_20, Or.inr ⟨rfl, Or.inl rfl⟩⟩ h
  · have h := h.2 c
    refine Xi.up (pc' := 16) (fun _ _ k => x_iconst dX10_isNone_15 (show inR 1 from ⟨by decide, by decide⟩) k) ?_
    refine Xi.up (pc' := 20) (fun _ _ k => x_goto dX10_isNone_16 rfl k) ?_
    exact Xi.ret ⟨dX10_isNone_20, Or.inr ⟨rfl, Or.inr rfl⟩⟩ h
set_option maxHeartbeats 4000000 in
set_option maxRecDepth 20000 in
theorem B10_begin {d : Nat} {K M : ZMem} {Q : Int → ZMem → Prop} (a1 : Int) (a2 : Int) (a3 : Int) (hK : KW K M) (h0 : ModelAt K 2230) (h : Ci d q10_isSearch [zi a1] M (fun x2 M1 => KW K M1 ∧ ((x2 = 0 → (Q (-2001) M1)) ∧ (¬ (x2 = 0) → ((0 ≤ a3 ∧ a3 ≤ 5 → ((0 ≤ a2 ∧ a2 ≤ 3 → ((0 ≤ a2) ∧ (a2 < 4) ∧ (((mI M1 2237 a2.toNat) ≠ (-1) → ((inR (3849 * a1)) ∧ Xi (d + 1) q10_begin 56 [some (zr 2230), some (zi a1), some (zi a2), some (zi a3), some (zi (3849 * a1))] [] M1 Q)) ∧ (¬ ((mI M1 2237 a2.toNat) ≠ (-1)) → (Q (-2003) M1))))) ∧ (¬ (0 ≤ a2 ∧ a2 ≤ 3) → (Q (-2003) M1)))) ∧ (¬ (0 ≤ a3 ∧ a3 ≤ 5) → (Q (-2001) M1))))))) : Ci (d + 1) q10_begin [zr 2230, zi a1, zi a2, zi a3] M Q := by
  refine Ci.of rfl rfl (Nat.le_of_ble_eq_true rfl) (fun w hw x e => by subst e; simp at hw) (L := [some (zr 2230), some (zi a1), some (zi a2), some (zi a3), none]) rfl ?_
  refine Xi.up (pc' := 1) (fun _ _ k => x_iload_n dX10_begin_0 rfl rfl k) ?_
  obtain ⟨x2, M1, hc4, hK3, h⟩ := h
  refine Xi.up (pc' := 4) (st' := [zi x2]) (fun _ _ k => x_callS (as := [zi a1]) (st := []) k10_isSearch lm10_260 dX10_begin_1 rfl (by decide) (zs8 rfl) hc4 k) ?_
  refine Xi.br (tgt := 19) (pc' := 7) (x2 = 0) (fun _ _ kt kf => x_if_eq dX10_begin_4 rfl kt kf) (fun c => ?_) (fun c => ?_)
  · have h := h.1 c
    refine Xi.up (pc' := 22) (fun _ _ k => x_sipush dX10_begin_19 (show inR (-2001) from ⟨by decide, by decide⟩) (by decide) k) ?_
    exact Xi.ret ⟨dX10_begin_22, Or.inl rfl⟩ h
  · have h := h.2 c
    refine Xi.up (pc' := 8) (fun _ _ k => x_iload_n dX10_begin_7 rfl rfl k) ?_
    refine Xi.up (pc' := 9) (fun _ _ k => x_i2l dX10_begin_8 k) ?_
    refine Xi.up (pc' := 10) (fun _ _ k => x_lconst (x := 0) dX10_begin_9 ⟨by decide, by decide⟩ rfl k) ?_
    refine Xi.up (pc' := 13) (fun _ _ k => x_ldc2 ll10_263 dX10_begin_10 (show inL 5 from ⟨by decide, by decide⟩) rfl k) ?_
    by_cases c : 0 ≤ a3 ∧ a3 ≤ 5
    · have h := h.1 c
      refine Xi.up (pc' := 16) (st' := [zi 1]) (fun _ _ k => x_in1 (st := []) lm10_43 dX10_begin_13 (zs8 rfl) c k) ?_
      refine Xi.br (tgt := 23) (pc' := 19) ((1 : Int) ≠ 0) (fun _ _ kt kf => x_if_ne dX10_begin_16 rfl kt kf) (fun _ => ?_) (fun c => absurd (by decide) c)
      refine Xi.up (pc' := 24) (fun _ _ k => x_iload_n dX10_begin_23 rfl rfl k) ?_
      refine Xi.up (pc' := 25) (fun _ _ k => x_i2l dX10_begin_24 k) ?_
      refine Xi.up (pc' := 26) (fun _ _ k => x_lconst (x := 0) dX10_begin_25 ⟨by decide, by decide⟩ rfl k) ?_
      refine Xi.up (pc' := 29) (fun _ _ k => x_ldc2 ll10_137 dX10_begin_26 (show inL 3 from ⟨by decide, by decide⟩) rfl k) ?_
      by_cases c : 0 ≤ a2 ∧ a2 ≤ 3
      · have h := h.1 c
        refine Xi.up (pc' := 32) (st' := [zi 1]) (fun _ _ k => x_in1 (st := []) lm10_43 dX10_begin_29 (zs8 rfl) c k) ?_
        refine Xi.br (tgt := 45) (pc' := 35) ((1 : Int) = 0) (fun _ _ kt kf => x_if_eq dX10_begin_32 rfl kt kf) (fun c => absurd c (by decide)) (fun _ => ?_)
        refine Xi.up (pc' := 36) (fun _ _ k => x_aload_n dX10_begin_35 rfl rfl k) ?_
        refine Xi.up (pc' := 39) (fun _ _ k => x_getRK hK3 lf10_29 rfl dX10_begin_36 h0.1 h0.2.2.2.2.2.2.2.1 k) ?_
        refine Xi.up (pc' := 40) (fun _ _ k => x_iload_n dX10_begin_39 rfl rfl k) ?_
        obtain ⟨g5, h⟩ := h
        obtain ⟨g6, h⟩ := h
        refine Xi.up (pc' := 41) (fun _ _ k => x_ialoadK hK3 dX10_begin_40 h0.2.2.2.2.2.2.2.2.2.2.2.2.2.2.2.2.2.1 g5 g6 k) ?_
        refine Xi.up (pc' := 42) (fun _ _ k => x_iconst dX10_begin_41 (show inR (-1) from ⟨by decide, by decide⟩) k) ?_
        refine Xi.br (tgt := 49) (pc' := 45) ((mI M1 2237 a2.toNat) ≠ (-1)) (fun _ _ kt kf => x_icmp_ne dX10_begin_42 rfl kt kf) (fun c => ?_) (fun c => ?_)
        · have h := h.1 c
          refine Xi.up (pc' := 52) (fun _ _ k => x_sipush dX10_begin_49 (show inR 3849 from ⟨by decide, by decide⟩) (by decide) k) ?_
          refine Xi.up (pc' := 53) (fun _ _ k => x_iload_n dX10_begin_52 rfl rfl k) ?_
          obtain ⟨g7, h⟩ := h
          refine Xi.up (pc' := 54) (fun _ _ k => x_imul dX10_begin_53 g7 k) ?_
          refine Xi.up (pc' := 56) (L' := [some (zr 2230), some (zi a1), some (zi a2), some (zi a3), some (zi (3849 * a1))]) (fun _ _ k => x_istore dX10_begin_54 (by decide) rfl k) ?_
          exact h
        · have h := h.2 c
          refine Xi.up (pc' := 48) (fun _ _ k => x_sipush dX10_begin_45 (show inR (-2003) from ⟨by decide, by decide⟩) (by decide) k) ?_
          exact Xi.ret ⟨dX10_begin_48, Or.inl rfl⟩ h
      · have h := h.2 c
        refine Xi.up (pc' := 32) (st' := [zi 0]) (fun _ _ k => x_in0 (st := []) lm10_43 dX10_begin_29 (zs8 rfl) c k) ?_
        refine Xi.br (tgt := 45) (pc' := 35) ((0 : Int) = 0) (fun _ _ kt kf => x_if_eq dX10_begin_32 rfl kt kf) (fun _ => ?_) (fun c => absurd (by decide) c)
        refine Xi.up (pc' := 48) (fun _ _ k => x_sipush dX10_begin_45 (show inR (-2003) from ⟨by decide, by decide⟩) (by decide) k) ?_
        exact Xi.ret ⟨dX10_begin_48, Or.inl rfl⟩ h
    · have h := h.2 c
      refine Xi.up (pc' := 16) (st' := [zi 0]) (fun _ _ k => x_in0 (st := []) lm10_43 dX10_begin_13 (zs8 rfl) c k) ?_
      refine Xi.br (tgt := 23) (pc' := 19) ((0 : Int) ≠ 0) (fun _ _ kt kf => x_if_ne dX10_begin_16 rfl kt kf) (fun c => absurd c (by decide)) (fun _ => ?_)
      refine Xi.up (pc' := 22) (fun _ _ k => x_sipush dX10_begin_19 (show inR (-2001) from ⟨by decide, by decide⟩) (by decide) k) ?_
      exact Xi.ret ⟨dX10_begin_22, Or.inl rfl⟩ h
set_option maxHeartbeats 4000000 in
set_option maxRecDepth 20000 in
theorem B10_begin_56 {d : Nat} {K M : ZMem} {Q : Int → ZMem → Prop} (a1 : Int) (a2 : Int) (a3 : Int) (l4 : Int) (hK : KW K M) (h0 : ModelAt K 2230) (h : (inR (3849 * a1)) ∧ (inR ((3849 * a1) + 17)) ∧ ((((3849 * a1) + 17) ≤ l4 → (Cv d q10_choosesSearch [zr 2230, zi a1] M (fun M3 => KW K M3 ∧ (inR ((mI M3 2230 16) + 0)) ∧ (0 ≤ ((mI M3 2230 16) + 0)) ∧ (((mI M3 2230 16) + 0) < 19245) ∧ (inR ((mI (sI M3 2239 (((mI M3 2230 16) + 0).toNat) 1) 2230 16) + 1)) ∧ (0 ≤ ((mI (sI M3 2239 (((mI M3 2230 16) + 0).toNat) 1) 2230 16) + 1)) ∧ (((mI (sI M3 2239 (((mI M3 2230 16) + 0).toNat) 1) 2230 16) + 1) < 19245) ∧ (inR ((mI (sI (sI M3 2239 (((mI M3 2230 16) + 0).toNat) 1) 2239 (((mI (sI M3 2239 (((mI M3 2230 16) + 0).toNat) 1) 2230 16) + 1).toNat) a3) 2230 16) + 2)) ∧ (0 ≤ a2) ∧ (a2 < 4) ∧ (0 ≤ ((mI (sI (sI M3 2239 (((mI M3 2230 16) + 0).toNat) 1) 2239 (((mI (sI M3 2239 (((mI M3 2230 16) + 0).toNat) 1) 2230 16) + 1).toNat) a3) 2230 16) + 2)) ∧ (((mI (sI (sI M3 2239 (((mI M3 2230 16) + 0).toNat) 1) 2239 (((mI (sI M3 2239 (((mI M3 2230 16) + 0).toNat) 1) 2230 16) + 1).toNat) a3) 2230 16) + 2) < 19245) ∧ (inR ((mI (sI (sI (sI M3 2239 (((mI M3 2230 16) + 0).toNat) 1) 2239 (((mI (sI M3 2239 (((mI M3 2230 16) + 0).toNat) 1) 2230 16) + 1).toNat) a3) 2239 (((mI (sI (sI M3 2239 (((mI M3 2230 16) + 0).toNat) 1) 2239 (((mI (sI M3 2239 (((mI M3 2230 16) + 0).toNat) 1) 2230 16) + 1).toNat) a3) 2230 16) + 2).toNat) (mI (sI (sI M3 2239 (((mI M3 2230 16) + 0).toNat) 1) 2239 (((mI (sI M3 2239 (((mI M3 2230 16) + 0).toNat) 1) 2230 16) + 1).toNat) a3) 2237 a2.toNat)) 2230 16) + 3)) ∧ (0 ≤ a2) ∧ (a2 < 4) ∧ (0 ≤ ((mI (sI (sI (sI M3 2239 (((mI M3 2230 16) + 0).toNat) 1) 2239 (((mI (sI M3 2239 (((mI M3 2230 16) + 0).toNat) 1) 2230 16) + 1).toNat) a3) 2239 (((mI (sI (sI M3 2239 (((mI M3 2230 16) + 0).toNat) 1) 2239 (((mI (sI M3 2239 (((mI M3 2230 16) + 0).toNat) 1) 2230 16) + 1).toNat) a3) 2230 16) + 2).toNat) (mI (sI (sI M3 2239 (((mI M3 2230 16) + 0).toNat) 1) 2239 (((mI (sI M3 2239 (((mI M3 2230 16) + 0).toNat) 1) 2230 16) + 1).toNat) a3) 2237 a2.toNat)) 2230 16) + 3)) ∧ (((mI (sI (sI (sI M3 2239 (((mI M3 2230 16) + 0).toNat) 1) 2239 (((mI (sI M3 2239 (((mI M3 2230 16) + 0).toNat) 1) 2230 16) + 1).toNat) a3) 2239 (((mI (sI (sI M3 2239 (((mI M3 2230 16) + 0).toNat) 1) 2239 (((mI (sI M3 2239 (((mI M3 2230 16) + 0).toNat) 1) 2230 16) + 1).toNat) a3) 2230 16) + 2).toNat) (mI (sI (sI M3 2239 (((mI M3 2230 16) + 0).toNat) 1) 2239 (((mI (sI M3 2239 (((mI M3 2230 16) + 0).toNat) 1) 2230 16) + 1).toNat) a3) 2237 a2.toNat)) 2230 16) + 3) < 19245) ∧ Cv d q10_startsAnew [zr 2230] (sI (sI (sI (sI M3 2239 (((mI M3 2230 16) + 0).toNat) 1) 2239 (((mI (sI M3 2239 (((mI M3 2230 16) + 0).toNat) 1) 2230 16) + 1).toNat) a3) 2239 (((mI (sI (sI M3 2239 (((mI M3 2230 16) + 0).toNat) 1) 2239 (((mI (sI M3 2239 (((mI M3 2230 16) + 0).toNat) 1) 2230 16) + 1).toNat) a3) 2230 16) + 2).toNat) (mI (sI (sI M3 2239 (((mI M3 2230 16) + 0).toNat) 1) 2239 (((mI (sI M3 2239 (((mI M3 2230 16) + 0).toNat) 1) 2230 16) + 1).toNat) a3) 2237 a2.toNat)) 2239 (((mI (sI (sI (sI M3 2239 (((mI M3 2230 16) + 0).toNat) 1) 2239 (((mI (sI M3 2239 (((mI M3 2230 16) + 0).toNat) 1) 2230 16) + 1).toNat) a3) 2239 (((mI (sI (sI M3 2239 (((mI M3 2230 16) + 0).toNat) 1) 2239 (((mI (sI M3 2239 (((mI M3 2230 16) + 0).toNat) 1) 2230 16) + 1).toNat) a3) 2230 16) + 2).toNat) (mI (sI (sI M3 2239 (((mI M3 2230 16) + 0).toNat) 1) 2239 (((mI (sI M3 2239 (((mI M3 2230 16) + 0).toNat) 1) 2230 16) + 1).toNat) a3) 2237 a2.toNat)) 2230 16) + 3).toNat) (mI (sI (sI (sI M3 2239 (((mI M3 2230 16) + 0).toNat) 1) 2239 (((mI (sI M3 2239 (((mI M3 2230 16) + 0).toNat) 1) 2230 16) + 1).toNat) a3) 2239 (((mI (sI (sI M3 2239 (((mI M3 2230 16) + 0).toNat) 1) 2239 (((mI (sI M3 2239 (((mI M3 2230 16) + 0).toNat) 1) 2230 16) + 1).toNat) a3) 2230 16) + 2).toNat) (mI (sI (sI M3 2239 (((mI M3 2230 16) + 0).toNat) 1) 2239 (((mI (sI M3 2239 (((mI M3 2230 16) + 0).toNat) 1) 2230 16) + 1).toNat) a3) 2237 a2.toNat)) 2238 a2.toNat)) (fun M26 => KW K M26 ∧ Q 1 M26)))) ∧ (¬ (((3849 * a1) + 17) ≤ l4) → ((0 ≤ l4) ∧ (l4 < 19245) ∧ (inR (l4 + 1)) ∧ Xi (d + 1) q10_begin 56 [some (zr 2230), some (zi a1), some (zi a2), some (zi a3), some (zi (l4 + 1))] [] (sI M 2239 l4.toNat 0) Q)))) : Xi (d + 1) q10_begin 56 [some (zr 2230), some (zi a1), some (zi a2), some (zi a3), some (zi l4)] [] M Q := by
  refine Xi.up (pc' := 58) (fun _ _ k => x_iload dX10_begin_56 rfl k) ?_
  refine Xi.up (pc' := 61) (fun _ _ k => x_sipush dX10_begin_58 (show inR 3849 from ⟨by decide, by decide⟩) (by decide) k) ?_
  refine Xi.up (pc' := 62) (fun _ _ k => x_iload_n dX10_begin_61 rfl rfl k) ?_
  obtain ⟨g1, h⟩ := h
  refine Xi.up (pc' := 63) (fun _ _ k => x_imul dX10_begin_62 g1 k) ?_
  refine Xi.up (pc' := 65) (fun _ _ k => x_bipush dX10_begin_63 (show inR 17 from ⟨by decide, by decide⟩) (by decide) k) ?_
  obtain ⟨g2, h⟩ := h
  refine Xi.up (pc' := 66) (fun _ _ k => x_iadd dX10_begin_65 g2 k) ?_
  refine Xi.br (tgt := 83) (pc' := 69) (((3849 * a1) + 17) ≤ l4) (fun _ _ kt kf => x_icmp_ge dX10_begin_66 rfl kt kf) (fun c => ?_) (fun c => ?_)
  · have h := h.1 c
    refine Xi.up (pc' := 84) (fun _ _ k => x_aload_n dX10_begin_83 rfl rfl k) ?_
    refine Xi.up (pc' := 85) (fun _ _ k => x_iload_n dX10_begin_84 rfl rfl k) ?_
    obtain ⟨M3, hc5, hK4, h⟩ := h
    refine Xi.up (pc' := 88) (st' := []) (fun _ _ k => x_callVK (ci := 10) (as := [zi a1]) (st := []) hK k10_choosesSearch lm10_265 dX10_begin_85 rfl (by decide) (zs8 rfl) h0.1 ⟨_, _, rfl⟩ hc5 k) ?_
    refine Xi.up (pc' := 89) (fun _ _ k => x_aload_n dX10_begin_88 rfl rfl k) ?_
    refine Xi.up (pc' := 92) (fun _ _ k => x_getRK hK4 lf10_35 rfl dX10_begin_89 h0.1 h0.2.2.2.2.2.2.2.2.2.1 k) ?_
    refine Xi.up (pc' := 93) (fun _ _ k => x_aload_n dX10_begin_92 rfl rfl k) ?_
    refine Xi.up (pc' := 96) (fun _ _ k => x_getIK hK4 lf10_156 rfl dX10_begin_93 h0.1 k) ?_
    refine Xi.up (pc' := 97) (fun _ _ k => x_iconst dX10_begin_96 (show inR 0 from ⟨by decide, by decide⟩) k) ?_
    obtain ⟨g6, h⟩ := h
    refine Xi.up (pc' := 98) (fun _ _ k => x_iadd dX10_begin_97 g6 k) ?_
    refine Xi.up (pc' := 99) (fun _ _ k => x_iconst dX10_begin_98 (show inR 1 from ⟨by decide, by decide⟩) k) ?_
    obtain ⟨g7, h⟩ := h
    obtain ⟨g8, h⟩ := h
    refine Xi.up (pc' := 100) (fun _ _ k => x_iastoreK hK4 dX10_begin_99 h0.2.2.2.2.2.2.2.2.2.2.2.2.2.2.2.2.2.2.2.1 g7 g8 k) ?_
    have hK9 := KW.sI hK4 2239 (((mI M3 2230 16) + 0).toNat) 1
    refine Xi.up (pc' := 101) (fun _ _ k => x_aload_n dX10_begin_100 rfl rfl k) ?_
    refine Xi.up (pc' := 104) (fun _ _ k => x_getRK hK9 lf10_35 rfl dX10_begin_101 h0.1 h0.2.2.2.2.2.2.2.2.2.1 k) ?_
    refine Xi.up (pc' := 105) (fun _ _ k => x_aload_n dX10_begin_104 rfl rfl k) ?_
    refine Xi.up (pc' := 108) (fun _ _ k => x_getIK hK9 lf10_156 rfl dX10_begin_105 h0.1 k) ?_
    refine Xi.up (pc' := 109) (fun _ _ k => x_iconst dX10_begin_108 (show inR 1 from ⟨by decide, by decide⟩) k) ?_
    obtain ⟨g10, h⟩ := h
    refine Xi.up (pc' := 110) (fun _ _ k => x_iadd dX10_begin_109 g10 k) ?_
    refine Xi.up (pc' := 111) (fun _ _ k => x_iload_n dX10_begin_110 rfl rfl k) ?_
    obtain ⟨g11, h⟩ := h
    obtain ⟨g12, h⟩ := h
    refine Xi.up (pc' := 112) (fun _ _ k => x_iastoreK hK9 dX10_begin_111 h0.2.2.2.2.2.2.2.2.2.2.2.2.2.2.2.2.2.2.2.1 g11 g12 k) ?_
    have hK13 := KW.sI hK9 2239 (((mI (sI M3 2239 (((mI M3 2230 16) + 0).toNat) 1) 2230 16) + 1).toNat) a3
    refine Xi.up (pc' := 113) (fun _ _ k => x_aload_n dX10_begin_112 rfl rfl k) ?_
    refine Xi.up (pc' := 116) (fun _ _ k => x_getRK hK13 lf10_35 rfl dX10_begin_113 h0.1 h0.2.2.2.2.2.2.2.2.2.1 k) ?_
    refine Xi.up (pc' := 117) (fun _ _ k => x_aload_n dX10_begin_116 rfl rfl k) ?_
    refine Xi.up (pc' := 120) (fun _ _ k => x_getIK hK13 lf10_156 rfl dX10_begin_117 h0.1 k) ?_
    refine Xi.up (pc' := 121) (fun _ _ k => x_iconst dX10_begin_120 (show inR 2 from ⟨by decide, by decide⟩) k) ?_
    obtain ⟨g14, h⟩ := h
    refine Xi.up (pc' := 122) (fun _ _ k => x_iadd dX10_begin_121 g14 k) ?_
    refine Xi.up (pc' := 123) (fun _ _ k => x_aload_n dX10_begin_122 rfl rfl k) ?_
    refine Xi.up (pc' := 126) (fun _ _ k => x_getRK hK13 lf10_29 rfl dX10_begin_123 h0.1 h0.2.2.2.2.2.2.2.1 k) ?_
    refine Xi.up (pc' := 127) (fun _ _ k => x_iload_n dX10_begin_126 rfl rfl k) ?_
    obtain ⟨g15, h⟩ := h
    obtain ⟨g16, h⟩ := h
    refine Xi.up (pc' := 128) (fun _ _ k => x_ialoadK hK13 dX10_begin_127 h0.2.2.2.2.2.2.2.2.2.2.2.2.2.2.2.2.2.1 g15 g16 k) ?_
    obtain ⟨g17, h⟩ := h
    obtain ⟨g18, h⟩ := h
    refine Xi.up (pc' := 129) (fun _ _ k => x_iastoreK hK13 dX10_begin_128 h0.2.2.2.2.2.2.2.2.2.2.2.2.2.2.2.2.2.2.2.1 g17 g18 k) ?_
    have hK19 := KW.sI hK13 2239 (((mI (sI (sI M3 2239 (((mI M3 2230 16) + 0).toNat) 1) 2239 (((mI (sI M3 2239 (((mI M3 2230 16) + 0).toNat) 1) 2230 16) + 1).toNat) a3) 2230 16) + 2).toNat) (mI (sI (sI M3 2239 (((mI M3 2230 16) + 0).toNat) 1) 2239 (((mI (sI M3 2239 (((mI M3 2230 16) + 0).toNat) 1) 2230 16) + 1).toNat) a3) 2237 a2.toNat)
    refine Xi.up (pc' := 130) (fun _ _ k => x_aload_n dX10_begin_129 rfl rfl k) ?_
    refine Xi.up (pc' := 133) (fun _ _ k => x_getRK hK19 lf10_35 rfl dX10_begin_130 h0.1 h0.2.2.2.2.2.2.2.2.2.1 k) ?_
    refine Xi.up (pc' := 134) (fun _ _ k => x_aload_n dX10_begin_133 rfl rfl k) ?_
    refine Xi.up (pc' := 137) (fun _ _ k => x_getIK hK19 lf10_156 rfl dX10_begin_134 h0.1 k) ?_
    refine Xi.up (pc' := 138) (fun _ _ k => x_iconst dX10_begin_137 (show inR 3 from ⟨by decide, by decide⟩) k) ?_
    obtain ⟨g20, h⟩ := h
    refine Xi.up (pc' := 139) (fun _ _ k => x_iadd dX10_begin_138 g20 k) ?_
    refine Xi.up (pc' := 140) (fun _ _ k => x_aload_n dX10_begin_139 rfl rfl k) ?_
    refine Xi.up (pc' := 143) (fun _ _ k => x_getRK hK19 lf10_32 rfl dX10_begin_140 h0.1 h0.2.2.2.2.2.2.2.2.1 k) ?_
    refine Xi.up (pc' := 144) (fun _ _ k => x_iload_n dX10_begin_143 rfl rfl k) ?_
    obtain ⟨g21, h⟩ := h
    obtain ⟨g22, h⟩ := h
    refine Xi.up (pc' := 145) (fun _ _ k => x_ialoadK hK19 dX10_begin_144 h0.2.2.2.2.2.2.2.2.2.2.2.2.2.2.2.2.2.2.1 g21 g22 k) ?_
    obtain ⟨g23, h⟩ := h
    obtain ⟨g24, h⟩ := h
    refine Xi.up (pc' := 146) (fun _ _ k => x_iastoreK hK19 dX10_begin_145 h0.2.2.2.2.2.2.2.2.2.2.2.2.2.2.2.2.2.2.2.1 g23 g24 k) ?_
    have hK25 := KW.sI hK19 2239 (((mI (sI (sI (sI M3 2239 (((mI M3 2230 16) + 0).toNat) 1) 2239 (((mI (sI M3 2239 (((mI M3 2230 16) + 0).toNat) 1) 2230 16) + 1).toNat) a3) 2239 (((mI (sI (sI M3 2239 (((mI M3 2230 16) + 0).toNat) 1) 2239 (((mI (sI M3 2239 (((mI M3 2230 16) + 0).toNat) 1) 2230 16) + 1).toNat) a3) 2230 16) + 2).toNat) (mI (sI (sI M3 2239 (((mI M3 2230 16) + 0).toNat) 1) 2239 (((mI (sI M3 2239 (((mI M3 2230 16) + 0).toNat) 1) 2230 16) + 1).toNat) a3) 2237 a2.toNat)) 2230 16) + 3).toNat) (mI (sI (sI (sI M3 2239 (((mI M3 2230 16) + 0).toNat) 1) 2239 (((mI (sI M3 2239 (((mI M3 2230 16) + 0).toNat) 1) 2230 16) + 1).toNat) a3) 2239 (((mI (sI (sI M3 2239 (((mI M3 2230 16) + 0).toNat) 1) 2239 (((mI (sI M3 2239 (((mI M3 2230 16) + 0).toNat) 1) 2230 16) + 1).toNat) a3) 2230 16) + 2).toNat) (mI (sI (sI M3 2239 (((mI M3 2230 16) + 0).toNat) 1) 2239 (((mI (sI M3 2239 (((mI M3 2230 16) + 0).toNat) 1) 2230 16) + 1).toNat) a3) 2237 a2.toNat)) 2238 a2.toNat)
    refine Xi.up (pc' := 147) (fun _ _ k => x_aload_n dX10_begin_146 rfl rfl k) ?_
    obtain ⟨M26, hc28, hK27, h⟩ := h
    refine Xi.up (pc' := 150) (st' := []) (fun _ _ k => x_callVK (ci := 10) (as := []) (st := []) hK25 k10_startsAnew lm10_242 dX10_begin_147 rfl (by decide) (zs8 rfl) h0.1 ⟨_, _, rfl⟩ hc28 k) ?_
    refine Xi.up (pc' := 151) (fun _ _ k => x_iconst dX10_begin_150 (show inR 1 from ⟨by decide, by decide⟩) k) ?_
    exact Xi.ret ⟨dX10_begin_151, Or.inl rfl⟩ h
  · have h := h.2 c
    refine Xi.up (pc' := 70) (fun _ _ k => x_aload_n dX10_begin_69 rfl rfl k) ?_
    refine Xi.up (pc' := 73) (fun _ _ k => x_getRK hK lf10_35 rfl dX10_begin_70 h0.1 h0.2.2.2.2.2.2.2.2.2.1 k) ?_
    refine Xi.up (pc' := 75) (fun _ _ k => x_iload dX10_begin_73 rfl k) ?_
    refine Xi.up (pc' := 76) (fun _ _ k => x_iconst dX10_begin_75 (show inR 0 from ⟨by decide, by decide⟩) k) ?_
    obtain ⟨g29, h⟩ := h
    obtain ⟨g30, h⟩ := h
    refine Xi.up (pc' := 77) (fun _ _ k => x_iastoreK hK dX10_begin_76 h0.2.2.2.2.2.2.2.2.2.2.2.2.2.2.2.2.2.2.2.1 g29 g30 k) ?_
    have hK31 := KW.sI hK 2239 l4.toNat 0
    obtain ⟨g32, h⟩ := h
    refine Xi.up (pc' := 80) (L' := [some (zr 2230), some (zi a1), some (zi a2), some (zi a3), some (zi (l4 + 1))]) (fun _ _ k => x_iinc dX10_begin_77 rfl g32 (by decide) rfl k) ?_
    refine Xi.up (pc' := 56) (fun _ _ k => x_goto dX10_begin_80 rfl k) ?_
    exact h
set_option maxHeartbeats 4000000 in
set_option maxRecDepth 20000 in
theorem B10_go {d : Nat} {K M : ZMem} {Q : Int → ZMem → Prop} (a1 : Int) (a2 : Int) (hK : KW K M) (h0 : ModelAt K 2230) (h : Ci d q10_isSearch [zi a1] M (fun x2 M1 => KW K M1 ∧ ((x2 = 0 → (Q (-2001) M1)) ∧ (¬ (x2 = 0) → ((1 ≤ a2 ∧ a2 ≤ 500 → ((inR (3849 * a1)) ∧ (inR ((3849 * a1) + 0)) ∧ (0 ≤ ((3849 * a1) + 0)) ∧ (((3849 * a1) + 0) < 19245) ∧ (((mI M1 2239 ((3849 * a1) + 0).toNat) = 1 → (Cv d q10_choosesSearch [zr 2230, zi a1] M1 (fun M9 => KW K M9 ∧ Ci d q10_goes [zr 2230] (sI M9 2230 18 a2) (fun x14 M13 => KW K M13 ∧ Q x14 M13)))) ∧ (¬ ((mI M1 2239 ((3849 * a1) + 0).toNat) = 1) → (Q (-2003) M1))))) ∧ (¬ (1 ≤ a2 ∧ a2 ≤ 500) → (Q (-2001) M1))))))) : Ci (d + 1) q10_go [zr 2230, zi a1, zi a2] M Q := by
  refine Ci.of rfl rfl (Nat.le_of_ble_eq_true rfl) (fun w hw x e => by subst e; simp at hw) (L := [some (zr 2230), some (zi a1), some (zi a2)]) rfl ?_
  refine Xi.up (pc' := 1) (fun _ _ k => x_iload_n dX10_go_0 rfl rfl k) ?_
  obtain ⟨x2, M1, hc4, hK3, h⟩ := h
  refine Xi.up (pc' := 4) (st' := [zi x2]) (fun _ _ k => x_callS (as := [zi a1]) (st := []) k10_isSearch lm10_260 dX10_go_1 rfl (by decide) (zs8 rfl) hc4 k) ?_
  refine Xi.br (tgt := 19) (pc' := 7) (x2 = 0) (fun _ _ kt kf => x_if_eq dX10_go_4 rfl kt kf) (fun c => ?_) (fun c => ?_)
  · have h := h.1 c
    refine Xi.up (pc' := 22) (fun _ _ k => x_sipush dX10_go_19 (show inR (-2001) from ⟨by decide, by decide⟩) (by decide) k) ?_
    exact Xi.ret ⟨dX10_go_22, Or.inl rfl⟩ h
  · have h := h.2 c
    refine Xi.up (pc' := 8) (fun _ _ k => x_iload_n dX10_go_7 rfl rfl k) ?_
    refine Xi.up (pc' := 9) (fun _ _ k => x_i2l dX10_go_8 k) ?_
    refine Xi.up (pc' := 10) (fun _ _ k => x_lconst (x := 1) dX10_go_9 ⟨by decide, by decide⟩ rfl k) ?_
    refine Xi.up (pc' := 13) (fun _ _ k => x_ldc2 ll10_268 dX10_go_10 (show inL 500 from ⟨by decide, by decide⟩) rfl k) ?_
    by_cases c : 1 ≤ a2 ∧ a2 ≤ 500
    · have h := h.1 c
      refine Xi.up (pc' := 16) (st' := [zi 1]) (fun _ _ k => x_in1 (st := []) lm10_43 dX10_go_13 (zs8 rfl) c k) ?_
      refine Xi.br (tgt := 23) (pc' := 19) ((1 : Int) ≠ 0) (fun _ _ kt kf => x_if_ne dX10_go_16 rfl kt kf) (fun _ => ?_) (fun c => absurd (by decide) c)
      refine Xi.up (pc' := 24) (fun _ _ k => x_aload_n dX10_go_23 rfl rfl k) ?_
      refine Xi.up (pc' := 27) (fun _ _ k => x_getRK hK3 lf10_35 rfl dX10_go_24 h0.1 h0.2.2.2.2.2.2.2.2.2.1 k) ?_
      refine Xi.up (pc' := 30) (fun _ _ k => x_sipush dX10_go_27 (show inR 3849 from ⟨by decide, by decide⟩) (by decide) k) ?_
      refine Xi.up (pc' := 31) (fun _ _ k => x_iload_n dX10_go_30 rfl rfl k) ?_
      obtain ⟨g5, h⟩ := h
      refine Xi.up (pc' := 32) (fun _ _ k => x_imul dX10_go_31 g5 k) ?_
      refine Xi.up (pc' := 33) (fun _ _ k => x_iconst dX10_go_32 (show inR 0 from ⟨by decide, by decide⟩) k) ?_
      obtain ⟨g6, h⟩ := h
      refine Xi.up (pc' := 34) (fun _ _ k => x_iadd dX10_go_33 g6 k) ?_
      obtain ⟨g7, h⟩ := h
      obtain ⟨g8, h⟩ := h
      refine Xi.up (pc' := 35) (fun _ _ k => x_ialoadK hK3 dX10_go_34 h0.2.2.2.2.2.2.2.2.2.2.2.2.2.2.2.2.2.2.2.1 g7 g8 k) ?_
      refine Xi.up (pc' := 36) (fun _ _ k => x_iconst dX10_go_35 (show inR 1 from ⟨by decide, by decide⟩) k) ?_
      refine Xi.br (tgt := 43) (pc' := 39) ((mI M1 2239 ((3849 * a1) + 0).toNat) = 1) (fun _ _ kt kf => x_icmp_eq dX10_go_36 rfl kt kf) (fun c => ?_) (fun c => ?_)
      · have h := h.1 c
        refine Xi.up (pc' := 44) (fun _ _ k => x_aload_n dX10_go_43 rfl rfl k) ?_
        refine Xi.up (pc' := 45) (fun _ _ k => x_iload_n dX10_go_44 rfl rfl k) ?_
        obtain ⟨M9, hc11, hK10, h⟩ := h
        refine Xi.up (pc' := 48) (st' := []) (fun _ _ k => x_callVK (ci := 10) (as := [zi a1]) (st := []) hK3 k10_choosesSearch lm10_265 dX10_go_45 rfl (by decide) (zs8 rfl) h0.1 ⟨_, _, rfl⟩ hc11 k) ?_
        refine Xi.up (pc' := 49) (fun _ _ k => x_aload_n dX10_go_48 rfl rfl k) ?_
        refine Xi.up (pc' := 50) (fun _ _ k => x_iload_n dX10_go_49 rfl rfl k) ?_
        refine Xi.up (pc' := 53) (fun _ _ k => x_putIK hK10 lf10_185 rfl rfl (Or.inl rfl) dX10_go_50 h0.1 k) ?_
        have hK12 := KW.sI hK10 2230 18 a2
        refine Xi.up (pc' := 54) (fun _ _ k => x_aload_n dX10_go_53 rfl rfl k) ?_
        obtain ⟨x14, M13, hc16, hK15, h⟩ := h
        refine Xi.up (pc' := 57) (st' := [zi x14]) (fun _ _ k => x_callVK (ci := 10) (as := []) (st := []) hK12 k10_goes lm10_270 dX10_go_54 rfl (by decide) (zs8 rfl) h0.1 ⟨_, _, rfl⟩ hc16 k) ?_
        exact Xi.ret ⟨dX10_go_57, Or.inl rfl⟩ h
      · have h := h.2 c
        refine Xi.up (pc' := 42) (fun _ _ k => x_sipush dX10_go_39 (show inR (-2003) from ⟨by decide, by decide⟩) (by decide) k) ?_
        exact Xi.ret ⟨dX10_go_42, Or.inl rfl⟩ h
    · have h := h.2 c
      refine Xi.up (pc' := 16) (st' := [zi 0]) (fun _ _ k => x_in0 (st := []) lm10_43 dX10_go_13 (zs8 rfl) c k) ?_
      refine Xi.br (tgt := 23) (pc' := 19) ((0 : Int) ≠ 0) (fun _ _ kt kf => x_if_ne dX10_go_16 rfl kt kf) (fun c => absurd c (by decide)) (fun _ => ?_)
      refine Xi.up (pc' := 22) (fun _ _ k => x_sipush dX10_go_19 (show inR (-2001) from ⟨by decide, by decide⟩) (by decide) k) ?_
      exact Xi.ret ⟨dX10_go_22, Or.inl rfl⟩ h
set_option maxHeartbeats 4000000 in
set_option maxRecDepth 20000 in
theorem B10_goesAll {d : Nat} {K M : ZMem} {Q : Int → ZMem → Prop} (a1 : Int) (hK : KW K M) (h0 : ModelAt K 2230) (h : (inR ((mI M 2230 16) + 15)) ∧ (0 ≤ ((mI M 2230 16) + 15)) ∧ (((mI M 2230 16) + 15) < 19245) ∧ Xi (d + 1) q10_goesAll 20 [some (zr 2230), none, some (zi (mI M 2239 ((mI M 2230 16) + 15).toNat)), some (zi 1)] [] (sI M 2230 18 a1) Q) : Ci (d + 1) q10_goesAll [zr 2230, zi a1] M Q := by
  refine Ci.of rfl rfl (Nat.le_of_ble_eq_true rfl) (fun w hw x e => by subst e; simp at hw) (L := [some (zr 2230), some (zi a1), none, none]) rfl ?_
  refine Xi.up (pc' := 1) (fun _ _ k => x_aload_n dX10_goesAll_0 rfl rfl k) ?_
  refine Xi.up (pc' := 4) (fun _ _ k => x_getRK hK lf10_35 rfl dX10_goesAll_1 h0.1 h0.2.2.2.2.2.2.2.2.2.1 k) ?_
  refine Xi.up (pc' := 5) (fun _ _ k => x_aload_n dX10_goesAll_4 rfl rfl k) ?_
  refine Xi.up (pc' := 8) (fun _ _ k => x_getIK hK lf10_156 rfl dX10_goesAll_5 h0.1 k) ?_
  refine Xi.up (pc' := 10) (fun _ _ k => x_bipush dX10_goesAll_8 (show inR 15 from ⟨by decide, by decide⟩) (by decide) k) ?_
  obtain ⟨g1, h⟩ := h
  refine Xi.up (pc' := 11) (fun _ _ k => x_iadd dX10_goesAll_10 g1 k) ?_
  obtain ⟨g2, h⟩ := h
  obtain ⟨g3, h⟩ := h
  refine Xi.up (pc' := 12) (fun _ _ k => x_ialoadK hK dX10_goesAll_11 h0.2.2.2.2.2.2.2.2.2.2.2.2.2.2.2.2.2.2.2.1 g2 g3 k) ?_
  refine Xi.up (pc' := 13) (L' := [some (zr 2230), some (zi a1), some (zi (mI M 2239 ((mI M 2230 16) + 15).toNat)), none]) (fun _ _ k => x_istore_n dX10_goesAll_12 rfl (by decide) rfl k) ?_
  refine Xi.up (pc' := 14) (fun _ _ k => x_aload_n dX10_goesAll_13 rfl rfl k) ?_
  refine Xi.up (pc' := 15) (fun _ _ k => x_iload_n dX10_goesAll_14 rfl rfl k) ?_
  refine Xi.up (pc' := 18) (fun _ _ k => x_putIK hK lf10_185 rfl rfl (Or.inl rfl) dX10_goesAll_15 h0.1 k) ?_
  have hK4 := KW.sI hK 2230 18 a1
  refine Xi.up (pc' := 19) (fun _ _ k => x_iconst dX10_goesAll_18 (show inR 1 from ⟨by decide, by decide⟩) k) ?_
  refine Xi.up (pc' := 20) (L' := [some (zr 2230), some (zi a1), some (zi (mI M 2239 ((mI M 2230 16) + 15).toNat)), some (zi 1)]) (fun _ _ k => x_istore_n dX10_goesAll_19 rfl (by decide) rfl k) ?_
  exact Xi.up (fun _ _ k => x_less (L' := [some (zr 2230), none, some (zi (mI M 2239 ((mI M 2230 16) + 15).toNat)), some (zi 1)]) (⟨rfl, ⟨rfl, ⟨rfl, trivial⟩⟩⟩) k) h
set_option maxHeartbeats 4000000 in
set_option maxRecDepth 20000 in
theorem B10_goesAll_20 {d : Nat} {K M : ZMem} {Q : Int → ZMem → Prop} (l2 : Int) (l3 : Int) (hK : KW K M) (h0 : ModelAt K 2230) (h : ((l3 ≠ 1 → ((inR ((mI M 2230 16) + 15)) ∧ (0 ≤ ((mI M 2230 16) + 15)) ∧ (((mI M 2230 16) + 15) < 19245) ∧ (inR ((mI M 2239 ((mI M 2230 16) + 15).toNat) - l2)) ∧ Q ((mI M 2239 ((mI M 2230 16) + 15).toNat) - l2) M)) ∧ (¬ (l3 ≠ 1) → (Ci d q10_goes [zr 2230] M (fun x6 M5 => KW K M5 ∧ Xi (d + 1) q10_goesAll 20 [some (zr 2230), none, some (zi l2), some (zi x6)] [] M5 Q))))) : Xi (d + 1) q10_goesAll 20 [some (zr 2230), none, some (zi l2), some (zi l3)] [] M Q := by
  refine Xi.up (pc' := 21) (fun _ _ k => x_iload_n dX10_goesAll_20 rfl rfl k) ?_
  refine Xi.up (pc' := 22) (fun _ _ k => x_iconst dX10_goesAll_21 (show inR 1 from ⟨by decide, by decide⟩) k) ?_
  refine Xi.br (tgt := 33) (pc' := 25) (l3 ≠ 1) (fun _ _ kt kf => x_icmp_ne dX10_goesAll_22 rfl kt kf) (fun c => ?_) (fun c => ?_)
  · have h := h.1 c
    refine Xi.up (pc' := 34) (fun _ _ k => x_aload_n dX10_goesAll_33 rfl rfl k) ?_
    refine Xi.up (pc' := 37) (fun _ _ k => x_getRK hK lf10_35 rfl dX10_goesAll_34 h0.1 h0.2.2.2.2.2.2.2.2.2.1 k) ?_
    refine Xi.up (pc' := 38) (fun _ _ k => x_aload_n dX10_goesAll_37 rfl rfl k) ?_
    refine Xi.up (pc' := 41) (fun _ _ k => x_getIK hK lf10_156 rfl dX10_goesAll_38 h0.1 k) ?_
    refine Xi.up (pc' := 43) (fun _ _ k => x_bipush dX10_goesAll_41 (show inR 15 from ⟨by decide, by decide⟩) (by decide) k) ?_
    obtain ⟨g1, h⟩ := h
    refine Xi.up (pc' := 44) (fun _ _ k => x_iadd dX10_goesAll_43 g1 k) ?_
    obtain ⟨g2, h⟩ := h
    obtain ⟨g3, h⟩ := h
    refine Xi.up (pc' := 45) (fun _ _ k => x_ialoadK hK dX10_goesAll_44 h0.2.2.2.2.2.2.2.2.2.2.2.2.2.2.2.2.2.2.2.1 g2 g3 k) ?_
    refine Xi.up (pc' := 46) (fun _ _ k => x_iload_n dX10_goesAll_45 rfl rfl k) ?_
    obtain ⟨g4, h⟩ := h
    refine Xi.up (pc' := 47) (fun _ _ k => x_isub dX10_goesAll_46 g4 k) ?_
    exact Xi.ret ⟨dX10_goesAll_47, Or.inl rfl⟩ h
  · have h := h.2 c
    refine Xi.up (pc' := 26) (fun _ _ k => x_aload_n dX10_goesAll_25 rfl rfl k) ?_
    obtain ⟨x6, M5, hc8, hK7, h⟩ := h
    refine Xi.up (pc' := 29) (st' := [zi x6]) (fun _ _ k => x_callVK (ci := 10) (as := []) (st := []) hK k10_goes lm10_270 dX10_goesAll_26 rfl (by decide) (zs8 rfl) h0.1 ⟨_, _, rfl⟩ hc8 k) ?_
    refine Xi.up (pc' := 30) (L' := [some (zr 2230), none, some (zi l2), some (zi x6)]) (fun _ _ k => x_istore_n dX10_goesAll_29 rfl (by decide) rfl k) ?_
    refine Xi.up (pc' := 20) (fun _ _ k => x_goto dX10_goesAll_30 rfl k) ?_
    exact h
set_option maxHeartbeats 4000000 in
set_option maxRecDepth 20000 in
theorem B10_all {d : Nat} {K M : ZMem} {Q : Int → ZMem → Prop} (a1 : Int) (a2 : Int) (hK : KW K M) (h0 : ModelAt K 2230) (h : Ci d q10_isSearch [zi a1] M (fun x2 M1 => KW K M1 ∧ ((x2 = 0 → (Q (-2001) M1)) ∧ (¬ (x2 = 0) → ((1 ≤ a2 ∧ a2 ≤ 2000 → ((inR (3849 * a1)) ∧ (inR ((3849 * a1) + 0)) ∧ (0 ≤ ((3849 * a1) + 0)) ∧ (((3849 * a1) + 0) < 19245) ∧ (((mI M1 2239 ((3849 * a1) + 0).toNat) = 1 → (Cv d q10_choosesSearch [zr 2230, zi a1] M1 (fun M9 => KW K M9 ∧ Ci d q10_goesAll [zr 2230, zi a2] M9 (fun x13 M12 => KW K M12 ∧ Q x13 M12)))) ∧ (¬ ((mI M1 2239 ((3849 * a1) + 0).toNat) = 1) → (Q (-2003) M1))))) ∧ (¬ (1 ≤ a2 ∧ a2 ≤ 2000) → (Q (-2001) M1))))))) : Ci (d + 1) q10_all [zr 2230, zi a1, zi a2] M Q := by
  refine Ci.of rfl rfl (Nat.le_of_ble_eq_true rfl) (fun w hw x e => by subst e; simp at hw) (L := [some (zr 2230), some (zi a1), some (zi a2)]) rfl ?_
  refine Xi.up (pc' := 1) (fun _ _ k => x_iload_n dX10_all_0 rfl rfl k) ?_
  obtain ⟨x2, M1, hc4, hK3, h⟩ := h
  refine Xi.up (pc' := 4) (st' := [zi x2]) (fun _ _ k => x_callS (as := [zi a1]) (st := []) k10_isSearch lm10_260 dX10_all_1 rfl (by decide) (zs8 rfl) hc4 k) ?_
  refine Xi.br (tgt := 19) (pc' := 7) (x2 = 0) (fun _ _ kt kf => x_if_eq dX10_all_4 rfl kt kf) (fun c => ?_) (fun c => ?_)
  · have h := h.1 c
    refine Xi.up (pc' := 22) (fun _ _ k => x_sipush dX10_all_19 (show inR (-2001) from ⟨by decide, by decide⟩) (by decide) k) ?_
    exact Xi.ret ⟨dX10_all_22, Or.inl rfl⟩ h
  · have h := h.2 c
    refine Xi.up (pc' := 8) (fun _ _ k => x_iload_n dX10_all_7 rfl rfl k) ?_
    refine Xi.up (pc' := 9) (fun _ _ k => x_i2l dX10_all_8 k) ?_
    refine Xi.up (pc' := 10) (fun _ _ k => x_lconst (x := 1) dX10_all_9 ⟨by decide, by decide⟩ rfl k) ?_
    refine Xi.up (pc' := 13) (fun _ _ k => x_ldc2 ll10_273 dX10_all_10 (show inL 2000 from ⟨by decide, by decide⟩) rfl k) ?_
    by_cases c : 1 ≤ a2 ∧ a2 ≤ 2000
    · have h := h.1 c
      refine Xi.up (pc' := 16) (st' := [zi 1]) (fun _ _ k => x_in1 (st := []) lm10_43 dX10_all_13 (zs8 rfl) c k) ?_
      refine Xi.br (tgt := 23) (pc' := 19) ((1 : Int) ≠ 0) (fun _ _ kt kf => x_if_ne dX10_all_16 rfl kt kf) (fun _ => ?_) (fun c => absurd (by decide) c)
      refine Xi.up (pc' := 24) (fun _ _ k => x_aload_n dX10_all_23 rfl rfl k) ?_
      refine Xi.up (pc' := 27) (fun _ _ k => x_getRK hK3 lf10_35 rfl dX10_all_24 h0.1 h0.2.2.2.2.2.2.2.2.2.1 k) ?_
      refine Xi.up (pc' := 30) (fun _ _ k => x_sipush dX10_all_27 (show inR 3849 from ⟨by decide, by decide⟩) (by decide) k) ?_
      refine Xi.up (pc' := 31) (fun _ _ k => x_iload_n dX10_all_30 rfl rfl k) ?_
      obtain ⟨g5, h⟩ := h
      refine Xi.up (pc' := 32) (fun _ _ k => x_imul dX10_all_31 g5 k) ?_
      refine Xi.up (pc' := 33) (fun _ _ k => x_iconst dX10_all_32 (show inR 0 from ⟨by decide, by decide⟩) k) ?_
      obtain ⟨g6, h⟩ := h
      refine Xi.up (pc' := 34) (fun _ _ k => x_iadd dX10_all_33 g6 k) ?_
      obtain ⟨g7, h⟩ := h
      obtain ⟨g8, h⟩ := h
      refine Xi.up (pc' := 35) (fun _ _ k => x_ialoadK hK3 dX10_all_34 h0.2.2.2.2.2.2.2.2.2.2.2.2.2.2.2.2.2.2.2.1 g7 g8 k) ?_
      refine Xi.up (pc' := 36) (fun _ _ k => x_iconst dX10_all_35 (show inR 1 from ⟨by decide, by decide⟩) k) ?_
      refine Xi.br (tgt := 43) (pc' := 39) ((mI M1 2239 ((3849 * a1) + 0).toNat) = 1) (fun _ _ kt kf => x_icmp_eq dX10_all_36 rfl kt kf) (fun c => ?_) (fun c => ?_)
      · have h := h.1 c
        refine Xi.up (pc' := 44) (fun _ _ k => x_aload_n dX10_all_43 rfl rfl k) ?_
        refine Xi.up (pc' := 45) (fun _ _ k => x_iload_n dX10_all_44 rfl rfl k) ?_
        obtain ⟨M9, hc11, hK10, h⟩ := h
        refine Xi.up (pc' := 48) (st' := []) (fun _ _ k => x_callVK (ci := 10) (as := [zi a1]) (st := []) hK3 k10_choosesSearch lm10_265 dX10_all_45 rfl (by decide) (zs8 rfl) h0.1 ⟨_, _, rfl⟩ hc11 k) ?_
        refine Xi.up (pc' := 49) (fun _ _ k => x_aload_n dX10_all_48 rfl rfl k) ?_
        refine Xi.up (pc' := 50) (fun _ _ k => x_iload_n dX10_all_49 rfl rfl k) ?_
        obtain ⟨x13, M12, hc15, hK14, h⟩ := h
        refine Xi.up (pc' := 53) (st' := [zi x13]) (fun _ _ k => x_callVK (ci := 10) (as := [zi a2]) (st := []) hK10 k10_goesAll lm10_275 dX10_all_50 rfl (by decide) (zs8 rfl) h0.1 ⟨_, _, rfl⟩ hc15 k) ?_
        exact Xi.ret ⟨dX10_all_53, Or.inl rfl⟩ h
      · have h := h.2 c
        refine Xi.up (pc' := 42) (fun _ _ k => x_sipush dX10_all_39 (show inR (-2003) from ⟨by decide, by decide⟩) (by decide) k) ?_
        exact Xi.ret ⟨dX10_all_42, Or.inl rfl⟩ h
    · have h := h.2 c
      refine Xi.up (pc' := 16) (st' := [zi 0]) (fun _ _ k => x_in0 (st := []) lm10_43 dX10_all_13 (zs8 rfl) c k) ?_
      refine Xi.br (tgt := 23) (pc' := 19) ((0 : Int) ≠ 0) (fun _ _ kt kf => x_if_ne dX10_all_16 rfl kt kf) (fun c => absurd c (by decide)) (fun _ => ?_)
      refine Xi.up (pc' := 22) (fun _ _ k => x_sipush dX10_all_19 (show inR (-2001) from ⟨by decide, by decide⟩) (by decide) k) ?_
      exact Xi.ret ⟨dX10_all_22, Or.inl rfl⟩ h
set_option maxHeartbeats 4000000 in
set_option maxRecDepth 20000 in
theorem B10_of {d : Nat} {K M : ZMem} {Q : Int → ZMem → Prop} (a1 : Int) (a2 : Int) (hK : KW K M) (h0 : ModelAt K 2230) (h : Ci d q10_isSearch [zi a1] M (fun x2 M1 => KW K M1 ∧ ((x2 = 0 → (Q (-2001) M1)) ∧ (¬ (x2 = 0) → ((0 ≤ a2 ∧ a2 ≤ 9 → ((a2 ≠ 0 → (Ci d q10_isNone [zr 2230, zi a1] M1 (fun x6 M5 => KW K M5 ∧ ((x6 = 0 → ((inR (3849 * a1)) ∧ ((a2 = 1 → ((inR ((mI (sI M5 2230 16 (3849 * a1)) 2230 16) + 15)) ∧ (0 ≤ ((mI (sI M5 2230 16 (3849 * a1)) 2230 16) + 15)) ∧ (((mI (sI M5 2230 16 (3849 * a1)) 2230 16) + 15) < 19245) ∧ Q (mI (sI M5 2230 16 (3849 * a1)) 2239 ((mI (sI M5 2230 16 (3849 * a1)) 2230 16) + 15).toNat) (sI M5 2230 16 (3849 * a1)))) ∧ (a2 = 2 → ((inR ((mI (sI M5 2230 16 (3849 * a1)) 2230 16) + 4)) ∧ (0 ≤ ((mI (sI M5 2230 16 (3849 * a1)) 2230 16) + 4)) ∧ (((mI (sI M5 2230 16 (3849 * a1)) 2230 16) + 4) < 19245) ∧ Q (mI (sI M5 2230 16 (3849 * a1)) 2239 ((mI (sI M5 2230 16 (3849 * a1)) 2230 16) + 4).toNat) (sI M5 2230 16 (3849 * a1)))) ∧ (a2 = 3 → (Ci d q10_openMany [zr 2230] (sI M5 2230 16 (3849 * a1)) (fun x18 M17 => KW K M17 ∧ Q x18 M17))) ∧ (a2 = 4 → ((inR ((mI (sI M5 2230 16 (3849 * a1)) 2230 16) + 11)) ∧ (0 ≤ ((mI (sI M5 2230 16 (3849 * a1)) 2230 16) + 11)) ∧ (((mI (sI M5 2230 16 (3849 * a1)) 2230 16) + 11) < 19245) ∧ Q (mI (sI M5 2230 16 (3849 * a1)) 2239 ((mI (sI M5 2230 16 (3849 * a1)) 2230 16) + 11).toNat) (sI M5 2230 16 (3849 * a1)))) ∧ (a2 = 5 → ((inR ((mI (sI M5 2230 16 (3849 * a1)) 2230 16) + 5)) ∧ (0 ≤ ((mI (sI M5 2230 16 (3849 * a1)) 2230 16) + 5)) ∧ (((mI (sI M5 2230 16 (3849 * a1)) 2230 16) + 5) < 19245) ∧ Q (mI (sI M5 2230 16 (3849 * a1)) 2239 ((mI (sI M5 2230 16 (3849 * a1)) 2230 16) + 5).toNat) (sI M5 2230 16 (3849 * a1)))) ∧ (a2 = 6 → ((inR ((mI (sI M5 2230 16 (3849 * a1)) 2230 16) + 6)) ∧ (0 ≤ ((mI (sI M5 2230 16 (3849 * a1)) 2230 16) + 6)) ∧ (((mI (sI M5 2230 16 (3849 * a1)) 2230 16) + 6) < 19245) ∧ Q (mI (sI M5 2230 16 (3849 * a1)) 2239 ((mI (sI M5 2230 16 (3849 * a1)) 2230 16) + 6).toNat) (sI M5 2230 16 (3849 * a1)))) ∧ (a2 = 7 → ((inR ((mI (sI M5 2230 16 (3849 * a1)) 2230 16) + 7)) ∧ (0 ≤ ((mI (sI M5 2230 16 (3849 * a1)) 2230 16) + 7)) ∧ (((mI (sI M5 2230 16 (3849 * a1)) 2230 16) + 7) < 19245) ∧ Q (mI (sI M5 2230 16 (3849 * a1)) 2239 ((mI (sI M5 2230 16 (3849 * a1)) 2230 16) + 7).toNat) (sI M5 2230 16 (3849 * a1)))) ∧ (a2 = 8 → ((inR ((mI (sI M5 2230 16 (3849 * a1)) 2230 16) + 8)) ∧ (0 ≤ ((mI (sI M5 2230 16 (3849 * a1)) 2230 16) + 8)) ∧ (((mI (sI M5 2230 16 (3849 * a1)) 2230 16) + 8) < 19245) ∧ Q (mI (sI M5 2230 16 (3849 * a1)) 2239 ((mI (sI M5 2230 16 (3849 * a1)) 2230 16) + 8).toNat) (sI M5 2230 16 (3849 * a1)))) ∧ (a2 < 1 ∨ 8 < a2 → ((inR ((mI (sI M5 2230 16 (3849 * a1)) 2230 16) + 1)) ∧ (0 ≤ ((mI (sI M5 2230 16 (3849 * a1)) 2230 16) + 1)) ∧ (((mI (sI M5 2230 16 (3849 * a1)) 2230 16) + 1) < 19245) ∧ (((mI (sI M5 2230 16 (3849 * a1)) 2239 ((mI (sI M5 2230 16 (3849 * a1)) 2230 16) + 1).toNat) ≠ 5 → (Q (-2002) (sI M5 2230 16 (3849 * a1)))) ∧ (¬ ((mI (sI M5 2230 16 (3849 * a1)) 2239 ((mI (sI M5 2230 16 (3849 * a1)) 2230 16) + 1).toNat) ≠ 5) → ((inR ((mI (sI M5 2230 16 (3849 * a1)) 2230 16) + 9)) ∧ (0 ≤ ((mI (sI M5 2230 16 (3849 * a1)) 2230 16) + 9)) ∧ (((mI (sI M5 2230 16 (3849 * a1)) 2230 16) + 9) < 19245) ∧ Q (mI (sI M5 2230 16 (3849 * a1)) 2239 ((mI (sI M5 2230 16 (3849 * a1)) 2230 16) + 9).toNat) (sI M5 2230 16 (3849 * a1)))))))))) ∧ (¬ (x6 = 0) → (Q (-2003) M5)))))) ∧ (¬ (a2 ≠ 0) → ((inR (3849 * a1)) ∧ (inR ((3849 * a1) + 0)) ∧ (0 ≤ ((3849 * a1) + 0)) ∧ (((3849 * a1) + 0) < 19245) ∧ Q (mI M1 2239 ((3849 * a1) + 0).toNat) M1)))) ∧ (¬ (0 ≤ a2 ∧ a2 ≤ 9) → (Q (-2001) M1))))))) : Ci (d + 1) q10_of [zr 2230, zi a1, zi a2] M Q := by
  refine Ci.of rfl rfl (Nat.le_of_ble_eq_true rfl) (fun w hw x e => by subst e; simp at hw) (L := [some (zr 2230), some (zi a1), some (zi a2)]) rfl ?_
  refine Xi.up (pc' := 1) (fun _ _ k => x_iload_n dX10_of_0 rfl rfl k) ?_
  obtain ⟨x2, M1, hc4, hK3, h⟩ := h
  refine Xi.up (pc' := 4) (st' := [zi x2]) (fun _ _ k => x_callS (as := [zi a1]) (st := []) k10_isSearch lm10_260 dX10_of_1 rfl (by decide) (zs8 rfl) hc4 k) ?_
  refine Xi.br (tgt := 19) (pc' := 7) (x2 = 0) (fun _ _ kt kf => x_if_eq dX10_of_4 rfl kt kf) (fun c => ?_) (fun c => ?_)
  · have h := h.1 c
    refine Xi.up (pc' := 22) (fun _ _ k => x_sipush dX10_of_19 (show inR (-2001) from ⟨by decide, by decide⟩) (by decide) k) ?_
    exact Xi.ret ⟨dX10_of_22, Or.inl rfl⟩ h
  · have h := h.2 c
    refine Xi.up (pc' := 8) (fun _ _ k => x_iload_n dX10_of_7 rfl rfl k) ?_
    refine Xi.up (pc' := 9) (fun _ _ k => x_i2l dX10_of_8 k) ?_
    refine Xi.up (pc' := 10) (fun _ _ k => x_lconst (x := 0) dX10_of_9 ⟨by decide, by decide⟩ rfl k) ?_
    refine Xi.up (pc' := 13) (fun _ _ k => x_ldc2 ll10_278 dX10_of_10 (show inL 9 from ⟨by decide, by decide⟩) rfl k) ?_
    by_cases c : 0 ≤ a2 ∧ a2 ≤ 9
    · have h := h.1 c
      refine Xi.up (pc' := 16) (st' := [zi 1]) (fun _ _ k => x_in1 (st := []) lm10_43 dX10_of_13 (zs8 rfl) c k) ?_
      refine Xi.br (tgt := 23) (pc' := 19) ((1 : Int) ≠ 0) (fun _ _ kt kf => x_if_ne dX10_of_16 rfl kt kf) (fun _ => ?_) (fun c => absurd (by decide) c)
      refine Xi.up (pc' := 24) (fun _ _ k => x_iload_n dX10_of_23 rfl rfl k) ?_
      refine Xi.br (tgt := 40) (pc' := 27) (a2 ≠ 0) (fun _ _ kt kf => x_if_ne dX10_of_24 rfl kt kf) (fun c => ?_) (fun c => ?_)
      · have h := h.1 c
        refine Xi.up (pc' := 41) (fun _ _ k => x_aload_n dX10_of_40 rfl rfl k) ?_
        refine Xi.up (pc' := 42) (fun _ _ k => x_iload_n dX10_of_41 rfl rfl k) ?_
        obtain ⟨x6, M5, hc8, hK7, h⟩ := h
        refine Xi.up (pc' := 45) (st' := [zi x6]) (fun _ _ k => x_callVK (ci := 10) (as := [zi a1]) (st := []) hK3 k10_isNone lm10_280 dX10_of_42 rfl (by decide) (zs8 rfl) h0.1 ⟨_, _, rfl⟩ hc8 k) ?_
        refine Xi.br (tgt := 52) (pc' := 48) (x6 = 0) (fun _ _ kt kf => x_if_eq dX10_of_45 rfl kt kf) (fun c => ?_) (fun c => ?_)
        · have h := h.1 c
          refine Xi.up (pc' := 53) (fun _ _ k => x_aload_n dX10_of_52 rfl rfl k) ?_
          refine Xi.up (pc' := 56) (fun _ _ k => x_sipush dX10_of_53 (show inR 3849 from ⟨by decide, by decide⟩) (by decide) k) ?_
          refine Xi.up (pc' := 57) (fun _ _ k => x_iload_n dX10_of_56 rfl rfl k) ?_
          obtain ⟨g9, h⟩ := h
          refine Xi.up (pc' := 58) (fun _ _ k => x_imul dX10_of_57 g9 k) ?_
          refine Xi.up (pc' := 61) (fun _ _ k => x_putIK hK7 lf10_156 rfl rfl (Or.inl rfl) dX10_of_58 h0.1 k) ?_
          have hK10 := KW.sI hK7 2230 16 (3849 * a1)
          refine Xi.up (pc' := 62) (fun _ _ k => x_iload_n dX10_of_61 rfl rfl k) ?_
          by_cases c : a2 < 1 ∨ 8 < a2
          · refine Xi.up (pc' := 202) (fun _ _ k => x_tsOut dX10_of_62 c rfl k) ?_
            have h := h.2.2.2.2.2.2.2.2 (by omega)
            refine Xi.up (pc' := 203) (fun _ _ k => x_aload_n dX10_of_202 rfl rfl k) ?_
            refine Xi.up (pc' := 206) (fun _ _ k => x_getRK hK10 lf10_35 rfl dX10_of_203 h0.1 h0.2.2.2.2.2.2.2.2.2.1 k) ?_
            refine Xi.up (pc' := 207) (fun _ _ k => x_aload_n dX10_of_206 rfl rfl k) ?_
            refine Xi.up (pc' := 210) (fun _ _ k => x_getIK hK10 lf10_156 rfl dX10_of_207 h0.1 k) ?_
            refine Xi.up (pc' := 211) (fun _ _ k => x_iconst dX10_of_210 (show inR 1 from ⟨by decide, by decide⟩) k) ?_
            obtain ⟨g36, h⟩ := h
            refine Xi.up (pc' := 212) (fun _ _ k => x_iadd dX10_of_211 g36 k) ?_
            obtain ⟨g37, h⟩ := h
            obtain ⟨g38, h⟩ := h
            refine Xi.up (pc' := 213) (fun _ _ k => x_ialoadK hK10 dX10_of_212 h0.2.2.2.2.2.2.2.2.2.2.2.2.2.2.2.2.2.2.2.1 g37 g38 k) ?_
            refine Xi.up (pc' := 214) (fun _ _ k => x_iconst dX10_of_213 (show inR 5 from ⟨by decide, by decide⟩) k) ?_
            refine Xi.br (tgt := 232) (pc' := 217) ((mI (sI M5 2230 16 (3849 * a1)) 2239 ((mI (sI M5 2230 16 (3849 * a1)) 2230 16) + 1).toNat) ≠ 5) (fun _ _ kt kf => x_icmp_ne dX10_of_214 rfl kt kf) (fun c => ?_) (fun c => ?_)
            · have h := h.1 c
              refine Xi.up (pc' := 235) (fun _ _ k => x_sipush dX10_of_232 (show inR (-2002) from ⟨by decide, by decide⟩) (by decide) k) ?_
              exact Xi.ret ⟨dX10_of_235, Or.inl rfl⟩ h
            · have h := h.2 c
              refine Xi.up (pc' := 218) (fun _ _ k => x_aload_n dX10_of_217 rfl rfl k) ?_
              refine Xi.up (pc' := 221) (fun _ _ k => x_getRK hK10 lf10_35 rfl dX10_of_218 h0.1 h0.2.2.2.2.2.2.2.2.2.1 k) ?_
              refine Xi.up (pc' := 222) (fun _ _ k => x_aload_n dX10_of_221 rfl rfl k) ?_
              refine Xi.up (pc' := 225) (fun _ _ k => x_getIK hK10 lf10_156 rfl dX10_of_222 h0.1 k) ?_
              refine Xi.up (pc' := 227) (fun _ _ k => x_bipush dX10_of_225 (show inR 9 from ⟨by decide, by decide⟩) (by decide) k) ?_
              obtain ⟨g39, h⟩ := h
              refine Xi.up (pc' := 228) (fun _ _ k => x_iadd dX10_of_227 g39 k) ?_
              obtain ⟨g40, h⟩ := h
              obtain ⟨g41, h⟩ := h
              refine Xi.up (pc' := 229) (fun _ _ k => x_ialoadK hK10 dX10_of_228 h0.2.2.2.2.2.2.2.2.2.2.2.2.2.2.2.2.2.2.2.1 g40 g41 k) ?_
              refine Xi.up (pc' := 235) (fun _ _ k => x_goto dX10_of_229 rfl k) ?_
              exact Xi.ret ⟨dX10_of_235, Or.inl rfl⟩ h
          · rcases (show a2 = 1 ∨ a2 = 2 ∨ a2 = 3 ∨ a2 = 4 ∨ a2 = 5 ∨ a2 = 6 ∨ a2 = 7 ∨ a2 = 8 by omega) with c | c | c | c | c | c | c | c
            · refine Xi.up (pc' := 108) (fun _ _ k => x_tsIn (x := a2) (i := 0) dX10_of_62 (by omega) (by decide) rfl rfl k) ?_
              have h := h.1 (by omega)
              refine Xi.up (pc' := 109) (fun _ _ k => x_aload_n dX10_of_108 rfl rfl k) ?_
              refine Xi.up (pc' := 112) (fun _ _ k => x_getRK hK10 lf10_35 rfl dX10_of_109 h0.1 h0.2.2.2.2.2.2.2.2.2.1 k) ?_
              refine Xi.up (pc' := 113) (fun _ _ k => x_aload_n dX10_of_112 rfl rfl k) ?_
              refine Xi.up (pc' := 116) (fun _ _ k => x_getIK hK10 lf10_156 rfl dX10_of_113 h0.1 k) ?_
              refine Xi.up (pc' := 118) (fun _ _ k => x_bipush dX10_of_116 (show inR 15 from ⟨by decide, by decide⟩) (by decide) k) ?_
              obtain ⟨g11, h⟩ := h
              refine Xi.up (pc' := 119) (fun _ _ k => x_iadd dX10_of_118 g11 k) ?_
              obtain ⟨g12, h⟩ := h
              obtain ⟨g13, h⟩ := h
              refine Xi.up (pc' := 120) (fun _ _ k => x_ialoadK hK10 dX10_of_119 h0.2.2.2.2.2.2.2.2.2.2.2.2.2.2.2.2.2.2.2.1 g12 g13 k) ?_
              exact Xi.ret ⟨dX10_of_120, Or.inl rfl⟩ h
            · refine Xi.up (pc' := 121) (fun _ _ k => x_tsIn (x := a2) (i := 1) dX10_of_62 (by omega) (by decide) rfl rfl k) ?_
              have h := h.2.1 (by omega)
              refine Xi.up (pc' := 122) (fun _ _ k => x_aload_n dX10_of_121 rfl rfl k) ?_
              refine Xi.up (pc' := 125) (fun _ _ k => x_getRK hK10 lf10_35 rfl dX10_of_122 h0.1 h0.2.2.2.2.2.2.2.2.2.1 k) ?_
              refine Xi.up (pc' := 126) (fun _ _ k => x_aload_n dX10_of_125 rfl rfl k) ?_
              refine Xi.up (pc' := 129) (fun _ _ k => x_getIK hK10 lf10_156 rfl dX10_of_126 h0.1 k) ?_
              refine Xi.up (pc' := 130) (fun _ _ k => x_iconst dX10_of_129 (show inR 4 from ⟨by decide, by decide⟩) k) ?_
              obtain ⟨g14, h⟩ := h
              refine Xi.up (pc' := 131) (fun _ _ k => x_iadd dX10_of_130 g14 k) ?_
              obtain ⟨g15, h⟩ := h
              obtain ⟨g16, h⟩ := h
              refine Xi.up (pc' := 132) (fun _ _ k => x_ialoadK hK10 dX10_of_131 h0.2.2.2.2.2.2.2.2.2.2.2.2.2.2.2.2.2.2.2.1 g15 g16 k) ?_
              exact Xi.ret ⟨dX10_of_132, Or.inl rfl⟩ h
            · refine Xi.up (pc' := 133) (fun _ _ k => x_tsIn (x := a2) (i := 2) dX10_of_62 (by omega) (by decide) rfl rfl k) ?_
              have h := h.2.2.1 (by omega)
              refine Xi.up (pc' := 134) (fun _ _ k => x_aload_n dX10_of_133 rfl rfl k) ?_
              obtain ⟨x18, M17, hc20, hK19, h⟩ := h
              refine Xi.up (pc' := 137) (st' := [zi x18]) (fun _ _ k => x_callVK (ci := 10) (as := []) (st := []) hK10 k10_openMany lm10_220 dX10_of_134 rfl (by decide) (zs8 rfl) h0.1 ⟨_, _, rfl⟩ hc20 k) ?_
              exact Xi.ret ⟨dX10_of_137, Or.inl rfl⟩ h
            · refine Xi.up (pc' := 138) (fun _ _ k => x_tsIn (x := a2) (i := 3) dX10_of_62 (by omega) (by decide) rfl rfl k) ?_
              have h := h.2.2.2.1 (by omega)
              refine Xi.up (pc' := 139) (fun _ _ k => x_aload_n dX10_of_138 rfl rfl k) ?_
              refine Xi.up (pc' := 142) (fun _ _ k => x_getRK hK10 lf10_35 rfl dX10_of_139 h0.1 h0.2.2.2.2.2.2.2.2.2.1 k) ?_
              refine Xi.up (pc' := 143) (fun _ _ k => x_aload_n dX10_of_142 rfl rfl k) ?_
              refine Xi.up (pc' := 146) (fun _ _ k => x_getIK hK10 lf10_156 rfl dX10_of_143 h0.1 k) ?_
              refine Xi.up (pc' := 148) (fun _ _ k => x_bipush dX10_of_146 (show inR 11 from ⟨by decide, by decide⟩) (by decide) k) ?_
              obtain ⟨g21, h⟩ := h
              refine Xi.up (pc' := 149) (fun _ _ k => x_iadd dX10_of_148 g21 k) ?_
              obtain ⟨g22, h⟩ := h
              obtain ⟨g23, h⟩ := h
              refine Xi.up (pc' := 150) (fun _ _ k => x_ialoadK hK10 dX10_of_149 h0.2.2.2.2.2.2.2.2.2.2.2.2.2.2.2.2.2.2.2.1 g22 g23 k) ?_
              exact Xi.ret ⟨dX10_of_150, Or.inl rfl⟩ h
            · refine Xi.up (pc' := 151) (fun _ _ k => x_tsIn (x := a2) (i := 4) dX10_of_62 (by omega) (by decide) rfl rfl k) ?_
              have h := h.2.2.2.2.1 (by omega)
              refine Xi.up (pc' := 152) (fun _ _ k => x_aload_n dX10_of_151 rfl rfl k) ?_
              refine Xi.up (pc' := 155) (fun _ _ k => x_getRK hK10 lf10_35 rfl dX10_of_152 h0.1 h0.2.2.2.2.2.2.2.2.2.1 k) ?_
              refine Xi.up (pc' := 156) (fun _ _ k => x_aload_n dX10_of_155 rfl rfl k) ?_
              refine Xi.up (pc' := 159) (fun _ _ k => x_getIK hK10 lf10_156 rfl dX10_of_156 h0.1 k) ?_
              refine Xi.up (pc' := 160) (fun _ _ k => x_iconst dX10_of_159 (show inR 5 from ⟨by decide, by decide⟩) k) ?_
              obtain ⟨g24, h⟩ := h
              refine Xi.up (pc' := 161) (fun _ _ k => x_iadd dX10_of_160 g24 k) ?_
              obtain ⟨g25, h⟩ := h
              obtain ⟨g26, h⟩ := h
              refine Xi.up (pc' := 162) (fun _ _ k => x_ialoadK hK10 dX10_of_161 h0.2.2.2.2.2.2.2.2.2.2.2.2.2.2.2.2.2.2.2.1 g25 g26 k) ?_
              exact Xi.ret ⟨dX10_of_162, Or.inl rfl⟩ h
            · refine Xi.up (pc' := 163) (fun _ _ k => x_tsIn (x := a2) (i := 5) dX10_of_62 (by omega) (by decide) rfl rfl k) ?_
              have h := h.2.2.2.2.2.1 (by omega)
              refine Xi.up (pc' := 164) (fun _ _ k => x_aload_n dX10_of_163 rfl rfl k) ?_
              refine Xi.up (pc' := 167) (fun _ _ k => x_getRK hK10 lf10_35 rfl dX10_of_164 h0.1 h0.2.2.2.2.2.2.2.2.2.1 k) ?_
              refine Xi.up (pc' := 168) (fun _ _ k => x_aload_n dX10_of_167 rfl rfl k) ?_
              refine Xi.up (pc' := 171) (fun _ _ k => x_getIK hK10 lf10_156 rfl dX10_of_168 h0.1 k) ?_
              refine Xi.up (pc' := 173) (fun _ _ k => x_bipush dX10_of_171 (show inR 6 from ⟨by decide, by decide⟩) (by decide) k) ?_
              obtain ⟨g27, h⟩ := h
              refine Xi.up (pc' := 174) (fun _ _ k => x_iadd dX10_of_173 g27 k) ?_
              obtain ⟨g28, h⟩ := h
              obtain ⟨g29, h⟩ := h
              refine Xi.up (pc' := 175) (fun _ _ k => x_ialoadK hK10 dX10_of_174 h0.2.2.2.2.2.2.2.2.2.2.2.2.2.2.2.2.2.2.2.1 g28 g29 k) ?_
              exact Xi.ret ⟨dX10_of_175, Or.inl rfl⟩ h
            · refine Xi.up (pc' := 176) (fun _ _ k => x_tsIn (x := a2) (i := 6) dX10_of_62 (by omega) (by decide) rfl rfl k) ?_
              have h := h.2.2.2.2.2.2.1 (by omega)
              refine Xi.up (pc' := 177) (fun _ _ k => x_aload_n dX10_of_176 rfl rfl k) ?_
              refine Xi.up (pc' := 180) (fun _ _ k => x_getRK hK10 lf10_35 rfl dX10_of_177 h0.1 h0.2.2.2.2.2.2.2.2.2.1 k) ?_
              refine Xi.up (pc' := 181) (fun _ _ k => x_aload_n dX10_of_180 rfl rfl k) ?_
              refine Xi.up (pc' := 184) (fun _ _ k => x_getIK hK10 lf10_156 rfl dX10_of_181 h0.1 k) ?_
              refine Xi.up (pc' := 186) (fun _ _ k => x_bipush dX10_of_184 (show inR 7 from ⟨by decide, by decide⟩) (by decide) k) ?_
              obtain ⟨g30, h⟩ := h
              refine Xi.up (pc' := 187) (fun _ _ k => x_iadd dX10_of_186 g30 k) ?_
              obtain ⟨g31, h⟩ := h
              obtain ⟨g32, h⟩ := h
              refine Xi.up (pc' := 188) (fun _ _ k => x_ialoadK hK10 dX10_of_187 h0.2.2.2.2.2.2.2.2.2.2.2.2.2.2.2.2.2.2.2.1 g31 g32 k) ?_
              exact Xi.ret ⟨dX10_of_188, Or.inl rfl⟩ h
            · refine Xi.up (pc' := 189) (fun _ _ k => x_tsIn (x := a2) (i := 7) dX10_of_62 (by omega) (by decide) rfl rfl k) ?_
              have h := h.2.2.2.2.2.2.2.1 (by omega)
              refine Xi.up (pc' := 190) (fun _ _ k => x_aload_n dX10_of_189 rfl rfl k) ?_
              refine Xi.up (pc' := 193) (fun _ _ k => x_getRK hK10 lf10_35 rfl dX10_of_190 h0.1 h0.2.2.2.2.2.2.2.2.2.1 k) ?_
              refine Xi.up (pc' := 194) (fun _ _ k => x_aload_n dX10_of_193 rfl rfl k) ?_
              refine Xi.up (pc' := 197) (fun _ _ k => x_getIK hK10 lf10_156 rfl dX10_of_194 h0.1 k) ?_
              refine Xi.up (pc' := 199) (fun _ _ k => x_bipush dX10_of_197 (show inR 8 from ⟨by decide, by decide⟩) (by decide) k) ?_
              obtain ⟨g33, h⟩ := h
              refine Xi.up (pc' := 200) (fun _ _ k => x_iadd dX10_of_199 g33 k) ?_
              obtain ⟨g34, h⟩ := h
              obtain ⟨g35, h⟩ := h
              refine Xi.up (pc' := 201) (fun _ _ k => x_ialoadK hK10 dX10_of_200 h0.2.2.2.2.2.2.2.2.2.2.2.2.2.2.2.2.2.2.2.1 g34 g35 k) ?_
              exact Xi.ret ⟨dX10_of_201, Or.inl rfl⟩ h
        · have h := h.2 c
          refine Xi.up (pc' := 51) (fun _ _ k => x_sipush dX10_of_48 (show inR (-2003) from ⟨by decide, by decide⟩) (by decide) k) ?_
          exact Xi.ret ⟨dX10_of_51, Or.inl rfl⟩ h
      · have h := h.2 c
        refine Xi.up (pc' := 28) (fun _ _ k => x_aload_n dX10_of_27 rfl rfl k) ?_
        refine Xi.up (pc' := 31) (fun _ _ k => x_getRK hK3 lf10_35 rfl dX10_of_28 h0.1 h0.2.2.2.2.2.2.2.2.2.1 k) ?_
        refine Xi.up (pc' := 34) (fun _ _ k => x_sipush dX10_of_31 (show inR 3849 from ⟨by decide, by decide⟩) (by decide) k) ?_
        refine Xi.up (pc' := 35) (fun _ _ k => x_iload_n dX10_of_34 rfl rfl k) ?_
        obtain ⟨g42, h⟩ := h
        refine Xi.up (pc' := 36) (fun _ _ k => x_imul dX10_of_35 g42 k) ?_
        refine Xi.up (pc' := 37) (fun _ _ k => x_iconst dX10_of_36 (show inR 0 from ⟨by decide, by decide⟩) k) ?_
        obtain ⟨g43, h⟩ := h
        refine Xi.up (pc' := 38) (fun _ _ k => x_iadd dX10_of_37 g43 k) ?_
        obtain ⟨g44, h⟩ := h
        obtain ⟨g45, h⟩ := h
        refine Xi.up (pc' := 39) (fun _ _ k => x_ialoadK hK3 dX10_of_38 h0.2.2.2.2.2.2.2.2.2.2.2.2.2.2.2.2.2.2.2.1 g44 g45 k) ?_
        exact Xi.ret ⟨dX10_of_39, Or.inl rfl⟩ h
    · have h := h.2 c
      refine Xi.up (pc' := 16) (st' := [zi 0]) (fun _ _ k => x_in0 (st := []) lm10_43 dX10_of_13 (zs8 rfl) c k) ?_
      refine Xi.br (tgt := 23) (pc' := 19) ((0 : Int) ≠ 0) (fun _ _ kt kf => x_if_ne dX10_of_16 rfl kt kf) (fun c => absurd c (by decide)) (fun _ => ?_)
      refine Xi.up (pc' := 22) (fun _ _ k => x_sipush dX10_of_19 (show inR (-2001) from ⟨by decide, by decide⟩) (by decide) k) ?_
      exact Xi.ret ⟨dX10_of_22, Or.inl rfl⟩ h
set_option maxHeartbeats 4000000 in
set_option maxRecDepth 20000 in
theorem B10_answer {d : Nat} {K M : ZMem} {Q : Int → ZMem → Prop} (a1 : Int) (a2 : Int) (a3 : Int) (hK : KW K M) (h0 : ModelAt K 2230) (h : Ci d q10_isSearch [zi a1] M (fun x2 M1 => KW K M1 ∧ ((x2 = 0 → (Q (-2001) M1)) ∧ (¬ (x2 = 0) → ((a2 < 0 → (Q (-2001) M1)) ∧ (¬ (a2 < 0) → ((0 ≤ a3 ∧ a3 ≤ 11 → (Ci d q10_isNone [zr 2230, zi a1] M1 (fun x6 M5 => KW K M5 ∧ ((x6 = 0 → ((inR (3849 * a1)) ∧ (inR ((3849 * a1) + 15)) ∧ (0 ≤ ((3849 * a1) + 15)) ∧ (((3849 * a1) + 15) < 19245) ∧ (((mI M5 2239 ((3849 * a1) + 15).toNat) ≤ a2 → (Q (-2002) M5)) ∧ (¬ ((mI M5 2239 ((3849 * a1) + 15).toNat) ≤ a2) → ((inR (3849 * a1)) ∧ (inR ((3849 * a1) + 3129)) ∧ (inR (12 * a2)) ∧ (inR (((3849 * a1) + 3129) + (12 * a2))) ∧ (inR ((((3849 * a1) + 3129) + (12 * a2)) + a3)) ∧ (0 ≤ ((((3849 * a1) + 3129) + (12 * a2)) + a3)) ∧ (((((3849 * a1) + 3129) + (12 * a2)) + a3) < 19245) ∧ Q (mI M5 2239 ((((3849 * a1) + 3129) + (12 * a2)) + a3).toNat) M5))))) ∧ (¬ (x6 = 0) → (Q (-2003) M5)))))) ∧ (¬ (0 ≤ a3 ∧ a3 ≤ 11) → (Q (-2001) M1))))))))) : Ci (d + 1) q10_answer [zr 2230, zi a1, zi a2, zi a3] M Q := by
  refine Ci.of rfl rfl (Nat.le_of_ble_eq_true rfl) (fun w hw x e => by subst e; simp at hw) (L := [some (zr 2230), some (zi a1), some (zi a2), some (zi a3)]) rfl ?_
  refine Xi.up (pc' := 1) (fun _ _ k => x_iload_n dX10_answer_0 rfl rfl k) ?_
  obtain ⟨x2, M1, hc4, hK3, h⟩ := h
  refine Xi.up (pc' := 4) (st' := [zi x2]) (fun _ _ k => x_callS (as := [zi a1]) (st := []) k10_isSearch lm10_260 dX10_answer_1 rfl (by decide) (zs8 rfl) hc4 k) ?_
  refine Xi.br (tgt := 23) (pc' := 7) (x2 = 0) (fun _ _ kt kf => x_if_eq dX10_answer_4 rfl kt kf) (fun c => ?_) (fun c => ?_)
  · have h := h.1 c
    refine Xi.up (pc' := 26) (fun _ _ k => x_sipush dX10_answer_23 (show inR (-2001) from ⟨by decide, by decide⟩) (by decide) k) ?_
    exact Xi.ret ⟨dX10_answer_26, Or.inl rfl⟩ h
  · have h := h.2 c
    refine Xi.up (pc' := 8) (fun _ _ k => x_iload_n dX10_answer_7 rfl rfl k) ?_
    refine Xi.br (tgt := 23) (pc' := 11) (a2 < 0) (fun _ _ kt kf => x_if_lt dX10_answer_8 rfl kt kf) (fun c => ?_) (fun c => ?_)
    · have h := h.1 c
      refine Xi.up (pc' := 26) (fun _ _ k => x_sipush dX10_answer_23 (show inR (-2001) from ⟨by decide, by decide⟩) (by decide) k) ?_
      exact Xi.ret ⟨dX10_answer_26, Or.inl rfl⟩ h
    · have h := h.2 c
      refine Xi.up (pc' := 12) (fun _ _ k => x_iload_n dX10_answer_11 rfl rfl k) ?_
      refine Xi.up (pc' := 13) (fun _ _ k => x_i2l dX10_answer_12 k) ?_
      refine Xi.up (pc' := 14) (fun _ _ k => x_lconst (x := 0) dX10_answer_13 ⟨by decide, by decide⟩ rfl k) ?_
      refine Xi.up (pc' := 17) (fun _ _ k => x_ldc2 ll10_283 dX10_answer_14 (show inL 11 from ⟨by decide, by decide⟩) rfl k) ?_
      by_cases c : 0 ≤ a3 ∧ a3 ≤ 11
      · have h := h.1 c
        refine Xi.up (pc' := 20) (st' := [zi 1]) (fun _ _ k => x_in1 (st := []) lm10_43 dX10_answer_17 (zs8 rfl) c k) ?_
        refine Xi.br (tgt := 27) (pc' := 23) ((1 : Int) ≠ 0) (fun _ _ kt kf => x_if_ne dX10_answer_20 rfl kt kf) (fun _ => ?_) (fun c => absurd (by decide) c)
        refine Xi.up (pc' := 28) (fun _ _ k => x_aload_n dX10_answer_27 rfl rfl k) ?_
        refine Xi.up (pc' := 29) (fun _ _ k => x_iload_n dX10_answer_28 rfl rfl k) ?_
        obtain ⟨x6, M5, hc8, hK7, h⟩ := h
        refine Xi.up (pc' := 32) (st' := [zi x6]) (fun _ _ k => x_callVK (ci := 10) (as := [zi a1]) (st := []) hK3 k10_isNone lm10_280 dX10_answer_29 rfl (by decide) (zs8 rfl) h0.1 ⟨_, _, rfl⟩ hc8 k) ?_
        refine Xi.br (tgt := 39) (pc' := 35) (x6 = 0) (fun _ _ kt kf => x_if_eq dX10_answer_32 rfl kt kf) (fun c => ?_) (fun c => ?_)
        · have h := h.1 c
          refine Xi.up (pc' := 40) (fun _ _ k => x_iload_n dX10_answer_39 rfl rfl k) ?_
          refine Xi.up (pc' := 41) (fun _ _ k => x_aload_n dX10_answer_40 rfl rfl k) ?_
          refine Xi.up (pc' := 44) (fun _ _ k => x_getRK hK7 lf10_35 rfl dX10_answer_41 h0.1 h0.2.2.2.2.2.2.2.2.2.1 k) ?_
          refine Xi.up (pc' := 47) (fun _ _ k => x_sipush dX10_answer_44 (show inR 3849 from ⟨by decide, by decide⟩) (by decide) k) ?_
          refine Xi.up (pc' := 48) (fun _ _ k => x_iload_n dX10_answer_47 rfl rfl k) ?_
          obtain ⟨g9, h⟩ := h
          refine Xi.up (pc' := 49) (fun _ _ k => x_imul dX10_answer_48 g9 k) ?_
          refine Xi.up (pc' := 51) (fun _ _ k => x_bipush dX10_answer_49 (show inR 15 from ⟨by decide, by decide⟩) (by decide) k) ?_
          obtain ⟨g10, h⟩ := h
          refine Xi.up (pc' := 52) (fun _ _ k => x_iadd dX10_answer_51 g10 k) ?_
          obtain ⟨g11, h⟩ := h
          obtain ⟨g12, h⟩ := h
          refine Xi.up (pc' := 53) (fun _ _ k => x_ialoadK hK7 dX10_answer_52 h0.2.2.2.2.2.2.2.2.2.2.2.2.2.2.2.2.2.2.2.1 g11 g12 k) ?_
          refine Xi.br (tgt := 80) (pc' := 56) ((mI M5 2239 ((3849 * a1) + 15).toNat) ≤ a2) (fun _ _ kt kf => x_icmp_ge dX10_answer_53 rfl kt kf) (fun c => ?_) (fun c => ?_)
          · have h := h.1 c
            refine Xi.up (pc' := 83) (fun _ _ k => x_sipush dX10_answer_80 (show inR (-2002) from ⟨by decide, by decide⟩) (by decide) k) ?_
            exact Xi.ret ⟨dX10_answer_83, Or.inl rfl⟩ h
          · have h := h.2 c
            refine Xi.up (pc' := 57) (fun _ _ k => x_aload_n dX10_answer_56 rfl rfl k) ?_
            refine Xi.up (pc' := 60) (fun _ _ k => x_getRK hK7 lf10_35 rfl dX10_answer_57 h0.1 h0.2.2.2.2.2.2.2.2.2.1 k) ?_
            refine Xi.up (pc' := 63) (fun _ _ k => x_sipush dX10_answer_60 (show inR 3849 from ⟨by decide, by decide⟩) (by decide) k) ?_
            refine Xi.up (pc' := 64) (fun _ _ k => x_iload_n dX10_answer_63 rfl rfl k) ?_
            obtain ⟨g13, h⟩ := h
            refine Xi.up (pc' := 65) (fun _ _ k => x_imul dX10_answer_64 g13 k) ?_
            refine Xi.up (pc' := 68) (fun _ _ k => x_sipush dX10_answer_65 (show inR 3129 from ⟨by decide, by decide⟩) (by decide) k) ?_
            obtain ⟨g14, h⟩ := h
            refine Xi.up (pc' := 69) (fun _ _ k => x_iadd dX10_answer_68 g14 k) ?_
            refine Xi.up (pc' := 71) (fun _ _ k => x_bipush dX10_answer_69 (show inR 12 from ⟨by decide, by decide⟩) (by decide) k) ?_
            refine Xi.up (pc' := 72) (fun _ _ k => x_iload_n dX10_answer_71 rfl rfl k) ?_
            obtain ⟨g15, h⟩ := h
            refine Xi.up (pc' := 73) (fun _ _ k => x_imul dX10_answer_72 g15 k) ?_
            obtain ⟨g16, h⟩ := h
            refine Xi.up (pc' := 74) (fun _ _ k => x_iadd dX10_answer_73 g16 k) ?_
            refine Xi.up (pc' := 75) (fun _ _ k => x_iload_n dX10_answer_74 rfl rfl k) ?_
            obtain ⟨g17, h⟩ := h
            refine Xi.up (pc' := 76) (fun _ _ k => x_iadd dX10_answer_75 g17 k) ?_
            obtain ⟨g18, h⟩ := h
            obtain ⟨g19, h⟩ := h
            refine Xi.up (pc' := 77) (fun _ _ k => x_ialoadK hK7 dX10_answer_76 h0.2.2.2.2.2.2.2.2.2.2.2.2.2.2.2.2.2.2.2.1 g18 g19 k) ?_
            refine Xi.up (pc' := 83) (fun _ _ k => x_goto dX10_answer_77 rfl k) ?_
            exact Xi.ret ⟨dX10_answer_83, Or.inl rfl⟩ h
        · have h := h.2 c
          refine Xi.up (pc' := 38) (fun _ _ k => x_sipush dX10_answer_35 (show inR (-2003) from ⟨by decide, by decide⟩) (by decide) k) ?_
          exact Xi.ret ⟨dX10_answer_38, Or.inl rfl⟩ h
      · have h := h.2 c
        refine Xi.up (pc' := 20) (st' := [zi 0]) (fun _ _ k => x_in0 (st := []) lm10_43 dX10_answer_17 (zs8 rfl) c k) ?_
        refine Xi.br (tgt := 27) (pc' := 23) ((0 : Int) ≠ 0) (fun _ _ kt kf => x_if_ne dX10_answer_20 rfl kt kf) (fun c => absurd c (by decide)) (fun _ => ?_)
        refine Xi.up (pc' := 26) (fun _ _ k => x_sipush dX10_answer_23 (show inR (-2001) from ⟨by decide, by decide⟩) (by decide) k) ?_
        exact Xi.ret ⟨dX10_answer_26, Or.inl rfl⟩ h
set_option maxHeartbeats 4000000 in
set_option maxRecDepth 20000 in
theorem B10_openOne {d : Nat} {K M : ZMem} {Q : Int → ZMem → Prop} (a1 : Int) (hK : KW K M) (h0 : ModelAt K 2230) (h : Xi (d + 1) q10_openOne 4 [some (zr 2230), none, some (zi a1), some (zi 0)] [] M Q) : Ci (d + 1) q10_openOne [zr 2230, zi a1] M Q := by
  refine Ci.of rfl rfl (Nat.le_of_ble_eq_true rfl) (fun w hw x e => by subst e; simp at hw) (L := [some (zr 2230), some (zi a1), none, none]) rfl ?_
  refine Xi.up (pc' := 1) (fun _ _ k => x_iload_n dX10_openOne_0 rfl rfl k) ?_
  refine Xi.up (pc' := 2) (L' := [some (zr 2230), some (zi a1), some (zi a1), none]) (fun _ _ k => x_istore_n dX10_openOne_1 rfl (by decide) rfl k) ?_
  refine Xi.up (pc' := 3) (fun _ _ k => x_iconst dX10_openOne_2 (show inR 0 from ⟨by decide, by decide⟩) k) ?_
  refine Xi.up (pc' := 4) (L' := [some (zr 2230), some (zi a1), some (zi a1), some (zi 0)]) (fun _ _ k => x_istore_n dX10_openOne_3 rfl (by decide) rfl k) ?_
  exact Xi.up (fun _ _ k => x_less (L' := [some (zr 2230), none, some (zi a1), some (zi 0)]) (⟨rfl, ⟨rfl, ⟨rfl, trivial⟩⟩⟩) k) h
set_option maxHeartbeats 4000000 in
set_option maxRecDepth 20000 in
theorem B10_openOne_4 {d : Nat} {K M : ZMem} {Q : Int → ZMem → Prop} (l2 : Int) (l3 : Int) (hK : KW K M) (h0 : ModelAt K 2230) (h : (inR ((mI M 2230 16) + 14)) ∧ (0 ≤ ((mI M 2230 16) + 14)) ∧ (((mI M 2230 16) + 14) < 19245) ∧ (((mI M 2239 ((mI M 2230 16) + 14).toNat) ≤ l3 → (Q (-1) M)) ∧ (¬ ((mI M 2239 ((mI M 2230 16) + 14).toNat) ≤ l3) → (Ci d q10_pointAt [zr 2230, zi l3] M (fun x5 M4 => KW K M4 ∧ (inR (x5 + 45)) ∧ (0 ≤ (x5 + 45)) ∧ ((x5 + 45) < 19245) ∧ (((mI M4 2239 (x5 + 45).toNat) ≠ 0 → ((inR (l3 + 1)) ∧ Xi (d + 1) q10_openOne 4 [some (zr 2230), none, some (zi l2), some (zi (l3 + 1))] [] M4 Q)) ∧ (¬ ((mI M4 2239 (x5 + 45).toNat) ≠ 0) → ((l2 ≠ 0 → ((inR (l2 + (-1))) ∧ (inR (l3 + 1)) ∧ Xi (d + 1) q10_openOne 4 [some (zr 2230), none, some (zi (l2 + (-1))), some (zi (l3 + 1))] [] M4 Q)) ∧ (¬ (l2 ≠ 0) → (Q l3 M4)))))))))) : Xi (d + 1) q10_openOne 4 [some (zr 2230), none, some (zi l2), some (zi l3)] [] M Q := by
  refine Xi.up (pc' := 5) (fun _ _ k => x_iload_n dX10_openOne_4 rfl rfl k) ?_
  refine Xi.up (pc' := 6) (fun _ _ k => x_aload_n dX10_openOne_5 rfl rfl k) ?_
  refine Xi.up (pc' := 9) (fun _ _ k => x_getRK hK lf10_35 rfl dX10_openOne_6 h0.1 h0.2.2.2.2.2.2.2.2.2.1 k) ?_
  refine Xi.up (pc' := 10) (fun _ _ k => x_aload_n dX10_openOne_9 rfl rfl k) ?_
  refine Xi.up (pc' := 13) (fun _ _ k => x_getIK hK lf10_156 rfl dX10_openOne_10 h0.1 k) ?_
  refine Xi.up (pc' := 15) (fun _ _ k => x_bipush dX10_openOne_13 (show inR 14 from ⟨by decide, by decide⟩) (by decide) k) ?_
  obtain ⟨g1, h⟩ := h
  refine Xi.up (pc' := 16) (fun _ _ k => x_iadd dX10_openOne_15 g1 k) ?_
  obtain ⟨g2, h⟩ := h
  obtain ⟨g3, h⟩ := h
  refine Xi.up (pc' := 17) (fun _ _ k => x_ialoadK hK dX10_openOne_16 h0.2.2.2.2.2.2.2.2.2.2.2.2.2.2.2.2.2.2.2.1 g2 g3 k) ?_
  refine Xi.br (tgt := 51) (pc' := 20) ((mI M 2239 ((mI M 2230 16) + 14).toNat) ≤ l3) (fun _ _ kt kf => x_icmp_ge dX10_openOne_17 rfl kt kf) (fun c => ?_) (fun c => ?_)
  · have h := h.1 c
    refine Xi.up (pc' := 52) (fun _ _ k => x_iconst dX10_openOne_51 (show inR (-1) from ⟨by decide, by decide⟩) k) ?_
    exact Xi.ret ⟨dX10_openOne_52, Or.inl rfl⟩ h
  · have h := h.2 c
    refine Xi.up (pc' := 21) (fun _ _ k => x_aload_n dX10_openOne_20 rfl rfl k) ?_
    refine Xi.up (pc' := 24) (fun _ _ k => x_getRK hK lf10_35 rfl dX10_openOne_21 h0.1 h0.2.2.2.2.2.2.2.2.2.1 k) ?_
    refine Xi.up (pc' := 25) (fun _ _ k => x_aload_n dX10_openOne_24 rfl rfl k) ?_
    refine Xi.up (pc' := 26) (fun _ _ k => x_iload_n dX10_openOne_25 rfl rfl k) ?_
    obtain ⟨x5, M4, hc7, hK6, h⟩ := h
    refine Xi.up (pc' := 29) (st' := [zi x5, zr 2239]) (fun _ _ k => x_callVK (ci := 10) (as := [zi l3]) (st := [zr 2239]) hK k10_pointAt lm10_163 dX10_openOne_26 rfl (by decide) (zs8 rfl) h0.1 ⟨_, _, rfl⟩ hc7 k) ?_
    refine Xi.up (pc' := 31) (fun _ _ k => x_bipush dX10_openOne_29 (show inR 45 from ⟨by decide, by decide⟩) (by decide) k) ?_
    obtain ⟨g8, h⟩ := h
    refine Xi.up (pc' := 32) (fun _ _ k => x_iadd dX10_openOne_31 g8 k) ?_
    obtain ⟨g9, h⟩ := h
    obtain ⟨g10, h⟩ := h
    refine Xi.up (pc' := 33) (fun _ _ k => x_ialoadK hK6 dX10_openOne_32 h0.2.2.2.2.2.2.2.2.2.2.2.2.2.2.2.2.2.2.2.1 g9 g10 k) ?_
    refine Xi.br (tgt := 45) (pc' := 36) ((mI M4 2239 (x5 + 45).toNat) ≠ 0) (fun _ _ kt kf => x_if_ne dX10_openOne_33 rfl kt kf) (fun c => ?_) (fun c => ?_)
    · have h := h.1 c
      obtain ⟨g11, h⟩ := h
      refine Xi.up (pc' := 48) (L' := [some (zr 2230), none, some (zi l2), some (zi (l3 + 1))]) (fun _ _ k => x_iinc dX10_openOne_45 rfl g11 (by decide) rfl k) ?_
      refine Xi.up (pc' := 4) (fun _ _ k => x_goto dX10_openOne_48 rfl k) ?_
      exact h
    · have h := h.2 c
      refine Xi.up (pc' := 37) (fun _ _ k => x_iload_n dX10_openOne_36 rfl rfl k) ?_
      refine Xi.br (tgt := 42) (pc' := 40) (l2 ≠ 0) (fun _ _ kt kf => x_if_ne dX10_openOne_37 rfl kt kf) (fun c => ?_) (fun c => ?_)
      · have h := h.1 c
        obtain ⟨g12, h⟩ := h
        refine Xi.up (pc' := 45) (L' := [some (zr 2230), none, some (zi (l2 + (-1))), some (zi l3)]) (fun _ _ k => x_iinc dX10_openOne_42 rfl g12 (by decide) rfl k) ?_
        obtain ⟨g13, h⟩ := h
        refine Xi.up (pc' := 48) (L' := [some (zr 2230), none, some (zi (l2 + (-1))), some (zi (l3 + 1))]) (fun _ _ k => x_iinc dX10_openOne_45 rfl g13 (by decide) rfl k) ?_
        refine Xi.up (pc' := 4) (fun _ _ k => x_goto dX10_openOne_48 rfl k) ?_
        exact h
      · have h := h.2 c
        refine Xi.up (pc' := 41) (fun _ _ k => x_iload_n dX10_openOne_40 rfl rfl k) ?_
        exact Xi.ret ⟨dX10_openOne_41, Or.inl rfl⟩ h
set_option maxHeartbeats 4000000 in
set_option maxRecDepth 20000 in
theorem B10_open {d : Nat} {K M : ZMem} {Q : Int → ZMem → Prop} (a1 : Int) (a2 : Int) (a3 : Int) (hK : KW K M) (h0 : ModelAt K 2230) (h : Ci d q10_isSearch [zi a1] M (fun x2 M1 => KW K M1 ∧ ((x2 = 0 → (Q (-2001) M1)) ∧ (¬ (x2 = 0) → ((a2 < 0 → (Q (-2001) M1)) ∧ (¬ (a2 < 0) → ((0 ≤ a3 ∧ a3 ≤ 11 → (Ci d q10_isNone [zr 2230, zi a1] M1 (fun x6 M5 => KW K M5 ∧ ((x6 = 0 → ((inR (3849 * a1)) ∧ Ci d q10_openOne [zr 2230, zi a2] (sI M5 2230 16 (3849 * a1)) (fun x12 M11 => KW K M11 ∧ ((x12 ≠ (-1) → (Ci d q10_pointAt [zr 2230, zi x12] M11 (fun x16 M15 => KW K M15 ∧ ((a3 = 0 → ((inR (x16 + 32)) ∧ (0 ≤ (x16 + 32)) ∧ ((x16 + 32) < 19245) ∧ Q (mI M15 2239 (x16 + 32).toNat) M15)) ∧ (a3 = 1 → ((inR (x16 + 33)) ∧ (0 ≤ (x16 + 33)) ∧ ((x16 + 33) < 19245) ∧ Q (mI M15 2239 (x16 + 33).toNat) M15)) ∧ (a3 = 2 → ((inR (x16 + 46)) ∧ (0 ≤ (x16 + 46)) ∧ ((x16 + 46) < 19245) ∧ Q (mI M15 2239 (x16 + 46).toNat) M15)) ∧ (a3 = 3 → ((inR (x16 + 37)) ∧ (0 ≤ (x16 + 37)) ∧ ((x16 + 37) < 19245) ∧ (inR (x16 + 36)) ∧ (0 ≤ (x16 + 36)) ∧ ((x16 + 36) < 19245) ∧ (inR ((mI M15 2239 (x16 + 37).toNat) - (mI M15 2239 (x16 + 36).toNat))) ∧ Q ((mI M15 2239 (x16 + 37).toNat) - (mI M15 2239 (x16 + 36).toNat)) M15)) ∧ (a3 < 0 ∨ 3 < a3 → ((inR (x16 + a3)) ∧ (inR ((x16 + a3) - 4)) ∧ (0 ≤ ((x16 + a3) - 4)) ∧ (((x16 + a3) - 4) < 19245) ∧ Q (mI M15 2239 ((x16 + a3) - 4).toNat) M15)))))) ∧ (¬ (x12 ≠ (-1)) → (Q (-2002) M11)))))) ∧ (¬ (x6 = 0) → (Q (-2003) M5)))))) ∧ (¬ (0 ≤ a3 ∧ a3 ≤ 11) → (Q (-2001) M1))))))))) : Ci (d + 1) q10_open [zr 2230, zi a1, zi a2, zi a3] M Q := by
  refine Ci.of rfl rfl (Nat.le_of_ble_eq_true rfl) (fun w hw x e => by subst e; simp at hw) (L := [some (zr 2230), some (zi a1), some (zi a2), some (zi a3), none, none]) rfl ?_
  refine Xi.up (pc' := 1) (fun _ _ k => x_iload_n dX10_open_0 rfl rfl k) ?_
  obtain ⟨x2, M1, hc4, hK3, h⟩ := h
  refine Xi.up (pc' := 4) (st' := [zi x2]) (fun _ _ k => x_callS (as := [zi a1]) (st := []) k10_isSearch lm10_260 dX10_open_1 rfl (by decide) (zs8 rfl) hc4 k) ?_
  refine Xi.br (tgt := 23) (pc' := 7) (x2 = 0) (fun _ _ kt kf => x_if_eq dX10_open_4 rfl kt kf) (fun c => ?_) (fun c => ?_)
  · have h := h.1 c
    refine Xi.up (pc' := 26) (fun _ _ k => x_sipush dX10_open_23 (show inR (-2001) from ⟨by decide, by decide⟩) (by decide) k) ?_
    exact Xi.ret ⟨dX10_open_26, Or.inl rfl⟩ h
  · have h := h.2 c
    refine Xi.up (pc' := 8) (fun _ _ k => x_iload_n dX10_open_7 rfl rfl k) ?_
    refine Xi.br (tgt := 23) (pc' := 11) (a2 < 0) (fun _ _ kt kf => x_if_lt dX10_open_8 rfl kt kf) (fun c => ?_) (fun c => ?_)
    · have h := h.1 c
      refine Xi.up (pc' := 26) (fun _ _ k => x_sipush dX10_open_23 (show inR (-2001) from ⟨by decide, by decide⟩) (by decide) k) ?_
      exact Xi.ret ⟨dX10_open_26, Or.inl rfl⟩ h
    · have h := h.2 c
      refine Xi.up (pc' := 12) (fun _ _ k => x_iload_n dX10_open_11 rfl rfl k) ?_
      refine Xi.up (pc' := 13) (fun _ _ k => x_i2l dX10_open_12 k) ?_
      refine Xi.up (pc' := 14) (fun _ _ k => x_lconst (x := 0) dX10_open_13 ⟨by decide, by decide⟩ rfl k) ?_
      refine Xi.up (pc' := 17) (fun _ _ k => x_ldc2 ll10_283 dX10_open_14 (show inL 11 from ⟨by decide, by decide⟩) rfl k) ?_
      by_cases c : 0 ≤ a3 ∧ a3 ≤ 11
      · have h := h.1 c
        refine Xi.up (pc' := 20) (st' := [zi 1]) (fun _ _ k => x_in1 (st := []) lm10_43 dX10_open_17 (zs8 rfl) c k) ?_
        refine Xi.br (tgt := 27) (pc' := 23) ((1 : Int) ≠ 0) (fun _ _ kt kf => x_if_ne dX10_open_20 rfl kt kf) (fun _ => ?_) (fun c => absurd (by decide) c)
        refine Xi.up (pc' := 28) (fun _ _ k => x_aload_n dX10_open_27 rfl rfl k) ?_
        refine Xi.up (pc' := 29) (fun _ _ k => x_iload_n dX10_open_28 rfl rfl k) ?_
        obtain ⟨x6, M5, hc8, hK7, h⟩ := h
        refine Xi.up (pc' := 32) (st' := [zi x6]) (fun _ _ k => x_callVK (ci := 10) (as := [zi a1]) (st := []) hK3 k10_isNone lm10_280 dX10_open_29 rfl (by decide) (zs8 rfl) h0.1 ⟨_, _, rfl⟩ hc8 k) ?_
        refine Xi.br (tgt := 39) (pc' := 35) (x6 = 0) (fun _ _ kt kf => x_if_eq dX10_open_32 rfl kt kf) (fun c => ?_) (fun c => ?_)
        · have h := h.1 c
          refine Xi.up (pc' := 40) (fun _ _ k => x_aload_n dX10_open_39 rfl rfl k) ?_
          refine Xi.up (pc' := 43) (fun _ _ k => x_sipush dX10_open_40 (show inR 3849 from ⟨by decide, by decide⟩) (by decide) k) ?_
          refine Xi.up (pc' := 44) (fun _ _ k => x_iload_n dX10_open_43 rfl rfl k) ?_
          obtain ⟨g9, h⟩ := h
          refine Xi.up (pc' := 45) (fun _ _ k => x_imul dX10_open_44 g9 k) ?_
          refine Xi.up (pc' := 48) (fun _ _ k => x_putIK hK7 lf10_156 rfl rfl (Or.inl rfl) dX10_open_45 h0.1 k) ?_
          have hK10 := KW.sI hK7 2230 16 (3849 * a1)
          refine Xi.up (pc' := 49) (fun _ _ k => x_aload_n dX10_open_48 rfl rfl k) ?_
          refine Xi.up (pc' := 50) (fun _ _ k => x_iload_n dX10_open_49 rfl rfl k) ?_
          obtain ⟨x12, M11, hc14, hK13, h⟩ := h
          refine Xi.up (pc' := 53) (st' := [zi x12]) (fun _ _ k => x_callVK (ci := 10) (as := [zi a2]) (st := []) hK10 k10_openOne lm10_285 dX10_open_50 rfl (by decide) (zs8 rfl) h0.1 ⟨_, _, rfl⟩ hc14 k) ?_
          refine Xi.up (pc' := 55) (L' := [some (zr 2230), some (zi a1), some (zi a2), some (zi a3), some (zi x12), none]) (fun _ _ k => x_istore dX10_open_53 (by decide) rfl k) ?_
          refine Xi.up (pc' := 57) (fun _ _ k => x_iload dX10_open_55 rfl k) ?_
          refine Xi.up (pc' := 58) (fun _ _ k => x_iconst dX10_open_57 (show inR (-1) from ⟨by decide, by decide⟩) k) ?_
          refine Xi.br (tgt := 65) (pc' := 61) (x12 ≠ (-1)) (fun _ _ kt kf => x_icmp_ne dX10_open_58 rfl kt kf) (fun c => ?_) (fun c => ?_)
          · have h := h.1 c
            refine Xi.up (pc' := 66) (fun _ _ k => x_aload_n dX10_open_65 rfl rfl k) ?_
            refine Xi.up (pc' := 68) (fun _ _ k => x_iload dX10_open_66 rfl k) ?_
            obtain ⟨x16, M15, hc18, hK17, h⟩ := h
            refine Xi.up (pc' := 71) (st' := [zi x16]) (fun _ _ k => x_callVK (ci := 10) (as := [zi x12]) (st := []) hK13 k10_pointAt lm10_163 dX10_open_68 rfl (by decide) (zs8 rfl) h0.1 ⟨_, _, rfl⟩ hc18 k) ?_
            refine Xi.up (pc' := 73) (L' := [some (zr 2230), some (zi a1), some (zi a2), some (zi a3), some (zi x12), some (zi x16)]) (fun _ _ k => x_istore dX10_open_71 (by decide) rfl k) ?_
            refine Xi.up (pc' := 74) (fun _ _ k => x_iload_n dX10_open_73 rfl rfl k) ?_
            by_cases c : a3 < 0 ∨ 3 < a3
            · refine Xi.up (pc' := 159) (fun _ _ k => x_tsOut dX10_open_74 c rfl k) ?_
              have h := h.2.2.2.2 (by omega)
              refine Xi.up (pc' := 160) (fun _ _ k => x_aload_n dX10_open_159 rfl rfl k) ?_
              refine Xi.up (pc' := 163) (fun _ _ k => x_getRK hK17 lf10_35 rfl dX10_open_160 h0.1 h0.2.2.2.2.2.2.2.2.2.1 k) ?_
              refine Xi.up (pc' := 165) (fun _ _ k => x_iload dX10_open_163 rfl k) ?_
              refine Xi.up (pc' := 166) (fun _ _ k => x_iload_n dX10_open_165 rfl rfl k) ?_
              obtain ⟨g35, h⟩ := h
              refine Xi.up (pc' := 167) (fun _ _ k => x_iadd dX10_open_166 g35 k) ?_
              refine Xi.up (pc' := 168) (fun _ _ k => x_iconst dX10_open_167 (show inR 4 from ⟨by decide, by decide⟩) k) ?_
              obtain ⟨g36, h⟩ := h
              refine Xi.up (pc' := 169) (fun _ _ k => x_isub dX10_open_168 g36 k) ?_
              obtain ⟨g37, h⟩ := h
              obtain ⟨g38, h⟩ := h
              refine Xi.up (pc' := 170) (fun _ _ k => x_ialoadK hK17 dX10_open_169 h0.2.2.2.2.2.2.2.2.2.2.2.2.2.2.2.2.2.2.2.1 g37 g38 k) ?_
              exact Xi.ret ⟨dX10_open_170, Or.inl rfl⟩ h
            · rcases (show a3 = 0 ∨ a3 = 1 ∨ a3 = 2 ∨ a3 = 3 by omega) with c | c | c | c
              · refine Xi.up (pc' := 104) (fun _ _ k => x_tsIn (x := a3) (i := 0) dX10_open_74 (by omega) (by decide) rfl rfl k) ?_
                have h := h.1 (by omega)
                refine Xi.up (pc' := 105) (fun _ _ k => x_aload_n dX10_open_104 rfl rfl k) ?_
                refine Xi.up (pc' := 108) (fun _ _ k => x_getRK hK17 lf10_35 rfl dX10_open_105 h0.1 h0.2.2.2.2.2.2.2.2.2.1 k) ?_
                refine Xi.up (pc' := 110) (fun _ _ k => x_iload dX10_open_108 rfl k) ?_
                refine Xi.up (pc' := 112) (fun _ _ k => x_bipush dX10_open_110 (show inR 32 from ⟨by decide, by decide⟩) (by decide) k) ?_
                obtain ⟨g19, h⟩ := h
                refine Xi.up (pc' := 113) (fun _ _ k => x_iadd dX10_open_112 g19 k) ?_
                obtain ⟨g20, h⟩ := h
                obtain ⟨g21, h⟩ := h
                refine Xi.up (pc' := 114) (fun _ _ k => x_ialoadK hK17 dX10_open_113 h0.2.2.2.2.2.2.2.2.2.2.2.2.2.2.2.2.2.2.2.1 g20 g21 k) ?_
                exact Xi.ret ⟨dX10_open_114, Or.inl rfl⟩ h
              · refine Xi.up (pc' := 115) (fun _ _ k => x_tsIn (x := a3) (i := 1) dX10_open_74 (by omega) (by decide) rfl rfl k) ?_
                have h := h.2.1 (by omega)
                refine Xi.up (pc' := 116) (fun _ _ k => x_aload_n dX10_open_115 rfl rfl k) ?_
                refine Xi.up (pc' := 119) (fun _ _ k => x_getRK hK17 lf10_35 rfl dX10_open_116 h0.1 h0.2.2.2.2.2.2.2.2.2.1 k) ?_
                refine Xi.up (pc' := 121) (fun _ _ k => x_iload dX10_open_119 rfl k) ?_
                refine Xi.up (pc' := 123) (fun _ _ k => x_bipush dX10_open_121 (show inR 33 from ⟨by decide, by decide⟩) (by decide) k) ?_
                obtain ⟨g22, h⟩ := h
                refine Xi.up (pc' := 124) (fun _ _ k => x_iadd dX10_open_123 g22 k) ?_
                obtain ⟨g23, h⟩ := h
                obtain ⟨g24, h⟩ := h
                refine Xi.up (pc' := 125) (fun _ _ k => x_ialoadK hK17 dX10_open_124 h0.2.2.2.2.2.2.2.2.2.2.2.2.2.2.2.2.2.2.2.1 g23 g24 k) ?_
                exact Xi.ret ⟨dX10_open_125, Or.inl rfl⟩ h
              · refine Xi.up (pc' := 126) (fun _ _ k => x_tsIn (x := a3) (i := 2) dX10_open_74 (by omega) (by decide) rfl rfl k) ?_
                have h := h.2.2.1 (by omega)
                refine Xi.up (pc' := 127) (fun _ _ k => x_aload_n dX10_open_126 rfl rfl k) ?_
                refine Xi.up (pc' := 130) (fun _ _ k => x_getRK hK17 lf10_35 rfl dX10_open_127 h0.1 h0.2.2.2.2.2.2.2.2.2.1 k) ?_
                refine Xi.up (pc' := 132) (fun _ _ k => x_iload dX10_open_130 rfl k) ?_
                refine Xi.up (pc' := 134) (fun _ _ k => x_bipush dX10_open_132 (show inR 46 from ⟨by decide, by decide⟩) (by decide) k) ?_
                obtain ⟨g25, h⟩ := h
                refine Xi.up (pc' := 135) (fun _ _ k => x_iadd dX10_open_134 g25 k) ?_
                obtain ⟨g26, h⟩ := h
                obtain ⟨g27, h⟩ := h
                refine Xi.up (pc' := 136) (fun _ _ k => x_ialoadK hK17 dX10_open_135 h0.2.2.2.2.2.2.2.2.2.2.2.2.2.2.2.2.2.2.2.1 g26 g27 k) ?_
                exact Xi.ret ⟨dX10_open_136, Or.inl rfl⟩ h
              · refine Xi.up (pc' := 137) (fun _ _ k => x_tsIn (x := a3) (i := 3) dX10_open_74 (by omega) (by decide) rfl rfl k) ?_
                have h := h.2.2.2.1 (by omega)
                refine Xi.up (pc' := 138) (fun _ _ k => x_aload_n dX10_open_137 rfl rfl k) ?_
                refine Xi.up (pc' := 141) (fun _ _ k => x_getRK hK17 lf10_35 rfl dX10_open_138 h0.1 h0.2.2.2.2.2.2.2.2.2.1 k) ?_
                refine Xi.up (pc' := 143) (fun _ _ k => x_iload dX10_open_141 rfl k) ?_
                refine Xi.up (pc' := 145) (fun _ _ k => x_bipush dX10_open_143 (show inR 37 from ⟨by decide, by decide⟩) (by decide) k) ?_
                obtain ⟨g28, h⟩ := h
                refine Xi.up (pc' := 146) (fun _ _ k => x_iadd dX10_open_145 g28 k) ?_
                obtain ⟨g29, h⟩ := h
                obtain ⟨g30, h⟩ := h
                refine Xi.up (pc' := 147) (fun _ _ k => x_ialoadK hK17 dX10_open_146 h0.2.2.2.2.2.2.2.2.2.2.2.2.2.2.2.2.2.2.2.1 g29 g30 k) ?_
                refine Xi.up (pc' := 148) (fun _ _ k => x_aload_n dX10_open_147 rfl rfl k) ?_
                refine Xi.up (pc' := 151) (fun _ _ k => x_getRK hK17 lf10_35 rfl dX10_open_148 h0.1 h0.2.2.2.2.2.2.2.2.2.1 k) ?_
                refine Xi.up (pc' := 153) (fun _ _ k => x_iload dX10_open_151 rfl k) ?_
                refine Xi.up (pc' := 155) (fun _ _ k => x_bipush dX10_open_153 (show inR 36 from ⟨by decide, by decide⟩) (by decide) k) ?_
                obtain ⟨g31, h⟩ := h
                refine Xi.up (pc' := 156) (fun _ _ k => x_iadd dX10_open_155 g31 k) ?_
                obtain ⟨g32, h⟩ := h
                obtain ⟨g33, h⟩ := h
                refine Xi.up (pc' := 157) (fun _ _ k => x_ialoadK hK17 dX10_open_156 h0.2.2.2.2.2.2.2.2.2.2.2.2.2.2.2.2.2.2.2.1 g32 g33 k) ?_
                obtain ⟨g34, h⟩ := h
                refine Xi.up (pc' := 158) (fun _ _ k => x_isub dX10_open_157 g34 k) ?_
                exact Xi.ret ⟨dX10_open_158, Or.inl rfl⟩ h
          · have h := h.2 c
            refine Xi.up (pc' := 64) (fun _ _ k => x_sipush dX10_open_61 (show inR (-2002) from ⟨by decide, by decide⟩) (by decide) k) ?_
            exact Xi.ret ⟨dX10_open_64, Or.inl rfl⟩ h
        · have h := h.2 c
          refine Xi.up (pc' := 38) (fun _ _ k => x_sipush dX10_open_35 (show inR (-2003) from ⟨by decide, by decide⟩) (by decide) k) ?_
          exact Xi.ret ⟨dX10_open_38, Or.inl rfl⟩ h
      · have h := h.2 c
        refine Xi.up (pc' := 20) (st' := [zi 0]) (fun _ _ k => x_in0 (st := []) lm10_43 dX10_open_17 (zs8 rfl) c k) ?_
        refine Xi.br (tgt := 27) (pc' := 23) ((0 : Int) ≠ 0) (fun _ _ kt kf => x_if_ne dX10_open_20 rfl kt kf) (fun c => absurd c (by decide)) (fun _ => ?_)
        refine Xi.up (pc' := 26) (fun _ _ k => x_sipush dX10_open_23 (show inR (-2001) from ⟨by decide, by decide⟩) (by decide) k) ?_
        exact Xi.ret ⟨dX10_open_26, Or.inl rfl⟩ h
set_option maxHeartbeats 4000000 in
set_option maxRecDepth 20000 in
theorem B10_next {d : Nat} {K M : ZMem} {Q : Int → ZMem → Prop} (a1 : Int) (hK : KW K M) (h0 : ModelAt K 2230) (h : Ci d q10_isSearch [zi a1] M (fun x2 M1 => KW K M1 ∧ ((x2 ≠ 0 → (Ci d q10_isNone [zr 2230, zi a1] M1 (fun x6 M5 => KW K M5 ∧ ((x6 = 0 → (Cv d q10_choosesSearch [zr 2230, zi a1] M5 (fun M9 => KW K M9 ∧ (inR ((mI M9 2230 16) + 12)) ∧ (0 ≤ ((mI M9 2230 16) + 12)) ∧ (((mI M9 2230 16) + 12) < 19245) ∧ (((mI M9 2239 ((mI M9 2230 16) + 12).toNat) = 1 → (Q (-2002) M9)) ∧ (¬ ((mI M9 2239 ((mI M9 2230 16) + 12).toNat) = 1) → (Ci d q10_level [zr 2230] M9 (fun x16 M15 => KW K M15 ∧ ((0 < x16 → (Q (-2002) M15)) ∧ (¬ (0 < x16) → ((inR ((mI M15 2230 16) + 0)) ∧ (0 ≤ ((mI M15 2230 16) + 0)) ∧ (((mI M15 2230 16) + 0) < 19245) ∧ (((mI M15 2239 ((mI M15 2230 16) + 0).toNat) ≠ 2 → (Ci d q10_chosen [zr 2230] M15 (fun x23 M22 => KW K M22 ∧ ((x23 ≠ (-1) → (Q x23 M22)) ∧ (¬ (x23 ≠ (-1)) → (Q (-2002) M22)))))) ∧ (¬ ((mI M15 2239 ((mI M15 2230 16) + 0).toNat) ≠ 2) → (Q (-2002) M15))))))))))))) ∧ (¬ (x6 = 0) → (Q (-2003) M5)))))) ∧ (¬ (x2 ≠ 0) → (Q (-2001) M1))))) : Ci (d + 1) q10_next [zr 2230, zi a1] M Q := by
  refine Ci.of rfl rfl (Nat.le_of_ble_eq_true rfl) (fun w hw x e => by subst e; simp at hw) (L := [some (zr 2230), some (zi a1), none]) rfl ?_
  refine Xi.up (pc' := 1) (fun _ _ k => x_iload_n dX10_next_0 rfl rfl k) ?_
  obtain ⟨x2, M1, hc4, hK3, h⟩ := h
  refine Xi.up (pc' := 4) (st' := [zi x2]) (fun _ _ k => x_callS (as := [zi a1]) (st := []) k10_isSearch lm10_260 dX10_next_1 rfl (by decide) (zs8 rfl) hc4 k) ?_
  refine Xi.br (tgt := 11) (pc' := 7) (x2 ≠ 0) (fun _ _ kt kf => x_if_ne dX10_next_4 rfl kt kf) (fun c => ?_) (fun c => ?_)
  · have h := h.1 c
    refine Xi.up (pc' := 12) (fun _ _ k => x_aload_n dX10_next_11 rfl rfl k) ?_
    refine Xi.up (pc' := 13) (fun _ _ k => x_iload_n dX10_next_12 rfl rfl k) ?_
    obtain ⟨x6, M5, hc8, hK7, h⟩ := h
    refine Xi.up (pc' := 16) (st' := [zi x6]) (fun _ _ k => x_callVK (ci := 10) (as := [zi a1]) (st := []) hK3 k10_isNone lm10_280 dX10_next_13 rfl (by decide) (zs8 rfl) h0.1 ⟨_, _, rfl⟩ hc8 k) ?_
    refine Xi.br (tgt := 23) (pc' := 19) (x6 = 0) (fun _ _ kt kf => x_if_eq dX10_next_16 rfl kt kf) (fun c => ?_) (fun c => ?_)
    · have h := h.1 c
      refine Xi.up (pc' := 24) (fun _ _ k => x_aload_n dX10_next_23 rfl rfl k) ?_
      refine Xi.up (pc' := 25) (fun _ _ k => x_iload_n dX10_next_24 rfl rfl k) ?_
      obtain ⟨M9, hc11, hK10, h⟩ := h
      refine Xi.up (pc' := 28) (st' := []) (fun _ _ k => x_callVK (ci := 10) (as := [zi a1]) (st := []) hK7 k10_choosesSearch lm10_265 dX10_next_25 rfl (by decide) (zs8 rfl) h0.1 ⟨_, _, rfl⟩ hc11 k) ?_
      refine Xi.up (pc' := 29) (fun _ _ k => x_aload_n dX10_next_28 rfl rfl k) ?_
      refine Xi.up (pc' := 32) (fun _ _ k => x_getRK hK10 lf10_35 rfl dX10_next_29 h0.1 h0.2.2.2.2.2.2.2.2.2.1 k) ?_
      refine Xi.up (pc' := 33) (fun _ _ k => x_aload_n dX10_next_32 rfl rfl k) ?_
      refine Xi.up (pc' := 36) (fun _ _ k => x_getIK hK10 lf10_156 rfl dX10_next_33 h0.1 k) ?_
      refine Xi.up (pc' := 38) (fun _ _ k => x_bipush dX10_next_36 (show inR 12 from ⟨by decide, by decide⟩) (by decide) k) ?_
      obtain ⟨g12, h⟩ := h
      refine Xi.up (pc' := 39) (fun _ _ k => x_iadd dX10_next_38 g12 k) ?_
      obtain ⟨g13, h⟩ := h
      obtain ⟨g14, h⟩ := h
      refine Xi.up (pc' := 40) (fun _ _ k => x_ialoadK hK10 dX10_next_39 h0.2.2.2.2.2.2.2.2.2.2.2.2.2.2.2.2.2.2.2.1 g13 g14 k) ?_
      refine Xi.up (pc' := 41) (fun _ _ k => x_iconst dX10_next_40 (show inR 1 from ⟨by decide, by decide⟩) k) ?_
      refine Xi.br (tgt := 66) (pc' := 44) ((mI M9 2239 ((mI M9 2230 16) + 12).toNat) = 1) (fun _ _ kt kf => x_icmp_eq dX10_next_41 rfl kt kf) (fun c => ?_) (fun c => ?_)
      · have h := h.1 c
        refine Xi.up (pc' := 69) (fun _ _ k => x_sipush dX10_next_66 (show inR (-2002) from ⟨by decide, by decide⟩) (by decide) k) ?_
        exact Xi.ret ⟨dX10_next_69, Or.inl rfl⟩ h
      · have h := h.2 c
        refine Xi.up (pc' := 45) (fun _ _ k => x_aload_n dX10_next_44 rfl rfl k) ?_
        obtain ⟨x16, M15, hc18, hK17, h⟩ := h
        refine Xi.up (pc' := 48) (st' := [zi x16]) (fun _ _ k => x_callVK (ci := 10) (as := []) (st := []) hK10 k10_level lm10_166 dX10_next_45 rfl (by decide) (zs8 rfl) h0.1 ⟨_, _, rfl⟩ hc18 k) ?_
        refine Xi.br (tgt := 66) (pc' := 51) (0 < x16) (fun _ _ kt kf => x_if_gt dX10_next_48 rfl kt kf) (fun c => ?_) (fun c => ?_)
        · have h := h.1 c
          refine Xi.up (pc' := 69) (fun _ _ k => x_sipush dX10_next_66 (show inR (-2002) from ⟨by decide, by decide⟩) (by decide) k) ?_
          exact Xi.ret ⟨dX10_next_69, Or.inl rfl⟩ h
        · have h := h.2 c
          refine Xi.up (pc' := 52) (fun _ _ k => x_aload_n dX10_next_51 rfl rfl k) ?_
          refine Xi.up (pc' := 55) (fun _ _ k => x_getRK hK17 lf10_35 rfl dX10_next_52 h0.1 h0.2.2.2.2.2.2.2.2.2.1 k) ?_
          refine Xi.up (pc' := 56) (fun _ _ k => x_aload_n dX10_next_55 rfl rfl k) ?_
          refine Xi.up (pc' := 59) (fun _ _ k => x_getIK hK17 lf10_156 rfl dX10_next_56 h0.1 k) ?_
          refine Xi.up (pc' := 60) (fun _ _ k => x_iconst dX10_next_59 (show inR 0 from ⟨by decide, by decide⟩) k) ?_
          obtain ⟨g19, h⟩ := h
          refine Xi.up (pc' := 61) (fun _ _ k => x_iadd dX10_next_60 g19 k) ?_
          obtain ⟨g20, h⟩ := h
          obtain ⟨g21, h⟩ := h
          refine Xi.up (pc' := 62) (fun _ _ k => x_ialoadK hK17 dX10_next_61 h0.2.2.2.2.2.2.2.2.2.2.2.2.2.2.2.2.2.2.2.1 g20 g21 k) ?_
          refine Xi.up (pc' := 63) (fun _ _ k => x_iconst dX10_next_62 (show inR 2 from ⟨by decide, by decide⟩) k) ?_
          refine Xi.br (tgt := 70) (pc' := 66) ((mI M15 2239 ((mI M15 2230 16) + 0).toNat) ≠ 2) (fun _ _ kt kf => x_icmp_ne dX10_next_63 rfl kt kf) (fun c => ?_) (fun c => ?_)
          · have h := h.1 c
            refine Xi.up (pc' := 71) (fun _ _ k => x_aload_n dX10_next_70 rfl rfl k) ?_
            obtain ⟨x23, M22, hc25, hK24, h⟩ := h
            refine Xi.up (pc' := 74) (st' := [zi x23]) (fun _ _ k => x_callVK (ci := 10) (as := []) (st := []) hK17 k10_chosen lm10_236 dX10_next_71 rfl (by decide) (zs8 rfl) h0.1 ⟨_, _, rfl⟩ hc25 k) ?_
            refine Xi.up (pc' := 75) (L' := [some (zr 2230), some (zi a1), some (zi x23)]) (fun _ _ k => x_istore_n dX10_next_74 rfl (by decide) rfl k) ?_
            refine Xi.up (pc' := 76) (fun _ _ k => x_iload_n dX10_next_75 rfl rfl k) ?_
            refine Xi.up (pc' := 77) (fun _ _ k => x_iconst dX10_next_76 (show inR (-1) from ⟨by decide, by decide⟩) k) ?_
            refine Xi.br (tgt := 86) (pc' := 80) (x23 ≠ (-1)) (fun _ _ kt kf => x_icmp_ne dX10_next_77 rfl kt kf) (fun c => ?_) (fun c => ?_)
            · have h := h.1 c
              refine Xi.up (pc' := 87) (fun _ _ k => x_iload_n dX10_next_86 rfl rfl k) ?_
              exact Xi.ret ⟨dX10_next_87, Or.inl rfl⟩ h
            · have h := h.2 c
              refine Xi.up (pc' := 83) (fun _ _ k => x_sipush dX10_next_80 (show inR (-2002) from ⟨by decide, by decide⟩) (by decide) k) ?_
              refine Xi.up (pc' := 87) (fun _ _ k => x_goto dX10_next_83 rfl k) ?_
              exact Xi.ret ⟨dX10_next_87, Or.inl rfl⟩ h
          · have h := h.2 c
            refine Xi.up (pc' := 69) (fun _ _ k => x_sipush dX10_next_66 (show inR (-2002) from ⟨by decide, by decide⟩) (by decide) k) ?_
            exact Xi.ret ⟨dX10_next_69, Or.inl rfl⟩ h
    · have h := h.2 c
      refine Xi.up (pc' := 22) (fun _ _ k => x_sipush dX10_next_19 (show inR (-2003) from ⟨by decide, by decide⟩) (by decide) k) ?_
      exact Xi.ret ⟨dX10_next_22, Or.inl rfl⟩ h
  · have h := h.2 c
    refine Xi.up (pc' := 10) (fun _ _ k => x_sipush dX10_next_7 (show inR (-2001) from ⟨by decide, by decide⟩) (by decide) k) ?_
    exact Xi.ret ⟨dX10_next_10, Or.inl rfl⟩ h
set_option maxHeartbeats 4000000 in
set_option maxRecDepth 20000 in
theorem B10_isAhead {d : Nat} {K M : ZMem} {Q : Int → ZMem → Prop} (a1 : Int) (a2 : Int) (hK : KW K M) (h0 : ModelAt K 2230) (h : (inR (a1 + 10)) ∧ (0 ≤ (a1 + 10)) ∧ ((a1 + 10) < 19245) ∧ (inR (a2 + 10)) ∧ (0 ≤ (a2 + 10)) ∧ ((a2 + 10) < 19245) ∧ (((mI M 2239 (a1 + 10).toNat) < (mI M 2239 (a2 + 10).toNat) → (Q 1 M)) ∧ (¬ ((mI M 2239 (a1 + 10).toNat) < (mI M 2239 (a2 + 10).toNat)) → ((inR (a1 + 10)) ∧ (0 ≤ (a1 + 10)) ∧ ((a1 + 10) < 19245) ∧ (inR (a2 + 10)) ∧ (0 ≤ (a2 + 10)) ∧ ((a2 + 10) < 19245) ∧ (((mI M 2239 (a1 + 10).toNat) ≠ (mI M 2239 (a2 + 10).toNat) → (Q 0 M)) ∧ (¬ ((mI M 2239 (a1 + 10).toNat) ≠ (mI M 2239 (a2 + 10).toNat)) → ((a2 ≤ a1 → (Q 0 M)) ∧ (¬ (a2 ≤ a1) → (Q 1 M))))))))) : Ci d q10_isAhead [zr 2230, zi a1, zi a2] M Q := by
  refine Ci.of rfl rfl (Nat.le_of_ble_eq_true rfl) (fun w hw x e => by subst e; simp at hw) (L := [some (zr 2230), some (zi a1), some (zi a2)]) rfl ?_
  refine Xi.up (pc' := 1) (fun _ _ k => x_aload_n dX10_isAhead_0 rfl rfl k) ?_
  refine Xi.up (pc' := 4) (fun _ _ k => x_getRK hK lf10_35 rfl dX10_isAhead_1 h0.1 h0.2.2.2.2.2.2.2.2.2.1 k) ?_
  refine Xi.up (pc' := 5) (fun _ _ k => x_iload_n dX10_isAhead_4 rfl rfl k) ?_
  refine Xi.up (pc' := 7) (fun _ _ k => x_bipush dX10_isAhead_5 (show inR 10 from ⟨by decide, by decide⟩) (by decide) k) ?_
  obtain ⟨g1, h⟩ := h
  refine Xi.up (pc' := 8) (fun _ _ k => x_iadd dX10_isAhead_7 g1 k) ?_
  obtain ⟨g2, h⟩ := h
  obtain ⟨g3, h⟩ := h
  refine Xi.up (pc' := 9) (fun _ _ k => x_ialoadK hK dX10_isAhead_8 h0.2.2.2.2.2.2.2.2.2.2.2.2.2.2.2.2.2.2.2.1 g2 g3 k) ?_
  refine Xi.up (pc' := 10) (fun _ _ k => x_aload_n dX10_isAhead_9 rfl rfl k) ?_
  refine Xi.up (pc' := 13) (fun _ _ k => x_getRK hK lf10_35 rfl dX10_isAhead_10 h0.1 h0.2.2.2.2.2.2.2.2.2.1 k) ?_
  refine Xi.up (pc' := 14) (fun _ _ k => x_iload_n dX10_isAhead_13 rfl rfl k) ?_
  refine Xi.up (pc' := 16) (fun _ _ k => x_bipush dX10_isAhead_14 (show inR 10 from ⟨by decide, by decide⟩) (by decide) k) ?_
  obtain ⟨g4, h⟩ := h
  refine Xi.up (pc' := 17) (fun _ _ k => x_iadd dX10_isAhead_16 g4 k) ?_
  obtain ⟨g5, h⟩ := h
  obtain ⟨g6, h⟩ := h
  refine Xi.up (pc' := 18) (fun _ _ k => x_ialoadK hK dX10_isAhead_17 h0.2.2.2.2.2.2.2.2.2.2.2.2.2.2.2.2.2.2.2.1 g5 g6 k) ?_
  refine Xi.br (tgt := 47) (pc' := 21) ((mI M 2239 (a1 + 10).toNat) < (mI M 2239 (a2 + 10).toNat)) (fun _ _ kt kf => x_icmp_lt dX10_isAhead_18 rfl kt kf) (fun c => ?_) (fun c => ?_)
  · have h := h.1 c
    refine Xi.up (pc' := 48) (fun _ _ k => x_iconst dX10_isAhead_47 (show inR 1 from ⟨by decide, by decide⟩) k) ?_
    refine Xi.up (pc' := 52) (fun _ _ k => x_goto dX10_isAhead_48 rfl k) ?_
    exact Xi.ret ⟨dX10_isAhead_52, Or.inr ⟨rfl, Or.inr rfl⟩⟩ h
  · have h := h.2 c
    refine Xi.up (pc' := 22) (fun _ _ k => x_aload_n dX10_isAhead_21 rfl rfl k) ?_
    refine Xi.up (pc' := 25) (fun _ _ k => x_getRK hK lf10_35 rfl dX10_isAhead_22 h0.1 h0.2.2.2.2.2.2.2.2.2.1 k) ?_
    refine Xi.up (pc' := 26) (fun _ _ k => x_iload_n dX10_isAhead_25 rfl rfl k) ?_
    refine Xi.up (pc' := 28) (fun _ _ k => x_bipush dX10_isAhead_26 (show inR 10 from ⟨by decide, by decide⟩) (by decide) k) ?_
    obtain ⟨g7, h⟩ := h
    refine Xi.up (pc' := 29) (fun _ _ k => x_iadd dX10_isAhead_28 g7 k) ?_
    obtain ⟨g8, h⟩ := h
    obtain ⟨g9, h⟩ := h
    refine Xi.up (pc' := 30) (fun _ _ k => x_ialoadK hK dX10_isAhead_29 h0.2.2.2.2.2.2.2.2.2.2.2.2.2.2.2.2.2.2.2.1 g8 g9 k) ?_
    refine Xi.up (pc' := 31) (fun _ _ k => x_aload_n dX10_isAhead_30 rfl rfl k) ?_
    refine Xi.up (pc' := 34) (fun _ _ k => x_getRK hK lf10_35 rfl dX10_isAhead_31 h0.1 h0.2.2.2.2.2.2.2.2.2.1 k) ?_
    refine Xi.up (pc' := 35) (fun _ _ k => x_iload_n dX10_isAhead_34 rfl rfl k) ?_
    refine Xi.up (pc' := 37) (fun _ _ k => x_bipush dX10_isAhead_35 (show inR 10 from ⟨by decide, by decide⟩) (by decide) k) ?_
    obtain ⟨g10, h⟩ := h
    refine Xi.up (pc' := 38) (fun _ _ k => x_iadd dX10_isAhead_37 g10 k) ?_
    obtain ⟨g11, h⟩ := h
    obtain ⟨g12, h⟩ := h
    refine Xi.up (pc' := 39) (fun _ _ k => x_ialoadK hK dX10_isAhead_38 h0.2.2.2.2.2.2.2.2.2.2.2.2.2.2.2.2.2.2.2.1 g11 g12 k) ?_
    refine Xi.br (tgt := 51) (pc' := 42) ((mI M 2239 (a1 + 10).toNat) ≠ (mI M 2239 (a2 + 10).toNat)) (fun _ _ kt kf => x_icmp_ne dX10_isAhead_39 rfl kt kf) (fun c => ?_) (fun c => ?_)
    · have h := h.1 c
      refine Xi.up (pc' := 52) (fun _ _ k => x_iconst dX10_isAhead_51 (show inR 0 from ⟨by decide, by decide⟩) k) ?_
      exact Xi.ret ⟨dX10_isAhead_52, Or.inr ⟨rfl, Or.inl rfl⟩⟩ h
    · have h := h.2 c
      refine Xi.up (pc' := 43) (fun _ _ k => x_iload_n dX10_isAhead_42 rfl rfl k) ?_
      refine Xi.up (pc' := 44) (fun _ _ k => x_iload_n dX10_isAhead_43 rfl rfl k) ?_
      refine Xi.br (tgt := 51) (pc' := 47) (a2 ≤ a1) (fun _ _ kt kf => x_icmp_ge dX10_isAhead_44 rfl kt kf) (fun c => ?_) (fun c => ?_)
      · have h := h.1 c
        refine Xi.up (pc' := 52) (fun _ _ k => x_iconst dX10_isAhead_51 (show inR 0 from ⟨by decide, by decide⟩) k) ?_
        exact Xi.ret ⟨dX10_isAhead_52, Or.inr ⟨rfl, Or.inl rfl⟩⟩ h
      · have h := h.2 c
        refine Xi.up (pc' := 48) (fun _ _ k => x_iconst dX10_isAhead_47 (show inR 1 from ⟨by decide, by decide⟩) k) ?_
        refine Xi.up (pc' := 52) (fun _ _ k => x_goto dX10_isAhead_48 rfl k) ?_
        exact Xi.ret ⟨dX10_isAhead_52, Or.inr ⟨rfl, Or.inr rfl⟩⟩ h
set_option maxHeartbeats 4000000 in
set_option maxRecDepth 20000 in
theorem B10_ordered {d : Nat} {K M : ZMem} {Q : Int → ZMem → Prop} (a1 : Int) (a2 : Int) (hK : KW K M) (h0 : ModelAt K 2230) (h : Ci d q10_isSearch [zi a1] M (fun x2 M1 => KW K M1 ∧ ((x2 = 0 → (Q (-2001) M1)) ∧ (¬ (x2 = 0) → ((0 ≤ a2 → (Ci d q10_isNone [zr 2230, zi a1] M1 (fun x6 M5 => KW K M5 ∧ ((x6 = 0 → ((inR (3849 * a1)) ∧ (inR ((3849 * a1) + 3129)) ∧ (inR (3849 * a1)) ∧ (inR ((3849 * a1) + 15)) ∧ (0 ≤ ((3849 * a1) + 15)) ∧ (((3849 * a1) + 15) < 19245) ∧ Xi (d + 1) q10_ordered 55 [some (zr 2230), none, some (zi a2), some (zi ((3849 * a1) + 3129)), some (zi (mI M5 2239 ((3849 * a1) + 15).toNat)), some (zi 0), none, none] [] M5 Q)) ∧ (¬ (x6 = 0) → (Q (-2003) M5)))))) ∧ (¬ (0 ≤ a2) → (Q (-2001) M1))))))) : Ci (d + 1) q10_ordered [zr 2230, zi a1, zi a2] M Q := by
  refine Ci.of rfl rfl (Nat.le_of_ble_eq_true rfl) (fun w hw x e => by subst e; simp at hw) (L := [some (zr 2230), some (zi a1), some (zi a2), none, none, none, none, none]) rfl ?_
  refine Xi.up (pc' := 1) (fun _ _ k => x_iload_n dX10_ordered_0 rfl rfl k) ?_
  obtain ⟨x2, M1, hc4, hK3, h⟩ := h
  refine Xi.up (pc' := 4) (st' := [zi x2]) (fun _ _ k => x_callS (as := [zi a1]) (st := []) k10_isSearch lm10_260 dX10_ordered_1 rfl (by decide) (zs8 rfl) hc4 k) ?_
  refine Xi.br (tgt := 11) (pc' := 7) (x2 = 0) (fun _ _ kt kf => x_if_eq dX10_ordered_4 rfl kt kf) (fun c => ?_) (fun c => ?_)
  · have h := h.1 c
    refine Xi.up (pc' := 14) (fun _ _ k => x_sipush dX10_ordered_11 (show inR (-2001) from ⟨by decide, by decide⟩) (by decide) k) ?_
    exact Xi.ret ⟨dX10_ordered_14, Or.inl rfl⟩ h
  · have h := h.2 c
    refine Xi.up (pc' := 8) (fun _ _ k => x_iload_n dX10_ordered_7 rfl rfl k) ?_
    refine Xi.br (tgt := 15) (pc' := 11) (0 ≤ a2) (fun _ _ kt kf => x_if_ge dX10_ordered_8 rfl kt kf) (fun c => ?_) (fun c => ?_)
    · have h := h.1 c
      refine Xi.up (pc' := 16) (fun _ _ k => x_aload_n dX10_ordered_15 rfl rfl k) ?_
      refine Xi.up (pc' := 17) (fun _ _ k => x_iload_n dX10_ordered_16 rfl rfl k) ?_
      obtain ⟨x6, M5, hc8, hK7, h⟩ := h
      refine Xi.up (pc' := 20) (st' := [zi x6]) (fun _ _ k => x_callVK (ci := 10) (as := [zi a1]) (st := []) hK3 k10_isNone lm10_280 dX10_ordered_17 rfl (by decide) (zs8 rfl) h0.1 ⟨_, _, rfl⟩ hc8 k) ?_
      refine Xi.br (tgt := 27) (pc' := 23) (x6 = 0) (fun _ _ kt kf => x_if_eq dX10_ordered_20 rfl kt kf) (fun c => ?_) (fun c => ?_)
      · have h := h.1 c
        refine Xi.up (pc' := 30) (fun _ _ k => x_sipush dX10_ordered_27 (show inR 3849 from ⟨by decide, by decide⟩) (by decide) k) ?_
        refine Xi.up (pc' := 31) (fun _ _ k => x_iload_n dX10_ordered_30 rfl rfl k) ?_
        obtain ⟨g9, h⟩ := h
        refine Xi.up (pc' := 32) (fun _ _ k => x_imul dX10_ordered_31 g9 k) ?_
        refine Xi.up (pc' := 35) (fun _ _ k => x_sipush dX10_ordered_32 (show inR 3129 from ⟨by decide, by decide⟩) (by decide) k) ?_
        obtain ⟨g10, h⟩ := h
        refine Xi.up (pc' := 36) (fun _ _ k => x_iadd dX10_ordered_35 g10 k) ?_
        refine Xi.up (pc' := 37) (L' := [some (zr 2230), some (zi a1), some (zi a2), some (zi ((3849 * a1) + 3129)), none, none, none, none]) (fun _ _ k => x_istore_n dX10_ordered_36 rfl (by decide) rfl k) ?_
        refine Xi.up (pc' := 38) (fun _ _ k => x_aload_n dX10_ordered_37 rfl rfl k) ?_
        refine Xi.up (pc' := 41) (fun _ _ k => x_getRK hK7 lf10_35 rfl dX10_ordered_38 h0.1 h0.2.2.2.2.2.2.2.2.2.1 k) ?_
        refine Xi.up (pc' := 44) (fun _ _ k => x_sipush dX10_ordered_41 (show inR 3849 from ⟨by decide, by decide⟩) (by decide) k) ?_
        refine Xi.up (pc' := 45) (fun _ _ k => x_iload_n dX10_ordered_44 rfl rfl k) ?_
        obtain ⟨g11, h⟩ := h
        refine Xi.up (pc' := 46) (fun _ _ k => x_imul dX10_ordered_45 g11 k) ?_
        refine Xi.up (pc' := 48) (fun _ _ k => x_bipush dX10_ordered_46 (show inR 15 from ⟨by decide, by decide⟩) (by decide) k) ?_
        obtain ⟨g12, h⟩ := h
        refine Xi.up (pc' := 49) (fun _ _ k => x_iadd dX10_ordered_48 g12 k) ?_
        obtain ⟨g13, h⟩ := h
        obtain ⟨g14, h⟩ := h
        refine Xi.up (pc' := 50) (fun _ _ k => x_ialoadK hK7 dX10_ordered_49 h0.2.2.2.2.2.2.2.2.2.2.2.2.2.2.2.2.2.2.2.1 g13 g14 k) ?_
        refine Xi.up (pc' := 52) (L' := [some (zr 2230), some (zi a1), some (zi a2), some (zi ((3849 * a1) + 3129)), some (zi (mI M5 2239 ((3849 * a1) + 15).toNat)), none, none, none]) (fun _ _ k => x_istore dX10_ordered_50 (by decide) rfl k) ?_
        refine Xi.up (pc' := 53) (fun _ _ k => x_iconst dX10_ordered_52 (show inR 0 from ⟨by decide, by decide⟩) k) ?_
        refine Xi.up (pc' := 55) (L' := [some (zr 2230), some (zi a1), some (zi a2), some (zi ((3849 * a1) + 3129)), some (zi (mI M5 2239 ((3849 * a1) + 15).toNat)), some (zi 0), none, none]) (fun _ _ k => x_istore dX10_ordered_53 (by decide) rfl k) ?_
        exact Xi.up (fun _ _ k => x_less (L' := [some (zr 2230), none, some (zi a2), some (zi ((3849 * a1) + 3129)), some (zi (mI M5 2239 ((3849 * a1) + 15).toNat)), some (zi 0), none, none]) (⟨rfl, ⟨rfl, ⟨rfl, ⟨rfl, ⟨rfl, trivial⟩⟩⟩⟩⟩) k) h
      · have h := h.2 c
        refine Xi.up (pc' := 26) (fun _ _ k => x_sipush dX10_ordered_23 (show inR (-2003) from ⟨by decide, by decide⟩) (by decide) k) ?_
        exact Xi.ret ⟨dX10_ordered_26, Or.inl rfl⟩ h
    · have h := h.2 c
      refine Xi.up (pc' := 14) (fun _ _ k => x_sipush dX10_ordered_11 (show inR (-2001) from ⟨by decide, by decide⟩) (by decide) k) ?_
      exact Xi.ret ⟨dX10_ordered_14, Or.inl rfl⟩ h
set_option maxHeartbeats 4000000 in
set_option maxRecDepth 20000 in
theorem B10_ordered_55 {d : Nat} {K M : ZMem} {Q : Int → ZMem → Prop} (a2 : Int) (l3 : Int) (l4 : Int) (l5 : Int) (hK : KW K M) (h0 : ModelAt K 2230) (h : ((l4 ≤ l5 → (Q (-2002) M)) ∧ (¬ (l4 ≤ l5) → (Xi (d + 1) q10_ordered 68 [some (zr 2230), none, some (zi a2), some (zi l3), some (zi l4), some (zi l5), some (zi 0), some (zi 0)] [] M Q)))) : Xi (d + 1) q10_ordered 55 [some (zr 2230), none, some (zi a2), some (zi l3), some (zi l4), some (zi l5), none, none] [] M Q := by
  refine Xi.up (pc' := 57) (fun _ _ k => x_iload dX10_ordered_55 rfl k) ?_
  refine Xi.up (pc' := 59) (fun _ _ k => x_iload dX10_ordered_57 rfl k) ?_
  refine Xi.br (tgt := 127) (pc' := 62) (l4 ≤ l5) (fun _ _ kt kf => x_icmp_ge dX10_ordered_59 rfl kt kf) (fun c => ?_) (fun c => ?_)
  · have h := h.1 c
    refine Xi.up (pc' := 130) (fun _ _ k => x_sipush dX10_ordered_127 (show inR (-2002) from ⟨by decide, by decide⟩) (by decide) k) ?_
    exact Xi.ret ⟨dX10_ordered_130, Or.inl rfl⟩ h
  · have h := h.2 c
    refine Xi.up (pc' := 63) (fun _ _ k => x_iconst dX10_ordered_62 (show inR 0 from ⟨by decide, by decide⟩) k) ?_
    refine Xi.up (pc' := 65) (L' := [some (zr 2230), none, some (zi a2), some (zi l3), some (zi l4), some (zi l5), some (zi 0), none]) (fun _ _ k => x_istore dX10_ordered_63 (by decide) rfl k) ?_
    refine Xi.up (pc' := 66) (fun _ _ k => x_iconst dX10_ordered_65 (show inR 0 from ⟨by decide, by decide⟩) k) ?_
    refine Xi.up (pc' := 68) (L' := [some (zr 2230), none, some (zi a2), some (zi l3), some (zi l4), some (zi l5), some (zi 0), some (zi 0)]) (fun _ _ k => x_istore dX10_ordered_66 (by decide) rfl k) ?_
    exact h
set_option maxHeartbeats 4000000 in
set_option maxRecDepth 20000 in
theorem B10_ordered_68 {d : Nat} {K M : ZMem} {Q : Int → ZMem → Prop} (a2 : Int) (l3 : Int) (l4 : Int) (l5 : Int) (l6 : Int) (l7 : Int) (hK : KW K M) (h0 : ModelAt K 2230) (h : ((l4 ≤ l7 → ((l6 ≠ a2 → ((inR (l5 + 1)) ∧ Xi (d + 1) q10_ordered 55 [some (zr 2230), none, some (zi a2), some (zi l3), some (zi l4), some (zi (l5 + 1)), none, none] [] M Q)) ∧ (¬ (l6 ≠ a2) → (Q l5 M)))) ∧ (¬ (l4 ≤ l7) → ((inR (12 * l7)) ∧ (inR (l3 + (12 * l7))) ∧ (inR (12 * l5)) ∧ (inR (l3 + (12 * l5))) ∧ Ci d q10_isAhead [zr 2230, zi (l3 + (12 * l7)), zi (l3 + (12 * l5))] M (fun x7 M6 => KW K M6 ∧ ((x7 = 0 → ((inR (l6 + 0)) ∧ (inR (l7 + 1)) ∧ Xi (d + 1) q10_ordered 68 [some (zr 2230), none, some (zi a2), some (zi l3), some (zi l4), some (zi l5), some (zi (l6 + 0)), some (zi (l7 + 1))] [] M6 Q)) ∧ (¬ (x7 = 0) → ((inR (l6 + 1)) ∧ (inR (l7 + 1)) ∧ Xi (d + 1) q10_ordered 68 [some (zr 2230), none, some (zi a2), some (zi l3), some (zi l4), some (zi l5), some (zi (l6 + 1)), some (zi (l7 + 1))] [] M6 Q)))))))) : Xi (d + 1) q10_ordered 68 [some (zr 2230), none, some (zi a2), some (zi l3), some (zi l4), some (zi l5), some (zi l6), some (zi l7)] [] M Q := by
  refine Xi.up (pc' := 70) (fun _ _ k => x_iload dX10_ordered_68 rfl k) ?_
  refine Xi.up (pc' := 72) (fun _ _ k => x_iload dX10_ordered_70 rfl k) ?_
  refine Xi.br (tgt := 112) (pc' := 75) (l4 ≤ l7) (fun _ _ kt kf => x_icmp_ge dX10_ordered_72 rfl kt kf) (fun c => ?_) (fun c => ?_)
  · have h := h.1 c
    refine Xi.up (pc' := 114) (fun _ _ k => x_iload dX10_ordered_112 rfl k) ?_
    refine Xi.up (pc' := 115) (fun _ _ k => x_iload_n dX10_ordered_114 rfl rfl k) ?_
    refine Xi.br (tgt := 121) (pc' := 118) (l6 ≠ a2) (fun _ _ kt kf => x_icmp_ne dX10_ordered_115 rfl kt kf) (fun c => ?_) (fun c => ?_)
    · have h := h.1 c
      obtain ⟨g1, h⟩ := h
      refine Xi.up (pc' := 124) (L' := [some (zr 2230), none, some (zi a2), some (zi l3), some (zi l4), some (zi (l5 + 1)), some (zi l6), some (zi l7)]) (fun _ _ k => x_iinc dX10_ordered_121 rfl g1 (by decide) rfl k) ?_
      refine Xi.up (pc' := 55) (fun _ _ k => x_goto dX10_ordered_124 rfl k) ?_
      exact Xi.up (fun _ _ k => x_less (L' := [some (zr 2230), none, some (zi a2), some (zi l3), some (zi l4), some (zi (l5 + 1)), none, none]) (⟨rfl, ⟨rfl, ⟨rfl, ⟨rfl, ⟨rfl, trivial⟩⟩⟩⟩⟩) k) h
    · have h := h.2 c
      refine Xi.up (pc' := 120) (fun _ _ k => x_iload dX10_ordered_118 rfl k) ?_
      exact Xi.ret ⟨dX10_ordered_120, Or.inl rfl⟩ h
  · have h := h.2 c
    refine Xi.up (pc' := 77) (fun _ _ k => x_iload dX10_ordered_75 rfl k) ?_
    refine Xi.up (pc' := 78) (fun _ _ k => x_aload_n dX10_ordered_77 rfl rfl k) ?_
    refine Xi.up (pc' := 79) (fun _ _ k => x_iload_n dX10_ordered_78 rfl rfl k) ?_
    refine Xi.up (pc' := 81) (fun _ _ k => x_bipush dX10_ordered_79 (show inR 12 from ⟨by decide, by decide⟩) (by decide) k) ?_
    refine Xi.up (pc' := 83) (fun _ _ k => x_iload dX10_ordered_81 rfl k) ?_
    obtain ⟨g2, h⟩ := h
    refine Xi.up (pc' := 84) (fun _ _ k => x_imul dX10_ordered_83 g2 k) ?_
    obtain ⟨g3, h⟩ := h
    refine Xi.up (pc' := 85) (fun _ _ k => x_iadd dX10_ordered_84 g3 k) ?_
    refine Xi.up (pc' := 86) (fun _ _ k => x_iload_n dX10_ordered_85 rfl rfl k) ?_
    refine Xi.up (pc' := 88) (fun _ _ k => x_bipush dX10_ordered_86 (show inR 12 from ⟨by decide, by decide⟩) (by decide) k) ?_
    refine Xi.up (pc' := 90) (fun _ _ k => x_iload dX10_ordered_88 rfl k) ?_
    obtain ⟨g4, h⟩ := h
    refine Xi.up (pc' := 91) (fun _ _ k => x_imul dX10_ordered_90 g4 k) ?_
    obtain ⟨g5, h⟩ := h
    refine Xi.up (pc' := 92) (fun _ _ k => x_iadd dX10_ordered_91 g5 k) ?_
    obtain ⟨x7, M6, hc9, hK8, h⟩ := h
    refine Xi.up (pc' := 95) (st' := [zi x7, zi l6]) (fun _ _ k => x_callVK (ci := 10) (as := [zi (l3 + (12 * l7)), zi (l3 + (12 * l5))]) (st := [zi l6]) hK k10_isAhead lm10_288 dX10_ordered_92 rfl (by decide) (zs8 rfl) h0.1 ⟨_, _, rfl⟩ hc9 k) ?_
    refine Xi.br (tgt := 102) (pc' := 98) (x7 = 0) (fun _ _ kt kf => x_if_eq dX10_ordered_95 rfl kt kf) (fun c => ?_) (fun c => ?_)
    · have h := h.1 c
      refine Xi.up (pc' := 103) (fun _ _ k => x_iconst dX10_ordered_102 (show inR 0 from ⟨by decide, by decide⟩) k) ?_
      obtain ⟨g10, h⟩ := h
      refine Xi.up (pc' := 104) (fun _ _ k => x_iadd dX10_ordered_103 g10 k) ?_
      refine Xi.up (pc' := 106) (L' := [some (zr 2230), none, some (zi a2), some (zi l3), some (zi l4), some (zi l5), some (zi (l6 + 0)), some (zi l7)]) (fun _ _ k => x_istore dX10_ordered_104 (by decide) rfl k) ?_
      obtain ⟨g11, h⟩ := h
      refine Xi.up (pc' := 109) (L' := [some (zr 2230), none, some (zi a2), some (zi l3), some (zi l4), some (zi l5), some (zi (l6 + 0)), some (zi (l7 + 1))]) (fun _ _ k => x_iinc dX10_ordered_106 rfl g11 (by decide) rfl k) ?_
      refine Xi.up (pc' := 68) (fun _ _ k => x_goto dX10_ordered_109 rfl k) ?_
      exact h
    · have h := h.2 c
      refine Xi.up (pc' := 99) (fun _ _ k => x_iconst dX10_ordered_98 (show inR 1 from ⟨by decide, by decide⟩) k) ?_
      refine Xi.up (pc' := 103) (fun _ _ k => x_goto dX10_ordered_99 rfl k) ?_
      obtain ⟨g12, h⟩ := h
      refine Xi.up (pc' := 104) (fun _ _ k => x_iadd dX10_ordered_103 g12 k) ?_
      refine Xi.up (pc' := 106) (L' := [some (zr 2230), none, some (zi a2), some (zi l3), some (zi l4), some (zi l5), some (zi (l6 + 1)), some (zi l7)]) (fun _ _ k => x_istore dX10_ordered_104 (by decide) rfl k) ?_
      obtain ⟨g13, h⟩ := h
      refine Xi.up (pc' := 109) (L' := [some (zr 2230), none, some (zi a2), some (zi l3), some (zi l4), some (zi l5), some (zi (l6 + 1)), some (zi (l7 + 1))]) (fun _ _ k => x_iinc dX10_ordered_106 rfl g13 (by decide) rfl k) ?_
      refine Xi.up (pc' := 68) (fun _ _ k => x_goto dX10_ordered_109 rfl k) ?_
      exact h
set_option maxHeartbeats 4000000 in
set_option maxRecDepth 20000 in
theorem B10_isLike {d : Nat} {K M : ZMem} {Q : Int → ZMem → Prop} (a1 : Int) (a2 : Int) (hK : KW K M) (h0 : ModelAt K 2230) (h : Xi d q10_isLike 2 [some (zr 2230), some (zi a1), some (zi a2), some (zi 0)] [] M Q) : Ci d q10_isLike [zr 2230, zi a1, zi a2] M Q := by
  refine Ci.of rfl rfl (Nat.le_of_ble_eq_true rfl) (fun w hw x e => by subst e; simp at hw) (L := [some (zr 2230), some (zi a1), some (zi a2), none]) rfl ?_
  refine Xi.up (pc' := 1) (fun _ _ k => x_iconst dX10_isLike_0 (show inR 0 from ⟨by decide, by decide⟩) k) ?_
  refine Xi.up (pc' := 2) (L' := [some (zr 2230), some (zi a1), some (zi a2), some (zi 0)]) (fun _ _ k => x_istore_n dX10_isLike_1 rfl (by decide) rfl k) ?_
  exact h
set_option maxHeartbeats 4000000 in
set_option maxRecDepth 20000 in
theorem B10_isLike_2 {d : Nat} {K M : ZMem} {Q : Int → ZMem → Prop} (a1 : Int) (a2 : Int) (l3 : Int) (hK : KW K M) (h0 : ModelAt K 2230) (h : ((8 ≤ l3 → (Q 1 M)) ∧ (¬ (8 ≤ l3) → ((inR (a1 + l3)) ∧ (0 ≤ (a1 + l3)) ∧ ((a1 + l3) < 19245) ∧ (inR (a2 + l3)) ∧ (0 ≤ (a2 + l3)) ∧ ((a2 + l3) < 19245) ∧ (((mI M 2239 (a1 + l3).toNat) = (mI M 2239 (a2 + l3).toNat) → ((inR (l3 + 1)) ∧ Xi d q10_isLike 2 [some (zr 2230), some (zi a1), some (zi a2), some (zi (l3 + 1))] [] M Q)) ∧ (¬ ((mI M 2239 (a1 + l3).toNat) = (mI M 2239 (a2 + l3).toNat)) → (Q 0 M))))))) : Xi d q10_isLike 2 [some (zr 2230), some (zi a1), some (zi a2), some (zi l3)] [] M Q := by
  refine Xi.up (pc' := 3) (fun _ _ k => x_iload_n dX10_isLike_2 rfl rfl k) ?_
  refine Xi.up (pc' := 5) (fun _ _ k => x_bipush dX10_isLike_3 (show inR 8 from ⟨by decide, by decide⟩) (by decide) k) ?_
  refine Xi.br (tgt := 35) (pc' := 8) (8 ≤ l3) (fun _ _ kt kf => x_icmp_ge dX10_isLike_5 rfl kt kf) (fun c => ?_) (fun c => ?_)
  · have h := h.1 c
    refine Xi.up (pc' := 36) (fun _ _ k => x_iconst dX10_isLike_35 (show inR 1 from ⟨by decide, by decide⟩) k) ?_
    exact Xi.ret ⟨dX10_isLike_36, Or.inr ⟨rfl, Or.inr rfl⟩⟩ h
  · have h := h.2 c
    refine Xi.up (pc' := 9) (fun _ _ k => x_aload_n dX10_isLike_8 rfl rfl k) ?_
    refine Xi.up (pc' := 12) (fun _ _ k => x_getRK hK lf10_35 rfl dX10_isLike_9 h0.1 h0.2.2.2.2.2.2.2.2.2.1 k) ?_
    refine Xi.up (pc' := 13) (fun _ _ k => x_iload_n dX10_isLike_12 rfl rfl k) ?_
    refine Xi.up (pc' := 14) (fun _ _ k => x_iload_n dX10_isLike_13 rfl rfl k) ?_
    obtain ⟨g1, h⟩ := h
    refine Xi.up (pc' := 15) (fun _ _ k => x_iadd dX10_isLike_14 g1 k) ?_
    obtain ⟨g2, h⟩ := h
    obtain ⟨g3, h⟩ := h
    refine Xi.up (pc' := 16) (fun _ _ k => x_ialoadK hK dX10_isLike_15 h0.2.2.2.2.2.2.2.2.2.2.2.2.2.2.2.2.2.2.2.1 g2 g3 k) ?_
    refine Xi.up (pc' := 17) (fun _ _ k => x_aload_n dX10_isLike_16 rfl rfl k) ?_
    refine Xi.up (pc' := 20) (fun _ _ k => x_getRK hK lf10_35 rfl dX10_isLike_17 h0.1 h0.2.2.2.2.2.2.2.2.2.1 k) ?_
    refine Xi.up (pc' := 21) (fun _ _ k => x_iload_n dX10_isLike_20 rfl rfl k) ?_
    refine Xi.up (pc' := 22) (fun _ _ k => x_iload_n dX10_isLike_21 rfl rfl k) ?_
    obtain ⟨g4, h⟩ := h
    refine Xi.up (pc' := 23) (fun _ _ k => x_iadd dX10_isLike_22 g4 k) ?_
    obtain ⟨g5, h⟩ := h
    obtain ⟨g6, h⟩ := h
    refine Xi.up (pc' := 24) (fun _ _ k => x_ialoadK hK dX10_isLike_23 h0.2.2.2.2.2.2.2.2.2.2.2.2.2.2.2.2.2.2.2.1 g5 g6 k) ?_
    refine Xi.br (tgt := 29) (pc' := 27) ((mI M 2239 (a1 + l3).toNat) = (mI M 2239 (a2 + l3).toNat)) (fun _ _ kt kf => x_icmp_eq dX10_isLike_24 rfl kt kf) (fun c => ?_) (fun c => ?_)
    · have h := h.1 c
      obtain ⟨g7, h⟩ := h
      refine Xi.up (pc' := 32) (L' := [some (zr 2230), some (zi a1), some (zi a2), some (zi (l3 + 1))]) (fun _ _ k => x_iinc dX10_isLike_29 rfl g7 (by decide) rfl k) ?_
      refine Xi.up (pc' := 2) (fun _ _ k => x_goto dX10_isLike_32 rfl k) ?_
      exact h
    · have h := h.2 c
      refine Xi.up (pc' := 28) (fun _ _ k => x_iconst dX10_isLike_27 (show inR 0 from ⟨by decide, by decide⟩) k) ?_
      exact Xi.ret ⟨dX10_isLike_28, Or.inr ⟨rfl, Or.inl rfl⟩⟩ h
set_option maxHeartbeats 4000000 in
set_option maxRecDepth 20000 in
theorem B10_hasLike {d : Nat} {K M : ZMem} {Q : Int → ZMem → Prop} (a1 : Int) (a2 : Int) (a3 : Int) (hK : KW K M) (h0 : ModelAt K 2230) (h : Xi (d + 1) q10_hasLike 3 [some (zr 2230), some (zi a1), some (zi a2), some (zi a3), some (zi 0)] [] M Q) : Ci (d + 1) q10_hasLike [zr 2230, zi a1, zi a2, zi a3] M Q := by
  refine Ci.of rfl rfl (Nat.le_of_ble_eq_true rfl) (fun w hw x e => by subst e; simp at hw) (L := [some (zr 2230), some (zi a1), some (zi a2), some (zi a3), none]) rfl ?_
  refine Xi.up (pc' := 1) (fun _ _ k => x_iconst dX10_hasLike_0 (show inR 0 from ⟨by decide, by decide⟩) k) ?_
  refine Xi.up (pc' := 3) (L' := [some (zr 2230), some (zi a1), some (zi a2), some (zi a3), some (zi 0)]) (fun _ _ k => x_istore dX10_hasLike_1 (by decide) rfl k) ?_
  exact h
set_option maxHeartbeats 4000000 in
set_option maxRecDepth 20000 in
theorem B10_hasLike_3 {d : Nat} {K M : ZMem} {Q : Int → ZMem → Prop} (a1 : Int) (a2 : Int) (a3 : Int) (l4 : Int) (hK : KW K M) (h0 : ModelAt K 2230) (h : ((a2 ≤ l4 → (Q 0 M)) ∧ (¬ (a2 ≤ l4) → ((inR (3849 * a1)) ∧ (inR ((3849 * a1) + 3129)) ∧ (inR (12 * l4)) ∧ (inR (((3849 * a1) + 3129) + (12 * l4))) ∧ Ci d q10_isLike [zr 2230, zi (((3849 * a1) + 3129) + (12 * l4)), zi a3] M (fun x6 M5 => KW K M5 ∧ ((x6 = 0 → ((inR (l4 + 1)) ∧ Xi (d + 1) q10_hasLike 3 [some (zr 2230), some (zi a1), some (zi a2), some (zi a3), some (zi (l4 + 1))] [] M5 Q)) ∧ (¬ (x6 = 0) → (Q 1 M5)))))))) : Xi (d + 1) q10_hasLike 3 [some (zr 2230), some (zi a1), some (zi a2), some (zi a3), some (zi l4)] [] M Q := by
  refine Xi.up (pc' := 5) (fun _ _ k => x_iload dX10_hasLike_3 rfl k) ?_
  refine Xi.up (pc' := 6) (fun _ _ k => x_iload_n dX10_hasLike_5 rfl rfl k) ?_
  refine Xi.br (tgt := 40) (pc' := 9) (a2 ≤ l4) (fun _ _ kt kf => x_icmp_ge dX10_hasLike_6 rfl kt kf) (fun c => ?_) (fun c => ?_)
  · have h := h.1 c
    refine Xi.up (pc' := 41) (fun _ _ k => x_iconst dX10_hasLike_40 (show inR 0 from ⟨by decide, by decide⟩) k) ?_
    exact Xi.ret ⟨dX10_hasLike_41, Or.inr ⟨rfl, Or.inl rfl⟩⟩ h
  · have h := h.2 c
    refine Xi.up (pc' := 10) (fun _ _ k => x_aload_n dX10_hasLike_9 rfl rfl k) ?_
    refine Xi.up (pc' := 13) (fun _ _ k => x_sipush dX10_hasLike_10 (show inR 3849 from ⟨by decide, by decide⟩) (by decide) k) ?_
    refine Xi.up (pc' := 14) (fun _ _ k => x_iload_n dX10_hasLike_13 rfl rfl k) ?_
    obtain ⟨g1, h⟩ := h
    refine Xi.up (pc' := 15) (fun _ _ k => x_imul dX10_hasLike_14 g1 k) ?_
    refine Xi.up (pc' := 18) (fun _ _ k => x_sipush dX10_hasLike_15 (show inR 3129 from ⟨by decide, by decide⟩) (by decide) k) ?_
    obtain ⟨g2, h⟩ := h
    refine Xi.up (pc' := 19) (fun _ _ k => x_iadd dX10_hasLike_18 g2 k) ?_
    refine Xi.up (pc' := 21) (fun _ _ k => x_bipush dX10_hasLike_19 (show inR 12 from ⟨by decide, by decide⟩) (by decide) k) ?_
    refine Xi.up (pc' := 23) (fun _ _ k => x_iload dX10_hasLike_21 rfl k) ?_
    obtain ⟨g3, h⟩ := h
    refine Xi.up (pc' := 24) (fun _ _ k => x_imul dX10_hasLike_23 g3 k) ?_
    obtain ⟨g4, h⟩ := h
    refine Xi.up (pc' := 25) (fun _ _ k => x_iadd dX10_hasLike_24 g4 k) ?_
    refine Xi.up (pc' := 26) (fun _ _ k => x_iload_n dX10_hasLike_25 rfl rfl k) ?_
    obtain ⟨x6, M5, hc8, hK7, h⟩ := h
    refine Xi.up (pc' := 29) (st' := [zi x6]) (fun _ _ k => x_callVK (ci := 10) (as := [zi (((3849 * a1) + 3129) + (12 * l4)), zi a3]) (st := []) hK k10_isLike lm10_292 dX10_hasLike_26 rfl (by decide) (zs8 rfl) h0.1 ⟨_, _, rfl⟩ hc8 k) ?_
    refine Xi.br (tgt := 34) (pc' := 32) (x6 = 0) (fun _ _ kt kf => x_if_eq dX10_hasLike_29 rfl kt kf) (fun c => ?_) (fun c => ?_)
    · have h := h.1 c
      obtain ⟨g9, h⟩ := h
      refine Xi.up (pc' := 37) (L' := [some (zr 2230), some (zi a1), some (zi a2), some (zi a3), some (zi (l4 + 1))]) (fun _ _ k => x_iinc dX10_hasLike_34 rfl g9 (by decide) rfl k) ?_
      refine Xi.up (pc' := 3) (fun _ _ k => x_goto dX10_hasLike_37 rfl k) ?_
      exact h
    · have h := h.2 c
      refine Xi.up (pc' := 33) (fun _ _ k => x_iconst dX10_hasLike_32 (show inR 1 from ⟨by decide, by decide⟩) k) ?_
      exact Xi.ret ⟨dX10_hasLike_33, Or.inr ⟨rfl, Or.inr rfl⟩⟩ h
set_option maxHeartbeats 4000000 in
set_option maxRecDepth 20000 in
theorem B10_common {d : Nat} {K M : ZMem} {Q : Int → ZMem → Prop} (a1 : Int) (a2 : Int) (hK : KW K M) (h0 : ModelAt K 2230) (h : Ci d q10_isSearch [zi a1] M (fun x2 M1 => KW K M1 ∧ ((x2 = 0 → (Q (-2001) M1)) ∧ (¬ (x2 = 0) → (Ci d q10_isSearch [zi a2] M1 (fun x6 M5 => KW K M5 ∧ ((x6 ≠ 0 → (Ci d q10_isNone [zr 2230, zi a1] M5 (fun x10 M9 => KW K M9 ∧ ((x10 ≠ 0 → (Q (-2003) M9)) ∧ (¬ (x10 ≠ 0) → (Ci d q10_isNone [zr 2230, zi a2] M9 (fun x14 M13 => KW K M13 ∧ ((x14 = 0 → (Xi (d + 1) q10_common 43 [some (zr 2230), some (zi a1), some (zi a2), some (zi 0), some (zi 0)] [] M13 Q)) ∧ (¬ (x14 = 0) → (Q (-2003) M13)))))))))) ∧ (¬ (x6 ≠ 0) → (Q (-2001) M5))))))))) : Ci (d + 1) q10_common [zr 2230, zi a1, zi a2] M Q := by
  refine Ci.of rfl rfl (Nat.le_of_ble_eq_true rfl) (fun w hw x e => by subst e; simp at hw) (L := [some (zr 2230), some (zi a1), some (zi a2), none, none]) rfl ?_
  refine Xi.up (pc' := 1) (fun _ _ k => x_iload_n dX10_common_0 rfl rfl k) ?_
  obtain ⟨x2, M1, hc4, hK3, h⟩ := h
  refine Xi.up (pc' := 4) (st' := [zi x2]) (fun _ _ k => x_callS (as := [zi a1]) (st := []) k10_isSearch lm10_260 dX10_common_1 rfl (by decide) (zs8 rfl) hc4 k) ?_
  refine Xi.br (tgt := 14) (pc' := 7) (x2 = 0) (fun _ _ kt kf => x_if_eq dX10_common_4 rfl kt kf) (fun c => ?_) (fun c => ?_)
  · have h := h.1 c
    refine Xi.up (pc' := 17) (fun _ _ k => x_sipush dX10_common_14 (show inR (-2001) from ⟨by decide, by decide⟩) (by decide) k) ?_
    exact Xi.ret ⟨dX10_common_17, Or.inl rfl⟩ h
  · have h := h.2 c
    refine Xi.up (pc' := 8) (fun _ _ k => x_iload_n dX10_common_7 rfl rfl k) ?_
    obtain ⟨x6, M5, hc8, hK7, h⟩ := h
    refine Xi.up (pc' := 11) (st' := [zi x6]) (fun _ _ k => x_callS (as := [zi a2]) (st := []) k10_isSearch lm10_260 dX10_common_8 rfl (by decide) (zs8 rfl) hc8 k) ?_
    refine Xi.br (tgt := 18) (pc' := 14) (x6 ≠ 0) (fun _ _ kt kf => x_if_ne dX10_common_11 rfl kt kf) (fun c => ?_) (fun c => ?_)
    · have h := h.1 c
      refine Xi.up (pc' := 19) (fun _ _ k => x_aload_n dX10_common_18 rfl rfl k) ?_
      refine Xi.up (pc' := 20) (fun _ _ k => x_iload_n dX10_common_19 rfl rfl k) ?_
      obtain ⟨x10, M9, hc12, hK11, h⟩ := h
      refine Xi.up (pc' := 23) (st' := [zi x10]) (fun _ _ k => x_callVK (ci := 10) (as := [zi a1]) (st := []) hK7 k10_isNone lm10_280 dX10_common_20 rfl (by decide) (zs8 rfl) h0.1 ⟨_, _, rfl⟩ hc12 k) ?_
      refine Xi.br (tgt := 34) (pc' := 26) (x10 ≠ 0) (fun _ _ kt kf => x_if_ne dX10_common_23 rfl kt kf) (fun c => ?_) (fun c => ?_)
      · have h := h.1 c
        refine Xi.up (pc' := 37) (fun _ _ k => x_sipush dX10_common_34 (show inR (-2003) from ⟨by decide, by decide⟩) (by decide) k) ?_
        exact Xi.ret ⟨dX10_common_37, Or.inl rfl⟩ h
      · have h := h.2 c
        refine Xi.up (pc' := 27) (fun _ _ k => x_aload_n dX10_common_26 rfl rfl k) ?_
        refine Xi.up (pc' := 28) (fun _ _ k => x_iload_n dX10_common_27 rfl rfl k) ?_
        obtain ⟨x14, M13, hc16, hK15, h⟩ := h
        refine Xi.up (pc' := 31) (st' := [zi x14]) (fun _ _ k => x_callVK (ci := 10) (as := [zi a2]) (st := []) hK11 k10_isNone lm10_280 dX10_common_28 rfl (by decide) (zs8 rfl) h0.1 ⟨_, _, rfl⟩ hc16 k) ?_
        refine Xi.br (tgt := 38) (pc' := 34) (x14 = 0) (fun _ _ kt kf => x_if_eq dX10_common_31 rfl kt kf) (fun c => ?_) (fun c => ?_)
        · have h := h.1 c
          refine Xi.up (pc' := 39) (fun _ _ k => x_iconst dX10_common_38 (show inR 0 from ⟨by decide, by decide⟩) k) ?_
          refine Xi.up (pc' := 40) (L' := [some (zr 2230), some (zi a1), some (zi a2), some (zi 0), none]) (fun _ _ k => x_istore_n dX10_common_39 rfl (by decide) rfl k) ?_
          refine Xi.up (pc' := 41) (fun _ _ k => x_iconst dX10_common_40 (show inR 0 from ⟨by decide, by decide⟩) k) ?_
          refine Xi.up (pc' := 43) (L' := [some (zr 2230), some (zi a1), some (zi a2), some (zi 0), some (zi 0)]) (fun _ _ k => x_istore dX10_common_41 (by decide) rfl k) ?_
          exact h
        · have h := h.2 c
          refine Xi.up (pc' := 37) (fun _ _ k => x_sipush dX10_common_34 (show inR (-2003) from ⟨by decide, by decide⟩) (by decide) k) ?_
          exact Xi.ret ⟨dX10_common_37, Or.inl rfl⟩ h
    · have h := h.2 c
      refine Xi.up (pc' := 17) (fun _ _ k => x_sipush dX10_common_14 (show inR (-2001) from ⟨by decide, by decide⟩) (by decide) k) ?_
      exact Xi.ret ⟨dX10_common_17, Or.inl rfl⟩ h
set_option maxHeartbeats 4000000 in
set_option maxRecDepth 20000 in
theorem B10_common_43 {d : Nat} {K M : ZMem} {Q : Int → ZMem → Prop} (a1 : Int) (a2 : Int) (l3 : Int) (l4 : Int) (hK : KW K M) (h0 : ModelAt K 2230) (h : (inR (3849 * a1)) ∧ (inR ((3849 * a1) + 15)) ∧ (0 ≤ ((3849 * a1) + 15)) ∧ (((3849 * a1) + 15) < 19245) ∧ (((mI M 2239 ((3849 * a1) + 15).toNat) ≤ l4 → (Q l3 M)) ∧ (¬ ((mI M 2239 ((3849 * a1) + 15).toNat) ≤ l4) → ((inR (3849 * a2)) ∧ (inR ((3849 * a2) + 15)) ∧ (0 ≤ ((3849 * a2) + 15)) ∧ (((3849 * a2) + 15) < 19245) ∧ (inR (3849 * a1)) ∧ (inR ((3849 * a1) + 3129)) ∧ (inR (12 * l4)) ∧ (inR (((3849 * a1) + 3129) + (12 * l4))) ∧ Ci d q10_hasLike [zr 2230, zi a2, zi (mI M 2239 ((3849 * a2) + 15).toNat), zi (((3849 * a1) + 3129) + (12 * l4))] M (fun x14 M13 => KW K M13 ∧ ((x14 = 0 → ((inR (l3 + 0)) ∧ (inR (l4 + 1)) ∧ Xi (d + 1) q10_common 43 [some (zr 2230), some (zi a1), some (zi a2), some (zi (l3 + 0)), some (zi (l4 + 1))] [] M13 Q)) ∧ (¬ (x14 = 0) → ((inR (l3 + 1)) ∧ (inR (l4 + 1)) ∧ Xi (d + 1) q10_common 43 [some (zr 2230), some (zi a1), some (zi a2), some (zi (l3 + 1)), some (zi (l4 + 1))] [] M13 Q)))))))) : Xi (d + 1) q10_common 43 [some (zr 2230), some (zi a1), some (zi a2), some (zi l3), some (zi l4)] [] M Q := by
  refine Xi.up (pc' := 45) (fun _ _ k => x_iload dX10_common_43 rfl k) ?_
  refine Xi.up (pc' := 46) (fun _ _ k => x_aload_n dX10_common_45 rfl rfl k) ?_
  refine Xi.up (pc' := 49) (fun _ _ k => x_getRK hK lf10_35 rfl dX10_common_46 h0.1 h0.2.2.2.2.2.2.2.2.2.1 k) ?_
  refine Xi.up (pc' := 52) (fun _ _ k => x_sipush dX10_common_49 (show inR 3849 from ⟨by decide, by decide⟩) (by decide) k) ?_
  refine Xi.up (pc' := 53) (fun _ _ k => x_iload_n dX10_common_52 rfl rfl k) ?_
  obtain ⟨g1, h⟩ := h
  refine Xi.up (pc' := 54) (fun _ _ k => x_imul dX10_common_53 g1 k) ?_
  refine Xi.up (pc' := 56) (fun _ _ k => x_bipush dX10_common_54 (show inR 15 from ⟨by decide, by decide⟩) (by decide) k) ?_
  obtain ⟨g2, h⟩ := h
  refine Xi.up (pc' := 57) (fun _ _ k => x_iadd dX10_common_56 g2 k) ?_
  obtain ⟨g3, h⟩ := h
  obtain ⟨g4, h⟩ := h
  refine Xi.up (pc' := 58) (fun _ _ k => x_ialoadK hK dX10_common_57 h0.2.2.2.2.2.2.2.2.2.2.2.2.2.2.2.2.2.2.2.1 g3 g4 k) ?_
  refine Xi.br (tgt := 111) (pc' := 61) ((mI M 2239 ((3849 * a1) + 15).toNat) ≤ l4) (fun _ _ kt kf => x_icmp_ge dX10_common_58 rfl kt kf) (fun c => ?_) (fun c => ?_)
  · have h := h.1 c
    refine Xi.up (pc' := 112) (fun _ _ k => x_iload_n dX10_common_111 rfl rfl k) ?_
    exact Xi.ret ⟨dX10_common_112, Or.inl rfl⟩ h
  · have h := h.2 c
    refine Xi.up (pc' := 62) (fun _ _ k => x_iload_n dX10_common_61 rfl rfl k) ?_
    refine Xi.up (pc' := 63) (fun _ _ k => x_aload_n dX10_common_62 rfl rfl k) ?_
    refine Xi.up (pc' := 64) (fun _ _ k => x_iload_n dX10_common_63 rfl rfl k) ?_
    refine Xi.up (pc' := 65) (fun _ _ k => x_aload_n dX10_common_64 rfl rfl k) ?_
    refine Xi.up (pc' := 68) (fun _ _ k => x_getRK hK lf10_35 rfl dX10_common_65 h0.1 h0.2.2.2.2.2.2.2.2.2.1 k) ?_
    refine Xi.up (pc' := 71) (fun _ _ k => x_sipush dX10_common_68 (show inR 3849 from ⟨by decide, by decide⟩) (by decide) k) ?_
    refine Xi.up (pc' := 72) (fun _ _ k => x_iload_n dX10_common_71 rfl rfl k) ?_
    obtain ⟨g5, h⟩ := h
    refine Xi.up (pc' := 73) (fun _ _ k => x_imul dX10_common_72 g5 k) ?_
    refine Xi.up (pc' := 75) (fun _ _ k => x_bipush dX10_common_73 (show inR 15 from ⟨by decide, by decide⟩) (by decide) k) ?_
    obtain ⟨g6, h⟩ := h
    refine Xi.up (pc' := 76) (fun _ _ k => x_iadd dX10_common_75 g6 k) ?_
    obtain ⟨g7, h⟩ := h
    obtain ⟨g8, h⟩ := h
    refine Xi.up (pc' := 77) (fun _ _ k => x_ialoadK hK dX10_common_76 h0.2.2.2.2.2.2.2.2.2.2.2.2.2.2.2.2.2.2.2.1 g7 g8 k) ?_
    refine Xi.up (pc' := 80) (fun _ _ k => x_sipush dX10_common_77 (show inR 3849 from ⟨by decide, by decide⟩) (by decide) k) ?_
    refine Xi.up (pc' := 81) (fun _ _ k => x_iload_n dX10_common_80 rfl rfl k) ?_
    obtain ⟨g9, h⟩ := h
    refine Xi.up (pc' := 82) (fun _ _ k => x_imul dX10_common_81 g9 k) ?_
    refine Xi.up (pc' := 85) (fun _ _ k => x_sipush dX10_common_82 (show inR 3129 from ⟨by decide, by decide⟩) (by decide) k) ?_
    obtain ⟨g10, h⟩ := h
    refine Xi.up (pc' := 86) (fun _ _ k => x_iadd dX10_common_85 g10 k) ?_
    refine Xi.up (pc' := 88) (fun _ _ k => x_bipush dX10_common_86 (show inR 12 from ⟨by decide, by decide⟩) (by decide) k) ?_
    refine Xi.up (pc' := 90) (fun _ _ k => x_iload dX10_common_88 rfl k) ?_
    obtain ⟨g11, h⟩ := h
    refine Xi.up (pc' := 91) (fun _ _ k => x_imul dX10_common_90 g11 k) ?_
    obtain ⟨g12, h⟩ := h
    refine Xi.up (pc' := 92) (fun _ _ k => x_iadd dX10_common_91 g12 k) ?_
    obtain ⟨x14, M13, hc16, hK15, h⟩ := h
    refine Xi.up (pc' := 95) (st' := [zi x14, zi l3]) (fun _ _ k => x_callVK (ci := 10) (as := [zi a2, zi (mI M 2239 ((3849 * a2) + 15).toNat), zi (((3849 * a1) + 3129) + (12 * l4))]) (st := [zi l3]) hK k10_hasLike lm10_295 dX10_common_92 rfl (by decide) (zs8 rfl) h0.1 ⟨_, _, rfl⟩ hc16 k) ?_
    refine Xi.br (tgt := 102) (pc' := 98) (x14 = 0) (fun _ _ kt kf => x_if_eq dX10_common_95 rfl kt kf) (fun c => ?_) (fun c => ?_)
    · have h := h.1 c
      refine Xi.up (pc' := 103) (fun _ _ k => x_iconst dX10_common_102 (show inR 0 from ⟨by decide, by decide⟩) k) ?_
      obtain ⟨g17, h⟩ := h
      refine Xi.up (pc' := 104) (fun _ _ k => x_iadd dX10_common_103 g17 k) ?_
      refine Xi.up (pc' := 105) (L' := [some (zr 2230), some (zi a1), some (zi a2), some (zi (l3 + 0)), some (zi l4)]) (fun _ _ k => x_istore_n dX10_common_104 rfl (by decide) rfl k) ?_
      obtain ⟨g18, h⟩ := h
      refine Xi.up (pc' := 108) (L' := [some (zr 2230), some (zi a1), some (zi a2), some (zi (l3 + 0)), some (zi (l4 + 1))]) (fun _ _ k => x_iinc dX10_common_105 rfl g18 (by decide) rfl k) ?_
      refine Xi.up (pc' := 43) (fun _ _ k => x_goto dX10_common_108 rfl k) ?_
      exact h
    · have h := h.2 c
      refine Xi.up (pc' := 99) (fun _ _ k => x_iconst dX10_common_98 (show inR 1 from ⟨by decide, by decide⟩) k) ?_
      refine Xi.up (pc' := 103) (fun _ _ k => x_goto dX10_common_99 rfl k) ?_
      obtain ⟨g19, h⟩ := h
      refine Xi.up (pc' := 104) (fun _ _ k => x_iadd dX10_common_103 g19 k) ?_
      refine Xi.up (pc' := 105) (L' := [some (zr 2230), some (zi a1), some (zi a2), some (zi (l3 + 1)), some (zi l4)]) (fun _ _ k => x_istore_n dX10_common_104 rfl (by decide) rfl k) ?_
      obtain ⟨g20, h⟩ := h
      refine Xi.up (pc' := 108) (L' := [some (zr 2230), some (zi a1), some (zi a2), some (zi (l3 + 1)), some (zi (l4 + 1))]) (fun _ _ k => x_iinc dX10_common_105 rfl g20 (by decide) rfl k) ?_
      refine Xi.up (pc' := 43) (fun _ _ k => x_goto dX10_common_108 rfl k) ?_
      exact h
set_option maxHeartbeats 4000000 in
set_option maxRecDepth 20000 in
theorem B10_unlike {d : Nat} {K M : ZMem} {Q : Int → ZMem → Prop} (a1 : Int) (hK : KW K M) (h0 : ModelAt K 2230) (h : Ci d q10_isSearch [zi a1] M (fun x2 M1 => KW K M1 ∧ ((x2 ≠ 0 → (Ci d q10_isNone [zr 2230, zi a1] M1 (fun x6 M5 => KW K M5 ∧ ((x6 = 0 → (Xi (d + 1) q10_unlike 27 [some (zr 2230), some (zi a1), some (zi 0), some (zi 0)] [] M5 Q)) ∧ (¬ (x6 = 0) → (Q (-2003) M5)))))) ∧ (¬ (x2 ≠ 0) → (Q (-2001) M1))))) : Ci (d + 1) q10_unlike [zr 2230, zi a1] M Q := by
  refine Ci.of rfl rfl (Nat.le_of_ble_eq_true rfl) (fun w hw x e => by subst e; simp at hw) (L := [some (zr 2230), some (zi a1), none, none]) rfl ?_
  refine Xi.up (pc' := 1) (fun _ _ k => x_iload_n dX10_unlike_0 rfl rfl k) ?_
  obtain ⟨x2, M1, hc4, hK3, h⟩ := h
  refine Xi.up (pc' := 4) (st' := [zi x2]) (fun _ _ k => x_callS (as := [zi a1]) (st := []) k10_isSearch lm10_260 dX10_unlike_1 rfl (by decide) (zs8 rfl) hc4 k) ?_
  refine Xi.br (tgt := 11) (pc' := 7) (x2 ≠ 0) (fun _ _ kt kf => x_if_ne dX10_unlike_4 rfl kt kf) (fun c => ?_) (fun c => ?_)
  · have h := h.1 c
    refine Xi.up (pc' := 12) (fun _ _ k => x_aload_n dX10_unlike_11 rfl rfl k) ?_
    refine Xi.up (pc' := 13) (fun _ _ k => x_iload_n dX10_unlike_12 rfl rfl k) ?_
    obtain ⟨x6, M5, hc8, hK7, h⟩ := h
    refine Xi.up (pc' := 16) (st' := [zi x6]) (fun _ _ k => x_callVK (ci := 10) (as := [zi a1]) (st := []) hK3 k10_isNone lm10_280 dX10_unlike_13 rfl (by decide) (zs8 rfl) h0.1 ⟨_, _, rfl⟩ hc8 k) ?_
    refine Xi.br (tgt := 23) (pc' := 19) (x6 = 0) (fun _ _ kt kf => x_if_eq dX10_unlike_16 rfl kt kf) (fun c => ?_) (fun c => ?_)
    · have h := h.1 c
      refine Xi.up (pc' := 24) (fun _ _ k => x_iconst dX10_unlike_23 (show inR 0 from ⟨by decide, by decide⟩) k) ?_
      refine Xi.up (pc' := 25) (L' := [some (zr 2230), some (zi a1), some (zi 0), none]) (fun _ _ k => x_istore_n dX10_unlike_24 rfl (by decide) rfl k) ?_
      refine Xi.up (pc' := 26) (fun _ _ k => x_iconst dX10_unlike_25 (show inR 0 from ⟨by decide, by decide⟩) k) ?_
      refine Xi.up (pc' := 27) (L' := [some (zr 2230), some (zi a1), some (zi 0), some (zi 0)]) (fun _ _ k => x_istore_n dX10_unlike_26 rfl (by decide) rfl k) ?_
      exact h
    · have h := h.2 c
      refine Xi.up (pc' := 22) (fun _ _ k => x_sipush dX10_unlike_19 (show inR (-2003) from ⟨by decide, by decide⟩) (by decide) k) ?_
      exact Xi.ret ⟨dX10_unlike_22, Or.inl rfl⟩ h
  · have h := h.2 c
    refine Xi.up (pc' := 10) (fun _ _ k => x_sipush dX10_unlike_7 (show inR (-2001) from ⟨by decide, by decide⟩) (by decide) k) ?_
    exact Xi.ret ⟨dX10_unlike_10, Or.inl rfl⟩ h
set_option maxHeartbeats 4000000 in
set_option maxRecDepth 20000 in
theorem B10_unlike_27 {d : Nat} {K M : ZMem} {Q : Int → ZMem → Prop} (a1 : Int) (l2 : Int) (l3 : Int) (hK : KW K M) (h0 : ModelAt K 2230) (h : (inR (3849 * a1)) ∧ (inR ((3849 * a1) + 15)) ∧ (0 ≤ ((3849 * a1) + 15)) ∧ (((3849 * a1) + 15) < 19245) ∧ (((mI M 2239 ((3849 * a1) + 15).toNat) ≤ l3 → (Q l2 M)) ∧ (¬ ((mI M 2239 ((3849 * a1) + 15).toNat) ≤ l3) → ((inR (3849 * a1)) ∧ (inR ((3849 * a1) + 3129)) ∧ (inR (12 * l3)) ∧ (inR (((3849 * a1) + 3129) + (12 * l3))) ∧ Ci d q10_hasLike [zr 2230, zi a1, zi l3, zi (((3849 * a1) + 3129) + (12 * l3))] M (fun x10 M9 => KW K M9 ∧ ((x10 = 0 → ((inR (l2 + 1)) ∧ (inR (l3 + 1)) ∧ Xi (d + 1) q10_unlike 27 [some (zr 2230), some (zi a1), some (zi (l2 + 1)), some (zi (l3 + 1))] [] M9 Q)) ∧ (¬ (x10 = 0) → ((inR (l2 + 0)) ∧ (inR (l3 + 1)) ∧ Xi (d + 1) q10_unlike 27 [some (zr 2230), some (zi a1), some (zi (l2 + 0)), some (zi (l3 + 1))] [] M9 Q)))))))) : Xi (d + 1) q10_unlike 27 [some (zr 2230), some (zi a1), some (zi l2), some (zi l3)] [] M Q := by
  refine Xi.up (pc' := 28) (fun _ _ k => x_iload_n dX10_unlike_27 rfl rfl k) ?_
  refine Xi.up (pc' := 29) (fun _ _ k => x_aload_n dX10_unlike_28 rfl rfl k) ?_
  refine Xi.up (pc' := 32) (fun _ _ k => x_getRK hK lf10_35 rfl dX10_unlike_29 h0.1 h0.2.2.2.2.2.2.2.2.2.1 k) ?_
  refine Xi.up (pc' := 35) (fun _ _ k => x_sipush dX10_unlike_32 (show inR 3849 from ⟨by decide, by decide⟩) (by decide) k) ?_
  refine Xi.up (pc' := 36) (fun _ _ k => x_iload_n dX10_unlike_35 rfl rfl k) ?_
  obtain ⟨g1, h⟩ := h
  refine Xi.up (pc' := 37) (fun _ _ k => x_imul dX10_unlike_36 g1 k) ?_
  refine Xi.up (pc' := 39) (fun _ _ k => x_bipush dX10_unlike_37 (show inR 15 from ⟨by decide, by decide⟩) (by decide) k) ?_
  obtain ⟨g2, h⟩ := h
  refine Xi.up (pc' := 40) (fun _ _ k => x_iadd dX10_unlike_39 g2 k) ?_
  obtain ⟨g3, h⟩ := h
  obtain ⟨g4, h⟩ := h
  refine Xi.up (pc' := 41) (fun _ _ k => x_ialoadK hK dX10_unlike_40 h0.2.2.2.2.2.2.2.2.2.2.2.2.2.2.2.2.2.2.2.1 g3 g4 k) ?_
  refine Xi.br (tgt := 81) (pc' := 44) ((mI M 2239 ((3849 * a1) + 15).toNat) ≤ l3) (fun _ _ kt kf => x_icmp_ge dX10_unlike_41 rfl kt kf) (fun c => ?_) (fun c => ?_)
  · have h := h.1 c
    refine Xi.up (pc' := 82) (fun _ _ k => x_iload_n dX10_unlike_81 rfl rfl k) ?_
    exact Xi.ret ⟨dX10_unlike_82, Or.inl rfl⟩ h
  · have h := h.2 c
    refine Xi.up (pc' := 45) (fun _ _ k => x_iload_n dX10_unlike_44 rfl rfl k) ?_
    refine Xi.up (pc' := 46) (fun _ _ k => x_aload_n dX10_unlike_45 rfl rfl k) ?_
    refine Xi.up (pc' := 47) (fun _ _ k => x_iload_n dX10_unlike_46 rfl rfl k) ?_
    refine Xi.up (pc' := 48) (fun _ _ k => x_iload_n dX10_unlike_47 rfl rfl k) ?_
    refine Xi.up (pc' := 51) (fun _ _ k => x_sipush dX10_unlike_48 (show inR 3849 from ⟨by decide, by decide⟩) (by decide) k) ?_
    refine Xi.up (pc' := 52) (fun _ _ k => x_iload_n dX10_unlike_51 rfl rfl k) ?_
    obtain ⟨g5, h⟩ := h
    refine Xi.up (pc' := 53) (fun _ _ k => x_imul dX10_unlike_52 g5 k) ?_
    refine Xi.up (pc' := 56) (fun _ _ k => x_sipush dX10_unlike_53 (show inR 3129 from ⟨by decide, by decide⟩) (by decide) k) ?_
    obtain ⟨g6, h⟩ := h
    refine Xi.up (pc' := 57) (fun _ _ k => x_iadd dX10_unlike_56 g6 k) ?_
    refine Xi.up (pc' := 59) (fun _ _ k => x_bipush dX10_unlike_57 (show inR 12 from ⟨by decide, by decide⟩) (by decide) k) ?_
    refine Xi.up (pc' := 60) (fun _ _ k => x_iload_n dX10_unlike_59 rfl rfl k) ?_
    obtain ⟨g7, h⟩ := h
    refine Xi.up (pc' := 61) (fun _ _ k => x_imul dX10_unlike_60 g7 k) ?_
    obtain ⟨g8, h⟩ := h
    refine Xi.up (pc' := 62) (fun _ _ k => x_iadd dX10_unlike_61 g8 k) ?_
    obtain ⟨x10, M9, hc12, hK11, h⟩ := h
    refine Xi.up (pc' := 65) (st' := [zi x10, zi l2]) (fun _ _ k => x_callVK (ci := 10) (as := [zi a1, zi l3, zi (((3849 * a1) + 3129) + (12 * l3))]) (st := [zi l2]) hK k10_hasLike lm10_295 dX10_unlike_62 rfl (by decide) (zs8 rfl) h0.1 ⟨_, _, rfl⟩ hc12 k) ?_
    refine Xi.br (tgt := 72) (pc' := 68) (x10 = 0) (fun _ _ kt kf => x_if_eq dX10_unlike_65 rfl kt kf) (fun c => ?_) (fun c => ?_)
    · have h := h.1 c
      refine Xi.up (pc' := 73) (fun _ _ k => x_iconst dX10_unlike_72 (show inR 1 from ⟨by decide, by decide⟩) k) ?_
      obtain ⟨g13, h⟩ := h
      refine Xi.up (pc' := 74) (fun _ _ k => x_iadd dX10_unlike_73 g13 k) ?_
      refine Xi.up (pc' := 75) (L' := [some (zr 2230), some (zi a1), some (zi (l2 + 1)), some (zi l3)]) (fun _ _ k => x_istore_n dX10_unlike_74 rfl (by decide) rfl k) ?_
      obtain ⟨g14, h⟩ := h
      refine Xi.up (pc' := 78) (L' := [some (zr 2230), some (zi a1), some (zi (l2 + 1)), some (zi (l3 + 1))]) (fun _ _ k => x_iinc dX10_unlike_75 rfl g14 (by decide) rfl k) ?_
      refine Xi.up (pc' := 27) (fun _ _ k => x_goto dX10_unlike_78 rfl k) ?_
      exact h
    · have h := h.2 c
      refine Xi.up (pc' := 69) (fun _ _ k => x_iconst dX10_unlike_68 (show inR 0 from ⟨by decide, by decide⟩) k) ?_
      refine Xi.up (pc' := 73) (fun _ _ k => x_goto dX10_unlike_69 rfl k) ?_
      obtain ⟨g15, h⟩ := h
      refine Xi.up (pc' := 74) (fun _ _ k => x_iadd dX10_unlike_73 g15 k) ?_
      refine Xi.up (pc' := 75) (L' := [some (zr 2230), some (zi a1), some (zi (l2 + 0)), some (zi l3)]) (fun _ _ k => x_istore_n dX10_unlike_74 rfl (by decide) rfl k) ?_
      obtain ⟨g16, h⟩ := h
      refine Xi.up (pc' := 78) (L' := [some (zr 2230), some (zi a1), some (zi (l2 + 0)), some (zi (l3 + 1))]) (fun _ _ k => x_iinc dX10_unlike_75 rfl g16 (by decide) rfl k) ?_
      refine Xi.up (pc' := 27) (fun _ _ k => x_goto dX10_unlike_78 rfl k) ?_
      exact h
set_option maxHeartbeats 4000000 in
set_option maxRecDepth 20000 in
theorem B10_turn {d : Nat} {K M : ZMem} {Q : Int → ZMem → Prop} (a1 : Int) (a2 : Int) (hK : KW K M) (h0 : ModelAt K 2230) (h : Ci d q10_isSearch [zi a1] M (fun x2 M1 => KW K M1 ∧ ((x2 = 0 → (Q (-2001) M1)) ∧ (¬ (x2 = 0) → ((0 ≤ a2 ∧ a2 ≤ 4 → ((inR (3849 * a1)) ∧ (inR ((3849 * a1) + 1)) ∧ Ci d q10_isNone [zr 2230, zi a1] M1 (fun x8 M7 => KW K M7 ∧ ((x8 ≠ 0 → (Q (-2003) M7)) ∧ (¬ (x8 ≠ 0) → ((0 ≤ ((3849 * a1) + 1)) ∧ (((3849 * a1) + 1) < 19245) ∧ (((mI M7 2239 ((3849 * a1) + 1).toNat) ≠ 5 → ((0 ≤ ((3849 * a1) + 1)) ∧ (((3849 * a1) + 1) < 19245) ∧ (0 ≤ ((3849 * a1) + 1)) ∧ (((3849 * a1) + 1) < 19245) ∧ Q (mI M7 2239 ((3849 * a1) + 1).toNat) (sI M7 2239 (((3849 * a1) + 1).toNat) a2))) ∧ (¬ ((mI M7 2239 ((3849 * a1) + 1).toNat) ≠ 5) → (Q (-2003) M7))))))))) ∧ (¬ (0 ≤ a2 ∧ a2 ≤ 4) → (Q (-2001) M1))))))) : Ci (d + 1) q10_turn [zr 2230, zi a1, zi a2] M Q := by
  refine Ci.of rfl rfl (Nat.le_of_ble_eq_true rfl) (fun w hw x e => by subst e; simp at hw) (L := [some (zr 2230), some (zi a1), some (zi a2), none, none]) rfl ?_
  refine Xi.up (pc' := 1) (fun _ _ k => x_iload_n dX10_turn_0 rfl rfl k) ?_
  obtain ⟨x2, M1, hc4, hK3, h⟩ := h
  refine Xi.up (pc' := 4) (st' := [zi x2]) (fun _ _ k => x_callS (as := [zi a1]) (st := []) k10_isSearch lm10_260 dX10_turn_1 rfl (by decide) (zs8 rfl) hc4 k) ?_
  refine Xi.br (tgt := 19) (pc' := 7) (x2 = 0) (fun _ _ kt kf => x_if_eq dX10_turn_4 rfl kt kf) (fun c => ?_) (fun c => ?_)
  · have h := h.1 c
    refine Xi.up (pc' := 22) (fun _ _ k => x_sipush dX10_turn_19 (show inR (-2001) from ⟨by decide, by decide⟩) (by decide) k) ?_
    exact Xi.ret ⟨dX10_turn_22, Or.inl rfl⟩ h
  · have h := h.2 c
    refine Xi.up (pc' := 8) (fun _ _ k => x_iload_n dX10_turn_7 rfl rfl k) ?_
    refine Xi.up (pc' := 9) (fun _ _ k => x_i2l dX10_turn_8 k) ?_
    refine Xi.up (pc' := 10) (fun _ _ k => x_lconst (x := 0) dX10_turn_9 ⟨by decide, by decide⟩ rfl k) ?_
    refine Xi.up (pc' := 13) (fun _ _ k => x_ldc2 ll10_299 dX10_turn_10 (show inL 4 from ⟨by decide, by decide⟩) rfl k) ?_
    by_cases c : 0 ≤ a2 ∧ a2 ≤ 4
    · have h := h.1 c
      refine Xi.up (pc' := 16) (st' := [zi 1]) (fun _ _ k => x_in1 (st := []) lm10_43 dX10_turn_13 (zs8 rfl) c k) ?_
      refine Xi.br (tgt := 23) (pc' := 19) ((1 : Int) ≠ 0) (fun _ _ kt kf => x_if_ne dX10_turn_16 rfl kt kf) (fun _ => ?_) (fun c => absurd (by decide) c)
      refine Xi.up (pc' := 26) (fun _ _ k => x_sipush dX10_turn_23 (show inR 3849 from ⟨by decide, by decide⟩) (by decide) k) ?_
      refine Xi.up (pc' := 27) (fun _ _ k => x_iload_n dX10_turn_26 rfl rfl k) ?_
      obtain ⟨g5, h⟩ := h
      refine Xi.up (pc' := 28) (fun _ _ k => x_imul dX10_turn_27 g5 k) ?_
      refine Xi.up (pc' := 29) (fun _ _ k => x_iconst dX10_turn_28 (show inR 1 from ⟨by decide, by decide⟩) k) ?_
      obtain ⟨g6, h⟩ := h
      refine Xi.up (pc' := 30) (fun _ _ k => x_iadd dX10_turn_29 g6 k) ?_
      refine Xi.up (pc' := 31) (L' := [some (zr 2230), some (zi a1), some (zi a2), some (zi ((3849 * a1) + 1)), none]) (fun _ _ k => x_istore_n dX10_turn_30 rfl (by decide) rfl k) ?_
      refine Xi.up (pc' := 32) (fun _ _ k => x_aload_n dX10_turn_31 rfl rfl k) ?_
      refine Xi.up (pc' := 33) (fun _ _ k => x_iload_n dX10_turn_32 rfl rfl k) ?_
      obtain ⟨x8, M7, hc10, hK9, h⟩ := h
      refine Xi.up (pc' := 36) (st' := [zi x8]) (fun _ _ k => x_callVK (ci := 10) (as := [zi a1]) (st := []) hK3 k10_isNone lm10_280 dX10_turn_33 rfl (by decide) (zs8 rfl) h0.1 ⟨_, _, rfl⟩ hc10 k) ?_
      refine Xi.br (tgt := 49) (pc' := 39) (x8 ≠ 0) (fun _ _ kt kf => x_if_ne dX10_turn_36 rfl kt kf) (fun c => ?_) (fun c => ?_)
      · have h := h.1 c
        refine Xi.up (pc' := 52) (fun _ _ k => x_sipush dX10_turn_49 (show inR (-2003) from ⟨by decide, by decide⟩) (by decide) k) ?_
        exact Xi.ret ⟨dX10_turn_52, Or.inl rfl⟩ h
      · have h := h.2 c
        refine Xi.up (pc' := 40) (fun _ _ k => x_aload_n dX10_turn_39 rfl rfl k) ?_
        refine Xi.up (pc' := 43) (fun _ _ k => x_getRK hK9 lf10_35 rfl dX10_turn_40 h0.1 h0.2.2.2.2.2.2.2.2.2.1 k) ?_
        refine Xi.up (pc' := 44) (fun _ _ k => x_iload_n dX10_turn_43 rfl rfl k) ?_
        obtain ⟨g11, h⟩ := h
        obtain ⟨g12, h⟩ := h
        refine Xi.up (pc' := 45) (fun _ _ k => x_ialoadK hK9 dX10_turn_44 h0.2.2.2.2.2.2.2.2.2.2.2.2.2.2.2.2.2.2.2.1 g11 g12 k) ?_
        refine Xi.up (pc' := 46) (fun _ _ k => x_iconst dX10_turn_45 (show inR 5 from ⟨by decide, by decide⟩) k) ?_
        refine Xi.br (tgt := 53) (pc' := 49) ((mI M7 2239 ((3849 * a1) + 1).toNat) ≠ 5) (fun _ _ kt kf => x_icmp_ne dX10_turn_46 rfl kt kf) (fun c => ?_) (fun c => ?_)
        · have h := h.1 c
          refine Xi.up (pc' := 54) (fun _ _ k => x_aload_n dX10_turn_53 rfl rfl k) ?_
          refine Xi.up (pc' := 57) (fun _ _ k => x_getRK hK9 lf10_35 rfl dX10_turn_54 h0.1 h0.2.2.2.2.2.2.2.2.2.1 k) ?_
          refine Xi.up (pc' := 58) (fun _ _ k => x_iload_n dX10_turn_57 rfl rfl k) ?_
          obtain ⟨g13, h⟩ := h
          obtain ⟨g14, h⟩ := h
          refine Xi.up (pc' := 59) (fun _ _ k => x_ialoadK hK9 dX10_turn_58 h0.2.2.2.2.2.2.2.2.2.2.2.2.2.2.2.2.2.2.2.1 g13 g14 k) ?_
          refine Xi.up (pc' := 61) (L' := [some (zr 2230), some (zi a1), some (zi a2), some (zi ((3849 * a1) + 1)), some (zi (mI M7 2239 ((3849 * a1) + 1).toNat))]) (fun _ _ k => x_istore dX10_turn_59 (by decide) rfl k) ?_
          refine Xi.up (pc' := 62) (fun _ _ k => x_aload_n dX10_turn_61 rfl rfl k) ?_
          refine Xi.up (pc' := 65) (fun _ _ k => x_getRK hK9 lf10_35 rfl dX10_turn_62 h0.1 h0.2.2.2.2.2.2.2.2.2.1 k) ?_
          refine Xi.up (pc' := 66) (fun _ _ k => x_iload_n dX10_turn_65 rfl rfl k) ?_
          refine Xi.up (pc' := 67) (fun _ _ k => x_iload_n dX10_turn_66 rfl rfl k) ?_
          obtain ⟨g15, h⟩ := h
          obtain ⟨g16, h⟩ := h
          refine Xi.up (pc' := 68) (fun _ _ k => x_iastoreK hK9 dX10_turn_67 h0.2.2.2.2.2.2.2.2.2.2.2.2.2.2.2.2.2.2.2.1 g15 g16 k) ?_
          have hK17 := KW.sI hK9 2239 (((3849 * a1) + 1).toNat) a2
          refine Xi.up (pc' := 70) (fun _ _ k => x_iload dX10_turn_68 rfl k) ?_
          exact Xi.ret ⟨dX10_turn_70, Or.inl rfl⟩ h
        · have h := h.2 c
          refine Xi.up (pc' := 52) (fun _ _ k => x_sipush dX10_turn_49 (show inR (-2003) from ⟨by decide, by decide⟩) (by decide) k) ?_
          exact Xi.ret ⟨dX10_turn_52, Or.inl rfl⟩ h
    · have h := h.2 c
      refine Xi.up (pc' := 16) (st' := [zi 0]) (fun _ _ k => x_in0 (st := []) lm10_43 dX10_turn_13 (zs8 rfl) c k) ?_
      refine Xi.br (tgt := 23) (pc' := 19) ((0 : Int) ≠ 0) (fun _ _ kt kf => x_if_ne dX10_turn_16 rfl kt kf) (fun c => absurd c (by decide)) (fun _ => ?_)
      refine Xi.up (pc' := 22) (fun _ _ k => x_sipush dX10_turn_19 (show inR (-2001) from ⟨by decide, by decide⟩) (by decide) k) ?_
      exact Xi.ret ⟨dX10_turn_22, Or.inl rfl⟩ h
set_option maxHeartbeats 4000000 in
set_option maxRecDepth 20000 in
theorem B10_copy {d : Nat} {K M : ZMem} {Q : Int → ZMem → Prop} (a1 : Int) (a2 : Int) (hK : KW K M) (h0 : ModelAt K 2230) (h : Ci d q10_isSearch [zi a1] M (fun x2 M1 => KW K M1 ∧ ((x2 = 0 → (Q (-2001) M1)) ∧ (¬ (x2 = 0) → (Ci d q10_isSearch [zi a2] M1 (fun x6 M5 => KW K M5 ∧ ((x6 ≠ 0 → (Ci d q10_isNone [zr 2230, zi a1] M5 (fun x10 M9 => KW K M9 ∧ ((x10 = 0 → ((inR (3849 * a1)) ∧ (inR (3849 * a2)) ∧ ((a1 ≠ a2 → ((0 ≤ (3849 * a1)) ∧ (0 ≤ (3849 * a2)) ∧ ((3849 * a1) + 3849 ≤ 19245) ∧ ((3849 * a2) + 3849 ≤ 19245) ∧ (inR (3849 * a2)) ∧ (inR ((3849 * a2) + 15)) ∧ (0 ≤ ((3849 * a2) + 15)) ∧ (((3849 * a2) + 15) < 19245) ∧ Q (mI (sA M9 2239 (zCpy (mI M9 2239) (mI M9 2239) (3849 * a1).toNat (3849 * a2).toNat 3849)) 2239 ((3849 * a2) + 15).toNat) (sA M9 2239 (zCpy (mI M9 2239) (mI M9 2239) (3849 * a1).toNat (3849 * a2).toNat 3849)))) ∧ (¬ (a1 ≠ a2) → ((0 ≤ (3849 * a1)) ∧ (0 ≤ (3849 * a2)) ∧ ((3849 * a1) + 0 ≤ 19245) ∧ ((3849 * a2) + 0 ≤ 19245) ∧ (inR (3849 * a2)) ∧ (inR ((3849 * a2) + 15)) ∧ (0 ≤ ((3849 * a2) + 15)) ∧ (((3849 * a2) + 15) < 19245) ∧ Q (mI (sA M9 2239 (zCpy (mI M9 2239) (mI M9 2239) (3849 * a1).toNat (3849 * a2).toNat 0)) 2239 ((3849 * a2) + 15).toNat) (sA M9 2239 (zCpy (mI M9 2239) (mI M9 2239) (3849 * a1).toNat (3849 * a2).toNat 0))))))) ∧ (¬ (x10 = 0) → (Q (-2003) M9)))))) ∧ (¬ (x6 ≠ 0) → (Q (-2001) M5))))))))) : Ci (d + 1) q10_copy [zr 2230, zi a1, zi a2] M Q := by
  refine Ci.of rfl rfl (Nat.le_of_ble_eq_true rfl) (fun w hw x e => by subst e; simp at hw) (L := [some (zr 2230), some (zi a1), some (zi a2)]) rfl ?_
  refine Xi.up (pc' := 1) (fun _ _ k => x_iload_n dX10_copy_0 rfl rfl k) ?_
  obtain ⟨x2, M1, hc4, hK3, h⟩ := h
  refine Xi.up (pc' := 4) (st' := [zi x2]) (fun _ _ k => x_callS (as := [zi a1]) (st := []) k10_isSearch lm10_260 dX10_copy_1 rfl (by decide) (zs8 rfl) hc4 k) ?_
  refine Xi.br (tgt := 14) (pc' := 7) (x2 = 0) (fun _ _ kt kf => x_if_eq dX10_copy_4 rfl kt kf) (fun c => ?_) (fun c => ?_)
  · have h := h.1 c
    refine Xi.up (pc' := 17) (fun _ _ k => x_sipush dX10_copy_14 (show inR (-2001) from ⟨by decide, by decide⟩) (by decide) k) ?_
    exact Xi.ret ⟨dX10_copy_17, Or.inl rfl⟩ h
  · have h := h.2 c
    refine Xi.up (pc' := 8) (fun _ _ k => x_iload_n dX10_copy_7 rfl rfl k) ?_
    obtain ⟨x6, M5, hc8, hK7, h⟩ := h
    refine Xi.up (pc' := 11) (st' := [zi x6]) (fun _ _ k => x_callS (as := [zi a2]) (st := []) k10_isSearch lm10_260 dX10_copy_8 rfl (by decide) (zs8 rfl) hc8 k) ?_
    refine Xi.br (tgt := 18) (pc' := 14) (x6 ≠ 0) (fun _ _ kt kf => x_if_ne dX10_copy_11 rfl kt kf) (fun c => ?_) (fun c => ?_)
    · have h := h.1 c
      refine Xi.up (pc' := 19) (fun _ _ k => x_aload_n dX10_copy_18 rfl rfl k) ?_
      refine Xi.up (pc' := 20) (fun _ _ k => x_iload_n dX10_copy_19 rfl rfl k) ?_
      obtain ⟨x10, M9, hc12, hK11, h⟩ := h
      refine Xi.up (pc' := 23) (st' := [zi x10]) (fun _ _ k => x_callVK (ci := 10) (as := [zi a1]) (st := []) hK7 k10_isNone lm10_280 dX10_copy_20 rfl (by decide) (zs8 rfl) h0.1 ⟨_, _, rfl⟩ hc12 k) ?_
      refine Xi.br (tgt := 30) (pc' := 26) (x10 = 0) (fun _ _ kt kf => x_if_eq dX10_copy_23 rfl kt kf) (fun c => ?_) (fun c => ?_)
      · have h := h.1 c
        refine Xi.up (pc' := 31) (fun _ _ k => x_aload_n dX10_copy_30 rfl rfl k) ?_
        refine Xi.up (pc' := 34) (fun _ _ k => x_getRK hK11 lf10_35 rfl dX10_copy_31 h0.1 h0.2.2.2.2.2.2.2.2.2.1 k) ?_
        refine Xi.up (pc' := 37) (fun _ _ k => x_sipush dX10_copy_34 (show inR 3849 from ⟨by decide, by decide⟩) (by decide) k) ?_
        refine Xi.up (pc' := 38) (fun _ _ k => x_iload_n dX10_copy_37 rfl rfl k) ?_
        obtain ⟨g13, h⟩ := h
        refine Xi.up (pc' := 39) (fun _ _ k => x_imul dX10_copy_38 g13 k) ?_
        refine Xi.up (pc' := 40) (fun _ _ k => x_aload_n dX10_copy_39 rfl rfl k) ?_
        refine Xi.up (pc' := 43) (fun _ _ k => x_getRK hK11 lf10_35 rfl dX10_copy_40 h0.1 h0.2.2.2.2.2.2.2.2.2.1 k) ?_
        refine Xi.up (pc' := 46) (fun _ _ k => x_sipush dX10_copy_43 (show inR 3849 from ⟨by decide, by decide⟩) (by decide) k) ?_
        refine Xi.up (pc' := 47) (fun _ _ k => x_iload_n dX10_copy_46 rfl rfl k) ?_
        obtain ⟨g14, h⟩ := h
        refine Xi.up (pc' := 48) (fun _ _ k => x_imul dX10_copy_47 g14 k) ?_
        refine Xi.up (pc' := 49) (fun _ _ k => x_iload_n dX10_copy_48 rfl rfl k) ?_
        refine Xi.up (pc' := 50) (fun _ _ k => x_iload_n dX10_copy_49 rfl rfl k) ?_
        refine Xi.br (tgt := 57) (pc' := 53) (a1 ≠ a2) (fun _ _ kt kf => x_icmp_ne dX10_copy_50 rfl kt kf) (fun c => ?_) (fun c => ?_)
        · have h := h.1 c
          refine Xi.up (pc' := 60) (fun _ _ k => x_sipush dX10_copy_57 (show inR 3849 from ⟨by decide, by decide⟩) (by decide) k) ?_
          obtain ⟨g15, h⟩ := h
          obtain ⟨g16, h⟩ := h
          obtain ⟨g17, h⟩ := h
          obtain ⟨g18, h⟩ := h
          refine Xi.up (pc' := 63) (fun _ _ k => x_copyK hK11 la10_173 dX10_copy_60 h0.2.2.2.2.2.2.2.2.2.2.2.2.2.2.2.2.2.2.2.1 h0.2.2.2.2.2.2.2.2.2.2.2.2.2.2.2.2.2.2.2.1 g15 g16 (by decide) g17 g18 k) ?_
          have hK19 := KW.sA hK11 2239 (zCpy (mI M9 2239) (mI M9 2239) (3849 * a1).toNat (3849 * a2).toNat 3849)
          refine Xi.up (pc' := 64) (fun _ _ k => x_aload_n dX10_copy_63 rfl rfl k) ?_
          refine Xi.up (pc' := 67) (fun _ _ k => x_getRK hK19 lf10_35 rfl dX10_copy_64 h0.1 h0.2.2.2.2.2.2.2.2.2.1 k) ?_
          refine Xi.up (pc' := 70) (fun _ _ k => x_sipush dX10_copy_67 (show inR 3849 from ⟨by decide, by decide⟩) (by decide) k) ?_
          refine Xi.up (pc' := 71) (fun _ _ k => x_iload_n dX10_copy_70 rfl rfl k) ?_
          obtain ⟨g20, h⟩ := h
          refine Xi.up (pc' := 72) (fun _ _ k => x_imul dX10_copy_71 g20 k) ?_
          refine Xi.up (pc' := 74) (fun _ _ k => x_bipush dX10_copy_72 (show inR 15 from ⟨by decide, by decide⟩) (by decide) k) ?_
          obtain ⟨g21, h⟩ := h
          refine Xi.up (pc' := 75) (fun _ _ k => x_iadd dX10_copy_74 g21 k) ?_
          obtain ⟨g22, h⟩ := h
          obtain ⟨g23, h⟩ := h
          refine Xi.up (pc' := 76) (fun _ _ k => x_ialoadK hK19 dX10_copy_75 h0.2.2.2.2.2.2.2.2.2.2.2.2.2.2.2.2.2.2.2.1 g22 g23 k) ?_
          exact Xi.ret ⟨dX10_copy_76, Or.inl rfl⟩ h
        · have h := h.2 c
          refine Xi.up (pc' := 54) (fun _ _ k => x_iconst dX10_copy_53 (show inR 0 from ⟨by decide, by decide⟩) k) ?_
          refine Xi.up (pc' := 60) (fun _ _ k => x_goto dX10_copy_54 rfl k) ?_
          obtain ⟨g24, h⟩ := h
          obtain ⟨g25, h⟩ := h
          obtain ⟨g26, h⟩ := h
          obtain ⟨g27, h⟩ := h
          refine Xi.up (pc' := 63) (fun _ _ k => x_copyK hK11 la10_173 dX10_copy_60 h0.2.2.2.2.2.2.2.2.2.2.2.2.2.2.2.2.2.2.2.1 h0.2.2.2.2.2.2.2.2.2.2.2.2.2.2.2.2.2.2.2.1 g24 g25 (by decide) g26 g27 k) ?_
          have hK28 := KW.sA hK11 2239 (zCpy (mI M9 2239) (mI M9 2239) (3849 * a1).toNat (3849 * a2).toNat 0)
          refine Xi.up (pc' := 64) (fun _ _ k => x_aload_n dX10_copy_63 rfl rfl k) ?_
          refine Xi.up (pc' := 67) (fun _ _ k => x_getRK hK28 lf10_35 rfl dX10_copy_64 h0.1 h0.2.2.2.2.2.2.2.2.2.1 k) ?_
          refine Xi.up (pc' := 70) (fun _ _ k => x_sipush dX10_copy_67 (show inR 3849 from ⟨by decide, by decide⟩) (by decide) k) ?_
          refine Xi.up (pc' := 71) (fun _ _ k => x_iload_n dX10_copy_70 rfl rfl k) ?_
          obtain ⟨g29, h⟩ := h
          refine Xi.up (pc' := 72) (fun _ _ k => x_imul dX10_copy_71 g29 k) ?_
          refine Xi.up (pc' := 74) (fun _ _ k => x_bipush dX10_copy_72 (show inR 15 from ⟨by decide, by decide⟩) (by decide) k) ?_
          obtain ⟨g30, h⟩ := h
          refine Xi.up (pc' := 75) (fun _ _ k => x_iadd dX10_copy_74 g30 k) ?_
          obtain ⟨g31, h⟩ := h
          obtain ⟨g32, h⟩ := h
          refine Xi.up (pc' := 76) (fun _ _ k => x_ialoadK hK28 dX10_copy_75 h0.2.2.2.2.2.2.2.2.2.2.2.2.2.2.2.2.2.2.2.1 g31 g32 k) ?_
          exact Xi.ret ⟨dX10_copy_76, Or.inl rfl⟩ h
      · have h := h.2 c
        refine Xi.up (pc' := 29) (fun _ _ k => x_sipush dX10_copy_26 (show inR (-2003) from ⟨by decide, by decide⟩) (by decide) k) ?_
        exact Xi.ret ⟨dX10_copy_29, Or.inl rfl⟩ h
    · have h := h.2 c
      refine Xi.up (pc' := 17) (fun _ _ k => x_sipush dX10_copy_14 (show inR (-2001) from ⟨by decide, by decide⟩) (by decide) k) ?_
      exact Xi.ret ⟨dX10_copy_17, Or.inl rfl⟩ h
set_option maxHeartbeats 4000000 in
set_option maxRecDepth 20000 in
theorem B10_would {d : Nat} {K M : ZMem} {Q : Int → ZMem → Prop} (a1 : Int) (a2 : Int) (a3 : Int) (hK : KW K M) (h0 : ModelAt K 2230) (h : Ci d q10_isSearch [zi a1] M (fun x2 M1 => KW K M1 ∧ ((x2 = 0 → (Q (-2001) M1)) ∧ (¬ (x2 = 0) → ((1 ≤ a2 ∧ a2 ≤ 500 → ((0 ≤ a3 ∧ a3 ≤ 2 → (Ci d q10_isNone [zr 2230, zi a1] M1 (fun x6 M5 => KW K M5 ∧ ((x6 = 0 → ((inR (3849 * a1)) ∧ (0 ≤ (3849 * a1)) ∧ ((3849 * a1) + 3849 ≤ 19245) ∧ Cv d q10_choosesSearch [zr 2230, zi 4] (sA M5 2239 (zCpy (mI M5 2239) (mI M5 2239) (3849 * a1).toNat 15396 3849)) (fun M13 => KW K M13 ∧ (inR ((mI M13 2230 16) + 0)) ∧ (0 ≤ ((mI M13 2230 16) + 0)) ∧ (((mI M13 2230 16) + 0) < 19245) ∧ (((mI M13 2239 ((mI M13 2230 16) + 0).toNat) ≠ 1 → ((a3 ≠ 0 → ((a3 ≠ 1 → ((inR ((mI M13 2230 16) + 4)) ∧ (0 ≤ ((mI M13 2230 16) + 4)) ∧ (((mI M13 2230 16) + 4) < 19245) ∧ Q (mI M13 2239 ((mI M13 2230 16) + 4).toNat) M13)) ∧ (¬ (a3 ≠ 1) → ((inR ((mI M13 2230 16) + 0)) ∧ (0 ≤ ((mI M13 2230 16) + 0)) ∧ (((mI M13 2230 16) + 0) < 19245) ∧ (((mI M13 2239 ((mI M13 2230 16) + 0).toNat) ≠ 2 → (Q 0 M13)) ∧ (¬ ((mI M13 2239 ((mI M13 2230 16) + 0).toNat) ≠ 2) → (Q 1 M13))))))) ∧ (¬ (a3 ≠ 0) → ((inR ((mI M13 2230 16) + 15)) ∧ (0 ≤ ((mI M13 2230 16) + 15)) ∧ (((mI M13 2230 16) + 15) < 19245) ∧ Q (mI M13 2239 ((mI M13 2230 16) + 15).toNat) M13)))) ∧ (¬ ((mI M13 2239 ((mI M13 2230 16) + 0).toNat) ≠ 1) → (Ci d q10_goesAll [zr 2230, zi a2] M13 (fun x29 M28 => KW K M28 ∧ ((a3 ≠ 0 → ((a3 ≠ 1 → ((inR ((mI M28 2230 16) + 4)) ∧ (0 ≤ ((mI M28 2230 16) + 4)) ∧ (((mI M28 2230 16) + 4) < 19245) ∧ Q (mI M28 2239 ((mI M28 2230 16) + 4).toNat) M28)) ∧ (¬ (a3 ≠ 1) → ((inR ((mI M28 2230 16) + 0)) ∧ (0 ≤ ((mI M28 2230 16) + 0)) ∧ (((mI M28 2230 16) + 0) < 19245) ∧ (((mI M28 2239 ((mI M28 2230 16) + 0).toNat) ≠ 2 → (Q 0 M28)) ∧ (¬ ((mI M28 2239 ((mI M28 2230 16) + 0).toNat) ≠ 2) → (Q 1 M28))))))) ∧ (¬ (a3 ≠ 0) → ((inR ((mI M28 2230 16) + 15)) ∧ (0 ≤ ((mI M28 2230 16) + 15)) ∧ (((mI M28 2230 16) + 15) < 19245) ∧ Q (mI M28 2239 ((mI M28 2230 16) + 15).toNat) M28)))))))))) ∧ (¬ (x6 = 0) → (Q (-2003) M5)))))) ∧ (¬ (0 ≤ a3 ∧ a3 ≤ 2) → (Q (-2001) M1)))) ∧ (¬ (1 ≤ a2 ∧ a2 ≤ 500) → (Q (-2001) M1))))))) : Ci (d + 1) q10_would [zr 2230, zi a1, zi a2, zi a3] M Q := by
  refine Ci.of rfl rfl (Nat.le_of_ble_eq_true rfl) (fun w hw x e => by subst e; simp at hw) (L := [some (zr 2230), some (zi a1), some (zi a2), some (zi a3)]) rfl ?_
  refine Xi.up (pc' := 1) (fun _ _ k => x_iload_n dX10_would_0 rfl rfl k) ?_
  obtain ⟨x2, M1, hc4, hK3, h⟩ := h
  refine Xi.up (pc' := 4) (st' := [zi x2]) (fun _ _ k => x_callS (as := [zi a1]) (st := []) k10_isSearch lm10_260 dX10_would_1 rfl (by decide) (zs8 rfl) hc4 k) ?_
  refine Xi.br (tgt := 31) (pc' := 7) (x2 = 0) (fun _ _ kt kf => x_if_eq dX10_would_4 rfl kt kf) (fun c => ?_) (fun c => ?_)
  · have h := h.1 c
    refine Xi.up (pc' := 34) (fun _ _ k => x_sipush dX10_would_31 (show inR (-2001) from ⟨by decide, by decide⟩) (by decide) k) ?_
    exact Xi.ret ⟨dX10_would_34, Or.inl rfl⟩ h
  · have h := h.2 c
    refine Xi.up (pc' := 8) (fun _ _ k => x_iload_n dX10_would_7 rfl rfl k) ?_
    refine Xi.up (pc' := 9) (fun _ _ k => x_i2l dX10_would_8 k) ?_
    refine Xi.up (pc' := 10) (fun _ _ k => x_lconst (x := 1) dX10_would_9 ⟨by decide, by decide⟩ rfl k) ?_
    refine Xi.up (pc' := 13) (fun _ _ k => x_ldc2 ll10_268 dX10_would_10 (show inL 500 from ⟨by decide, by decide⟩) rfl k) ?_
    by_cases c : 1 ≤ a2 ∧ a2 ≤ 500
    · have h := h.1 c
      refine Xi.up (pc' := 16) (st' := [zi 1]) (fun _ _ k => x_in1 (st := []) lm10_43 dX10_would_13 (zs8 rfl) c k) ?_
      refine Xi.br (tgt := 31) (pc' := 19) ((1 : Int) = 0) (fun _ _ kt kf => x_if_eq dX10_would_16 rfl kt kf) (fun c => absurd c (by decide)) (fun _ => ?_)
      refine Xi.up (pc' := 20) (fun _ _ k => x_iload_n dX10_would_19 rfl rfl k) ?_
      refine Xi.up (pc' := 21) (fun _ _ k => x_i2l dX10_would_20 k) ?_
      refine Xi.up (pc' := 22) (fun _ _ k => x_lconst (x := 0) dX10_would_21 ⟨by decide, by decide⟩ rfl k) ?_
      refine Xi.up (pc' := 25) (fun _ _ k => x_ldc2 ll10_231 dX10_would_22 (show inL 2 from ⟨by decide, by decide⟩) rfl k) ?_
      by_cases c : 0 ≤ a3 ∧ a3 ≤ 2
      · have h := h.1 c
        refine Xi.up (pc' := 28) (st' := [zi 1]) (fun _ _ k => x_in1 (st := []) lm10_43 dX10_would_25 (zs8 rfl) c k) ?_
        refine Xi.br (tgt := 35) (pc' := 31) ((1 : Int) ≠ 0) (fun _ _ kt kf => x_if_ne dX10_would_28 rfl kt kf) (fun _ => ?_) (fun c => absurd (by decide) c)
        refine Xi.up (pc' := 36) (fun _ _ k => x_aload_n dX10_would_35 rfl rfl k) ?_
        refine Xi.up (pc' := 37) (fun _ _ k => x_iload_n dX10_would_36 rfl rfl k) ?_
        obtain ⟨x6, M5, hc8, hK7, h⟩ := h
        refine Xi.up (pc' := 40) (st' := [zi x6]) (fun _ _ k => x_callVK (ci := 10) (as := [zi a1]) (st := []) hK3 k10_isNone lm10_280 dX10_would_37 rfl (by decide) (zs8 rfl) h0.1 ⟨_, _, rfl⟩ hc8 k) ?_
        refine Xi.br (tgt := 47) (pc' := 43) (x6 = 0) (fun _ _ kt kf => x_if_eq dX10_would_40 rfl kt kf) (fun c => ?_) (fun c => ?_)
        · have h := h.1 c
          refine Xi.up (pc' := 48) (fun _ _ k => x_aload_n dX10_would_47 rfl rfl k) ?_
          refine Xi.up (pc' := 51) (fun _ _ k => x_getRK hK7 lf10_35 rfl dX10_would_48 h0.1 h0.2.2.2.2.2.2.2.2.2.1 k) ?_
          refine Xi.up (pc' := 54) (fun _ _ k => x_sipush dX10_would_51 (show inR 3849 from ⟨by decide, by decide⟩) (by decide) k) ?_
          refine Xi.up (pc' := 55) (fun _ _ k => x_iload_n dX10_would_54 rfl rfl k) ?_
          obtain ⟨g9, h⟩ := h
          refine Xi.up (pc' := 56) (fun _ _ k => x_imul dX10_would_55 g9 k) ?_
          refine Xi.up (pc' := 57) (fun _ _ k => x_aload_n dX10_would_56 rfl rfl k) ?_
          refine Xi.up (pc' := 60) (fun _ _ k => x_getRK hK7 lf10_35 rfl dX10_would_57 h0.1 h0.2.2.2.2.2.2.2.2.2.1 k) ?_
          refine Xi.up (pc' := 63) (fun _ _ k => x_sipush dX10_would_60 (show inR 15396 from ⟨by decide, by decide⟩) (by decide) k) ?_
          refine Xi.up (pc' := 66) (fun _ _ k => x_sipush dX10_would_63 (show inR 3849 from ⟨by decide, by decide⟩) (by decide) k) ?_
          obtain ⟨g10, h⟩ := h
          obtain ⟨g11, h⟩ := h
          refine Xi.up (pc' := 69) (fun _ _ k => x_copyK hK7 la10_173 dX10_would_66 h0.2.2.2.2.2.2.2.2.2.2.2.2.2.2.2.2.2.2.2.1 h0.2.2.2.2.2.2.2.2.2.2.2.2.2.2.2.2.2.2.2.1 g10 (by decide) (by decide) g11 (by decide) k) ?_
          have hK12 := KW.sA hK7 2239 (zCpy (mI M5 2239) (mI M5 2239) (3849 * a1).toNat 15396 3849)
          refine Xi.up (pc' := 70) (fun _ _ k => x_aload_n dX10_would_69 rfl rfl k) ?_
          refine Xi.up (pc' := 71) (fun _ _ k => x_iconst dX10_would_70 (show inR 4 from ⟨by decide, by decide⟩) k) ?_
          obtain ⟨M13, hc15, hK14, h⟩ := h
          refine Xi.up (pc' := 74) (st' := []) (fun _ _ k => x_callVK (ci := 10) (as := [zi 4]) (st := []) hK12 k10_choosesSearch lm10_265 dX10_would_71 rfl (by decide) (zs8 rfl) h0.1 ⟨_, _, rfl⟩ hc15 k) ?_
          refine Xi.up (pc' := 75) (fun _ _ k => x_aload_n dX10_would_74 rfl rfl k) ?_
          refine Xi.up (pc' := 78) (fun _ _ k => x_getRK hK14 lf10_35 rfl dX10_would_75 h0.1 h0.2.2.2.2.2.2.2.2.2.1 k) ?_
          refine Xi.up (pc' := 79) (fun _ _ k => x_aload_n dX10_would_78 rfl rfl k) ?_
          refine Xi.up (pc' := 82) (fun _ _ k => x_getIK hK14 lf10_156 rfl dX10_would_79 h0.1 k) ?_
          refine Xi.up (pc' := 83) (fun _ _ k => x_iconst dX10_would_82 (show inR 0 from ⟨by decide, by decide⟩) k) ?_
          obtain ⟨g16, h⟩ := h
          refine Xi.up (pc' := 84) (fun _ _ k => x_iadd dX10_would_83 g16 k) ?_
          obtain ⟨g17, h⟩ := h
          obtain ⟨g18, h⟩ := h
          refine Xi.up (pc' := 85) (fun _ _ k => x_ialoadK hK14 dX10_would_84 h0.2.2.2.2.2.2.2.2.2.2.2.2.2.2.2.2.2.2.2.1 g17 g18 k) ?_
          refine Xi.up (pc' := 86) (fun _ _ k => x_iconst dX10_would_85 (show inR 1 from ⟨by decide, by decide⟩) k) ?_
          refine Xi.br (tgt := 95) (pc' := 89) ((mI M13 2239 ((mI M13 2230 16) + 0).toNat) ≠ 1) (fun _ _ kt kf => x_icmp_ne dX10_would_86 rfl kt kf) (fun c => ?_) (fun c => ?_)
          · have h := h.1 c
            refine Xi.up (pc' := 96) (fun _ _ k => x_iload_n dX10_would_95 rfl rfl k) ?_
            refine Xi.br (tgt := 114) (pc' := 99) (a3 ≠ 0) (fun _ _ kt kf => x_if_ne dX10_would_96 rfl kt kf) (fun c => ?_) (fun c => ?_)
            · have h := h.1 c
              refine Xi.up (pc' := 115) (fun _ _ k => x_iload_n dX10_would_114 rfl rfl k) ?_
              refine Xi.up (pc' := 116) (fun _ _ k => x_iconst dX10_would_115 (show inR 1 from ⟨by decide, by decide⟩) k) ?_
              refine Xi.br (tgt := 142) (pc' := 119) (a3 ≠ 1) (fun _ _ kt kf => x_icmp_ne dX10_would_116 rfl kt kf) (fun c => ?_) (fun c => ?_)
              · have h := h.1 c
                refine Xi.up (pc' := 143) (fun _ _ k => x_aload_n dX10_would_142 rfl rfl k) ?_
                refine Xi.up (pc' := 146) (fun _ _ k => x_getRK hK14 lf10_35 rfl dX10_would_143 h0.1 h0.2.2.2.2.2.2.2.2.2.1 k) ?_
                refine Xi.up (pc' := 147) (fun _ _ k => x_aload_n dX10_would_146 rfl rfl k) ?_
                refine Xi.up (pc' := 150) (fun _ _ k => x_getIK hK14 lf10_156 rfl dX10_would_147 h0.1 k) ?_
                refine Xi.up (pc' := 151) (fun _ _ k => x_iconst dX10_would_150 (show inR 4 from ⟨by decide, by decide⟩) k) ?_
                obtain ⟨g19, h⟩ := h
                refine Xi.up (pc' := 152) (fun _ _ k => x_iadd dX10_would_151 g19 k) ?_
                obtain ⟨g20, h⟩ := h
                obtain ⟨g21, h⟩ := h
                refine Xi.up (pc' := 153) (fun _ _ k => x_ialoadK hK14 dX10_would_152 h0.2.2.2.2.2.2.2.2.2.2.2.2.2.2.2.2.2.2.2.1 g20 g21 k) ?_
                exact Xi.ret ⟨dX10_would_153, Or.inl rfl⟩ h
              · have h := h.2 c
                refine Xi.up (pc' := 120) (fun _ _ k => x_aload_n dX10_would_119 rfl rfl k) ?_
                refine Xi.up (pc' := 123) (fun _ _ k => x_getRK hK14 lf10_35 rfl dX10_would_120 h0.1 h0.2.2.2.2.2.2.2.2.2.1 k) ?_
                refine Xi.up (pc' := 124) (fun _ _ k => x_aload_n dX10_would_123 rfl rfl k) ?_
                refine Xi.up (pc' := 127) (fun _ _ k => x_getIK hK14 lf10_156 rfl dX10_would_124 h0.1 k) ?_
                refine Xi.up (pc' := 128) (fun _ _ k => x_iconst dX10_would_127 (show inR 0 from ⟨by decide, by decide⟩) k) ?_
                obtain ⟨g22, h⟩ := h
                refine Xi.up (pc' := 129) (fun _ _ k => x_iadd dX10_would_128 g22 k) ?_
                obtain ⟨g23, h⟩ := h
                obtain ⟨g24, h⟩ := h
                refine Xi.up (pc' := 130) (fun _ _ k => x_ialoadK hK14 dX10_would_129 h0.2.2.2.2.2.2.2.2.2.2.2.2.2.2.2.2.2.2.2.1 g23 g24 k) ?_
                refine Xi.up (pc' := 131) (fun _ _ k => x_iconst dX10_would_130 (show inR 2 from ⟨by decide, by decide⟩) k) ?_
                refine Xi.br (tgt := 138) (pc' := 134) ((mI M13 2239 ((mI M13 2230 16) + 0).toNat) ≠ 2) (fun _ _ kt kf => x_icmp_ne dX10_would_131 rfl kt kf) (fun c => ?_) (fun c => ?_)
                · have h := h.1 c
                  refine Xi.up (pc' := 139) (fun _ _ k => x_iconst dX10_would_138 (show inR 0 from ⟨by decide, by decide⟩) k) ?_
                  refine Xi.up (pc' := 153) (fun _ _ k => x_goto dX10_would_139 rfl k) ?_
                  exact Xi.ret ⟨dX10_would_153, Or.inl rfl⟩ h
                · have h := h.2 c
                  refine Xi.up (pc' := 135) (fun _ _ k => x_iconst dX10_would_134 (show inR 1 from ⟨by decide, by decide⟩) k) ?_
                  refine Xi.up (pc' := 153) (fun _ _ k => x_goto dX10_would_135 rfl k) ?_
                  exact Xi.ret ⟨dX10_would_153, Or.inl rfl⟩ h
            · have h := h.2 c
              refine Xi.up (pc' := 100) (fun _ _ k => x_aload_n dX10_would_99 rfl rfl k) ?_
              refine Xi.up (pc' := 103) (fun _ _ k => x_getRK hK14 lf10_35 rfl dX10_would_100 h0.1 h0.2.2.2.2.2.2.2.2.2.1 k) ?_
              refine Xi.up (pc' := 104) (fun _ _ k => x_aload_n dX10_would_103 rfl rfl k) ?_
              refine Xi.up (pc' := 107) (fun _ _ k => x_getIK hK14 lf10_156 rfl dX10_would_104 h0.1 k) ?_
              refine Xi.up (pc' := 109) (fun _ _ k => x_bipush dX10_would_107 (show inR 15 from ⟨by decide, by decide⟩) (by decide) k) ?_
              obtain ⟨g25, h⟩ := h
              refine Xi.up (pc' := 110) (fun _ _ k => x_iadd dX10_would_109 g25 k) ?_
              obtain ⟨g26, h⟩ := h
              obtain ⟨g27, h⟩ := h
              refine Xi.up (pc' := 111) (fun _ _ k => x_ialoadK hK14 dX10_would_110 h0.2.2.2.2.2.2.2.2.2.2.2.2.2.2.2.2.2.2.2.1 g26 g27 k) ?_
              refine Xi.up (pc' := 153) (fun _ _ k => x_goto dX10_would_111 rfl k) ?_
              exact Xi.ret ⟨dX10_would_153, Or.inl rfl⟩ h
          · have h := h.2 c
            refine Xi.up (pc' := 90) (fun _ _ k => x_aload_n dX10_would_89 rfl rfl k) ?_
            refine Xi.up (pc' := 91) (fun _ _ k => x_iload_n dX10_would_90 rfl rfl k) ?_
            obtain ⟨x29, M28, hc31, hK30, h⟩ := h
            refine Xi.up (pc' := 94) (st' := [zi x29]) (fun _ _ k => x_callVK (ci := 10) (as := [zi a2]) (st := []) hK14 k10_goesAll lm10_275 dX10_would_91 rfl (by decide) (zs8 rfl) h0.1 ⟨_, _, rfl⟩ hc31 k) ?_
            refine Xi.up (pc' := 95) (fun _ _ k => x_popI dX10_would_94 k) ?_
            refine Xi.up (pc' := 96) (fun _ _ k => x_iload_n dX10_would_95 rfl rfl k) ?_
            refine Xi.br (tgt := 114) (pc' := 99) (a3 ≠ 0) (fun _ _ kt kf => x_if_ne dX10_would_96 rfl kt kf) (fun c => ?_) (fun c => ?_)
            · have h := h.1 c
              refine Xi.up (pc' := 115) (fun _ _ k => x_iload_n dX10_would_114 rfl rfl k) ?_
              refine Xi.up (pc' := 116) (fun _ _ k => x_iconst dX10_would_115 (show inR 1 from ⟨by decide, by decide⟩) k) ?_
              refine Xi.br (tgt := 142) (pc' := 119) (a3 ≠ 1) (fun _ _ kt kf => x_icmp_ne dX10_would_116 rfl kt kf) (fun c => ?_) (fun c => ?_)
              · have h := h.1 c
                refine Xi.up (pc' := 143) (fun _ _ k => x_aload_n dX10_would_142 rfl rfl k) ?_
                refine Xi.up (pc' := 146) (fun _ _ k => x_getRK hK30 lf10_35 rfl dX10_would_143 h0.1 h0.2.2.2.2.2.2.2.2.2.1 k) ?_
                refine Xi.up (pc' := 147) (fun _ _ k => x_aload_n dX10_would_146 rfl rfl k) ?_
                refine Xi.up (pc' := 150) (fun _ _ k => x_getIK hK30 lf10_156 rfl dX10_would_147 h0.1 k) ?_
                refine Xi.up (pc' := 151) (fun _ _ k => x_iconst dX10_would_150 (show inR 4 from ⟨by decide, by decide⟩) k) ?_
                obtain ⟨g32, h⟩ := h
                refine Xi.up (pc' := 152) (fun _ _ k => x_iadd dX10_would_151 g32 k) ?_
                obtain ⟨g33, h⟩ := h
                obtain ⟨g34, h⟩ := h
                refine Xi.up (pc' := 153) (fun _ _ k => x_ialoadK hK30 dX10_would_152 h0.2.2.2.2.2.2.2.2.2.2.2.2.2.2.2.2.2.2.2.1 g33 g34 k) ?_
                exact Xi.ret ⟨dX10_would_153, Or.inl rfl⟩ h
              · have h := h.2 c
                refine Xi.up (pc' := 120) (fun _ _ k => x_aload_n dX10_would_119 rfl rfl k) ?_
                refine Xi.up (pc' := 123) (fun _ _ k => x_getRK hK30 lf10_35 rfl dX10_would_120 h0.1 h0.2.2.2.2.2.2.2.2.2.1 k) ?_
                refine Xi.up (pc' := 124) (fun _ _ k => x_aload_n dX10_would_123 rfl rfl k) ?_
                refine Xi.up (pc' := 127) (fun _ _ k => x_getIK hK30 lf10_156 rfl dX10_would_124 h0.1 k) ?_
                refine Xi.up (pc' := 128) (fun _ _ k => x_iconst dX10_would_127 (show inR 0 from ⟨by decide, by decide⟩) k) ?_
                obtain ⟨g35, h⟩ := h
                refine Xi.up (pc' := 129) (fun _ _ k => x_iadd dX10_would_128 g35 k) ?_
                obtain ⟨g36, h⟩ := h
                obtain ⟨g37, h⟩ := h
                refine Xi.up (pc' := 130) (fun _ _ k => x_ialoadK hK30 dX10_would_129 h0.2.2.2.2.2.2.2.2.2.2.2.2.2.2.2.2.2.2.2.1 g36 g37 k) ?_
                refine Xi.up (pc' := 131) (fun _ _ k => x_iconst dX10_would_130 (show inR 2 from ⟨by decide, by decide⟩) k) ?_
                refine Xi.br (tgt := 138) (pc' := 134) ((mI M28 2239 ((mI M28 2230 16) + 0).toNat) ≠ 2) (fun _ _ kt kf => x_icmp_ne dX10_would_131 rfl kt kf) (fun c => ?_) (fun c => ?_)
                · have h := h.1 c
                  refine Xi.up (pc' := 139) (fun _ _ k => x_iconst dX10_would_138 (show inR 0 from ⟨by decide, by decide⟩) k) ?_
                  refine Xi.up (pc' := 153) (fun _ _ k => x_goto dX10_would_139 rfl k) ?_
                  exact Xi.ret ⟨dX10_would_153, Or.inl rfl⟩ h
                · have h := h.2 c
                  refine Xi.up (pc' := 135) (fun _ _ k => x_iconst dX10_would_134 (show inR 1 from ⟨by decide, by decide⟩) k) ?_
                  refine Xi.up (pc' := 153) (fun _ _ k => x_goto dX10_would_135 rfl k) ?_
                  exact Xi.ret ⟨dX10_would_153, Or.inl rfl⟩ h
            · have h := h.2 c
              refine Xi.up (pc' := 100) (fun _ _ k => x_aload_n dX10_would_99 rfl rfl k) ?_
              refine Xi.up (pc' := 103) (fun _ _ k => x_getRK hK30 lf10_35 rfl dX10_would_100 h0.1 h0.2.2.2.2.2.2.2.2.2.1 k) ?_
              refine Xi.up (pc' := 104) (fun _ _ k => x_aload_n dX10_would_103 rfl rfl k) ?_
              refine Xi.up (pc' := 107) (fun _ _ k => x_getIK hK30 lf10_156 rfl dX10_would_104 h0.1 k) ?_
              refine Xi.up (pc' := 109) (fun _ _ k => x_bipush dX10_would_107 (show inR 15 from ⟨by decide, by decide⟩) (by decide) k) ?_
              obtain ⟨g38, h⟩ := h
              refine Xi.up (pc' := 110) (fun _ _ k => x_iadd dX10_would_109 g38 k) ?_
              obtain ⟨g39, h⟩ := h
              obtain ⟨g40, h⟩ := h
              refine Xi.up (pc' := 111) (fun _ _ k => x_ialoadK hK30 dX10_would_110 h0.2.2.2.2.2.2.2.2.2.2.2.2.2.2.2.2.2.2.2.1 g39 g40 k) ?_
              refine Xi.up (pc' := 153) (fun _ _ k => x_goto dX10_would_111 rfl k) ?_
              exact Xi.ret ⟨dX10_would_153, Or.inl rfl⟩ h
        · have h := h.2 c
          refine Xi.up (pc' := 46) (fun _ _ k => x_sipush dX10_would_43 (show inR (-2003) from ⟨by decide, by decide⟩) (by decide) k) ?_
          exact Xi.ret ⟨dX10_would_46, Or.inl rfl⟩ h
      · have h := h.2 c
        refine Xi.up (pc' := 28) (st' := [zi 0]) (fun _ _ k => x_in0 (st := []) lm10_43 dX10_would_25 (zs8 rfl) c k) ?_
        refine Xi.br (tgt := 35) (pc' := 31) ((0 : Int) ≠ 0) (fun _ _ kt kf => x_if_ne dX10_would_28 rfl kt kf) (fun c => absurd c (by decide)) (fun _ => ?_)
        refine Xi.up (pc' := 34) (fun _ _ k => x_sipush dX10_would_31 (show inR (-2001) from ⟨by decide, by decide⟩) (by decide) k) ?_
        exact Xi.ret ⟨dX10_would_34, Or.inl rfl⟩ h
    · have h := h.2 c
      refine Xi.up (pc' := 16) (st' := [zi 0]) (fun _ _ k => x_in0 (st := []) lm10_43 dX10_would_13 (zs8 rfl) c k) ?_
      refine Xi.br (tgt := 31) (pc' := 19) ((0 : Int) = 0) (fun _ _ kt kf => x_if_eq dX10_would_16 rfl kt kf) (fun _ => ?_) (fun c => absurd (by decide) c)
      refine Xi.up (pc' := 34) (fun _ _ k => x_sipush dX10_would_31 (show inR (-2001) from ⟨by decide, by decide⟩) (by decide) k) ?_
      exact Xi.ret ⟨dX10_would_34, Or.inl rfl⟩ h
set_option maxHeartbeats 4000000 in
set_option maxRecDepth 20000 in
theorem B10_count {d : Nat} {K M : ZMem} {Q : Int → ZMem → Prop} (a1 : Int) (hK : KW K M) (h0 : ModelAt K 2230) (h : ((a1 = 0 → (Xi (d + 1) q10_count 34 [some (zr 2230), none, some (zi 0), some (zi 0)] [] M Q)) ∧ (a1 = 1 → (Q (mI M 2230 1) M)) ∧ (a1 = 2 → (Xi (d + 1) q10_count 72 [some (zr 2230), none, some (zi 0), some (zi 0)] [] M Q)) ∧ (a1 = 3 → (Xi (d + 1) q10_count 111 [some (zr 2230), none, some (zi 0), some (zi 0)] [] M Q)) ∧ (a1 < 0 ∨ 3 < a1 → (Q (-2001) M)))) : Ci (d + 1) q10_count [zr 2230, zi a1] M Q := by
  refine Ci.of rfl rfl (Nat.le_of_ble_eq_true rfl) (fun w hw x e => by subst e; simp at hw) (L := [some (zr 2230), some (zi a1), none, none]) rfl ?_
  refine Xi.up (pc' := 1) (fun _ _ k => x_iconst dX10_count_0 (show inR 0 from ⟨by decide, by decide⟩) k) ?_
  refine Xi.up (pc' := 2) (L' := [some (zr 2230), some (zi a1), some (zi 0), none]) (fun _ _ k => x_istore_n dX10_count_1 rfl (by decide) rfl k) ?_
  refine Xi.up (pc' := 3) (fun _ _ k => x_iload_n dX10_count_2 rfl rfl k) ?_
  by_cases c : a1 < 0 ∨ 3 < a1
  · refine Xi.up (pc' := 152) (fun _ _ k => x_tsOut dX10_count_3 c rfl k) ?_
    have h := h.2.2.2.2 (by omega)
    refine Xi.up (pc' := 155) (fun _ _ k => x_sipush dX10_count_152 (show inR (-2001) from ⟨by decide, by decide⟩) (by decide) k) ?_
    exact Xi.ret ⟨dX10_count_155, Or.inl rfl⟩ h
  · rcases (show a1 = 0 ∨ a1 = 1 ∨ a1 = 2 ∨ a1 = 3 by omega) with c | c | c | c
    · refine Xi.up (pc' := 32) (fun _ _ k => x_tsIn (x := a1) (i := 0) dX10_count_3 (by omega) (by decide) rfl rfl k) ?_
      have h := h.1 (by omega)
      refine Xi.up (pc' := 33) (fun _ _ k => x_iconst dX10_count_32 (show inR 0 from ⟨by decide, by decide⟩) k) ?_
      refine Xi.up (pc' := 34) (L' := [some (zr 2230), some (zi a1), some (zi 0), some (zi 0)]) (fun _ _ k => x_istore_n dX10_count_33 rfl (by decide) rfl k) ?_
      exact Xi.up (fun _ _ k => x_less (L' := [some (zr 2230), none, some (zi 0), some (zi 0)]) (⟨rfl, ⟨rfl, ⟨rfl, trivial⟩⟩⟩) k) h
    · refine Xi.up (pc' := 65) (fun _ _ k => x_tsIn (x := a1) (i := 1) dX10_count_3 (by omega) (by decide) rfl rfl k) ?_
      have h := h.2.1 (by omega)
      refine Xi.up (pc' := 66) (fun _ _ k => x_aload_n dX10_count_65 rfl rfl k) ?_
      refine Xi.up (pc' := 69) (fun _ _ k => x_getIK hK lf10_47 rfl dX10_count_66 h0.1 k) ?_
      exact Xi.ret ⟨dX10_count_69, Or.inl rfl⟩ h
    · refine Xi.up (pc' := 70) (fun _ _ k => x_tsIn (x := a1) (i := 2) dX10_count_3 (by omega) (by decide) rfl rfl k) ?_
      have h := h.2.2.1 (by omega)
      refine Xi.up (pc' := 71) (fun _ _ k => x_iconst dX10_count_70 (show inR 0 from ⟨by decide, by decide⟩) k) ?_
      refine Xi.up (pc' := 72) (L' := [some (zr 2230), some (zi a1), some (zi 0), some (zi 0)]) (fun _ _ k => x_istore_n dX10_count_71 rfl (by decide) rfl k) ?_
      exact Xi.up (fun _ _ k => x_less (L' := [some (zr 2230), none, some (zi 0), some (zi 0)]) (⟨rfl, ⟨rfl, ⟨rfl, trivial⟩⟩⟩) k) h
    · refine Xi.up (pc' := 109) (fun _ _ k => x_tsIn (x := a1) (i := 3) dX10_count_3 (by omega) (by decide) rfl rfl k) ?_
      have h := h.2.2.2.1 (by omega)
      refine Xi.up (pc' := 110) (fun _ _ k => x_iconst dX10_count_109 (show inR 0 from ⟨by decide, by decide⟩) k) ?_
      refine Xi.up (pc' := 111) (L' := [some (zr 2230), some (zi a1), some (zi 0), some (zi 0)]) (fun _ _ k => x_istore_n dX10_count_110 rfl (by decide) rfl k) ?_
      exact Xi.up (fun _ _ k => x_less (L' := [some (zr 2230), none, some (zi 0), some (zi 0)]) (⟨rfl, ⟨rfl, ⟨rfl, trivial⟩⟩⟩) k) h
set_option maxHeartbeats 4000000 in
set_option maxRecDepth 20000 in
theorem B10_count_34 {d : Nat} {K M : ZMem} {Q : Int → ZMem → Prop} (l2 : Int) (l3 : Int) (hK : KW K M) (h0 : ModelAt K 2230) (h : ((4 ≤ l3 → (Q l2 M)) ∧ (¬ (4 ≤ l3) → ((0 ≤ l3) ∧ (l3 < 4) ∧ (((mI M 2237 l3.toNat) ≠ (-1) → ((inR (l2 + 1)) ∧ (inR (l3 + 1)) ∧ Xi (d + 1) q10_count 34 [some (zr 2230), none, some (zi (l2 + 1)), some (zi (l3 + 1))] [] M Q)) ∧ (¬ ((mI M 2237 l3.toNat) ≠ (-1)) → ((inR (l2 + 0)) ∧ (inR (l3 + 1)) ∧ Xi (d + 1) q10_count 34 [some (zr 2230), none, some (zi (l2 + 0)), some (zi (l3 + 1))] [] M Q))))))) : Xi (d + 1) q10_count 34 [some (zr 2230), none, some (zi l2), some (zi l3)] [] M Q := by
  refine Xi.up (pc' := 35) (fun _ _ k => x_iload_n dX10_count_34 rfl rfl k) ?_
  refine Xi.up (pc' := 36) (fun _ _ k => x_iconst dX10_count_35 (show inR 4 from ⟨by decide, by decide⟩) k) ?_
  refine Xi.br (tgt := 63) (pc' := 39) (4 ≤ l3) (fun _ _ kt kf => x_icmp_ge dX10_count_36 rfl kt kf) (fun c => ?_) (fun c => ?_)
  · have h := h.1 c
    refine Xi.up (pc' := 64) (fun _ _ k => x_iload_n dX10_count_63 rfl rfl k) ?_
    exact Xi.ret ⟨dX10_count_64, Or.inl rfl⟩ h
  · have h := h.2 c
    refine Xi.up (pc' := 40) (fun _ _ k => x_iload_n dX10_count_39 rfl rfl k) ?_
    refine Xi.up (pc' := 41) (fun _ _ k => x_aload_n dX10_count_40 rfl rfl k) ?_
    refine Xi.up (pc' := 44) (fun _ _ k => x_getRK hK lf10_29 rfl dX10_count_41 h0.1 h0.2.2.2.2.2.2.2.1 k) ?_
    refine Xi.up (pc' := 45) (fun _ _ k => x_iload_n dX10_count_44 rfl rfl k) ?_
    obtain ⟨g1, h⟩ := h
    obtain ⟨g2, h⟩ := h
    refine Xi.up (pc' := 46) (fun _ _ k => x_ialoadK hK dX10_count_45 h0.2.2.2.2.2.2.2.2.2.2.2.2.2.2.2.2.2.1 g1 g2 k) ?_
    refine Xi.up (pc' := 47) (fun _ _ k => x_iconst dX10_count_46 (show inR (-1) from ⟨by decide, by decide⟩) k) ?_
    refine Xi.br (tgt := 54) (pc' := 50) ((mI M 2237 l3.toNat) ≠ (-1)) (fun _ _ kt kf => x_icmp_ne dX10_count_47 rfl kt kf) (fun c => ?_) (fun c => ?_)
    · have h := h.1 c
      refine Xi.up (pc' := 55) (fun _ _ k => x_iconst dX10_count_54 (show inR 1 from ⟨by decide, by decide⟩) k) ?_
      obtain ⟨g3, h⟩ := h
      refine Xi.up (pc' := 56) (fun _ _ k => x_iadd dX10_count_55 g3 k) ?_
      refine Xi.up (pc' := 57) (L' := [some (zr 2230), none, some (zi (l2 + 1)), some (zi l3)]) (fun _ _ k => x_istore_n dX10_count_56 rfl (by decide) rfl k) ?_
      obtain ⟨g4, h⟩ := h
      refine Xi.up (pc' := 60) (L' := [some (zr 2230), none, some (zi (l2 + 1)), some (zi (l3 + 1))]) (fun _ _ k => x_iinc dX10_count_57 rfl g4 (by decide) rfl k) ?_
      refine Xi.up (pc' := 34) (fun _ _ k => x_goto dX10_count_60 rfl k) ?_
      exact h
    · have h := h.2 c
      refine Xi.up (pc' := 51) (fun _ _ k => x_iconst dX10_count_50 (show inR 0 from ⟨by decide, by decide⟩) k) ?_
      refine Xi.up (pc' := 55) (fun _ _ k => x_goto dX10_count_51 rfl k) ?_
      obtain ⟨g5, h⟩ := h
      refine Xi.up (pc' := 56) (fun _ _ k => x_iadd dX10_count_55 g5 k) ?_
      refine Xi.up (pc' := 57) (L' := [some (zr 2230), none, some (zi (l2 + 0)), some (zi l3)]) (fun _ _ k => x_istore_n dX10_count_56 rfl (by decide) rfl k) ?_
      obtain ⟨g6, h⟩ := h
      refine Xi.up (pc' := 60) (L' := [some (zr 2230), none, some (zi (l2 + 0)), some (zi (l3 + 1))]) (fun _ _ k => x_iinc dX10_count_57 rfl g6 (by decide) rfl k) ?_
      refine Xi.up (pc' := 34) (fun _ _ k => x_goto dX10_count_60 rfl k) ?_
      exact h
set_option maxHeartbeats 4000000 in
set_option maxRecDepth 20000 in
theorem B10_count_72 {d : Nat} {K M : ZMem} {Q : Int → ZMem → Prop} (l2 : Int) (l3 : Int) (hK : KW K M) (h0 : ModelAt K 2230) (h : ((4 ≤ l3 → (Q l2 M)) ∧ (¬ (4 ≤ l3) → ((inR (3849 * l3)) ∧ (inR ((3849 * l3) + 0)) ∧ (0 ≤ ((3849 * l3) + 0)) ∧ (((3849 * l3) + 0) < 19245) ∧ (((mI M 2239 ((3849 * l3) + 0).toNat) ≠ 1 → ((inR (l2 + 0)) ∧ (inR (l3 + 1)) ∧ Xi (d + 1) q10_count 72 [some (zr 2230), none, some (zi (l2 + 0)), some (zi (l3 + 1))] [] M Q)) ∧ (¬ ((mI M 2239 ((3849 * l3) + 0).toNat) ≠ 1) → ((inR (l2 + 1)) ∧ (inR (l3 + 1)) ∧ Xi (d + 1) q10_count 72 [some (zr 2230), none, some (zi (l2 + 1)), some (zi (l3 + 1))] [] M Q))))))) : Xi (d + 1) q10_count 72 [some (zr 2230), none, some (zi l2), some (zi l3)] [] M Q := by
  refine Xi.up (pc' := 73) (fun _ _ k => x_iload_n dX10_count_72 rfl rfl k) ?_
  refine Xi.up (pc' := 74) (fun _ _ k => x_iconst dX10_count_73 (show inR 4 from ⟨by decide, by decide⟩) k) ?_
  refine Xi.br (tgt := 107) (pc' := 77) (4 ≤ l3) (fun _ _ kt kf => x_icmp_ge dX10_count_74 rfl kt kf) (fun c => ?_) (fun c => ?_)
  · have h := h.1 c
    refine Xi.up (pc' := 108) (fun _ _ k => x_iload_n dX10_count_107 rfl rfl k) ?_
    exact Xi.ret ⟨dX10_count_108, Or.inl rfl⟩ h
  · have h := h.2 c
    refine Xi.up (pc' := 78) (fun _ _ k => x_iload_n dX10_count_77 rfl rfl k) ?_
    refine Xi.up (pc' := 79) (fun _ _ k => x_aload_n dX10_count_78 rfl rfl k) ?_
    refine Xi.up (pc' := 82) (fun _ _ k => x_getRK hK lf10_35 rfl dX10_count_79 h0.1 h0.2.2.2.2.2.2.2.2.2.1 k) ?_
    refine Xi.up (pc' := 85) (fun _ _ k => x_sipush dX10_count_82 (show inR 3849 from ⟨by decide, by decide⟩) (by decide) k) ?_
    refine Xi.up (pc' := 86) (fun _ _ k => x_iload_n dX10_count_85 rfl rfl k) ?_
    obtain ⟨g1, h⟩ := h
    refine Xi.up (pc' := 87) (fun _ _ k => x_imul dX10_count_86 g1 k) ?_
    refine Xi.up (pc' := 88) (fun _ _ k => x_iconst dX10_count_87 (show inR 0 from ⟨by decide, by decide⟩) k) ?_
    obtain ⟨g2, h⟩ := h
    refine Xi.up (pc' := 89) (fun _ _ k => x_iadd dX10_count_88 g2 k) ?_
    obtain ⟨g3, h⟩ := h
    obtain ⟨g4, h⟩ := h
    refine Xi.up (pc' := 90) (fun _ _ k => x_ialoadK hK dX10_count_89 h0.2.2.2.2.2.2.2.2.2.2.2.2.2.2.2.2.2.2.2.1 g3 g4 k) ?_
    refine Xi.up (pc' := 91) (fun _ _ k => x_iconst dX10_count_90 (show inR 1 from ⟨by decide, by decide⟩) k) ?_
    refine Xi.br (tgt := 98) (pc' := 94) ((mI M 2239 ((3849 * l3) + 0).toNat) ≠ 1) (fun _ _ kt kf => x_icmp_ne dX10_count_91 rfl kt kf) (fun c => ?_) (fun c => ?_)
    · have h := h.1 c
      refine Xi.up (pc' := 99) (fun _ _ k => x_iconst dX10_count_98 (show inR 0 from ⟨by decide, by decide⟩) k) ?_
      obtain ⟨g5, h⟩ := h
      refine Xi.up (pc' := 100) (fun _ _ k => x_iadd dX10_count_99 g5 k) ?_
      refine Xi.up (pc' := 101) (L' := [some (zr 2230), none, some (zi (l2 + 0)), some (zi l3)]) (fun _ _ k => x_istore_n dX10_count_100 rfl (by decide) rfl k) ?_
      obtain ⟨g6, h⟩ := h
      refine Xi.up (pc' := 104) (L' := [some (zr 2230), none, some (zi (l2 + 0)), some (zi (l3 + 1))]) (fun _ _ k => x_iinc dX10_count_101 rfl g6 (by decide) rfl k) ?_
      refine Xi.up (pc' := 72) (fun _ _ k => x_goto dX10_count_104 rfl k) ?_
      exact h
    · have h := h.2 c
      refine Xi.up (pc' := 95) (fun _ _ k => x_iconst dX10_count_94 (show inR 1 from ⟨by decide, by decide⟩) k) ?_
      refine Xi.up (pc' := 99) (fun _ _ k => x_goto dX10_count_95 rfl k) ?_
      obtain ⟨g7, h⟩ := h
      refine Xi.up (pc' := 100) (fun _ _ k => x_iadd dX10_count_99 g7 k) ?_
      refine Xi.up (pc' := 101) (L' := [some (zr 2230), none, some (zi (l2 + 1)), some (zi l3)]) (fun _ _ k => x_istore_n dX10_count_100 rfl (by decide) rfl k) ?_
      obtain ⟨g8, h⟩ := h
      refine Xi.up (pc' := 104) (L' := [some (zr 2230), none, some (zi (l2 + 1)), some (zi (l3 + 1))]) (fun _ _ k => x_iinc dX10_count_101 rfl g8 (by decide) rfl k) ?_
      refine Xi.up (pc' := 72) (fun _ _ k => x_goto dX10_count_104 rfl k) ?_
      exact h
set_option maxHeartbeats 4000000 in
set_option maxRecDepth 20000 in
theorem B10_count_111 {d : Nat} {K M : ZMem} {Q : Int → ZMem → Prop} (l2 : Int) (l3 : Int) (hK : KW K M) (h0 : ModelAt K 2230) (h : ((4 ≤ l3 → (Q l2 M)) ∧ (¬ (4 ≤ l3) → (Ci d q10_isNone [zr 2230, zi l3] M (fun x2 M1 => KW K M1 ∧ ((x2 = 0 → ((inR (3849 * l3)) ∧ (inR ((3849 * l3) + 15)) ∧ (0 ≤ ((3849 * l3) + 15)) ∧ (((3849 * l3) + 15) < 19245) ∧ (inR (l2 + (mI M1 2239 ((3849 * l3) + 15).toNat))) ∧ (inR (l3 + 1)) ∧ Xi (d + 1) q10_count 111 [some (zr 2230), none, some (zi (l2 + (mI M1 2239 ((3849 * l3) + 15).toNat))), some (zi (l3 + 1))] [] M1 Q)) ∧ (¬ (x2 = 0) → ((inR (l2 + 0)) ∧ (inR (l3 + 1)) ∧ Xi (d + 1) q10_count 111 [some (zr 2230), none, some (zi (l2 + 0)), some (zi (l3 + 1))] [] M1 Q)))))))) : Xi (d + 1) q10_count 111 [some (zr 2230), none, some (zi l2), some (zi l3)] [] M Q := by
  refine Xi.up (pc' := 112) (fun _ _ k => x_iload_n dX10_count_111 rfl rfl k) ?_
  refine Xi.up (pc' := 113) (fun _ _ k => x_iconst dX10_count_112 (show inR 4 from ⟨by decide, by decide⟩) k) ?_
  refine Xi.br (tgt := 150) (pc' := 116) (4 ≤ l3) (fun _ _ kt kf => x_icmp_ge dX10_count_113 rfl kt kf) (fun c => ?_) (fun c => ?_)
  · have h := h.1 c
    refine Xi.up (pc' := 151) (fun _ _ k => x_iload_n dX10_count_150 rfl rfl k) ?_
    exact Xi.ret ⟨dX10_count_151, Or.inl rfl⟩ h
  · have h := h.2 c
    refine Xi.up (pc' := 117) (fun _ _ k => x_iload_n dX10_count_116 rfl rfl k) ?_
    refine Xi.up (pc' := 118) (fun _ _ k => x_aload_n dX10_count_117 rfl rfl k) ?_
    refine Xi.up (pc' := 119) (fun _ _ k => x_iload_n dX10_count_118 rfl rfl k) ?_
    obtain ⟨x2, M1, hc4, hK3, h⟩ := h
    refine Xi.up (pc' := 122) (st' := [zi x2, zi l2]) (fun _ _ k => x_callVK (ci := 10) (as := [zi l3]) (st := [zi l2]) hK k10_isNone lm10_280 dX10_count_119 rfl (by decide) (zs8 rfl) h0.1 ⟨_, _, rfl⟩ hc4 k) ?_
    refine Xi.br (tgt := 129) (pc' := 125) (x2 = 0) (fun _ _ kt kf => x_if_eq dX10_count_122 rfl kt kf) (fun c => ?_) (fun c => ?_)
    · have h := h.1 c
      refine Xi.up (pc' := 130) (fun _ _ k => x_aload_n dX10_count_129 rfl rfl k) ?_
      refine Xi.up (pc' := 133) (fun _ _ k => x_getRK hK3 lf10_35 rfl dX10_count_130 h0.1 h0.2.2.2.2.2.2.2.2.2.1 k) ?_
      refine Xi.up (pc' := 136) (fun _ _ k => x_sipush dX10_count_133 (show inR 3849 from ⟨by decide, by decide⟩) (by decide) k) ?_
      refine Xi.up (pc' := 137) (fun _ _ k => x_iload_n dX10_count_136 rfl rfl k) ?_
      obtain ⟨g5, h⟩ := h
      refine Xi.up (pc' := 138) (fun _ _ k => x_imul dX10_count_137 g5 k) ?_
      refine Xi.up (pc' := 140) (fun _ _ k => x_bipush dX10_count_138 (show inR 15 from ⟨by decide, by decide⟩) (by decide) k) ?_
      obtain ⟨g6, h⟩ := h
      refine Xi.up (pc' := 141) (fun _ _ k => x_iadd dX10_count_140 g6 k) ?_
      obtain ⟨g7, h⟩ := h
      obtain ⟨g8, h⟩ := h
      refine Xi.up (pc' := 142) (fun _ _ k => x_ialoadK hK3 dX10_count_141 h0.2.2.2.2.2.2.2.2.2.2.2.2.2.2.2.2.2.2.2.1 g7 g8 k) ?_
      obtain ⟨g9, h⟩ := h
      refine Xi.up (pc' := 143) (fun _ _ k => x_iadd dX10_count_142 g9 k) ?_
      refine Xi.up (pc' := 144) (L' := [some (zr 2230), none, some (zi (l2 + (mI M1 2239 ((3849 * l3) + 15).toNat))), some (zi l3)]) (fun _ _ k => x_istore_n dX10_count_143 rfl (by decide) rfl k) ?_
      obtain ⟨g10, h⟩ := h
      refine Xi.up (pc' := 147) (L' := [some (zr 2230), none, some (zi (l2 + (mI M1 2239 ((3849 * l3) + 15).toNat))), some (zi (l3 + 1))]) (fun _ _ k => x_iinc dX10_count_144 rfl g10 (by decide) rfl k) ?_
      refine Xi.up (pc' := 111) (fun _ _ k => x_goto dX10_count_147 rfl k) ?_
      exact h
    · have h := h.2 c
      refine Xi.up (pc' := 126) (fun _ _ k => x_iconst dX10_count_125 (show inR 0 from ⟨by decide, by decide⟩) k) ?_
      refine Xi.up (pc' := 142) (fun _ _ k => x_goto dX10_count_126 rfl k) ?_
      obtain ⟨g11, h⟩ := h
      refine Xi.up (pc' := 143) (fun _ _ k => x_iadd dX10_count_142 g11 k) ?_
      refine Xi.up (pc' := 144) (L' := [some (zr 2230), none, some (zi (l2 + 0)), some (zi l3)]) (fun _ _ k => x_istore_n dX10_count_143 rfl (by decide) rfl k) ?_
      obtain ⟨g12, h⟩ := h
      refine Xi.up (pc' := 147) (L' := [some (zr 2230), none, some (zi (l2 + 0)), some (zi (l3 + 1))]) (fun _ _ k => x_iinc dX10_count_144 rfl g12 (by decide) rfl k) ?_
      refine Xi.up (pc' := 111) (fun _ _ k => x_goto dX10_count_147 rfl k) ?_
      exact h
